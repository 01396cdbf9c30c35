section Q16
variable {Ls p kc ks : Nat} {P M : Int} {I I0 I1 I2 J K L L1 L2 K2 Z d d' e : Nat → Nat → Int} {Q : List mV → mM → Prop} {x : Int}
/-! there -/
def thF (f g h k : Nat → Int) (q : Int) : Nat → Nat → Int → Int
  | _, 0, y => y
  | m, n + 1, y => thF f g h k q (m + 1) n (if (f m = q ∧ h m ≠ -1) ∨ (g m = q ∧ k m ≠ -1) then m_or y (m_shl 1 (m : Int)) else y)
theorem there_c {q : Int} (hp : isPlan p) {N : Int} (hN : I p 15 = N) (h6 : N ≤ 6) : ∀ (n m : Nat) (y : Int), (m : Int) + n = N → Q [.inl (thF (I (p + 8)) (I (p + 9)) (I 34) (I 35) q m n y)] (mem Ls p I L) → m_Wp i_C_there 14 kc ks [(0, .inr (.inr 2)), (1, .inl q), (2, .inl y), (3, .inl (m : Int))] [] (mem Ls p I L) Q := by
  intro n
  induction n with
  | zero => intro m y hm hQ; refine T_C_there_14 hp ?_; rw [hN]; exact ⟨fun _ => hQ, fun h => by omega⟩
  | succ n ih =>
    intro m y hm hQ
    rw [thF] at hQ
    have hw : wr ((m : Int) + 1) = ((m + 1 : Nat) : Int) := by rw [wr_of] <;> omega
    have yes : (I (p + 8) m = q ∧ I 34 m ≠ -1) ∨ (I (p + 9) m = q ∧ I 35 m ≠ -1) → m_Wp i_C_there 101 kc ks [(0, .inr (.inr 2)), (1, .inl q), (2, .inl y), (3, .inl (m : Int))] [] (mem Ls p I L) Q := fun h => by
      rw [if_pos h] at hQ
      refine T_C_there_101 (T_C_there_107 ?_)
      rw [hw]; exact ih (m + 1) _ (by omega) hQ
    have no : ¬ ((I (p + 8) m = q ∧ I 34 m ≠ -1) ∨ (I (p + 9) m = q ∧ I 35 m ≠ -1)) → m_Wp i_C_there 107 kc ks [(0, .inr (.inr 2)), (1, .inl q), (2, .inl y), (3, .inl (m : Int))] [] (mem Ls p I L) Q := fun h => by
      rw [if_neg h] at hQ
      refine T_C_there_107 ?_
      rw [hw]; exact ih (m + 1) y (by omega) hQ
    have st2 : ∀ z : Int, (z = 1 ∧ (I (p + 8) m = q ∧ I 34 m ≠ -1)) ∨ (z = 0 ∧ ¬ (I (p + 8) m = q ∧ I 34 m ≠ -1)) → m_Wp i_C_there 56 kc ks [(0, .inr (.inr 2)), (1, .inl q), (2, .inl y), (3, .inl (m : Int))] [.inl z] (mem Ls p I L) Q := fun z hz => by
      refine T_C_there_56 hp ?_
      rw [Int.toNat_natCast]
      refine ⟨by omega, fun h => T_C_there_88 (T_C_there_89 ⟨fun h2 => yes (by omega), fun h2 => ⟨fun _ => no (by omega), fun h3 => absurd rfl h3⟩⟩), fun h => ⟨by omega, fun h4 => T_C_there_88 (T_C_there_89 ⟨fun h2 => yes (by omega), fun h2 => ⟨fun _ => no (by omega), fun h3 => absurd rfl h3⟩⟩), fun h4 => T_C_there_89 ⟨fun h2 => yes (by omega), fun h2 => ⟨fun h3 => by omega, fun _ => yes (by omega)⟩⟩⟩⟩
    refine T_C_there_14 hp ?_
    rw [hN, Int.toNat_natCast]
    exact ⟨fun h => by omega, fun _ => ⟨by omega, fun h => T_C_there_55 (st2 0 (by omega)), fun h => ⟨by omega, fun h2 => T_C_there_55 (st2 0 (by omega)), fun h2 => st2 1 (by omega)⟩⟩⟩
theorem there_m {q : Int} {N : Int} (h14 : I 98 14 = N) (h6 : N ≤ 6) {f g h k : Nat → Int} (hf : ∀ m : Nat, (m : Int) < N → I 110 m = f m ∧ I 111 m = g m ∧ I 134 (2 * m) = h m ∧ I 134 (2 * m + 1) = k m ∧ -1 ≤ h m ∧ -1 ≤ k m) : ∀ (n m : Nat) (y : Int), (m : Int) + n = N → wr y = y → Q [.inl (thF f g h k q m n y)] (mem Ls p I L) → m_Wp i_M_there 19 kc ks [(0, .inr (.inr 98)), (1, .inl q), (2, .inl y), (3, .inl (m : Int))] [] (mem Ls p I L) Q := by
  intro n
  induction n with
  | zero => intro m y hm hy hQ; refine T_M_there_19 ?_; rw [h14]; exact ⟨fun _ => hQ, fun h => by omega⟩
  | succ n ih =>
    intro m y hm hy hQ
    rw [thF] at hQ
    have hw : wr ((m : Int) + 1) = ((m + 1 : Nat) : Int) := by rw [wr_of] <;> omega
    have e := hf m (by omega)
    have yes : (f m = q ∧ h m ≠ -1) ∨ (g m = q ∧ k m ≠ -1) → m_Wp i_M_there 19 kc ks [(0, .inr (.inr 98)), (1, .inl q), (2, .inl (m_or y (m_shl 1 (m : Int)))), (3, .inl ((m + 1 : Nat) : Int))] [] (mem Ls p I L) Q := fun z => by
      rw [if_pos z] at hQ; exact ih (m + 1) _ (by omega) (wr_or _ _) hQ
    have no : ¬ ((f m = q ∧ h m ≠ -1) ∨ (g m = q ∧ k m ≠ -1)) → m_Wp i_M_there 19 kc ks [(0, .inr (.inr 98)), (1, .inl q), (2, .inl y), (3, .inl ((m + 1 : Nat) : Int))] [] (mem Ls p I L) Q := fun z => by
      rw [if_neg z] at hQ; exact ih (m + 1) _ (by omega) hy hQ
    refine T_M_there_19 ?_
    rw [h14, Int.toNat_natCast, hw, m_or_zero, hy, wr_of (z := 2 * (m : Int)) (by omega) (by omega), wr_of (z := 2 * (m : Int) + 1) (by omega) (by omega), show (2 * (m : Int)).toNat = 2 * m by omega, show (2 * (m : Int) + 1).toNat = 2 * m + 1 by omega, e.1, e.2.1, e.2.2.1, e.2.2.2.1]
    refine ⟨fun z => by omega, fun _ => ⟨by omega, fun z1 => ⟨by omega, fun z2 => no (by omega), fun z2 => ⟨by omega, fun z3 => no (by omega), fun z3 => yes (by omega)⟩⟩, fun z1 => ⟨by omega, fun z2 => yes (by omega), fun z2 => ⟨by omega, fun z3 => no (by omega), fun z3 => ⟨by omega, fun z4 => no (by omega), fun z4 => yes (by omega)⟩⟩⟩⟩⟩
theorem pair_there {a : Int} (hI : INV p I L) : PAIR Ls i_C_there i_M_there [.inl a] (mem Ls p I L) := by
  have h15 := hI.2.1.2.2.1
  have h12 : I 98 12 = I p 13 := hI.2.2.1.1.1
  have h14 : I 98 14 = I p 15 := hI.2.2.1.1.2.2.1
  have hn := (now_eq hI).2.2.2.2.2.2
  refine E_C_there (q_isPerson hI.1 (T_C_there_5 ⟨fun h => ?_, fun h => E_M_there (r_isMan ?_)⟩))
  · refine there_c hI.1 rfl h15.2 (I p 15).toNat 0 0 (by omega) (E_M_there (r_isMan ?_))
    rw [mup_ne (by omega), h12]
    refine T_M_there_10 ⟨fun _ => ?_, fun z => absurd (Classical.not_not.mp z) h⟩
    refine there_m (N := I p 15) (f := I (p + 8)) (g := I (p + 9)) (h := I 34) (k := I 35) (by rw [mup_ne (by omega), h14]) h15.2 (fun m hm => ?_) (I p 15).toNat 0 0 (by omega) (by decide) ⟨rfl, okT hI⟩
    have e1 := hI.2.2.1.2.2.2.1 m hm
    have e2 := hn m hm
    have e3 := hI.2.2.2.1.1.2.2.2.2.2.2.2.2.2.2 m hm
    rw [show dat I 28 6 = I 34 from dat_at (by omega), show dat I 28 7 = I 35 from dat_at (by omega)] at e3
    rw [mup_other (by omega), mup_other (by omega), mup_other (by omega)]
    exact ⟨e1.1, e1.2.1, e2.2.1, e2.2.2.1, e3.2.1.1, e3.2.2.1.1⟩
  · rw [mup_ne (by omega), h12]
    exact T_M_there_10 ⟨fun z => absurd (Classical.not_not.mp h) z, fun _ => ⟨rfl, okT hI⟩⟩
/-! count -/
def tlF (f : Nat → Int) : Nat → Nat → Int → Int
  | _, 0, y => y
  | k, n + 1, y => tlF f (k + 1) n (wr (y + f k))
theorem pair_count {a : Int} (hI : INV p I L) : PAIR Ls i_C_count i_M_count [.inl a] (mem Ls p I L) := by
  have hp := hI.1
  have h6 := hI.2.1.1
  have h15 := hI.2.1.2.2.1
  have hR := hI.2.2.1
  have hn := now_eq hI
  have hS := hI.2.2.2.2.2.2.2.1
  have hLg := hI.2.2.2.2.2.2.2.2.1
  have hD := hI.2.2.2.1.1
  have h8 : I 28 8 = I p 13 := by have := hD.1.1; rw [dat_at (by omega)] at this; exact this
  have h131 : I 131 0 = -1 ↔ I 28 12 = -1 := by rw [hn.2.2.1]; unfold en; split <;> omega
  have cm : ∀ (w : Int) (Q2 : List mV → mM → Prop), Q2 [.inl (hmF (I 36) w 0 (I p 15).toNat 0)] (mem Ls p I L) → m_Call i_Day_howMany [.inr (.inr 28), .inl w] (mem Ls p I L) Q2 := fun w Q2 hq => by
    have hst : I = dput I 28 (dat I 28) := by rw [dput_dat]
    rw [hst] at hq ⊢
    refine q_howMany (c := 28) (Or.inl rfl) h15 hD ?_
    rw [← hst] at hq ⊢
    rw [dat_at (by omega)]; exact hq
  have rm : ∀ (w : Int) (Q2 : List mV → mM → Prop), Q2 [.inl (hmF (I 36) w 0 (I p 15).toNat 0)] (mem Ls p (mup I 98 2 0) L) → m_Call i_M_are [.inr (.inr 98), .inl 0, .inl w] (mem Ls p (mup I 98 2 0) L) Q2 := fun w Q2 hq =>
    r_are (b := 0) (M := I p 15) (f := I 36) (by omega) h15 (by rw [mup_ne (by omega), hR.1.2.2.1]) (fun m hm => by rw [Nat.mul_zero, Nat.zero_add, mup_other (by omega)]; exact (hn.2.2.2.2.2.2 m hm).2.2.2) hq
  have ct : ∀ (n k : Nat) (y : Int) (kc ks : Nat) (Q2 : List mV → mM → Prop), (k : Int) + n = I p 13 → Q2 [.inl (tlF (I 31) k n y)] (mem Ls p I L) → m_Wp i_Day_toldInAll 4 kc ks [(0, .inr (.inr 28)), (1, .inl y), (2, .inl (k : Int))] [] (mem Ls p I L) Q2 := by
    intro n
    induction n with
    | zero => intro k y kc ks Q2 hk hQ; refine T_Day_toldInAll_4 (Or.inl rfl) ?_; rw [h8]; exact ⟨fun _ => hQ, fun h => by omega⟩
    | succ n ih =>
      intro k y kc ks Q2 hk hQ
      rw [tlF] at hQ
      refine T_Day_toldInAll_4 (Or.inl rfl) ?_
      rw [h8, Int.toNat_natCast, show wr ((k : Int) + 1) = ((k + 1 : Nat) : Int) by rw [wr_of] <;> omega]
      exact ⟨fun h => by omega, fun _ => ⟨by omega, ih (k + 1) _ _ _ Q2 (by omega) hQ⟩⟩
  have rt : ∀ (n k : Nat) (y : Int) (kc ks : Nat) (Q2 : List mV → mM → Prop), (k : Int) + n = I p 13 → Q2 [.inl (tlF (I 31) k n y)] (mem Ls p (mup I 98 2 0) L) → m_Wp i_M_count 132 kc ks [(0, .inr (.inr 98)), (2, .inl y), (3, .inl (k : Int))] [] (mem Ls p (mup I 98 2 0) L) Q2 := by
    intro n
    induction n with
    | zero => intro k y kc ks Q2 hk hQ; refine T_M_count_132 ?_; rw [mup_ne (by omega), hR.1.1]; exact ⟨fun _ => hQ, fun h => by omega⟩
    | succ n ih =>
      intro k y kc ks Q2 hk hQ
      rw [tlF] at hQ
      refine T_M_count_132 ?_
      rw [mup_ne (by omega), hR.1.1, Int.toNat_natCast, mup_other (by omega), (hn.2.2.2.2.1 k (by omega)).2.2.1, show wr ((k : Int) + 1) = ((k + 1 : Nat) : Int) by rw [wr_of] <;> omega]
      exact ⟨fun h => by omega, fun _ => ⟨by omega, ih (k + 1) _ _ _ Q2 (by omega) hQ⟩⟩
  -- the reference's answer v
  have go : ∀ v : Int, (a = 0 → v = I p 13) → (a = 1 → v = I p 14) → (a = 2 → v = I p 15) → (a = 3 → v = I (p + 13) 6) → (a = 4 → v = I 28 10) → (a = 5 → v = I 28 11) → (a = 6 → v = if I 28 12 = -1 then 0 else 1) → (a = 7 → v = tlF (I 31) 0 (I p 13).toNat 0) → (a = 8 → v = hmF (I 36) 1 0 (I p 15).toNat 0) → (a = 9 → v = hmF (I 36) 2 0 (I p 15).toNat 0) → (a = 10 → v = I 28 15) → (a = 11 → v = I 87 6) → (a = 12 → v = if 0 ≤ I 87 7 then I 87 7 else I 87 6) → (a = 13 → v = I 94 3) → (¬ (0 ≤ a ∧ a ≤ 13) → v = -1) → m_Call i_M_count [.inr (.inr 98), .inl a] (mem Ls p I L) (fun w M2 => w = [.inl v] ∧ OKM Ls M2) := by
    intro v v0 v1 v2 v3 v4 v5 v6 v7 v8 v9 v10 v11 v12 v13 vn
    refine E_M_count ?_
    rw [hR.1.1, hR.1.2.1, hR.1.2.2.1, hR.2.2.2.2.2.2, hn.1, hn.2.1, hn.2.2.2.1, hS.2.1, hLg.2.1]
    refine ⟨fun h => ⟨by rw [v0 h], okT hI⟩, fun n0 => ⟨fun h => ⟨by rw [v1 h], okT hI⟩, fun n1 => ⟨fun h => ⟨by rw [v2 h], okT hI⟩, fun n2 => ⟨fun h => ⟨by rw [v3 h], okT hI⟩, fun n3 => ⟨fun h => ⟨by omega, by rw [v4 h], okT hI⟩, fun n4 => ⟨fun h => ⟨by omega, by rw [v5 h], okT hI⟩, fun n5 => ⟨fun h => ⟨by omega, fun z => ⟨by rw [v6 h, if_neg (fun y => z (h131.mpr y))], okT hI⟩, fun z => ⟨by rw [v6 h, if_pos (h131.mp (Classical.not_not.mp z))], okT hI⟩⟩, fun n6 => ⟨fun h => rt (I p 13).toNat 0 0 _ _ _ (by omega) ⟨by rw [v7 h], okT hI⟩, fun n7 => ⟨fun h => rm 1 _ (T_M_count_163 ⟨by rw [v8 h], okT hI⟩), fun n8 => ⟨fun h => rm 2 _ (T_M_count_170 ⟨by rw [v9 h], okT hI⟩), fun n9 => ⟨fun h => ⟨by omega, by rw [v10 h], okT hI⟩, fun n10 => ⟨fun h => ⟨by rw [v11 h], okT hI⟩, fun n11 => ⟨fun h => E_M_knownBy ?_, fun n12 => ⟨fun h => ⟨by rw [v13 h], okT hI⟩, fun n13 => ⟨by rw [vn (by omega)], okT hI⟩⟩⟩⟩⟩⟩⟩⟩⟩⟩⟩⟩⟩⟩⟩
    rw [mup_ne (by omega), mup_ne (by omega), hS.2.1, hS.2.2.1]
    refine ⟨fun z => T_M_count_187 ⟨by rw [v12 h, if_pos z], okT hI⟩, fun z => T_M_count_187 ⟨by rw [v12 h, if_neg z], okT hI⟩⟩
  refine E_C_count hp ⟨fun h => ?_, fun n0 => ⟨fun h => ?_, fun n1 => ⟨fun h => ?_, fun n2 => ⟨fun h => ?_, fun n3 => ⟨fun h => ?_, fun n4 => ⟨fun h => ?_, fun n5 => ⟨fun h => ⟨fun z => ?_, fun z => ?_⟩, fun n6 => ⟨fun h => E_Day_toldInAll (Or.inl rfl) (ct (I p 13).toNat 0 0 _ _ _ (by omega) (T_C_count_147 ?_)), fun n7 => ⟨fun h => cm 1 _ (T_C_count_156 ?_), fun n8 => ⟨fun h => cm 2 _ (T_C_count_165 ?_), fun n9 => ⟨fun h => ?_, fun n10 => ⟨fun h => ?_, fun n11 => ⟨fun h => E_Seen_knownBy ⟨fun z => T_C_count_189 ?_, fun z => T_C_count_189 ?_⟩, fun n12 => ⟨fun h => ?_, fun n13 => ?_⟩⟩⟩⟩⟩⟩⟩⟩⟩⟩⟩⟩⟩⟩
  · apply go <;> intros <;> omega
  · apply go <;> intros <;> omega
  · apply go <;> intros <;> omega
  · apply go <;> intros <;> omega
  · apply go <;> intros <;> omega
  · apply go <;> intros <;> omega
  · apply go <;> intros <;> first | omega | (rw [if_neg z])
  · apply go <;> intros <;> first | omega | (rw [if_pos (Classical.not_not.mp z)])
  · apply go <;> intros <;> first | rfl | omega
  · apply go <;> intros <;> first | rfl | omega
  · apply go <;> intros <;> first | rfl | omega
  · apply go <;> intros <;> omega
  · apply go <;> intros <;> omega
  · have hm : m_min (I 87 7) (I 87 6) = I 87 7 := by unfold m_min; have := hS.2.2.2.1; split <;> omega
    rw [hm]
    have := hS.2.2.2.1
    apply go <;> intros <;> first | omega | (rw [if_pos (by omega)])
  · have := hS.2.2.2.1
    apply go <;> intros <;> first | omega | (rw [if_neg (by omega)])
  · apply go <;> intros <;> omega
  · apply go <;> intros <;> omega
/-! what is seen -/
theorem INV_seen (hI : INV p I L) (h1 : ∀ a, a < 46 ∨ (67 ≤ a ∧ a < 98) → ¬ (87 ≤ a ∧ a ≤ 92) → Z a = I a) (h98 : ∀ k, k ≠ 2 → k ≠ 52 → k ≠ 75 → k ≠ 76 → k < 67 ∨ 74 < k → Z 98 k = I 98 k) (h3 : ∀ a, 99 ≤ a → a < 138 → Z a = I a) (h5 : ∀ a, 139 < a → Z a = I a) (hS : SEE Z (I p 13)) (hL : K 98 66 = L 98 66 ∧ K 98 84 = L 98 84) : INV p Z K := by
  obtain ⟨hp, hpl, hR, hD, hT, hF, hW, _, hLg, hIm⟩ := hI
  have hp' := hp
  unfold isPlan at hp'
  have gp : ∀ k, k < 19 → Z (p + k) = I (p + k) := fun k hk => h1 _ (by omega) (by omega)
  have gp0 : Z p = I p := gp 0 (by omega)
  have d28 : dat Z 28 = dat I 28 := dat_congr (fun j hj => h1 _ (by omega) (by omega))
  have d37 : dat Z 37 = dat I 37 := dat_congr (fun j hj => h1 _ (by omega) (by omega))
  have j0 : jat Z 0 = jat I 0 := jat_congr (fun r k a b => by rw [h3 _ (by omega) (by omega)])
  unfold INV
  rw [gp0]
  refine ⟨hp, planOK_congr hp gp hpl, PR_congr gp (fun k a b => h98 k (by omega) (by omega) (by omega) (by omega) (by omega)) (fun a b c => h3 a (by omega) (by omega)) hR, ?_, ?_, ?_, ?_, hS, ?_, ?_⟩
  · unfold DAY at *
    rw [d28, j0, hL.1, h1 28 (by omega) (by omega)]; exact hD
  · unfold TPE at *
    rw [h1 2 (by omega) (by omega), h98 1 (by omega) (by omega) (by omega) (by omega) (by omega), h3 99 (by omega) (by omega), h1 6 (by omega) (by omega)]; exact hT
  · rw [h1 2 (by omega) (by omega), h98 4 (by omega) (by omega) (by omega) (by omega) (by omega), h98 5 (by omega) (by omega) (by omega) (by omega) (by omega)]; exact hF
  · unfold WDS at *
    rw [h1 7 (by omega) (by omega), h3 100 (by omega) (by omega)]; exact hW
  · unfold LOG at *
    rw [h1 94 (by omega) (by omega), h1 95 (by omega) (by omega), h1 96 (by omega) (by omega), h1 97 (by omega) (by omega), h98 79 (by omega) (by omega) (by omega) (by omega) (by omega), h5 140 (by omega), d28]; exact hLg
  · unfold IMG at *
    rw [h1 2 (by omega) (by omega), h1 37 (by omega) (by omega), h1 40 (by omega) (by omega), h1 43 (by omega) (by omega), h1 44 (by omega) (by omega), h1 45 (by omega) (by omega), h98 81 (by omega) (by omega) (by omega) (by omega) (by omega), h5 141 (by omega), h5 142 (by omega), d37, hL.2]; exact hIm
theorem pair_known {a : Int} (hI : INV p I L) : PAIR Ls i_C_known i_M_known [.inl a] (mem Ls p I L) := by
  have hS := hI.2.2.2.2.2.2.2.1
  have h75 := hS.2.1
  refine E_C_known ⟨fun h => ⟨by omega, E_M_known ?_⟩, fun h => ⟨fun h2 => ⟨by omega, E_M_known ?_⟩, fun h2 => ⟨by omega, E_M_known ?_⟩⟩⟩
  · rw [h75]
    exact r_isIn (T_M_known_14 ⟨fun z => absurd (b01_zero.mpr (by omega)) z, fun _ => ⟨by omega, rfl, okT hI⟩⟩)
  · rw [mup_other (by omega), h75]
    refine r_isIn (T_M_known_14 ⟨fun _ => ⟨by omega, rfl, p, _, _, rfl, INV_seen hI (fun b b1 b2 => ?_) (fun k b1 b2 b3 b4 b5 => ?_) (fun b b1 b2 => ?_) (fun b b1 => ?_) ?_ ⟨rfl, rfl⟩⟩, fun z => absurd (b01_zero.mp (Classical.not_not.mp z)) (fun y => y (by omega))⟩)
    · rw [mup_other (by omega), mup_other (by omega), mup_other (by omega)]
    · rw [mup_ne (by omega), mup_ne (by omega), mup_ne (by omega)]
    · rw [mup_other (by omega), mup_other (by omega), mup_other (by omega)]
    · rw [mup_other (by omega), mup_other (by omega), mup_other (by omega)]
    · have r : ∀ b, b ≠ 98 → b ≠ 87 → mup (mup (mup I 87 7 a) 98 2 0) 98 76 a b = I b := fun b b1 b2 => by rw [mup_other b1, mup_other b1, mup_other b2]
      unfold SEE at *
      rw [r 88 (by omega) (by omega), r 89 (by omega) (by omega), r 90 (by omega) (by omega), r 91 (by omega) (by omega), r 92 (by omega) (by omega), r 138 (by omega) (by omega)]
      rw [mup_eq rfl rfl, mup_ne (by omega), mup_ne (by omega), mup_ne (by omega), show mup (mup (mup I 87 7 a) 98 2 0) 98 76 a 87 = mup I 87 7 a 87 by rw [mup_other (by omega), mup_other (by omega)], mup_ne (by omega), mup_eq rfl rfl]
      exact ⟨hS.1, hS.2.1, rfl, by omega, hS.2.2.2.2⟩
  · rw [h75]
    exact r_isIn (T_M_known_14 ⟨fun z => absurd (b01_zero.mpr (by omega)) z, fun _ => ⟨by omega, rfl, okT hI⟩⟩)
end Q16
