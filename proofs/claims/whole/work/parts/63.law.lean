section Q14
variable {Ls p kc ks : Nat} {P M : Int} {I I0 I1 I2 J K L L1 L2 K2 Z d d' e : Nat → Nat → Int} {Q : List mV → mM → Prop} {x : Int}
/-! law -/
theorem pair_law {a b : Int} (hI : INV p I L) : PAIR Ls i_C_law i_M_law [.inl a, .inl b] (mem Ls p I L) := by
  have hp := hI.1
  have hp' := hp
  unfold isPlan at hp'
  have hpl := hI.2.1
  have h6 := hpl.1
  have h12 : I 98 12 = I p 13 := hI.2.2.1.1.1
  have hn := now_eq hI
  have hD := hI.2.2.2.1
  have hm9 : dat I 28 0 10 ≤ 20000 := by rw [show dat I 28 0 = I 28 from dat_at (by omega)]; have := hD.2.2.2; omega
  have t := tf (v := 0) hp hpl
  have ref : ¬ (0 ≤ a ∧ a < 3) ∨ ¬ (0 ≤ b ∧ b < I p 13) → m_Call i_M_law [.inr (.inr 98), .inl a, .inl b] (mem Ls p I L) (fun w M2 => w = [.inr (.inl (-9223372036854775808))] ∧ OKM Ls M2) := fun h => by
    refine E_M_law (r_isIn (T_M_law_11 ⟨fun _ => ⟨rfl, okT hI⟩, fun h1 => ⟨by rw [b01_zero] at h1; omega, fun _ => ⟨rfl, okT hI⟩, fun _ => r_isMan ?_⟩⟩))
    rw [mup_ne (by omega), h12]
    refine T_M_law_28 ⟨fun h3 => ?_, fun _ => ⟨rfl, okT hI⟩⟩
    rw [b01_zero] at h1 h3; omega
  refine E_C_law ⟨fun h => ref (by omega), fun h => ⟨fun h2 => ref (by omega), fun h2 => q_isPerson hp (T_C_law_14 ⟨fun h3 => q_follow hp (Or.inl rfl) ?_, fun h3 => ref (Or.inr (b01_zero.mp (Classical.not_not.mp h3)))⟩)⟩⟩
  have hb : 0 ≤ b ∧ b < I p 13 := by rw [b01_zero] at h3; omega
  have hd28 : dat (flw I p 0) 28 = dat I 28 := dat_congr (fun j hj => flw_out (by omega))
  have hst : flw I p 0 = dput (flw I p 0) 28 (dat I 28) := by rw [← hd28, dput_dat]
  have f28 : flw I p 0 28 = I 28 := flw_out (by omega)
  have f30 : flw I p 0 30 = I 30 := flw_out (by omega)
  have hdk : DOK (flw I p 0 p 13) (I p 15) (dat I 28) := by rw [t.2.2]; exact hD.1
  have h20 : 0 ≤ I 28 11 ∧ I 28 11 ≤ 20 := by have := hD.1.2.2.1; rw [show dat I 28 0 = I 28 from dat_at (by omega)] at this; exact this
  have hah : 0 ≤ I 30 b.toNat ∧ I 30 b.toNat ≤ 20 := by have := hD.1.2.2.2.2.2.2.1 b.toNat (by omega); rw [show dat I 28 2 = I 30 from dat_at (by omega)] at this; omega
  -- with the queue q
  have main : ∀ q : Int, (0 ≤ q ∧ q ≤ 20) → (q = if a = 1 then I 30 b.toNat else I 28 11) → m_Call i_Way_lawOf [.inr (.inr 64), .inr (.inr 28), .inl a, .inl b, .inl q] (mem Ls p (flw I p 0) L) (fun v M' => m_Wp i_C_law 66 0 0 [] (v ++ []) M' (fun v M1 => m_Call i_M_law [.inr (.inr 98), .inl a, .inl b] M1 (fun w M2 => w = v ∧ OKM Ls M2))) := by
    intro q hq hqe
    have hnb := nmv_big (P := 0) (d := dat I 28) (x := b) (q := q) t.1 t.2.1 hdk (by rw [t.2.2]; exact hb) hm9 hq
    have key := q_lawOf (Ls := Ls) (p := p) (c := 28) (I := flw I p 0) (L := L) (d := dat I 28) (law := a.toNat) (x := b) (q := q) (Q := fun v M' => m_Wp i_C_law 66 0 0 [] (v ++ []) M' (fun v M1 => m_Call i_M_law [.inr (.inr 98), .inl a, .inl b] M1 (fun w M2 => w = v ∧ OKM Ls M2))) hp (Or.inl rfl) (by omega) t.1.2.2.2.2.2.2.2.2.2 (by omega) hnb
    rw [← hst, show ((a.toNat : Nat) : Int) = a by omega] at key
    refine key (fun L2 hL2 => T_C_law_66 ?_)
    -- the reference
    have hfo : ∀ a', a' < 46 ∨ 67 ≤ a' → flw I p 0 a' = I a' := fun a' ha' => flw_out (by omega)
    refine E_M_law (r_isIn (T_M_law_11 ⟨fun z => absurd (b01_zero.mp z) (fun y => y (by omega)), fun _ => ⟨by omega, ?_⟩⟩))
    rw [mup_other (by omega), hfo 115 (by omega)]
    have hPR : PR (flw I p 0) p (J2 (flw I p 0)) := m_rel hI hfo
    have hWR : WR (flw I p 0) p (J2 (flw I p 0)) := WR_plain hp hpl
    have hlaw := hI.2.2.1.2.2.2.2.2.1 a.toNat (by omega)
    rcases hlaw with ⟨h0, h1⟩ | ⟨h0, fr, to, hf, ht, hf', ht', hH⟩
    · refine ⟨fun _ => ⟨?_, p, _, _, rfl, INV_thrown (INV_keeps hI ⟨fun a' ha' => hfo a' (by omega), fun k _ _ _ => by rw [hfo 98 (by omega)], fun a' b1 _ => hfo a' (by omega), fun r k _ _ => by rw [hfo _ (by omega)], fun a' b1 _ => hfo a' (by omega), by rw [hL2 98 (by omega)], by rw [hL2 98 (by omega)]⟩)⟩, fun z => absurd h0 z⟩
      have : lv (flw I p 0) (p + 13) a.toNat (nmv (flw I p 0) p (dat I 28) b q) = -9223372036854775808 := by
        unfold lv
        rw [show p + 13 + 3 = p + 16 from rfl, show p + 13 + 4 = p + 17 from rfl, hfo (p + 16) (by omega), hfo (p + 17) (by omega), h1, Int.sub_self]
        rfl
      rw [this]
    · refine ⟨fun z => by omega, fun _ => r_isMan ?_⟩
      rw [mup_ne (by omega), hfo 98 (by omega), h12]
      refine T_M_law_28 ⟨fun _ => r_plainTried (T_M_law_39 ?_), fun z => absurd (b01_zero.mp (Classical.not_not.mp z)) (fun y => y hb)⟩
      have hJ : plainJ (mup (flw I p 0) 98 2 0) = jm (J2 (flw I p 0)) 0 (jat I 0) (J2 (flw I p 0) 98 52) := by
        have h2 : jat (J2 (flw I p 0)) 0 = jat I 0 := jat_congr (fun r k b1 b2 => by unfold J2; rw [plainJ_out (by omega), mup_other (by omega), hfo _ (by omega)])
        have h3 := now_jm (Y := J2 (flw I p 0))
        rw [h2] at h3; exact h3
      have e130 : plainJ (mup (flw I p 0) 98 2 0) 130 0 = I 28 11 := by rw [plainJ_out (by omega), mup_other (by omega), hfo _ (by omega)]; exact hn.2.1
      have e126 : plainJ (mup (flw I p 0) 98 2 0) 126 b.toNat = I 30 b.toNat := by rw [plainJ_out (by omega), mup_other (by omega), hfo _ (by omega)]; exact (hn.2.2.2.2.1 b.toNat (by omega)).2.1
      have hDRn := hD.2.1.2.2.2.2.2.1 b.toNat (by omega)
      have fin : ∀ kc ks, m_Call i_M_layNames [.inr (.inr 98), .inl 0, .inl b, .inl q] (mem Ls p (plainJ (mup (flw I p 0) 98 2 0)) L2) (fun v M' => m_Wp i_M_law 65 kc ks [(0, .inr (.inr 98)), (1, .inl a)] (v ++ []) M' (fun w M2 => w = [.inr (.inl (lv (flw I p 0) (p + 13) a.toNat (nmv (flw I p 0) p (dat I 28) b q)))] ∧ OKM Ls M2)) := by
        intro kc ks
        rw [hJ]
        refine r_layNames (b := 0) (d := dat I 28) (by omega) hPR hWR t.1 (by rw [t.2.2]; exact hb) hDRn.1 hDRn.2.2.1 hD.2.1.1 (fun K2 hK2 hnm => T_M_law_65 ?_)
        rw [show a = ((a.toNat : Nat) : Int) by omega]
        have o116 : ∀ a', a' < 125 → a' ≠ 98 → 67 ≤ a' → jm (J2 (flw I p 0)) 0 (jat I 0) (J2 (flw I p 0) 98 52) a' = I a' := fun a' b1 b2 b3 => by rw [jm_lo b1 b2]; unfold J2; rw [plainJ_out b2, mup_other b2, hfo _ (by omega)]
        refine r_lawOf (st := I (p + 14)) (nu := I (p + 15)) (nm := nmv (flw I p 0) p (dat I 28) b q) (fr := fr) (to := to) (by omega) (by rw [o116 _ (by omega) (by omega) (by omega)]; exact hf') (by rw [o116 _ (by omega) (by omega) (by omega)]; exact ht') (by rw [o116 _ (by omega) (by omega) (by omega), o116 _ (by omega) (by omega) (by omega), o116 _ (by omega) (by omega) (by omega)]; exact hH) (fun j hj => ⟨hnm j hj, hnb j hj⟩) (fun i hi => hpl.2.2.2.2.2.2.2.2.2.1 a.toNat (by omega) i (by show (i : Int) < I (p + 17) a.toNat; rw [ht]; omega)) ?_
        intro y v K3 hK3 hv
        rw [jm_up]
        have hlv : lv (flw I p 0) (p + 13) a.toNat (nmv (flw I p 0) p (dat I 28) b q) = lvR (I (p + 14)) (I (p + 15)) (nmv (flw I p 0) p (dat I 28) b q) (to - fr) fr [] := by
          unfold lv
          rw [show p + 13 + 1 = p + 14 from rfl, show p + 13 + 2 = p + 15 from rfl, show p + 13 + 3 = p + 16 from rfl, show p + 13 + 4 = p + 17 from rfl, hfo (p + 14) (by omega), hfo (p + 15) (by omega), hfo (p + 16) (by omega), hfo (p + 17) (by omega), hf, ht, show ((to : Int) - (fr : Int)).toNat = to - fr by omega, Int.toNat_natCast]
        have hok : OKM Ls (mem Ls p (jm (J2 (flw I p 0)) 0 (jat I 0) y) K3) := by
          refine ⟨p, _, _, rfl, INV_keeps hI ⟨fun a' ha' => ?_, fun k b1 b2 b3 => ?_, fun a' b1 b2 => ?_, fun r k b1 b2 => ?_, fun a' b1 b2 => ?_, ?_, ?_⟩⟩
          · rw [jm_lo (by omega) (by omega)]; unfold J2; rw [plainJ_out (by omega), mup_other (by omega), hfo _ (by omega)]
          · rw [jm_98 b2]; unfold J2; rw [plainJ_98 b3, mup_ne (by omega), hfo _ (by omega)]
          · rw [jm_lo (by omega) (by omega)]; unfold J2; rw [plainJ_out (by omega), mup_other (by omega), hfo _ (by omega)]
          · unfold jm; rw [jput_at b1 b2 (by rw [Nat.zero_mul, Nat.zero_add]), jat_at b1 b2, Nat.zero_mul, Nat.zero_add]
          · unfold jm J2; rw [jput_out (by omega), mup_other (by omega), plainJ_out (by omega), mup_other (by omega), hfo _ (by omega)]
          · rw [hK3 98 (by omega), hK2 98 (by omega), hL2 98 (by omega)]
          · rw [hK3 98 (by omega), hK2 98 (by omega), hL2 98 (by omega)]
        refine T_M_law_70 ?_
        rw [jm_52, Int.toNat_natCast, hlv]
        rcases hv with ⟨c1, c2⟩ | ⟨c1, c2, c3⟩
        · exact ⟨fun z => by omega, fun _ => ⟨by rw [c1], hok⟩⟩
        · exact ⟨fun _ => ⟨by rw [c2], hok⟩, fun z => absurd c1 z⟩
      rw [e130, e126]
      refine ⟨fun z => ⟨by omega, ?_⟩, fun z => ⟨by omega, ?_⟩⟩
      · rw [if_neg z] at hqe; rw [← hqe]; exact fin _ _
      · rw [if_pos (Classical.not_not.mp z)] at hqe; rw [← hqe]; exact fin _ _
  refine T_C_law_29 ?_
  rw [f28, f30]
  exact ⟨fun z => main _ h20 (by rw [if_neg z]), fun z => ⟨by omega, main _ hah (by rw [if_pos (Classical.not_not.mp z)])⟩⟩
/-! latest -/
def ltF (f : Nat → Int) : Nat → Nat → Int → Int
  | _, 0, b => b
  | k, n + 1, b => ltF f (k + 1) n (if b = -1 ∨ f k < f b.toNat then (k : Int) else b)
theorem latest_c (hp : isPlan p) {N : Int} (hN : I p 13 = N) (h6 : N ≤ 6) : ∀ (n k : Nat) (b : Int), (k : Int) + n = N → (b = -1 ∨ (0 ≤ b ∧ b < k)) → Q [.inl (ltF (I 29) k n b)] (mem Ls p I L) → m_Wp i_C_latest 4 kc ks [(0, .inr (.inr 2)), (1, .inl b), (2, .inl (k : Int))] [] (mem Ls p I L) Q := by
  intro n
  induction n with
  | zero => intro k b hk hb hQ; refine T_C_latest_4 hp ?_; rw [hN]; exact ⟨fun _ => hQ, fun h => by omega⟩
  | succ n ih =>
    intro k b hk hb hQ
    rw [ltF] at hQ
    refine T_C_latest_4 hp ?_
    rw [hN, Int.toNat_natCast, show wr ((k : Int) + 1) = ((k + 1 : Nat) : Int) by rw [wr_of] <;> omega]
    refine ⟨fun h => by omega, fun _ => ⟨fun h => ?_, fun h => ⟨by omega, by omega, fun h2 => ?_, fun h2 => ?_⟩⟩⟩
    · rw [if_pos (Or.inl h)] at hQ; exact ih (k + 1) _ (by omega) (Or.inr (by omega)) hQ
    · rw [if_neg (by omega)] at hQ; exact ih (k + 1) b (by omega) (by omega) hQ
    · rw [if_pos (Or.inr (by omega))] at hQ; exact ih (k + 1) _ (by omega) (Or.inr (by omega)) hQ
theorem latest_m {N : Int} (hN : I 98 12 = N) (h6 : N ≤ 6) {f : Nat → Int} (hf : ∀ k : Nat, (k : Int) < N → I 127 k = f k) : ∀ (n k : Nat) (b : Int), (k : Int) + n = N → (b = -1 ∨ (0 ≤ b ∧ b < k)) → Q [.inl (ltF f k n b)] (mem Ls p I L) → m_Wp i_M_latest 9 kc ks [(0, .inr (.inr 98)), (1, .inl b), (2, .inl (k : Int))] [] (mem Ls p I L) Q := by
  intro n
  induction n with
  | zero => intro k b hk hb hQ; refine T_M_latest_9 ?_; rw [hN]; exact ⟨fun _ => hQ, fun h => by omega⟩
  | succ n ih =>
    intro k b hk hb hQ
    rw [ltF] at hQ
    refine T_M_latest_9 ?_
    rw [hN, Int.toNat_natCast, hf k (by omega), show wr ((k : Int) + 1) = ((k + 1 : Nat) : Int) by rw [wr_of] <;> omega]
    refine ⟨fun h => by omega, fun _ => ⟨fun h => ?_, fun h => ⟨by omega, by omega, ?_⟩⟩⟩
    · rw [if_pos (Or.inl (by omega))] at hQ; exact ih (k + 1) _ (by omega) (Or.inr (by omega)) hQ
    · rw [hf b.toNat (by omega)]
      refine ⟨fun h2 => ?_, fun h2 => ?_⟩
      · rw [if_neg (by omega)] at hQ; exact ih (k + 1) b (by omega) (by omega) hQ
      · rw [if_pos (Or.inr (by omega))] at hQ; exact ih (k + 1) _ (by omega) (Or.inr (by omega)) hQ
theorem pair_latest (hI : INV p I L) : PAIR Ls i_C_latest i_M_latest [] (mem Ls p I L) := by
  have h6 := hI.2.1.1
  have h12 : I 98 12 = I p 13 := hI.2.2.1.1.1
  have hn := (now_eq hI).2.2.2.2.1
  refine E_C_latest (latest_c hI.1 rfl h6.2 (I p 13).toNat 0 (-1) (by omega) (Or.inl rfl) (E_M_latest (latest_m (N := I p 13) (f := I 29) (by rw [mup_ne (by omega), h12]) h6.2 (fun k hk => by rw [mup_other (by omega)]; exact (hn k hk).1) (I p 13).toNat 0 (-1) (by omega) (Or.inl rfl) ⟨rfl, okT hI⟩)))
/-! median -/
def mdC (f : Nat → Int) (q : Nat) : Nat → Nat → Int → Int
  | _, 0, y => y
  | k, n + 1, y => mdC f q (k + 1) n (if f k < f q ∨ (f k = f q ∧ k < q) then y + 1 else y)
def mdF (f : Nat → Int) (N : Nat) (h : Int) : Nat → Nat → Int
  | _, 0 => -1
  | k, n + 1 => if mdC f k 0 N 0 = h then (k : Int) else mdF f N h (k + 1) n
theorem slower_c {q : Nat} {N : Int} (h8 : I 28 8 = N) (h6 : N ≤ 6) (hq : (q : Int) < N) : ∀ (n k : Nat) (y : Int), (k : Int) + n = N → (0 ≤ y ∧ y ≤ k) → Q [.inl (mdC (I 29) q k n y)] (mem Ls p I L) → m_Wp i_Day_howManySlower 4 kc ks [(0, .inr (.inr 28)), (1, .inl (q : Int)), (2, .inl y), (3, .inl (k : Int))] [] (mem Ls p I L) Q := by
  intro n
  induction n with
  | zero => intro k y hk hy hQ; refine T_Day_howManySlower_4 (Or.inl rfl) ?_; rw [h8]; exact ⟨fun _ => hQ, fun h => by omega⟩
  | succ n ih =>
    intro k y hk hy hQ
    rw [mdC] at hQ
    refine T_Day_howManySlower_4 (Or.inl rfl) ?_
    rw [h8, Int.toNat_natCast, Int.toNat_natCast, show 28 + 1 = 29 from rfl, show wr ((k : Int) + 1) = ((k + 1 : Nat) : Int) by rw [wr_of] <;> omega, wr_of (z := y + 1) (by omega) (by omega)]
    refine ⟨fun h => by omega, fun _ => ⟨by omega, by omega, fun h => ?_, fun h => ⟨by omega, by omega, fun h2 => ?_, fun h2 => ⟨fun h3 => ?_, fun h3 => ?_⟩⟩⟩⟩
    · rw [if_pos (Or.inl h)] at hQ; exact ih (k + 1) _ (by omega) (by omega) hQ
    · rw [if_neg (by omega)] at hQ; exact ih (k + 1) y (by omega) (by omega) hQ
    · rw [if_neg (by omega)] at hQ; exact ih (k + 1) y (by omega) (by omega) hQ
    · rw [if_pos (Or.inr (by omega))] at hQ; exact ih (k + 1) _ (by omega) (by omega) hQ
theorem median_c (hp : isPlan p) {N : Int} (hN : I p 13 = N) (h8 : I 28 8 = N) (h6 : 0 ≤ N ∧ N ≤ 6) : ∀ (n k : Nat), (k : Int) + n = N → Q [.inl (mdF (I 29) N.toNat (wr (Int.tdiv N 2)) k n)] (mem Ls p I L) → m_Wp i_C_median 2 kc ks [(0, .inr (.inr 2)), (1, .inl (k : Int))] [] (mem Ls p I L) Q := by
  intro n
  induction n with
  | zero => intro k hk hQ; refine T_C_median_2 hp ?_; rw [hN]; exact ⟨fun _ => hQ, fun h => by omega⟩
  | succ n ih =>
    intro k hk hQ
    rw [mdF] at hQ
    refine T_C_median_2 hp ?_
    rw [hN]
    refine ⟨fun h => by omega, fun _ => E_Day_howManySlower (Or.inl rfl) (slower_c (N := N) h8 h6.2 (by omega) N.toNat 0 0 (by omega) (by omega) (T_C_median_21 hp ?_))⟩
    rw [hN, show wr ((k : Int) + 1) = ((k + 1 : Nat) : Int) by rw [wr_of] <;> omega]
    refine ⟨by omega, fun h => ?_, fun h => ?_⟩
    · rw [if_neg h] at hQ; exact ih (k + 1) (by omega) hQ
    · rw [if_pos (Classical.not_not.mp h)] at hQ; exact hQ
theorem slower_m {q : Nat} {N : Int} (h12 : I 98 12 = N) (h6 : 0 ≤ N ∧ N ≤ 6) (hq : (q : Int) < N) {f : Nat → Int} (hf : ∀ k : Nat, (k : Int) < N → I 127 k = f k) (K1 : mdC f q 0 N.toNat 0 ≠ wr (Int.tdiv N 2) → m_Wp i_M_median 7 kc ks [(0, .inr (.inr 98)), (1, .inl ((q + 1 : Nat) : Int))] [] (mem Ls p I L) Q) (K2 : mdC f q 0 N.toNat 0 = wr (Int.tdiv N 2) → Q [.inl (q : Int)] (mem Ls p I L)) : ∀ (n k : Nat) (y : Int), (k : Int) + n = N → (0 ≤ y ∧ y ≤ k) → mdC f q 0 N.toNat 0 = mdC f q k n y → m_Wp i_M_median 19 kc ks [(0, .inr (.inr 98)), (1, .inl (q : Int)), (2, .inl y), (3, .inl (k : Int))] [] (mem Ls p I L) Q := by
  intro n
  induction n with
  | zero =>
    intro k y hk hy hE
    rw [mdC] at hE
    refine T_M_median_19 ?_
    rw [h12, show wr ((q : Int) + 1) = ((q + 1 : Nat) : Int) by rw [wr_of] <;> omega]
    exact ⟨fun _ => ⟨by omega, fun h => K1 (by rw [hE]; exact h), fun h => K2 (by rw [hE]; exact Classical.not_not.mp h)⟩, fun h => by omega⟩
  | succ n ih =>
    intro k y hk hy hE
    rw [mdC] at hE
    refine T_M_median_19 ?_
    rw [h12, Int.toNat_natCast, Int.toNat_natCast, hf k (by omega), hf q hq, show wr ((k : Int) + 1) = ((k + 1 : Nat) : Int) by rw [wr_of] <;> omega, wr_of (z := y + 1) (by omega) (by omega), wr_of (z := y + 0) (by omega) (by omega), Int.add_zero]
    refine ⟨fun h => by omega, fun _ => ⟨by omega, by omega, fun h => ?_, fun h => ⟨by omega, by omega, fun h2 => ?_, fun h2 => ⟨fun h3 => ?_, fun h3 => ?_⟩⟩⟩⟩
    · rw [if_pos (Or.inl h)] at hE; exact ih (k + 1) _ (by omega) (by omega) hE
    · rw [if_neg (by omega)] at hE; exact ih (k + 1) y (by omega) (by omega) hE
    · rw [if_neg (by omega)] at hE; exact ih (k + 1) y (by omega) (by omega) hE
    · rw [if_pos (Or.inr (by omega))] at hE; exact ih (k + 1) _ (by omega) (by omega) hE
theorem median_m {N : Int} (h12 : I 98 12 = N) (h6 : 0 ≤ N ∧ N ≤ 6) {f : Nat → Int} (hf : ∀ k : Nat, (k : Int) < N → I 127 k = f k) : ∀ (n k : Nat), (k : Int) + n = N → Q [.inl (mdF f N.toNat (wr (Int.tdiv N 2)) k n)] (mem Ls p I L) → m_Wp i_M_median 7 kc ks [(0, .inr (.inr 98)), (1, .inl (k : Int))] [] (mem Ls p I L) Q := by
  intro n
  induction n with
  | zero => intro k hk hQ; refine T_M_median_7 ?_; rw [h12]; exact ⟨fun _ => hQ, fun h => by omega⟩
  | succ n ih =>
    intro k hk hQ
    rw [mdF] at hQ
    refine T_M_median_7 ?_
    rw [h12]
    refine ⟨fun h => by omega, fun _ => slower_m h12 h6 (by omega) hf (fun h => ?_) (fun h => ?_) N.toNat 0 0 (by omega) (by omega) rfl⟩
    · rw [if_neg h] at hQ; exact ih (k + 1) (by omega) hQ
    · rw [if_pos h] at hQ; exact hQ
theorem pair_median (hI : INV p I L) : PAIR Ls i_C_median i_M_median [] (mem Ls p I L) := by
  have h6 := hI.2.1.1
  have h12 : I 98 12 = I p 13 := hI.2.2.1.1.1
  have hn := (now_eq hI).2.2.2.2.1
  have h8 : I 28 8 = I p 13 := by have := hI.2.2.2.1.1.1.1; rw [dat_at (by omega)] at this; exact this
  exact E_C_median (median_c hI.1 rfl h8 h6 (I p 13).toNat 0 (by omega) (E_M_median (median_m (N := I p 13) (f := I 29) (by rw [mup_ne (by omega), h12]) h6 (fun k hk => by rw [mup_other (by omega)]; exact (hn k hk).1) (I p 13).toNat 0 (by omega) ⟨rfl, okT hI⟩)))
end Q14
