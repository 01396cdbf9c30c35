/-! ===== phase 2: what is asked of now ===== -/
section Q13
variable {Ls p kc ks : Nat} {P M : Int} {I I0 I1 I2 J K L L1 L2 K2 Z d d' e : Nat → Nat → Int} {Q : List mV → mM → Prop} {x : Int}
theorem now_eq (hI : INV p I L) : I 136 0 = I 28 10 ∧ I 130 0 = I 28 11 ∧ I 131 0 = en (I 28 12) ∧ I 137 0 = I 28 15 ∧ (∀ q : Nat, (q : Int) < I p 13 → I 127 q = I 29 q ∧ I 126 q = I 30 q ∧ I 128 q = I 31 q ∧ I 125 q = dMode (dat I 28) q) ∧ (∀ k : Nat, (k : Int) < I 28 11 → I 129 k = en (I 32 k)) ∧ (∀ m : Nat, (m : Int) < I p 15 → I 133 m = I 33 m ∧ I 134 (2 * m) = I 34 m ∧ I 134 (2 * m + 1) = I 35 m ∧ I 135 m = I 36 m) := by
  have h6 := hI.2.1.1
  have h15 := hI.2.1.2.2.1
  have hn := hI.2.2.2.1.1.2.2.1
  obtain ⟨a1, a2, a3, a4, a5, a6, a7, a8⟩ := hI.2.2.2.1.2.1
  have d0 : dat I 28 0 = I 28 := dat_at (by omega)
  have d1 : dat I 28 1 = I 29 := dat_at (by omega)
  have d2 : dat I 28 2 = I 30 := dat_at (by omega)
  have d3 : dat I 28 3 = I 31 := dat_at (by omega)
  have d4 : dat I 28 4 = I 32 := dat_at (by omega)
  have d5 : dat I 28 5 = I 33 := dat_at (by omega)
  have d6 : dat I 28 6 = I 34 := dat_at (by omega)
  have d7 : dat I 28 7 = I 35 := dat_at (by omega)
  have d8 : dat I 28 8 = I 36 := dat_at (by omega)
  have j : ∀ r k, r ≤ 12 → k < jlen r → jat I 0 r k = I (125 + r) k := fun r k h1 h2 => by rw [jat_at h1 h2, Nat.zero_mul, Nat.zero_add]
  rw [d0] at a1 a2 a3 a5 a7 hn
  rw [j 11 0 (by omega) (by decide)] at a1
  rw [j 5 0 (by omega) (by decide)] at a2
  rw [j 6 0 (by omega) (by decide)] at a3
  rw [j 12 0 (by omega) (by decide)] at a5
  refine ⟨a1, a2, a3, a5, fun q hq => ?_, fun k hk => ?_, fun m hm => ?_⟩
  · have := a6 q hq
    rw [j 2 q (by omega) (by show q < 6; omega), j 1 q (by omega) (by show q < 6; omega), j 3 q (by omega) (by show q < 6; omega), j 0 q (by omega) (by show q < 6; omega), d1, d2, d3] at this
    exact this
  · have := a7 k hk
    rw [j 4 k (by omega) (by show k < 20; omega), d4] at this
    exact this
  · have := a8 m hm
    rw [j 8 m (by omega) (by show m < 6; omega), j 9 (2 * m) (by omega) (by show 2 * m < 12; omega), j 9 (2 * m + 1) (by omega) (by show 2 * m + 1 < 12; omega), j 10 m (by omega) (by show m < 6; omega), d5, d6, d7, d8] at this
    exact this
theorem okT (hI : INV p I L) {v : Int} : OKM Ls (mem Ls p (mup I 98 2 v) L) := ⟨p, _, _, rfl, INV_thrown hI⟩
theorem pair_fault {a : Int} (hI : INV p I L) : PAIR Ls i_C_fault i_M_fault [.inl a] (mem Ls p I L) := by
  have hf := hI.2.2.2.2.2.1
  refine E_C_fault ⟨fun h => ⟨fun h1 => E_M_fault ⟨fun _ => ⟨fun _ => ⟨rfl, okT hI⟩, fun z => absurd h1 z⟩, fun z => absurd h z⟩, fun h1 => E_M_fault ⟨fun _ => ⟨fun z => absurd z h1, fun _ => ⟨by rw [hf.2], okT hI⟩⟩, fun z => absurd h z⟩⟩, fun h => E_M_fault ⟨fun z => absurd z h, fun _ => ⟨by rw [hf.1], okT hI⟩⟩⟩
theorem numberOf_loop {y : Int} (hp : isPlan p) (h6 : I p 13 ≤ 6) : ∀ (n k : Nat), (k : Int) + n = I p 13 → Q [.inl (pOf (I (p + 1)) y k n)] (mem Ls p I L) → m_Wp i_Plan_numberOf 2 kc ks [(0, .inr (.inr p)), (1, .inl y), (2, .inl (k : Int))] [] (mem Ls p I L) Q := by
  intro n
  induction n with
  | zero => intro k hk hQ; exact T_Plan_numberOf_2 hp ⟨fun _ => hQ, fun h => by omega⟩
  | succ n ih =>
    intro k hk hQ
    rw [pOf] at hQ
    refine T_Plan_numberOf_2 hp ?_
    rw [Int.toNat_natCast, show wr ((k : Int) + 1) = ((k + 1 : Nat) : Int) by rw [wr_of] <;> omega]
    refine ⟨fun h => by omega, fun _ => ⟨by omega, fun h => ?_, fun h => ?_⟩⟩
    · rw [if_neg h] at hQ; exact ih (k + 1) (by omega) hQ
    · rw [if_pos (Classical.not_not.mp h)] at hQ; exact hQ
theorem find_loop {y : Int} {b : Nat} {N : Int} (hb : b = 0 ∨ b = 6) (h6 : N ≤ 6) {f : Nat → Int} (hf : ∀ k : Nat, (k : Int) < N → I 103 (b + k) = f k) : ∀ (n k : Nat), (k : Int) + n = N → Q [.inl (pOf f y k n)] (mem Ls p I L) → m_Wp i_M_find 3 kc ks [(0, .inr (.inr 103)), (1, .inl (b : Int)), (2, .inl N), (3, .inl y), (4, .inl (k : Int))] [] (mem Ls p I L) Q := by
  intro n
  induction n with
  | zero => intro k hk hQ; exact T_M_find_3 ⟨fun _ => hQ, fun h => by omega⟩
  | succ n ih =>
    intro k hk hQ
    rw [pOf] at hQ
    refine T_M_find_3 ?_
    rw [wr_of (z := (b : Int) + (k : Int)) (by omega) (by omega), show ((b : Int) + (k : Int)).toNat = b + k by omega, hf k (by omega), show wr ((k : Int) + 1) = ((k + 1 : Nat) : Int) by rw [wr_of] <;> omega]
    refine ⟨fun h => by omega, fun _ => ⟨by omega, fun h => ?_, fun h => ?_⟩⟩
    · rw [if_neg h] at hQ; exact ih (k + 1) (by omega) hQ
    · rw [if_pos (Classical.not_not.mp h)] at hQ; exact hQ
theorem pair_named {a : Int} (hI : INV p I L) : PAIR Ls i_C_named i_M_named [.inl a] (mem Ls p I L) := by
  have h6 := hI.2.1.1
  have h12 : I 98 12 = I p 13 := hI.2.2.1.1.1
  refine E_C_named hI.1 (E_Plan_numberOf hI.1 (numberOf_loop hI.1 h6.2 (I p 13).toNat 0 (by omega) (T_C_named_8 (E_M_named (E_M_find ?_)))))
  rw [h12]
  refine find_loop (b := 0) (Or.inl rfl) h6.2 (f := I (p + 1)) (fun k hk => ?_) (I p 13).toNat 0 (by omega) (T_M_named_18 ⟨rfl, okT hI⟩)
  rw [Nat.zero_add, mup_other (by omega)]; exact (hI.2.2.1.2.1 k hk).1
theorem pair_meeting {a b : Int} (hI : INV p I L) : PAIR Ls i_C_meeting i_M_meeting [.inl a, .inl b] (mem Ls p I L) := by
  have h15 := hI.2.1.2.2.1
  have h14 : I 98 14 = I p 15 := hI.2.2.1.1.2.2.1
  have hnow := (now_eq hI).2.2.2.2.2.2
  have hpm := hI.2.2.1.2.2.2.1
  -- the reference
  have go : ∀ v : Int, (¬ (0 ≤ a ∧ a < I p 15) → v = -1) → (∀ m : Nat, (m : Int) = a → (m : Int) < I p 15 → v = if b = 0 then I (p + 8) m else if b = 1 then I (p + 9) m else if b = 2 then I 33 m else if b = 3 then I 36 m else if b = 4 then I 34 m else if b = 5 then I 35 m else -1) → m_Call i_M_meeting [.inr (.inr 98), .inl a, .inl b] (mem Ls p I L) (fun w M2 => w = [.inl v] ∧ OKM Ls M2) := fun v hv1 hv2 => by
    refine E_M_meeting (r_isMeeting ?_)
    rw [mup_ne (by omega), h14]
    by_cases ha : 0 ≤ a ∧ a < I p 15
    · rw [b01_one.mpr ha]
      have hv := hv2 a.toNat (by omega) (by omega)
      have hn := hnow a.toNat (by omega)
      have hq := hpm a.toNat (by omega)
      refine T_M_meeting_10 ?_
      rw [wr_of (z := 2 * a) (by omega) (by omega), wr_of (z := 2 * a + 1) (by omega) (by omega), show (2 * a).toNat = 2 * a.toNat by omega, show (2 * a + 1).toNat = 2 * a.toNat + 1 by omega, mup_other (by omega), mup_other (by omega), mup_other (by omega), mup_other (by omega), mup_other (by omega), hn.1, hn.2.1, hn.2.2.1, hn.2.2.2, hq.1, hq.2.1]
      refine ⟨fun _ => ⟨fun h => ⟨by omega, ?_, okT hI⟩, fun h0 => ⟨fun h => ⟨by omega, ?_, okT hI⟩, fun h1 => ⟨fun h => ⟨by omega, ?_, okT hI⟩, fun h2 => ⟨fun h => ⟨by omega, ?_, okT hI⟩, fun h3 => ⟨fun h => ⟨by omega, ?_, okT hI⟩, fun h4 => ⟨fun h => ⟨by omega, ?_, okT hI⟩, fun h5 => ⟨?_, okT hI⟩⟩⟩⟩⟩⟩⟩, fun z => by omega⟩
      · rw [if_pos h] at hv; rw [hv]
      · rw [if_neg h0, if_pos h] at hv; rw [hv]
      · rw [if_neg h0, if_neg h1, if_pos h] at hv; rw [hv]
      · rw [if_neg h0, if_neg h1, if_neg h2, if_pos h] at hv; rw [hv]
      · rw [if_neg h0, if_neg h1, if_neg h2, if_neg h3, if_pos h] at hv; rw [hv]
      · rw [if_neg h0, if_neg h1, if_neg h2, if_neg h3, if_neg h4, if_pos h] at hv; rw [hv]
      · rw [if_neg h0, if_neg h1, if_neg h2, if_neg h3, if_neg h4, if_neg h5] at hv; rw [hv]
    · rw [b01_zero.mpr ha]
      exact T_M_meeting_10 ⟨fun z => absurd rfl z, fun _ => ⟨by rw [hv1 ha], okT hI⟩⟩
  refine E_C_meeting (q_isMeeting hI.1 (T_C_meeting_5 hI.1 ⟨fun h => ?_, fun h => go _ (fun _ => rfl) (fun m h1 h2 => absurd ⟨by omega, by omega⟩ (b01_zero.mp (Classical.not_not.mp h)))⟩))
  rw [b01_zero] at h
  have ha : 0 ≤ a ∧ a < I p 15 := Classical.not_not.mp h
  have hm : ∀ m : Nat, (m : Int) = a → a.toNat = m := fun m hm => by omega
  refine ⟨fun h => ⟨by omega, go _ (fun z => absurd ha z) (fun m e1 e2 => by rw [if_pos h, hm m e1])⟩, fun h0 => ⟨fun h => ⟨by omega, go _ (fun z => absurd ha z) (fun m e1 e2 => by rw [if_neg h0, if_pos h, hm m e1])⟩, fun h1 => ⟨fun h => ⟨by omega, go _ (fun z => absurd ha z) (fun m e1 e2 => by rw [if_neg h0, if_neg h1, if_pos h, hm m e1])⟩, fun h2 => ⟨fun h => ⟨by omega, go _ (fun z => absurd ha z) (fun m e1 e2 => by rw [if_neg h0, if_neg h1, if_neg h2, if_pos h, hm m e1])⟩, fun h3 => ⟨fun h => ⟨by omega, go _ (fun z => absurd ha z) (fun m e1 e2 => by rw [if_neg h0, if_neg h1, if_neg h2, if_neg h3, if_pos h, hm m e1])⟩, fun h4 => ⟨fun h => ⟨by omega, go _ (fun z => absurd ha z) (fun m e1 e2 => by rw [if_neg h0, if_neg h1, if_neg h2, if_neg h3, if_neg h4, if_pos h, hm m e1])⟩, fun h5 => go _ (fun z => absurd ha z) (fun m e1 e2 => by rw [if_neg h0, if_neg h1, if_neg h2, if_neg h3, if_neg h4, if_neg h5])⟩⟩⟩⟩⟩⟩
theorem pair_shows {a : Int} (hI : INV p I L) : PAIR Ls i_C_shows i_M_shows [.inl a] (mem Ls p I L) := by
  have h6 := hI.2.1.1
  have h12 : I 98 12 = I p 13 := hI.2.2.1.1.1
  have hn := now_eq hI
  refine E_C_shows (q_isPerson hI.1 (T_C_shows_5 ⟨fun h => E_M_shows (r_isMan ?_), fun h => ?_⟩))
  · rw [mup_ne (by omega), h12]; exact T_M_shows_10 ⟨fun _ => ⟨rfl, okT hI⟩, fun z => absurd h z⟩
  · have ha : 0 ≤ a ∧ a < I p 13 := by rw [b01_zero] at h; omega
    refine ⟨by omega, E_M_shows (r_isMan ?_)⟩
    rw [mup_ne (by omega), h12]
    refine T_M_shows_10 ⟨fun z => absurd z h, fun _ => ⟨by omega, by omega, ?_, okT hI⟩⟩
    rw [mup_ne (by omega), mup_ne (by omega), hn.1, (hn.2.2.2.2.1 a.toNat (by omega)).1]
theorem pair_apart {a b : Int} (hI : INV p I L) : PAIR Ls i_C_apart i_M_apart [.inl a, .inl b] (mem Ls p I L) := by
  have h6 := hI.2.1.1
  have h12 : I 98 12 = I p 13 := hI.2.2.1.1.1
  have hn := (now_eq hI).2.2.2.2.1
  have ref : ¬ ((0 ≤ a ∧ a < I p 13) ∧ (0 ≤ b ∧ b < I p 13)) → m_Call i_M_apart [.inr (.inr 98), .inl a, .inl b] (mem Ls p I L) (fun w M2 => w = [.inl (-1)] ∧ OKM Ls M2) := fun h => by
    refine E_M_apart (r_isMan ?_)
    rw [mup_ne (by omega), h12]
    refine T_M_apart_10 ⟨fun _ => ⟨rfl, okT hI⟩, fun h1 => r_isMan ?_⟩
    rw [mup_ne (by omega), h12]
    refine T_M_apart_18 ⟨fun h2 => ?_, fun _ => ⟨rfl, okT hI⟩⟩
    rw [b01_zero] at h1 h2; omega
  refine E_C_apart (q_isPerson hI.1 (T_C_apart_5 ⟨fun h => ref (fun z => (b01_zero.mp h) z.1), fun h => q_isPerson hI.1 (T_C_apart_13 ⟨fun h2 => ?_, fun h2 => ref (fun z => (b01_zero.mp (Classical.not_not.mp h2)) z.2)⟩)⟩))
  rw [b01_zero] at h h2
  have o1 := hI.2.2.2.1.1.2.2.2.2.2.2.1 a.toNat (by omega)
  have o2 := hI.2.2.2.1.1.2.2.2.2.2.2.1 b.toNat (by omega)
  rw [show dat I 28 1 = I 29 from dat_at (by omega)] at o1 o2
  refine ⟨by omega, by omega, E_M_apart (r_isMan ?_)⟩
  rw [mup_ne (by omega), h12]
  refine T_M_apart_10 ⟨fun z => absurd (b01_zero.mp z) (fun y => y (by omega)), fun h1 => r_isMan ?_⟩
  rw [mup_ne (by omega), h12]
  refine T_M_apart_18 ⟨fun _ => ⟨by omega, by omega, ?_⟩, fun z => absurd (b01_zero.mp (Classical.not_not.mp z)) (fun y => y (by omega))⟩
  rw [mup_other (by omega), (hn a.toNat (by omega)).1, (hn b.toNat (by omega)).1, wr_of (z := I 29 a.toNat - I 29 b.toNat) (by omega) (by omega), wr_of (z := I 29 b.toNat - I 29 a.toNat) (by omega) (by omega), wr_of (z := 0 - (I 29 a.toNat - I 29 b.toNat)) (by omega) (by omega)]
  refine ⟨fun h3 => ⟨by omega, by omega, ?_, okT hI⟩, fun h3 => ⟨by omega, by omega, ?_, okT hI⟩⟩
  · congr 2; split <;> omega
  · congr 2; split <;> omega
theorem pair_queue {a : Int} (hI : INV p I L) : PAIR Ls i_C_queue i_M_queue [.inl a] (mem Ls p I L) := by
  have hn := now_eq hI
  have hD := hI.2.2.2.1.1
  have h20 := hD.2.2.1
  have d0 : dat I 28 0 = I 28 := dat_at (by omega)
  rw [d0] at h20
  refine E_C_queue ⟨fun h => E_M_queue ⟨fun _ => ⟨rfl, okT hI⟩, fun z => absurd h z⟩, fun h => ⟨fun h2 => ⟨by omega, E_M_queue ⟨fun z => absurd z h, fun _ => ⟨by omega, ?_⟩⟩⟩, fun h2 => E_M_queue ⟨fun z => absurd z h, fun _ => ⟨by omega, fun z => ?_, fun _ => ⟨rfl, okT hI⟩⟩⟩⟩⟩
  · have hq := hn.2.2.2.2.2.1 a.toNat (by omega)
    have hr := hD.2.2.2.2.2.2.2.1 a.toNat (by rw [d0]; omega)
    rw [show dat I 28 4 = I 32 from dat_at (by omega)] at hr
    have h6 := hI.2.1.1
    rw [hn.2.1, hq]
    refine ⟨fun _ => ⟨by omega, fun h4 => ⟨by omega, ?_, okT hI⟩, fun h4 => ⟨?_, okT hI⟩⟩, fun z => absurd h2 z⟩
    · unfold en at h4 ⊢
      split at h4
      · omega
      · next hh => rw [if_neg hh]
    · unfold en at h4
      split at h4
      · next hh => rw [hh]
      · omega
  · rw [hn.2.1] at z; omega
end Q13
