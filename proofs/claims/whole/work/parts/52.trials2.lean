section Q3
variable {Ls p kc ks : Nat} {I I0 I1 J K L L1 K2 d e : Nat → Nat → Int} {Q : List mV → mM → Prop} {x : Int}
/-! delay -/
def tdF (I0 : Nat → Nat → Int) (p : Nat) (q : Nat) (y : Int) : Nat → Nat → (Nat → Nat → Int) → Int
  | _, 0, _ => -2
  | k, n + 1, d => if fMin I0 p d 3 q ≤ y then tdF I0 p q y (k + 1) n (fMin I0 p d) else (k : Int)
theorem told_c {M : Int} {q : Nat} {y : Int} (hq : q < 6) : ∀ (n k : Nat) (d L' : Nat → Nat → Int), k + n = 100 → cIn p I I0 M d → d 0 10 + n ≤ 20000 → lkeep L L' → (∀ d' L2, lkeep L L2 → cIn p I I0 M d' → Q [.inl (tdF I0 p q y k n d)] (mem Ls p (dput I0 46 d') L2)) → m_Wp i_C_minutesTillTold 12 kc ks [(0, .inr (.inr 2)), (1, .inl (q : Int)), (2, .inl y), (3, .inl (k : Int))] [] (mem Ls p (dput I0 46 d) L') Q := by
  intro n
  induction n with
  | zero =>
    intro k d L' hk hc hm hL K
    exact T_C_minutesTillTold_12 ⟨fun _ => K d L' hL hc, fun h => by omega⟩
  | succ n ih =>
    intro k d L' hk hc hm hL K
    rw [tdF] at K
    refine T_C_minutesTillTold_12 ⟨fun h => by omega, fun _ => q_minT hc (by omega) (fun L2 hL2 hc2 => T_C_minutesTillTold_29 ?_)⟩
    have e49 : dput I0 46 (fMin I0 p d) 49 = fMin I0 p d 3 := dput_at (c := 46) (j := 3) (by omega)
    have hLL : lkeep L L2 := fun a ha => by rw [hL2 a ha, hL a ha]
    rw [e49, Int.toNat_natCast, show wr ((k : Int) + 1) = ((k + 1 : Nat) : Int) by rw [wr_of] <;> omega]
    refine ⟨by omega, fun h => ?_, fun h => ?_⟩
    · rw [if_pos h] at K; exact ih (k + 1) _ L2 (by omega) hc2 (by rw [fMin_minute]; omega) hLL K
    · rw [if_neg h] at K; exact K _ L2 hLL hc2
theorem q_tillTold {M : Int} {q : Int} (hq : 0 ≤ q ∧ q < 6) (hc : cIn p I I0 M d) (hm : d 0 10 ≤ 15000) (K : ∀ d' L2, lkeep L L2 → cIn p I I0 M d' → Q [.inl (tdF I0 p q.toNat (d 3 q.toNat) 1 99 d)] (mem Ls p (dput I0 46 d') L2)) : m_Call i_C_minutesTillTold [.inr (.inr 2), .inl q] (mem Ls p (dput I0 46 d) L) Q := by
  have e49 : dput I0 46 d 49 = d 3 := dput_at (c := 46) (j := 3) (by omega)
  refine E_C_minutesTillTold ⟨hq, ?_⟩
  rw [e49]
  have := told_c (Ls := Ls) (kc := 0) (ks := 0) (Q := Q) (q := q.toNat) (y := d 3 q.toNat) (by omega) 99 1 d L (by omega) hc (by omega) (fun _ _ => rfl) K
  rw [show ((q.toNat : Nat) : Int) = q by omega] at this
  exact this
theorem told_m {M : Int} {q : Nat} {y : Int} (hq : (q : Int) < I0 p 13) (h6 : I0 p 13 ≤ 6) : ∀ (n k : Nat) (d e K' : Nat → Nat → Int) (x : Int), k + n = 100 → mIn p I I0 J M d e → d 0 10 + n ≤ 20000 → KT K K' → (∀ e' x' K2, KT K K2 → Q [.inl (tdF I0 p q y k n d)] (mem Ls p (jm J 1 e' x') K2)) → m_Wp i_M_toldBy 12 kc ks [(0, .inr (.inr 98)), (1, .inl (q : Int)), (2, .inl y), (3, .inl (k : Int))] [] (mem Ls p (jm J 1 e x) K') Q := by
  intro n
  induction n with
  | zero =>
    intro k d e K' x hk hc hm hL K
    exact T_M_toldBy_12 ⟨fun _ => K e x K' hL, fun h => by omega⟩
  | succ n ih =>
    intro k d e K' x hk hc hm hL K
    rw [tdF] at K
    refine T_M_toldBy_12 ⟨fun h => by omega, fun _ => r_minT2 hc (by omega) (fun e2 x2 K2 hc2 hL2 => T_M_toldBy_23 ?_)⟩
    have e128 : jm J 1 e2 x2 128 (6 + q) = fMin I0 p d 3 q := by
      have := (jS (b := 1) (mup J 98 52 x2) e2).2.2.2.1 q (by omega)
      unfold jm; rw [show 6 + q = 6 * 1 + q by omega, this]
      exact (hc2.2.2.2.2.2.2.2.2.2.1 q hq).2.2.1
    rw [wr_of (z := 6 + (q : Int)) (by omega) (by omega), show (6 + (q : Int)).toNat = 6 + q by omega, e128, show wr ((k : Int) + 1) = ((k + 1 : Nat) : Int) by rw [wr_of] <;> omega]
    refine ⟨by omega, fun h => ?_, fun h => ?_⟩
    · rw [if_pos h] at K; exact ih (k + 1) _ e2 K2 x2 (by omega) hc2 (by rw [fMin_minute]; omega) (hL.tr hL2) K
    · rw [if_neg h] at K; exact K e2 x2 K2 (hL.tr hL2)
theorem r_toldBy {M : Int} {q : Int} (hq : 0 ≤ q ∧ q < I0 p 13) (h6 : I0 p 13 ≤ 6) (hc : mIn p I I0 J M d e) (hm : d 0 10 ≤ 15000) (hQ : ∀ e' x' K2, KT K K2 → Q [.inl (tdF I0 p q.toNat (d 3 q.toNat) 1 99 d)] (mem Ls p (jm J 1 e' x') K2)) : m_Call i_M_toldBy [.inr (.inr 98), .inl q] (mem Ls p (jm J 1 e x) K) Q := by
  have e128 : jm J 1 e x 128 (6 + q.toNat) = d 3 q.toNat := by
    have := (jS (b := 1) (mup J 98 52 x) e).2.2.2.1 q.toNat (by omega)
    unfold jm; rw [show 6 + q.toNat = 6 * 1 + q.toNat by omega, this]
    exact (hc.2.2.2.2.2.2.2.2.2.1 q.toNat (by omega)).2.2.1
  refine E_M_toldBy ?_
  rw [wr_of (z := 6 + q) (by omega) (by omega), show (6 + q).toNat = 6 + q.toNat by omega, e128]
  refine ⟨by omega, ?_⟩
  have := told_m (Ls := Ls) (kc := 0) (ks := 0) (Q := Q) (q := q.toNat) (y := d 3 q.toNat) (by omega) h6 99 1 d e K x (by omega) hc (by omega) KT.rfl' hQ
  rw [show ((q.toNat : Nat) : Int) = q by omega] at this
  exact this
theorem cIn_in {M : Int} {q : Int} (h : cIn p I I0 M d) (hq : 0 ≤ q ∧ q < I0 p 13) : cIn p I I0 M (dIn d q) := by
  obtain ⟨h1, h2, h3, h4, h5, h6⟩ := h
  exact ⟨h1, h2, h3, h4, h5, DOK_in h6 hq⟩
theorem dIn_minute {q : Int} : dIn d q 0 10 = d 0 10 := by unfold dIn; split <;> simp [mup_app]
theorem r_joinT {M : Int} {q : Int} (hc : mIn p I I0 J M d e) (hq : 0 ≤ q ∧ q < I0 p 13) (hQ : ∀ e', mIn p I I0 J M (dIn d q) e' → Q [.inl (if d 0 11 < 20 ∧ dMode d q = 0 then 1 else 0)] (mem Ls p (jm J 1 e' x) K)) : m_Call i_M_joins [.inr (.inr 98), .inl 1, .inl q] (mem Ls p (jm J 1 e x) K) Q := by
  obtain ⟨h1, h2, h3, h4, h5⟩ := hc
  exact r_joins (b := 1) (by omega) h1.2.1.1 h1.2.2.2.2.2 h5 hq (fun e' h' => hQ e' ⟨cIn_in h1 hq, h2, h3, h4, h'⟩)
theorem pair_delay {a : Int} (hI : INV p I L) : PAIR Ls i_C_delay i_M_delay [.inl a] (mem Ls p I L) := by
  have hp := hI.1
  have h6 := hI.2.1.1
  have h12 : I 98 12 = I p 13 := hI.2.2.1.1.1
  refine E_C_delay (q_isPerson hp (T_C_delay_5 ⟨fun h => ?_, fun h => ?_⟩))
  · have ha : 0 ≤ a ∧ a < I p 13 := by
      by_cases hh : 0 ≤ a ∧ a < I p 13
      · exact hh
      · exact absurd (b01_zero.mpr hh) h
    refine c_start2 hI (fun d hd hc hm => T_C_delay_14 (q_takesIn (Or.inr (Or.inr (Or.inl rfl))) hc.2.2.2.2.2.2.2.1 (by omega) (T_C_delay_22 (q_tillTold (by omega) (cIn_in hc (by rw [hc.2.2.2.2.1]; exact ha)) (by rw [dIn_minute]; omega) (fun d' L2 hL hc' => T_C_delay_28 ?_)))))
    refine E_M_delay (r_isMan ?_)
    rw [mup_ne (by omega), kC_trial 98 (by omega), h12]
    refine T_M_delay_10 ⟨fun _ => m_start2 hI kC_trial hd hc (fun e he => T_M_delay_19 (r_joinT he (by rw [hc.2.2.2.2.1]; exact ha) (fun e1 he1 => T_M_delay_25 (r_toldBy (by rw [hc.2.2.2.2.1]; exact ha) (by rw [hc.2.2.2.2.1]; omega) he1 (by rw [dIn_minute]; omega) (fun e' x' K2 hK => T_M_delay_31 ⟨rfl, mT_end hI kC_trial hL hK⟩))))), fun h2 => absurd (b01_zero.mp (Classical.not_not.mp h2)) (fun z => z ha)⟩
  · have ha := b01_zero.mp (Classical.not_not.mp h)
    refine E_M_delay (r_isMan ?_)
    rw [mup_ne (by omega), h12]
    exact T_M_delay_10 ⟨fun h2 => absurd (b01_zero.mpr ha) h2, fun _ => ⟨rfl, p, _, _, rfl, INV_thrown hI⟩⟩
/-! firstMissed -/
def fmL (f g : Nat → Int) : Nat → Nat → Int
  | _, 0 => -1
  | k, n + 1 => if f k = 2 ∧ g k ≠ 2 then (k : Int) else fmL f g (k + 1) n
def fmF (I0 : Nat → Nat → Int) (p : Nat) (w : Int) (M : Nat) (g : Nat → Int) : Nat → Nat → (Nat → Nat → Int) → Int
  | _, 0, _ => -2
  | k, n + 1, d => if fmL (fMin I0 p d 8) g 0 M = -1 then fmF I0 p w M g (k + 1) n (fMin I0 p d) else if w = 0 then (k : Int) else fmL (fMin I0 p d 8) g 0 M
theorem fmL_nat {f g : Nat → Int} : ∀ n k : Nat, fmL f g k n = -1 ∨ 0 ≤ fmL f g k n
  | 0, _ => Or.inl rfl
  | n + 1, k => by
    rw [fmL]; split
    · right; omega
    · exact fmL_nat n (k + 1)
theorem fm_in_c {M : Int} {w z : Int} (hc : cIn p I I0 M d) (hM : M ≤ 6) (g : Nat → Int) (hg : I 36 = g) (hI0 : I0 36 = I 36) (hz : 0 ≤ z ∧ z ≤ 200) (K1 : fmL (d 8) g 0 M.toNat = -1 → m_Wp i_C_firstMissed 17 kc ks [(0, .inr (.inr 2)), (1, .inl w), (2, .inl (z + 1))] [] (mem Ls p (dput I0 46 d) L) Q) (K2 : fmL (d 8) g 0 M.toNat ≠ -1 → Q [.inl (if w = 0 then z else fmL (d 8) g 0 M.toNat)] (mem Ls p (dput I0 46 d) L)) : ∀ (n k : Nat), (k : Int) + n = M → fmL (d 8) g 0 M.toNat = fmL (d 8) g k n → m_Wp i_C_firstMissed 37 kc ks [(0, .inr (.inr 2)), (1, .inl w), (2, .inl z), (3, .inl (k : Int))] [] (mem Ls p (dput I0 46 d) L) Q := by
  have hp := hc.1
  have sp := (dS hp (Or.inr (Or.inr (Or.inl rfl)) : isDay 46) I0 d).2.1
  have s8 : dput I0 46 d 54 = d 8 := (dS hp (Or.inr (Or.inr (Or.inl rfl)) : isDay 46) I0 d).1.2.2.2.2.2.2.2.2
  have s36 : dput I0 46 d 36 = g := by rw [dput_out (by omega), hI0, hg]
  have h4 := hc.2.2.2.1
  intro n
  induction n with
  | zero =>
    intro k hk hE
    refine T_C_firstMissed_37 hp ?_
    rw [sp, h4, wr_of (z := z + 1) (by omega) (by omega)]
    exact ⟨fun _ => K1 hE, fun h2 => by omega⟩
  | succ n ih =>
    intro k hk hE
    rw [fmL] at hE
    refine T_C_firstMissed_37 hp ?_
    rw [sp, h4, s8, s36, Int.toNat_natCast, show wr ((k : Int) + 1) = ((k + 1 : Nat) : Int) by rw [wr_of] <;> omega]
    refine ⟨fun h2 => by omega, fun _ => ⟨by omega, fun h2 => ?_, fun h2 => ⟨by omega, fun h3 => ?_, fun h3 => ?_⟩⟩⟩
    · rw [if_neg (by omega)] at hE; exact ih (k + 1) (by omega) hE
    · rw [if_neg (by omega)] at hE; exact ih (k + 1) (by omega) hE
    · rw [if_pos (by omega)] at hE
      have k2 := K2 (by omega)
      rw [hE] at k2
      refine ⟨fun h5 => ?_, fun h5 => ?_⟩
      · rw [if_neg h5] at k2; exact k2
      · rw [if_pos (by omega)] at k2; exact k2
theorem fm_c {M : Int} {w : Int} (hM : 0 ≤ M ∧ M ≤ 6) (g : Nat → Int) (hg : I 36 = g) (hI0 : I0 36 = I 36) : ∀ (n k : Nat) (d L' : Nat → Nat → Int), k + n = 201 → cIn p I I0 M d → d 0 10 + n ≤ 20000 → lkeep L L' → (∀ d' L2, lkeep L L2 → Q [.inl (fmF I0 p w M.toNat g k n d)] (mem Ls p (dput I0 46 d') L2)) → m_Wp i_C_firstMissed 17 kc ks [(0, .inr (.inr 2)), (1, .inl w), (2, .inl (k : Int))] [] (mem Ls p (dput I0 46 d) L') Q := by
  intro n
  induction n with
  | zero =>
    intro k d L' hk hc hm hL K
    exact T_C_firstMissed_17 ⟨fun _ => K d L' hL, fun h => by omega⟩
  | succ n ih =>
    intro k d L' hk hc hm hL K
    rw [fmF] at K
    refine T_C_firstMissed_17 ⟨fun h => by omega, fun _ => q_minT hc (by omega) (fun L2 hL2 hc2 => T_C_firstMissed_35 ?_)⟩
    have hLL : lkeep L L2 := fun a ha => by rw [hL2 a ha, hL a ha]
    refine fm_in_c hc2 hM.2 g hg hI0 (by omega) (fun h => ?_) (fun h => ?_) M.toNat 0 (by omega) rfl
    · rw [if_pos h] at K
      have := ih (k + 1) _ L2 (by omega) hc2 (by rw [fMin_minute]; omega) hLL K
      rw [show ((k + 1 : Nat) : Int) = (k : Int) + 1 by omega] at this
      exact this
    · rw [if_neg h] at K; exact K _ L2 hLL
theorem fm_in_m {M : Int} {w z : Int} (hc : mIn p I I0 J M d e) (hM : M ≤ 6) (g : Nat → Int) (hg : ∀ m : Nat, (m : Int) < M → J 135 m = g m) (hz : 0 ≤ z ∧ z ≤ 200) (K1 : fmL (d 8) g 0 M.toNat = -1 → m_Wp i_M_firstMissed 22 kc ks [(0, .inr (.inr 98)), (1, .inl w), (2, .inl (z + 1))] [] (mem Ls p (jm J 1 e x) K) Q) (K2 : fmL (d 8) g 0 M.toNat ≠ -1 → Q [.inl (if w = 0 then z else fmL (d 8) g 0 M.toNat)] (mem Ls p (jm J 1 e x) K)) : ∀ (n k : Nat), (k : Int) + n = M → fmL (d 8) g 0 M.toNat = fmL (d 8) g k n → m_Wp i_M_firstMissed 36 kc ks [(0, .inr (.inr 98)), (1, .inl w), (2, .inl z), (3, .inl (k : Int))] [] (mem Ls p (jm J 1 e x) K) Q := by
  have h14 : J 98 14 = M := by rw [hc.2.1.1.2.2.1]; exact hc.1.2.2.2.1
  intro n
  induction n with
  | zero =>
    intro k hk hE
    refine T_M_firstMissed_36 ?_
    rw [jm_98 (by omega), h14, wr_of (z := z + 1) (by omega) (by omega)]
    exact ⟨fun _ => K1 hE, fun h2 => by omega⟩
  | succ n ih =>
    intro k hk hE
    rw [fmL] at hE
    have e135 : jm J 1 e x 135 (6 + k) = d 8 k := by
      have := (jS (b := 1) (mup J 98 52 x) e).2.2.2.2.2.2.2.2.2.2.1 k (by omega)
      unfold jm; rw [show 6 + k = 6 * 1 + k by omega, this]
      exact (hc.2.2.2.2.2.2.2.2.2.2.2 k (by omega)).2.2.2
    have e135' : jm J 1 e x 135 k = g k := by
      unfold jm; rw [show 135 = 125 + 10 from rfl, jput1_lo (by show k < 6; omega), mup_other (by omega)]; exact hg k (by omega)
    refine T_M_firstMissed_36 ?_
    rw [jm_98 (by omega), h14, wr_of (z := 6 + (k : Int)) (by omega) (by omega), show (6 + (k : Int)).toNat = 6 + k by omega, e135, Int.toNat_natCast, e135', show wr ((k : Int) + 1) = ((k + 1 : Nat) : Int) by rw [wr_of] <;> omega]
    refine ⟨fun h2 => by omega, fun _ => ⟨by omega, fun h2 => ?_, fun h2 => ⟨by omega, fun h3 => ?_, fun h3 => ?_⟩⟩⟩
    · rw [if_neg (by omega)] at hE; exact ih (k + 1) (by omega) hE
    · rw [if_neg (by omega)] at hE; exact ih (k + 1) (by omega) hE
    · rw [if_pos (by omega)] at hE
      have k2 := K2 (by omega)
      rw [hE] at k2
      refine ⟨fun h5 => ?_, fun h5 => ?_⟩
      · rw [if_neg h5] at k2; exact k2
      · rw [if_pos (by omega)] at k2; exact k2
theorem fm_m {M : Int} {w : Int} (hM : 0 ≤ M ∧ M ≤ 6) (g : Nat → Int) (hg : ∀ m : Nat, (m : Int) < M → J 135 m = g m) : ∀ (n k : Nat) (d e K' : Nat → Nat → Int) (x : Int), k + n = 201 → mIn p I I0 J M d e → d 0 10 + n ≤ 20000 → KT K K' → (∀ e' x' K2, KT K K2 → Q [.inl (fmF I0 p w M.toNat g k n d)] (mem Ls p (jm J 1 e' x') K2)) → m_Wp i_M_firstMissed 22 kc ks [(0, .inr (.inr 98)), (1, .inl w), (2, .inl (k : Int))] [] (mem Ls p (jm J 1 e x) K') Q := by
  intro n
  induction n with
  | zero =>
    intro k d e K' x hk hc hm hL K
    exact T_M_firstMissed_22 ⟨fun _ => K e x K' hL, fun h => by omega⟩
  | succ n ih =>
    intro k d e K' x hk hc hm hL K
    rw [fmF] at K
    refine T_M_firstMissed_22 ⟨fun h => by omega, fun _ => r_minT2 hc (by omega) (fun e2 x2 K2 hc2 hL2 => T_M_firstMissed_34 ?_)⟩
    refine fm_in_m hc2 hM.2 g hg (by omega) (fun h => ?_) (fun h => ?_) M.toNat 0 (by omega) rfl
    · rw [if_pos h] at K
      have := ih (k + 1) _ e2 K2 x2 (by omega) hc2 (by rw [fMin_minute]; omega) (hL.tr hL2) K
      rw [show ((k + 1 : Nat) : Int) = (k : Int) + 1 by omega] at this
      exact this
    · rw [if_neg h] at K; exact K e2 x2 K2 (hL.tr hL2)
theorem pair_firstMissed {a : Int} (hI : INV p I L) : PAIR Ls i_C_firstMissed i_M_firstMissed [.inl a] (mem Ls p I L) := by
  have h15 := hI.2.1.2.2.1
  have ref : ¬ (0 ≤ a ∧ a ≤ 1) → m_Call i_M_firstMissed [.inr (.inr 98), .inl a] (mem Ls p I L) (fun w M2 => w = [.inl (-1)] ∧ OKM Ls M2) := fun h => by
    refine E_M_firstMissed (r_isIn (T_M_firstMissed_11 ⟨fun h2 => absurd (b01_zero.mpr h) h2, fun _ => ⟨rfl, p, _, _, rfl, INV_thrown hI⟩⟩))
  refine E_C_firstMissed ⟨fun h => ref (by omega), fun h => ⟨fun h2 => c_start2 hI (fun d hd hc hm => T_C_firstMissed_15 ?_), fun h2 => ref (by omega)⟩⟩
  refine fm_c h15 (I 36) rfl (flw_out (by omega)) 200 1 d L (by omega) hc (by omega) (fun _ _ => rfl) (fun d' L2 hL => ?_)
  refine E_M_firstMissed (r_isIn (T_M_firstMissed_11 ⟨fun h3 => m_start2 hI kC_trial hd hc (fun e he => T_M_firstMissed_20 ?_), fun h3 => absurd (b01_zero.mp (Classical.not_not.mp h3)) (fun z => z (by omega))⟩))
  refine fm_m h15 (I 36) (fun m hm2 => ?_) 200 1 d e L2 _ (by omega) he (by omega) KT.rfl' (fun e' x' K2 hK => ⟨rfl, mT_end hI kC_trial hL hK⟩)
  unfold J2
  rw [plainJ_out (by omega), mup_other (by omega), kC_trial _ (by omega)]
  have := (hI.2.2.2.1.2.1.2.2.2.2.2.2.2 m hm2).2.2.2
  rw [jat_at (by omega) (by show m < 6; omega), dat_at (by omega), Nat.zero_mul, Nat.zero_add] at this
  exact this
end Q3
