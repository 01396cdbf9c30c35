section Q2
variable {Ls p kc ks : Nat} {I I0 I1 J K L L1 K2 d e : Nat → Nat → Int} {Q : List mV → mM → Prop} {x : Int}
/-- longs behind trials without numbers -/
def KT (K K2 : Nat → Nat → Int) : Prop := (∀ a, a ≠ 98 → a ≠ 123 → a ≠ 124 → K2 a = K a) ∧ (∀ k, K2 98 k = K 98 k)
theorem KT.rfl' : KT K K := ⟨fun _ _ _ _ => rfl, fun _ => rfl⟩
theorem KT.tr {K K1 K2 : Nat → Nat → Int} (h : KT K K1) (g : KT K1 K2) : KT K K2 := ⟨fun a h1 h2 h3 => by rw [g.1 a h1 h2 h3, h.1 a h1 h2 h3], fun k => by rw [g.2 k, h.2 k]⟩
theorem KG.kt (h0 : J 98 67 = 0) (h : KG J K K2 d) : KT K K2 := ⟨h.1, fun k => by
  by_cases hk : k = 66
  · subst hk; exact h.2.2.1 h0
  · exact h.2.1 k hk⟩
theorem KT.kg (h0 : J 98 67 = 0) (h : KT K K2) : KG J K K2 d := ⟨h.1, fun k _ => h.2 k, fun _ => h.2 66, fun z => absurd h0 z⟩
theorem mT_end (hI : INV p I L) (hk : ∀ a, a < 46 ∨ 67 ≤ a → I1 a = I a) (hL : lkeep L L1) (hG : KT L1 K2) : OKM Ls (mem Ls p (jm (J2 I1) 1 e x) K2) := m_end (d := fun _ _ => 0) hI hk hL (hG.kg J2_67)
theorem tf {v : Int} (hp : isPlan p) (hpl : planOK I p) : planOK (flw I p v) p ∧ wayOK (flw I p v) (flw I p v p 13) ∧ flw I p v p = I p := by
  have h := flw_p (I := I) (v := v) hp
  refine ⟨(flw_plan hp hpl).1, ?_, h⟩
  rw [h]; exact (flw_plan hp hpl).2
theorem r_minT {M : Int} (hR : PR I0 p J) (hW : WR I0 p J) (hpl : planOK I0 p) (hwy : wayOK I0 (I0 p 13)) (hM : I0 p 15 = M) (h67 : J 98 67 = 0) (hd : DOK (I0 p 13) M d) (h : DR (I0 p 13) M d e) (hm : d 0 10 ≤ 20000)
    (hQ : ∀ e' x' K', DR (I0 p 13) M (fMin I0 p d) e' → KT K K' → Q [] (mem Ls p (jm J 1 e' x') K')) : m_Call i_M_minuteGoes [.inr (.inr 98), .inl 1] (mem Ls p (jm J 1 e x) K) Q :=
  r_minuteGoes (b := 1) (by omega) hR hW hpl hwy hM hd h hm (fun z => absurd h67 z) (fun e' x' K' h' hK => hQ e' x' K' h' (hK.kt h67))
/-- trial: what class and reference start from -/
def cIn (p : Nat) (I I0 : Nat → Nat → Int) (M : Int) (d : Nat → Nat → Int) : Prop := isPlan p ∧ planOK I0 p ∧ wayOK I0 (I0 p 13) ∧ I0 p 15 = M ∧ I0 p = I p ∧ DOK (I0 p 13) M d
theorem c_start2 (hI : INV p I L) (h : ∀ d, agr (dat I 28) d → cIn p I (flw I p 0) (I p 15) d → d 0 10 ≤ 9000 → Q [] (mem Ls p (dput (flw I p 0) 46 d) L)) : m_Call i_C_startTrial [.inr (.inr 2)] (mem Ls p I L) Q := by
  have t := tf (v := 0) hI.1 hI.2.1
  exact c_start hI (fun d h1 h2 h3 => h d h1 ⟨hI.1, t.1, t.2.1, by rw [t.2.2], t.2.2, by rw [t.2.2]; exact h2⟩ h3)
theorem q_minT {M : Int} (h : cIn p I I0 M d) (hm : d 0 10 ≤ 20000) (K : ∀ L2, lkeep L L2 → cIn p I I0 M (fMin I0 p d) → Q [] (mem Ls p (dput I0 46 (fMin I0 p d)) L2)) : m_Call i_Way_passMinute [.inr (.inr 64), .inr (.inr 46)] (mem Ls p (dput I0 46 d) L) Q := by
  obtain ⟨h1, h2, h3, h4, h5, h6⟩ := h
  exact q_passMinute h1 (Or.inr (Or.inr (Or.inl rfl))) h2 h3 h4 h6 hm (fun L2 hL => K L2 hL ⟨h1, h2, h3, h4, h5, DOK_fMin h2 h6⟩)
/-- the two days of a trial, and what the reference goes by -/
def mIn (p : Nat) (I I0 J : Nat → Nat → Int) (M : Int) (d e : Nat → Nat → Int) : Prop := cIn p I I0 M d ∧ PR I0 p J ∧ WR I0 p J ∧ J 98 67 = 0 ∧ DR (I0 p 13) M d e
theorem r_minT2 {M : Int} (h : mIn p I I0 J M d e) (hm : d 0 10 ≤ 20000) (hQ : ∀ e' x' K', mIn p I I0 J M (fMin I0 p d) e' → KT K K' → Q [] (mem Ls p (jm J 1 e' x') K')) : m_Call i_M_minuteGoes [.inr (.inr 98), .inl 1] (mem Ls p (jm J 1 e x) K) Q := by
  obtain ⟨⟨h1, h2, h3, h4, h5, h6⟩, a1, a2, a3, a4⟩ := h
  exact r_minT a1 a2 h2 h3 h4 a3 h6 a4 hm (fun e' x' K' h' hK => hQ e' x' K' ⟨⟨h1, h2, h3, h4, h5, DOK_fMin h2 h6⟩, a1, a2, a3, h'⟩ hK)
theorem m_start2 (hI : INV p I L) (hk : ∀ a, a < 46 ∨ 67 ≤ a → I1 a = I a) (hd : agr (dat I 28) d) (hc : cIn p I (flw I p 0) (I p 15) d) (h : ∀ e, mIn p I (flw I p 0) (J2 I1) (I p 15) d e → Q [] (mem Ls p (jm (J2 I1) 1 e (J2 I1 98 52)) L1)) : m_Call i_M_layTried [.inr (.inr 98)] (mem Ls p (mup I1 98 2 0) L1) Q := by
  refine m_start hI hk hd (fun e he => h e ⟨hc, m_rel hI hk, WR_plain hI.1 hI.2.1, J2_67, ?_⟩)
  rw [hc.2.2.2.2.1]; exact he
theorem cIn_mins {M : Int} (h : cIn p I I0 M d) (n : Nat) : cIn p I I0 M (mins I0 p n d) := by
  obtain ⟨h1, h2, h3, h4, h5, h6⟩ := h
  exact ⟨h1, h2, h3, h4, h5, DOK_mins h2 n h6⟩
theorem q_passT {M N : Int} (h : cIn p I I0 M d) (hN : 0 ≤ N ∧ N ≤ 1000) (hm : d 0 10 + N ≤ 20000) (K : ∀ L2, lkeep L L2 → Q [] (mem Ls p (dput I0 46 (mins I0 p N.toNat d)) L2)) : m_Call i_C_passTrial [.inr (.inr 2), .inl N] (mem Ls p (dput I0 46 d) L) Q := by
  obtain ⟨h1, h2, h3, h4, h5, h6⟩ := h
  exact q_passTrial h1 h2 h3 h4 hN h6 hm K
theorem r_goT {M N : Int} (h : mIn p I I0 J M d e) (hN : 0 ≤ N ∧ N ≤ 1000) (hm : d 0 10 + N ≤ 20000) (hQ : ∀ e' x' K', mIn p I I0 J M (mins I0 p N.toNat d) e' → KT K K' → Q [] (mem Ls p (jm J 1 e' x') K')) : m_Call i_M_goMany [.inr (.inr 98), .inl N] (mem Ls p (jm J 1 e x) K) Q := by
  have hc := cIn_mins h.1 N.toNat
  obtain ⟨⟨h1, h2, h3, h4, h5, h6⟩, a1, a2, a3, a4⟩ := h
  exact r_goMany a1 a2 h2 h3 h4 hN h6 a4 hm (fun z => absurd a3 z) (fun e' x' K' h' hK => hQ e' x' K' ⟨hc, a1, a2, a3, h'⟩ (hK.kt a3))
/-! certain -/
def cbits (f : Nat → Int) : Nat → Nat → Int → Int
  | _, 0, x => x
  | k, n + 1, x => cbits f (k + 1) n (if f k = 1 then m_or x (m_shl 1 (k : Int)) else x)
theorem m_or_zero (x : Int) : m_or x 0 = wr x := by unfold m_or wr; rw [show Int32.ofInt 0 = 0 from rfl, Int32.or_zero]
theorem wr_or (x y : Int) : wr (m_or x y) = m_or x y := by unfold m_or; exact wr_toInt _
theorem certain_c {M : Int} (h : cIn p I I0 M d) (hm : M ≤ 6) : ∀ (n k : Nat) (y : Int), (k : Int) + n = M → Q [.inl (cbits (d 8) k n y)] (mem Ls p (dput I0 46 d) L) → m_Wp i_C_certain 15 kc ks [(0, .inr (.inr 2)), (1, .inl y), (2, .inl (k : Int))] [] (mem Ls p (dput I0 46 d) L) Q := by
  have hp := h.1
  have sp := (dS hp (Or.inr (Or.inr (Or.inl rfl)) : isDay 46) I0 d).2.1
  have s8 : dput I0 46 d 54 = d 8 := (dS hp (Or.inr (Or.inr (Or.inl rfl)) : isDay 46) I0 d).1.2.2.2.2.2.2.2.2
  have hM := h.2.2.2.1
  intro n
  induction n with
  | zero =>
    intro k y hk hQ
    refine T_C_certain_15 hp ?_
    rw [sp, hM]
    exact ⟨fun _ => hQ, fun h2 => by omega⟩
  | succ n ih =>
    intro k y hk hQ
    refine T_C_certain_15 hp ?_
    rw [sp, hM, s8, Int.toNat_natCast, show wr ((k : Int) + 1) = ((k + 1 : Nat) : Int) by rw [wr_of] <;> omega]
    rw [cbits] at hQ
    refine ⟨fun h2 => by omega, fun _ => ⟨by omega, fun h2 => ?_, fun h2 => ?_⟩⟩
    · rw [if_neg h2] at hQ; exact ih (k + 1) y (by omega) hQ
    · rw [if_pos (Classical.not_not.mp h2)] at hQ; exact ih (k + 1) _ (by omega) hQ
theorem certain_m {M : Int} (h : mIn p I I0 J M d e) (hm : M ≤ 6) : ∀ (n k : Nat) (y : Int), (k : Int) + n = M → wr y = y → Q [.inl (cbits (d 8) k n y)] (mem Ls p (jm J 1 e x) K) → m_Wp i_M_certain 20 kc ks [(0, .inr (.inr 98)), (1, .inl y), (2, .inl (k : Int))] [] (mem Ls p (jm J 1 e x) K) Q := by
  have h14 : J 98 14 = M := by rw [h.2.1.1.2.2.1]; exact h.1.2.2.2.1
  intro n
  induction n with
  | zero =>
    intro k y hk hy hQ
    refine T_M_certain_20 ?_
    rw [jm_98 (by omega), h14]
    exact ⟨fun _ => hQ, fun h2 => by omega⟩
  | succ n ih =>
    intro k y hk hy hQ
    have e135 : jm J 1 e x 135 (6 + k) = d 8 k := by
      have := (jS (b := 1) (mup J 98 52 x) e).2.2.2.2.2.2.2.2.2.2.1 k (by omega)
      unfold jm; rw [show 6 + k = 6 * 1 + k by omega, this]
      exact (h.2.2.2.2.2.2.2.2.2.2.2 k (by omega)).2.2.2
    refine T_M_certain_20 ?_
    rw [jm_98 (by omega), h14, wr_of (z := 6 + (k : Int)) (by omega) (by omega), show (6 + (k : Int)).toNat = 6 + k by omega, e135, show wr ((k : Int) + 1) = ((k + 1 : Nat) : Int) by rw [wr_of] <;> omega, m_or_zero, hy]
    rw [cbits] at hQ
    refine ⟨fun h2 => by omega, fun _ => ⟨by omega, fun h2 => ?_, fun h2 => ?_⟩⟩
    · rw [if_neg h2] at hQ; exact ih (k + 1) y (by omega) hy hQ
    · rw [if_pos (Classical.not_not.mp h2)] at hQ; exact ih (k + 1) _ (by omega) (wr_or _ _) hQ
theorem pair_certain (hI : INV p I L) : PAIR Ls i_C_certain i_M_certain [] (mem Ls p I L) := by
  have h15 := hI.2.1.2.2.1
  refine E_C_certain (c_start2 hI (fun d hd hc hm => T_C_certain_4 (q_passT (N := 200) hc (by omega) (by omega) (fun L2 hL => T_C_certain_11 (certain_c (cIn_mins hc _) (by omega) (I p 15).toNat 0 0 (by omega) ?_)))))
  refine E_M_certain (m_start2 hI kC_trial hd hc (fun e he => T_M_certain_9 (r_goT (N := 200) he (by omega) (by omega) (fun e' x' K' he' hK => T_M_certain_16 (certain_m he' (by omega) (I p 15).toNat 0 0 (by omega) (by decide) ⟨rfl, mT_end hI kC_trial hL hK⟩)))))
/-! quiet -/
def quF (I0 : Nat → Nat → Int) (p : Nat) : Nat → Nat → (Nat → Nat → Int) → Int
  | _, 0, _ => -2
  | k, n + 1, d => if d 0 11 = 0 ∧ d 0 12 = -1 then (k : Int) else quF I0 p (k + 1) n (fMin I0 p d)
theorem quiet_c {M : Int} : ∀ (n k : Nat) (d L' : Nat → Nat → Int), k + n = 201 → cIn p I I0 M d → d 0 10 + n ≤ 20000 → lkeep L L' → (∀ d' L2, lkeep L L2 → Q [.inl (quF I0 p k n d)] (mem Ls p (dput I0 46 d') L2)) → m_Wp i_C_quiet 6 kc ks [(0, .inr (.inr 2)), (1, .inl (k : Int))] [] (mem Ls p (dput I0 46 d) L') Q := by
  intro n
  induction n with
  | zero =>
    intro k d L' hk hc hm hL K
    exact T_C_quiet_6 ⟨fun _ => K d L' hL, fun h => by omega⟩
  | succ n ih =>
    intro k d L' hk hc hm hL K
    have s0 : dput I0 46 d 46 = d 0 := dput_c
    rw [quF] at K
    have nx : ¬ (d 0 11 = 0 ∧ d 0 12 = -1) → m_Call i_Way_passMinute [.inr (.inr 64), .inr (.inr 46)] (mem Ls p (dput I0 46 d) L') (fun v M' => m_Wp i_C_quiet 47 kc ks [(0, .inr (.inr 2)), (1, .inl (k : Int))] (v ++ []) M' Q) := fun hn => by
      rw [if_neg hn] at K
      refine q_minT hc (by omega) (fun L2 hL2 hc2 => T_C_quiet_47 ?_)
      rw [show wr ((k : Int) + 1) = ((k + 1 : Nat) : Int) by rw [wr_of] <;> omega]
      exact ih (k + 1) _ L2 (by omega) hc2 (by rw [fMin_minute]; omega) (fun a ha => by rw [hL2 a ha, hL a ha]) K
    refine T_C_quiet_6 ?_
    rw [s0]
    refine ⟨fun h => by omega, fun _ => ⟨fun h => nx (by omega), fun h => ⟨fun h2 => nx (by omega), fun h2 => ?_⟩⟩⟩
    rw [if_pos (by omega)] at K; exact K d L' hL
theorem quiet_m {M : Int} : ∀ (n k : Nat) (d e K' : Nat → Nat → Int) (x : Int), k + n = 201 → mIn p I I0 J M d e → d 0 10 + n ≤ 20000 → KT K K' → (∀ e' x' K2, KT K K2 → Q [.inl (quF I0 p k n d)] (mem Ls p (jm J 1 e' x') K2)) → m_Wp i_M_quiet 11 kc ks [(0, .inr (.inr 98)), (1, .inl (k : Int))] [] (mem Ls p (jm J 1 e x) K') Q := by
  intro n
  induction n with
  | zero =>
    intro k d e K' x hk hc hm hL K
    exact T_M_quiet_11 ⟨fun _ => K e x K' hL, fun h => by omega⟩
  | succ n ih =>
    intro k d e K' x hk hc hm hL K
    have hr := hc.2.2.2.2
    have e130 : jm J 1 e x 130 1 = d 0 11 := by unfold jm; rw [(jS (b := 1) (mup J 98 52 x) e).2.2.2.2.2.1]; exact hr.2.1
    have e131 : jm J 1 e x 131 1 = e 6 0 := by unfold jm; rw [(jS (b := 1) (mup J 98 52 x) e).2.2.2.2.2.2.1]
    have h131 : e 6 0 = -1 ↔ d 0 12 = -1 := by rw [hr.2.2.1]; unfold en; split <;> omega
    rw [quF] at K
    have nx : ¬ (d 0 11 = 0 ∧ d 0 12 = -1) → m_Call i_M_minuteGoes [.inr (.inr 98), .inl 1] (mem Ls p (jm J 1 e x) K') (fun v M' => m_Wp i_M_quiet 44 kc ks [(0, .inr (.inr 98)), (1, .inl (k : Int))] (v ++ []) M' Q) := fun hn => by
      rw [if_neg hn] at K
      refine r_minT2 hc (by omega) (fun e2 x2 K2 hc2 hL2 => T_M_quiet_44 ?_)
      rw [show wr ((k : Int) + 1) = ((k + 1 : Nat) : Int) by rw [wr_of] <;> omega]
      exact ih (k + 1) _ e2 K2 x2 (by omega) hc2 (by rw [fMin_minute]; omega) (hL.tr hL2) K
    refine T_M_quiet_11 ?_
    rw [e130, e131]
    refine ⟨fun h => by omega, fun _ => ⟨by omega, fun h => nx (by omega), fun h => ⟨by omega, fun h2 => nx (fun z => h2 (h131.mpr z.2)), fun h2 => ?_⟩⟩⟩
    rw [if_pos ⟨by omega, h131.mp (by omega)⟩] at K; exact K e x K' hL
theorem pair_quiet (hI : INV p I L) : PAIR Ls i_C_quiet i_M_quiet [] (mem Ls p I L) := by
  refine E_C_quiet (c_start2 hI (fun d hd hc hm => T_C_quiet_4 (quiet_c 201 0 d L (by omega) hc (by omega) (fun _ _ => rfl) (fun d' L2 hL => ?_))))
  exact E_M_quiet (m_start2 hI kC_trial hd hc (fun e he => T_M_quiet_9 (quiet_m 201 0 d e L2 _ (by omega) he (by omega) KT.rfl' (fun e' x' K2 hK => ⟨rfl, mT_end hI kC_trial hL hK⟩))))
/-! longest -/
def loF (I0 : Nat → Nat → Int) (p : Nat) : Nat → (Nat → Nat → Int) → Int → Int
  | 0, _, y => y
  | n + 1, d, y => loF I0 p n (fMin I0 p d) (if y < fMin I0 p d 0 11 then fMin I0 p d 0 11 else y)
theorem longest_c {M N : Int} (hN : N ≤ 200) : ∀ (n k : Nat) (d L' : Nat → Nat → Int) (y : Int), (k : Int) + n = N → cIn p I I0 M d → d 0 10 + n ≤ 20000 → lkeep L L' → (∀ d' L2, lkeep L L2 → Q [.inl (loF I0 p n d y)] (mem Ls p (dput I0 46 d') L2)) → m_Wp i_C_longest 27 kc ks [(0, .inr (.inr 2)), (1, .inl N), (2, .inl y), (3, .inl (k : Int))] [] (mem Ls p (dput I0 46 d) L') Q := by
  intro n
  induction n with
  | zero =>
    intro k d L' y hk hc hm hL K
    exact T_C_longest_27 ⟨fun _ => K d L' hL, fun h => by omega⟩
  | succ n ih =>
    intro k d L' y hk hc hm hL K
    rw [loF] at K
    refine T_C_longest_27 ⟨fun h => by omega, fun _ => q_minT hc (by omega) (fun L2 hL2 hc2 => T_C_longest_43 ?_)⟩
    rw [show wr ((k : Int) + 1) = ((k + 1 : Nat) : Int) by rw [wr_of] <;> omega, dput_c]
    exact ih (k + 1) _ L2 _ (by omega) hc2 (by rw [fMin_minute]; omega) (fun a ha => by rw [hL2 a ha, hL a ha]) K
theorem longest_m {M N : Int} (hN : N ≤ 200) : ∀ (n k : Nat) (d e K' : Nat → Nat → Int) (x y : Int), (k : Int) + n = N → mIn p I I0 J M d e → d 0 10 + n ≤ 20000 → KT K K' → (∀ e' x' K2, KT K K2 → Q [.inl (loF I0 p n d y)] (mem Ls p (jm J 1 e' x') K2)) → m_Wp i_M_longest 31 kc ks [(0, .inr (.inr 98)), (1, .inl N), (2, .inl y), (3, .inl (k : Int))] [] (mem Ls p (jm J 1 e x) K') Q := by
  intro n
  induction n with
  | zero =>
    intro k d e K' x y hk hc hm hL K
    exact T_M_longest_31 ⟨fun _ => K e x K' hL, fun h => by omega⟩
  | succ n ih =>
    intro k d e K' x y hk hc hm hL K
    rw [loF] at K
    refine T_M_longest_31 ⟨fun h => by omega, fun _ => r_minT2 hc (by omega) (fun e2 x2 K2 hc2 hL2 => T_M_longest_41 ?_)⟩
    have e130 : jm J 1 e2 x2 130 1 = fMin I0 p d 0 11 := by unfold jm; rw [(jS (b := 1) (mup J 98 52 x2) e2).2.2.2.2.2.1]; exact hc2.2.2.2.2.2.1
    rw [show wr ((k : Int) + 1) = ((k + 1 : Nat) : Int) by rw [wr_of] <;> omega, e130]
    have nx := fun y' => ih (k + 1) _ e2 K2 x2 y' (by omega) hc2 (by rw [fMin_minute]; omega) (hL.tr hL2)
    refine ⟨by omega, fun h => nx _ ?_, fun h => ⟨by omega, nx _ ?_⟩⟩
    · rw [if_neg (by omega)] at K; exact K
    · rw [if_pos (by omega)] at K; exact K
theorem pair_longest {a : Int} (hI : INV p I L) : PAIR Ls i_C_longest i_M_longest [.inl a] (mem Ls p I L) := by
  have ref : ¬ (0 ≤ a ∧ a ≤ 200) → m_Call i_M_longest [.inr (.inr 98), .inl a] (mem Ls p I L) (fun w M2 => w = [.inl (-1)] ∧ OKM Ls M2) := fun h => by
    refine E_M_longest (r_isIn (T_M_longest_13 ⟨fun h2 => absurd (b01_zero.mpr h) h2, fun _ => ⟨rfl, p, _, _, rfl, INV_thrown hI⟩⟩))
  refine E_C_longest ⟨fun h => ref (by omega), fun h => ⟨fun h2 => c_start2 hI (fun d hd hc hm => T_C_longest_17 ?_), fun h2 => ref (by omega)⟩⟩
  have e28 : dput (flw I p 0) 46 d 28 11 = d 0 11 := by rw [kC_trial 28 (by omega), hd.1 11 (by omega) (by omega), dat_at (by omega)]
  rw [e28]
  refine longest_c (by omega) a.toNat 0 d L (d 0 11) (by omega) hc (by omega) (fun _ _ => rfl) (fun d' L2 hL => ?_)
  refine E_M_longest (r_isIn (T_M_longest_13 ⟨fun h3 => m_start2 hI kC_trial hd hc (fun e he => T_M_longest_22 ⟨by omega, ?_⟩), fun h3 => absurd (b01_zero.mp (Classical.not_not.mp h3)) (fun z => z (by omega))⟩))
  have e130 : jm (J2 (dput (flw I p 0) 46 d')) 1 e (J2 (dput (flw I p 0) 46 d') 98 52) 130 1 = d 0 11 := by unfold jm; rw [(jS (b := 1) _ e).2.2.2.2.2.1]; exact he.2.2.2.2.2.1
  rw [e130]
  exact longest_m (by omega) a.toNat 0 d e L2 _ (d 0 11) (by omega) he (by omega) KT.rfl' (fun e' x' K2 hK => ⟨rfl, mT_end hI kC_trial hL hK⟩)
end Q2
