/-! ===== phase 2: needs, tried ===== -/
section Q8
variable {Ls p kc ks : Nat} {P M : Int} {I I0 I1 J K L L1 K2 d d' e : Nat → Nat → Int} {Q : List mV → mM → Prop} {x : Int}
/-- a verdict stays -/
theorem fMin_stay {m : Nat} (h : d 8 m ≠ 0) : fMin I0 p d 8 m = d 8 m := by
  have h2 : ∀ d : Nat → Nat → Int, fD I0 p d 8 = d 8 := fun d => by
    unfold fD
    split
    · unfold fDrift
      exact lp_inv (P := fun (s : Nat → Nat → Int) => s 8 = d 8) _ _ rfl (fun j s _ _ hs => by unfold fDrift1; rw [mup_other (by omega)]; exact hs)
    · rfl
  have h3 : ∀ d : Nat → Nat → Int, fC I0 p d 8 = d 8 := fun d => by
    unfold fC fGoOn fTold
    split
    · rfl
    · split
      · rw [mup_other (by omega)]
      · split
        · rw [mup_other (by omega), mup_other (by omega)]
        · rw [mup_other (by omega), mup_other (by omega), mup_other (by omega), mup_other (by omega)]
  have h4 : ∀ d : Nat → Nat → Int, fB I0 p d 8 = d 8 := fun d => by
    unfold fB fStart dOut
    split
    · rw [mup_other (by omega), mup_other (by omega), mup_other (by omega), rup_other (by omega)]
    · rfl
  have hdr : ∀ d : Nat → Nat → Int, fDr I0 d 8 = d 8 := fun d => by
    unfold fDr dDraw
    split
    · rw [mup_other (by omega)]
    · rfl
  have h5 : ∀ d : Nat → Nat → Int, fStr I0 d 8 = d 8 := fun d => by
    unfold fStr
    split
    · exact hdr d
    · unfold dStr
      split
      · rw [mup_other (by omega), mup_other (by omega), mup_other (by omega)]; exact hdr d
      · rw [mup_other (by omega)]; exact hdr d
  have h6 : fRings I0 p d 8 = d 8 := by
    unfold fRings
    refine lp_inv (P := fun (s : Nat → Nat → Int) => s 8 = d 8) _ _ rfl (fun j s _ _ hs => ?_)
    unfold fRing dIn
    split
    · split
      · rw [mup_other (by omega), mup_other (by omega), mup_other (by omega)]; exact hs
      · exact hs
    · exact hs
  have h7 : ∀ e : Nat → Nat → Int, e 8 m = d 8 m → fMeets I0 p e 8 m = d 8 m := fun e he => by
    unfold fMeets
    refine lp_inv (P := fun (s : Nat → Nat → Int) => s 8 m = d 8 m) _ _ he (fun j s _ _ hs => ?_)
    unfold fMeet
    split
    · next hj =>
      have hjm : j ≠ m := fun hh => h (by rw [← hs, ← hh]; exact hj)
      have c1 : ∀ (e : Nat → Nat → Int) (t : Nat), t = 0 ∨ t = 1 → fCome I0 p j t e 8 = e 8 := fun e t ht => by
        unfold fCome
        split
        · rw [mup_other (by omega)]
        · rfl
      unfold fKept
      split
      · rw [c1 _ 1 (Or.inr rfl), c1 _ 0 (Or.inl rfl)]; exact hs
      · rw [mup_ne (Or.inr (fun z => hjm z.symm)), c1 _ 1 (Or.inr rfl), c1 _ 0 (Or.inl rfl)]; exact hs
    · exact hs
  unfold fMin fE
  rw [mup_ne (by omega)]
  refine h7 _ ?_
  rw [h2, h3, h4]
  unfold fA
  rw [h5, h6]
theorem mins_stay {m : Nat} : ∀ (n : Nat) {d : Nat → Nat → Int}, d 8 m ≠ 0 → mins I0 p n d 8 m = d 8 m
  | 0, _, _ => rfl
  | n + 1, d, h => by
    rw [mins]
    have h1 := fMin_stay (I0 := I0) (p := p) h
    rw [mins_stay n (by rw [h1]; exact h), h1]
theorem kept_c {m : Nat} (hm6 : m < 6) : ∀ (n k : Nat) (d L' : Nat → Nat → Int), k + n = 200 → cIn p I I0 M d → d 0 10 + n ≤ 20000 → lkeep L L' → (∀ d' L2, lkeep L L2 → Q [.inl (b01 (mins I0 p n d 8 m = 1))] (mem Ls p (dput I0 46 d') L2)) → m_Wp i_C_isKeptInTrial 2 kc ks [(0, .inr (.inr 2)), (1, .inl (m : Int)), (2, .inl (k : Int))] [] (mem Ls p (dput I0 46 d) L') Q := by
  intro n
  induction n with
  | zero =>
    intro k d L' hk hc hm hL K
    have s8 : dput I0 46 d 54 = d 8 := dput_at (c := 46) (j := 8) (by omega)
    refine T_C_isKeptInTrial_2 ?_
    rw [s8, Int.toNat_natCast]
    refine ⟨fun _ => ⟨by omega, fun h => ⟨by omega, ?_⟩, fun h => ⟨by omega, ?_⟩⟩, fun h => by omega⟩
    · have := K d L' hL; rw [b01_zero.mpr (show ¬ mins I0 p 0 d 8 m = 1 from h)] at this; exact this
    · have := K d L' hL; rw [b01_one.mpr (show mins I0 p 0 d 8 m = 1 from Classical.not_not.mp h)] at this; exact this
  | succ n ih =>
    intro k d L' hk hc hm hL K
    have s8 : dput I0 46 d 54 = d 8 := dput_at (c := 46) (j := 8) (by omega)
    refine T_C_isKeptInTrial_2 ?_
    rw [s8, Int.toNat_natCast]
    refine ⟨fun h => by omega, fun _ => ⟨by omega, fun h => ⟨by omega, fun h2 => ⟨by omega, ?_⟩, fun h2 => ⟨by omega, ?_⟩⟩, fun h => ?_⟩⟩
    · have := K d L' hL; rw [mins_stay (n + 1) h, b01_zero.mpr h2] at this; exact this
    · have := K d L' hL; rw [mins_stay (n + 1) h, b01_one.mpr (Classical.not_not.mp h2)] at this; exact this
    · refine q_minT hc (by omega) (fun L2 hL2 hc2 => T_C_isKeptInTrial_32 ?_)
      rw [show wr ((k : Int) + 1) = ((k + 1 : Nat) : Int) by rw [wr_of] <;> omega]
      exact ih (k + 1) _ L2 (by omega) hc2 (by rw [fMin_minute]; omega) (fun a ha => by rw [hL2 a ha, hL a ha]) K
/-- the meeting later -/
def pu (m : Nat) (y : Int) (d : Nat → Nat → Int) : Nat → Nat → Int := mup d 5 m (wr (d 5 m + y))
theorem cIn_pu {m : Nat} {y : Int} (h : cIn p I I0 M d) : cIn p I I0 M (pu m y d) := by
  obtain ⟨h1, h2, h3, h4, h5, h6⟩ := h
  refine ⟨h1, h2, h3, h4, h5, ?_⟩
  unfold pu
  unfold DOK at *; simp only [mup_app]; grind
theorem DR_pu {m : Nat} {y v : Int} (h : DR P M d e) (hv : v = wr (d 5 m + y)) : DR P M (pu m y d) (mup e 8 m v) := by
  have hm : ∀ r : Int, dMode (pu m y d) r = dMode d r := fun r => by unfold pu; exact dMode_congr (by simp [mup_app]) (by simp [mup_app]) (by rw [mup_other (by omega)])
  subst hv
  unfold DR at *
  simp only [hm]
  unfold pu
  refine ⟨by simp [mup_app, h.1], by simp [mup_app, h.2.1], by simp [mup_app, h.2.2.1], by simpa [mup_app] using h.2.2.2.1, by simp [mup_app, h.2.2.2.2.1], fun q hq => ?_, fun k hk => ?_, fun n hn => ?_⟩
  · simp [mup_app, h.2.2.2.2.2.1 q hq]
  · have hk' : (k : Int) < d 0 11 := by simpa [mup_app] using hk
    simp [mup_app, h.2.2.2.2.2.2.1 k hk']
  · have h8 := h.2.2.2.2.2.2.2 n hn
    by_cases hnm : n = m
    · subst hnm; simp [mup_app, h8]
    · simp [mup_app, h8, hnm]
def ndF (g : Nat → Prop) [DecidablePred g] : Nat → Nat → Int
  | _, 0 => -2
  | k, n + 1 => if g k then (k : Int) else ndF g (k + 1) n
theorem nd_same {m k : Nat} (hI : INV p I L) (hmm : (m : Int) < I p 15) (hd : agr (dat I 28) d) (hc : cIn p I (flw I p 0) (I p 15) d) (hd' : agr (dat I 28) d') (hc' : cIn p I (flw I p 0) (I p 15) d') (hm : d 0 10 ≤ 9000) : mins (flw I p 0) p 200 (pu m (k : Int) d) 8 m = mins (flw I p 0) p 200 (pu m (k : Int) d') 8 m := by
  have h6 := hc.2.1.1
  have h15 := hI.2.1.2.2.1
  have a1 := laid_eqv hI hd hc
  have a2 := laid_eqv hI hd' hc'
  have e5 : d 5 m = d' 5 m := by rw [hd.row (by omega) (by omega) (by omega), hd'.row (by omega) (by omega) (by omega)]
  have b1 : mIn p I (flw I p 0) (J2 I) (I p 15) (pu m (k : Int) d) (mup (jat I 0) 8 m (wr (d 5 m + k))) := ⟨cIn_pu hc, a1.2.1, a1.2.2.1, a1.2.2.2.1, DR_pu a1.2.2.2.2 rfl⟩
  have b2 : mIn p I (flw I p 0) (J2 I) (I p 15) (pu m (k : Int) d') (mup (jat I 0) 8 m (wr (d 5 m + k))) := ⟨cIn_pu hc', a2.2.1, a2.2.2.1, a2.2.2.2.1, DR_pu a2.2.2.2.2 (by rw [e5])⟩
  obtain ⟨e2, c1, c2⟩ := eqv_mins h6.2 h15.2 200 b1 b2 (by unfold pu; rw [mup_ne (by omega)]; omega)
  rw [← (c1.2.2.2.2.2.2.2.2.2.2.2 m hmm).2.2.2, (c2.2.2.2.2.2.2.2.2.2.2.2 m hmm).2.2.2]
theorem needs_c {m : Nat} (hI : INV p I L) (hmm : (m : Int) < I p 15) : ∀ (n k : Nat) (X L' : Nat → Nat → Int), k + n = 61 → stC p I X → lkeep L L' → (∀ X2 L2, stC p I X2 → lkeep L L2 → Q [.inl (ndF (fun k => mins (flw I p 0) p 200 (pu m (k : Int) (dat I 28)) 8 m = 1) k n)] (mem Ls p X2 L2)) → m_Wp i_C_needs 23 kc ks [(0, .inr (.inr 2)), (1, .inl (m : Int)), (2, .inl (k : Int))] [] (mem Ls p X L') Q := by
  have h15 := hI.2.1.2.2.1
  have t := tf (v := 0) hI.1 hI.2.1
  have hc0 : cIn p I (flw I p 0) (I p 15) (dat I 28) := ⟨hI.1, t.1, t.2.1, by rw [t.2.2], t.2.2, by rw [t.2.2]; exact hI.2.2.2.1.1⟩
  intro n
  induction n with
  | zero =>
    intro k X L' hk hX hL hQ
    exact T_C_needs_23 ⟨fun _ => hQ X L' hX hL, fun h => by omega⟩
  | succ n ih =>
    intro k X L' hk hX hL hQ
    rw [ndF] at hQ
    refine T_C_needs_23 ⟨fun h => by omega, fun _ => c_start3 hI hX hL (fun d hd hc hm => T_C_needs_33 ⟨by omega, by omega, ?_⟩)⟩
    have e51 : dput (flw I p 0) 46 d 51 = d 5 := dput_at (c := 46) (j := 5) (by omega)
    have w51 : ∀ v, mup (dput (flw I p 0) 46 d) 51 m v = dput (flw I p 0) 46 (mup d 5 m v) := fun v => mup_dput (c := 46) (j := 5) (by omega)
    rw [Int.toNat_natCast, e51, w51]
    have hp10 : pu m (k : Int) d 0 10 = d 0 10 := by unfold pu; rw [mup_ne (by omega)]
    refine E_C_isKeptInTrial (kept_c (L := L) (by omega) 200 0 (pu m (k : Int) d) L' (by omega) (cIn_pu hc) (by rw [hp10]; omega) hL (fun d' L2 hL2 => T_C_needs_51 ?_))
    rw [nd_same hI hmm hd hc agr.rfl' hc0 hm, show wr ((k : Int) + 1) = ((k + 1 : Nat) : Int) by rw [wr_of] <;> omega]
    refine ⟨fun h => ?_, fun h => ?_⟩
    · rw [if_neg (b01_zero.mp h)] at hQ; exact ih (k + 1) _ L2 (by omega) (Or.inr ⟨_, rfl⟩) hL2 hQ
    · by_cases hh : mins (flw I p 0) p 200 (pu m (k : Int) (dat I 28)) 8 m = 1
      · rw [if_pos hh] at hQ; exact hQ _ L2 (Or.inr ⟨_, rfl⟩) hL2
      · exact absurd (b01_zero.mpr hh) h
theorem needs_m {m : Nat} (hI : INV p I L) (hk1 : ∀ a, a < 46 ∨ 67 ≤ a → I1 a = I a) (hmm : (m : Int) < I p 15) : ∀ (n k : Nat) (X K' : Nat → Nat → Int), k + n = 61 → stM I1 X → KT K K' → (∀ X2 K2, stM I1 X2 → KT K K2 → Q [.inl (ndF (fun k => mins (flw I p 0) p 200 (pu m (k : Int) (dat I 28)) 8 m = 1) k n)] (mem Ls p X2 K2)) → m_Wp i_M_needs 17 kc ks [(0, .inr (.inr 98)), (1, .inl (m : Int)), (2, .inl (k : Int))] [] (mem Ls p X K') Q := by
  have h15 := hI.2.1.2.2.1
  have t := tf (v := 0) hI.1 hI.2.1
  have hc0 : cIn p I (flw I p 0) (I p 15) (dat I 28) := ⟨hI.1, t.1, t.2.1, by rw [t.2.2], t.2.2, by rw [t.2.2]; exact hI.2.2.2.1.1⟩
  have hm0 : dat I 28 0 10 ≤ 9000 := by rw [dat_at (by omega)]; exact hI.2.2.2.1.2.2.2
  intro n
  induction n with
  | zero =>
    intro k X K' hk hX hK hQ
    exact T_M_needs_17 ⟨fun _ => hQ X K' hX hK, fun h => by omega⟩
  | succ n ih =>
    intro k X K' hk hX hK hQ
    rw [ndF] at hQ
    refine T_M_needs_17 ⟨fun h => by omega, fun _ => m_start3 hI hk1 hX agr.rfl' hc0 (fun e x he => T_M_needs_27 ?_)⟩
    have hdm := he.2.2.2.2.2.2.2.2.2.2.2 m hmm
    have l133 : jm (J2 I1) 1 e x 133 m = dat I 28 5 m := by
      have := (hI.2.2.2.1.2.1.2.2.2.2.2.2.2 m hmm).1
      rw [← this, jat_at (by omega) (by show m < 6; omega), Nat.zero_mul, Nat.zero_add]
      unfold jm J2
      rw [show 133 = 125 + 8 from rfl, jput1_lo (by show m < 6; omega), mup_other (by omega), plainJ_out (by omega), mup_other (by omega), hk1 _ (by omega)]
    have w133 : ∀ v, mup (jm (J2 I1) 1 e x) 133 (6 + m) v = jm (J2 I1) 1 (mup e 8 m v) x := fun v => by
      unfold jm; rw [show 6 + m = 6 * 1 + m by omega, (jW (b := 1) _).2.2.2.2.2.2.2.2.1 _ _ _ (by omega)]
    rw [wr_of (z := 6 + (m : Int)) (by omega) (by omega), show (6 + (m : Int)).toNat = 6 + m by omega, Int.toNat_natCast, l133, w133]
    have hp10 : pu m (k : Int) (dat I 28) 0 10 = dat I 28 0 10 := by unfold pu; rw [mup_ne (by omega)]
    have he2 : mIn p I (flw I p 0) (J2 I1) (I p 15) (pu m (k : Int) (dat I 28)) (mup e 8 m (wr (dat I 28 5 m + k))) := ⟨cIn_pu he.1, he.2.1, he.2.2.1, he.2.2.2.1, DR_pu he.2.2.2.2 rfl⟩
    refine ⟨by omega, by omega, r_goT (N := 200) he2 (by omega) (by rw [hp10]; omega) (fun e' x' K2 he' hK2 => T_M_needs_51 ?_)⟩
    have e135 := verdict_try (x := x') h15.2 he' hmm
    rw [Nat.mul_one, show Int.toNat 200 = 200 from rfl] at e135
    rw [wr_of (z := 6 + (m : Int)) (by omega) (by omega), show (6 + (m : Int)).toNat = 6 + m by omega, e135, show wr ((k : Int) + 1) = ((k + 1 : Nat) : Int) by rw [wr_of] <;> omega]
    refine ⟨by omega, fun h => ?_, fun h => ?_⟩
    · rw [if_neg h] at hQ; exact ih (k + 1) _ K2 (by omega) (Or.inr ⟨_, _, rfl⟩) (hK.tr hK2) hQ
    · rw [if_pos (Classical.not_not.mp h)] at hQ; exact hQ _ K2 (Or.inr ⟨_, _, rfl⟩) (hK.tr hK2)
/-- is nobody of a meeting there yet? the class, the reference -/
theorem q_isOneThere {m : Int} (hm : 0 ≤ m ∧ m < 6) (h : Q [.inl (b01 (¬ (I 34 m.toNat = -1 ∧ I 35 m.toNat = -1)))] (mem Ls p I L)) : m_Call i_Day_isOneThere [.inr (.inr 28), .inl m] (mem Ls p I L) Q := by
  refine E_Day_isOneThere (Or.inl rfl) ⟨hm, fun h1 => ⟨by omega, ?_⟩, fun h1 => ⟨hm, fun h2 => ⟨by omega, ?_⟩, fun h2 => ⟨by omega, ?_⟩⟩⟩
  · rw [b01_one.mpr (show ¬ (I 34 m.toNat = -1 ∧ I 35 m.toNat = -1) from fun z => h1 z.1)] at h; exact h
  · rw [b01_zero.mpr (fun z => z ⟨Classical.not_not.mp h1, h2⟩)] at h; exact h
  · rw [b01_one.mpr (show ¬ (I 34 m.toNat = -1 ∧ I 35 m.toNat = -1) from fun z => h2 z.2)] at h; exact h
theorem r_isOpen {m : Int} (hI : INV p I L) (h : Q [.inl (b01 ((0 ≤ m ∧ m < I p 15) ∧ (I 34 m.toNat = -1 ∧ I 35 m.toNat = -1)))] (mem Ls p (mup I1 98 2 0) K)) (hk1 : ∀ a, a < 46 ∨ 67 ≤ a → I1 a = I a) : m_Call i_M_isOpen [.inr (.inr 98), .inl m] (mem Ls p (mup I1 98 2 0) K) Q := by
  have h14 : I 98 14 = I p 15 := hI.2.2.1.1.2.2.1
  have h15 := hI.2.1.2.2.1
  refine E_M_isOpen (r_isMeeting ?_)
  rw [mup_ne (by omega), hk1 98 (by omega), h14]
  by_cases hm : 0 ≤ m ∧ m < I p 15
  · rw [b01_one.mpr hm]
    have hDR := (hI.2.2.2.1.2.1.2.2.2.2.2.2.2 m.toNat (by omega))
    have hDO := hI.2.2.2.1.1.2.2.2.2.2.2.2.2.2.2 m.toNat (by omega)
    rw [dat_at (by omega), dat_at (by omega), dat_at (by omega)] at hDO
    have e0 : mup I1 98 2 0 134 (2 * m.toNat) = I 34 m.toNat := by
      have := hDR.2.1
      rw [jat_at (by omega) (by show 2 * m.toNat < 12; omega), dat_at (by omega), Nat.zero_mul, Nat.zero_add] at this
      rw [mup_ne (by omega), hk1 _ (by omega)]; exact this
    have e1 : mup I1 98 2 0 134 (2 * m.toNat + 1) = I 35 m.toNat := by
      have := hDR.2.2.1
      rw [jat_at (by omega) (by show 2 * m.toNat + 1 < 12; omega), dat_at (by omega), Nat.zero_mul, Nat.zero_add] at this
      rw [mup_ne (by omega), hk1 _ (by omega)]; exact this
    refine T_M_isOpen_5 ?_
    rw [wr_of (z := 2 * m) (by omega) (by omega), wr_of (z := 2 * m + 1) (by omega) (by omega), show (2 * m).toNat = 2 * m.toNat by omega, show (2 * m + 1).toNat = 2 * m.toNat + 1 by omega, e0, e1]
    have g34 : -1 ≤ I 34 m.toNat := hDO.2.1.1
    have g35 : -1 ≤ I 35 m.toNat := hDO.2.2.1.1
    refine ⟨fun z => by omega, fun _ => ⟨by omega, fun h1 => ⟨by omega, ?_⟩, fun h1 => ⟨by omega, fun h2 => ⟨by omega, ?_⟩, fun h2 => ⟨by omega, ?_⟩⟩⟩⟩
    · rw [b01_zero.mpr (fun z => by have := z.2.1; omega)] at h; exact h
    · rw [b01_zero.mpr (fun z => by have := z.2.2; omega)] at h; exact h
    · rw [b01_one.mpr ⟨hm, by omega, by omega⟩] at h; exact h
  · rw [b01_zero.mpr hm]
    refine T_M_isOpen_5 ⟨fun _ => ⟨by omega, ?_⟩, fun z => absurd rfl z⟩
    rw [b01_zero.mpr (fun z => hm z.1)] at h; exact h
theorem pair_needs {a : Int} (hI : INV p I L) : PAIR Ls i_C_needs i_M_needs [.inl a] (mem Ls p I L) := by
  have h15 := hI.2.1.2.2.1
  have ref : ¬ ((0 ≤ a ∧ a < I p 15) ∧ (I 34 a.toNat = -1 ∧ I 35 a.toNat = -1)) → m_Call i_M_needs [.inr (.inr 98), .inl a] (mem Ls p I L) (fun w M2 => w = [.inl (-1)] ∧ OKM Ls M2) := fun h => by
    refine E_M_needs (r_isOpen hI (T_M_needs_10 ⟨fun h2 => absurd (b01_zero.mpr h) h2, fun _ => ⟨rfl, p, _, _, rfl, INV_thrown hI⟩⟩) (fun _ _ => rfl))
  refine E_C_needs (q_isMeeting hI.1 (T_C_needs_5 ⟨fun h => ref (fun z => (b01_zero.mp h) z.1), fun h => ?_⟩))
  have ha : 0 ≤ a ∧ a < I p 15 := by
    by_cases hh : 0 ≤ a ∧ a < I p 15
    · exact hh
    · exact absurd (b01_zero.mpr hh) h
  refine q_isOneThere (by omega) (T_C_needs_16 ⟨fun h1 => ?_, fun h1 => ref (fun z => h1 (b01_zero.mpr (fun y => y z.2)))⟩)
  have h2 : I 34 a.toNat = -1 ∧ I 35 a.toNat = -1 := Classical.not_not.mp (b01_zero.mp h1)
  rw [show a = ((a.toNat : Nat) : Int) by omega]
  refine needs_c hI (by omega) 61 0 I L (by omega) (Or.inl rfl) (fun _ _ => rfl) (fun X2 L2 hX2 hL2 => ?_)
  refine E_M_needs (r_isOpen hI (T_M_needs_10 ⟨fun _ => ?_, fun h3 => ?_⟩) hX2.out)
  · exact needs_m (K := L2) hI hX2.out (by omega) 61 0 _ L2 (by omega) (Or.inl rfl) KT.rfl' (fun X3 K3 hX3 hK3 => ⟨rfl, stM_ok hI hX2.out hL2 hX3 hK3⟩)
  · refine absurd ⟨by omega, ?_⟩ (b01_zero.mp (Classical.not_not.mp h3))
    rw [Int.toNat_natCast]; exact h2
end Q8
