/-! ===== phase 2: what the steps of a minute keep ===== -/
theorem lp_inv {S : Type} {f : Nat → S → S} {P : S → Prop} : ∀ (n k : Nat) {s : S}, P s → (∀ (j : Nat) (s : S), k ≤ j → j < k + n → P s → P (f j s)) → P (lp f k n s)
  | 0, _, _, h, _ => h
  | n + 1, k, _, h, hf => lp_inv n (k + 1) (hf k _ (by omega) (by omega) h) (fun j s h1 h2 hs => hf j s (by omega) (by omega) hs)
theorem wr_int (z : Int) : -2147483648 ≤ wr z ∧ wr z ≤ 2147483647 := wr_bounds (wr_wr z)
theorem pOf_none {f : Nat → Int} {x : Int} : ∀ {n k : Nat}, pOf f x k n = -1 ↔ ∀ j : Nat, k ≤ j → j < k + n → f j ≠ x
  | 0, k => by unfold pOf; exact ⟨fun _ j h1 h2 => by omega, fun _ => rfl⟩
  | n + 1, k => by
    unfold pOf
    by_cases h : f k = x
    · rw [if_pos h]
      exact ⟨fun h1 => by omega, fun h1 => absurd h (h1 k (by omega) (by omega))⟩
    · rw [if_neg h, pOf_none]
      refine ⟨fun h1 j h2 h3 => ?_, fun h1 j h2 h3 => h1 j (by omega) (by omega)⟩
      by_cases hj : j = k
      · subst hj; exact h
      · exact h1 j (by omega) (by omega)
theorem pOf_some {f : Nat → Int} {x : Int} : ∀ {n k : Nat} {r : Int}, pOf f x k n = r → r ≠ -1 → ∃ j : Nat, r = (j : Int) ∧ k ≤ j ∧ j < k + n ∧ f j = x
  | 0, k, r, h, hr => by unfold pOf at h; omega
  | n + 1, k, r, h, hr => by
    unfold pOf at h
    by_cases h1 : f k = x
    · rw [if_pos h1] at h; exact ⟨k, h.symm, by omega, by omega, h1⟩
    · rw [if_neg h1] at h
      obtain ⟨j, a, b, c, e⟩ := pOf_some h hr
      exact ⟨j, a, by omega, by omega, e⟩
theorem dMode_zero {d : Nat → Nat → Int} {x : Int} (h : dMode d x = 0) : d 0 12 ≠ x ∧ ∀ k : Nat, (k : Int) < d 0 11 → d 4 k ≠ x := by
  unfold dMode dPl at h
  have h1 : d 0 12 ≠ x := fun h2 => by rw [if_pos h2] at h; omega
  rw [if_neg h1] at h
  refine ⟨h1, fun k hk => ?_⟩
  by_cases h3 : pOf (d 4) x 0 (d 0 11).toNat = -1
  · exact pOf_none.mp h3 k (by omega) (by omega)
  · rw [if_neg h3] at h; omega
theorem DOK_in {P M : Int} {d : Nat → Nat → Int} {x : Int} (h : DOK P M d) (hx : 0 ≤ x ∧ x < P) : DOK P M (dIn d x) := by
  unfold dIn
  split
  · next hh =>
    obtain ⟨hn, hm⟩ := hh
    have h0 := dMode_zero hm
    unfold DOK at *
    simp only [mup_app]
    grind
  · exact h
theorem DOK_str {P M : Int} {d : Nat → Nat → Int} (h : DOK P M d) : DOK P M (dStr d) := by
  unfold dStr
  split
  · unfold DOK at *
    simp only [mup_app]
    grind
  · unfold DOK at *
    simp only [mup_app]
    grind
theorem drawn_range (n : Int) : 0 ≤ drawn n ∧ drawn n ≤ 2147483647 := by
  have hle := Int32.le_toInt (Int32.ofInt (wr (wr (n * 1103515245) + 12345)) &&& Int32.ofInt 2147483647)
  unfold drawn m_and
  generalize Int32.ofInt (wr (wr (n * 1103515245) + 12345)) = a
  have h : (a &&& Int32.ofInt 2147483647).toInt = ((a.toBitVec &&& 2147483647#32).toInt) := rfl
  rw [h]
  have h2 : (a.toBitVec &&& 2147483647#32).toNat ≤ 2147483647 := by
    rw [BitVec.toNat_and]; exact Nat.and_le_right
  rw [BitVec.toInt_eq_toNat_of_lt (by omega)]
  omega
theorem rup_app (I : Nat → Nat → Int) (k : Nat) (f : Nat → Int) (a b : Nat) : rup I k f a b = if a = k then f b else I a b := by unfold rup; split <;> rfl
theorem DOK_dr {P M : Int} {I d : Nat → Nat → Int} (h : DOK P M d) : DOK P M (fDr I d) := by
  unfold fDr dDraw
  split
  · have := drawn_range (d 0 14)
    unfold DOK at *
    simp only [mup_app]
    grind
  · exact h
theorem DOK_fStr {P M : Int} {I d : Nat → Nat → Int} (h : DOK P M d) : DOK P M (fStr I d) := by
  unfold fStr; split
  · exact DOK_dr h
  · exact DOK_str (DOK_dr h)
theorem DOK_rings {M : Int} {I d : Nat → Nat → Int} {p : Nat} (hpl : planOK I p) (h : DOK (I p 13) M d) : DOK (I p 13) M (fRings I p d) := by
  unfold fRings
  refine lp_inv _ _ h (fun j s _ hj hs => ?_)
  unfold fRing
  split
  · exact DOK_in hs (hpl.2.2.2.2.2.2.1 j (by omega))
  · exact hs
theorem wth_range {v lo hi : Int} (h : lo ≤ hi) : lo ≤ wth v lo hi ∧ wth v lo hi ≤ hi := by unfold wth; split <;> (try split) <;> omega
theorem fMins_range {I d : Nat → Nat → Int} {p : Nat} {w : Int} (hpl : planOK I p) (hw : w = -2 ∨ (0 ≤ w ∧ w < I p 13)) : 1 ≤ fMins I p d w ∧ fMins I p d w ≤ 20 := by
  unfold fMins
  split
  · omega
  · split
    · have := hpl.2.2.2.2.2.2.2.2.1 w.toNat (by omega)
      omega
    · exact wth_range (by omega)
theorem DOK_out {P M : Int} {d : Nat → Nat → Int} {a : Nat} (h : DOK P M d) (ha : (a : Int) < d 0 11) : DOK P M (dOut d a) := by
  unfold dOut rowOut
  unfold DOK at *
  simp only [mup_app, rup_app]
  grind
theorem DOK_start {M : Int} {I d : Nat → Nat → Int} {p : Nat} (hpl : planOK I p) (h : DOK (I p 13) M d) (h0 : 0 < d 0 11) : DOK (I p 13) M (fStart I p d) := by
  have hm := fMins_range (d := dOut d 0) (w := d 4 0) hpl (by have := h.2.2.2.2.2.2.2.1 0 (by omega); omega)
  unfold fStart
  have hk : 1 ≤ (if coldF I p (d 0 10) 0 (I 64 5).toNat = 0 then fMins I p (dOut d 0) (d 4 0) else (if 20 < 2 * fMins I p (dOut d 0) (d 4 0) then 20 else 2 * fMins I p (dOut d 0) (d 4 0))) ∧ (if coldF I p (d 0 10) 0 (I 64 5).toNat = 0 then fMins I p (dOut d 0) (d 4 0) else (if 20 < 2 * fMins I p (dOut d 0) (d 4 0) then 20 else 2 * fMins I p (dOut d 0) (d 4 0))) ≤ 20 := by split <;> (try split) <;> omega
  generalize (if coldF I p (d 0 10) 0 (I 64 5).toNat = 0 then fMins I p (dOut d 0) (d 4 0) else (if 20 < 2 * fMins I p (dOut d 0) (d 4 0) then 20 else 2 * fMins I p (dOut d 0) (d 4 0))) = k at *
  unfold dOut rowOut
  unfold DOK at *
  simp only [mup_app, rup_app]
  grind
theorem fLate_range {I d : Nat → Nat → Int} {p : Nat} {w a : Int} : -30 ≤ fLate I p d w a ∧ fLate I p d w a ≤ 30 := by
  unfold fLate; split <;> exact wth_range (by omega)
theorem DOK_goOn {P M : Int} {I d : Nat → Nat → Int} {p : Nat} (h : DOK P M d) (h0 : d 0 12 ≠ -1) : DOK P M (fGoOn I p d) := by
  unfold fGoOn
  split
  · unfold DOK at *; simp only [mup_app]; grind
  · split
    · unfold DOK at *; simp only [mup_app]; grind
    · unfold fTold
      have hl := fLate_range (I := I) (d := mup (mup d 0 13 (d 0 13 - 1)) 0 12 (-1)) (p := p) (w := d 0 12) (a := mup (mup d 0 13 (d 0 13 - 1)) 0 12 (-1) 2 (d 0 12).toNat)
      generalize fLate I p (mup (mup d 0 13 (d 0 13 - 1)) 0 12 (-1)) (d 0 12) (mup (mup d 0 13 (d 0 13 - 1)) 0 12 (-1) 2 (d 0 12).toNat) = l at *
      have hw := wr_int (mup (mup d 0 13 (d 0 13 - 1)) 0 12 (-1) 3 (d 0 12).toNat + 1)
      generalize wr (mup (mup d 0 13 (d 0 13 - 1)) 0 12 (-1) 3 (d 0 12).toNat + 1) = t at *
      unfold DOK big at *; simp only [mup_app]; grind
theorem DOK_drift {P M : Int} {I d : Nat → Nat → Int} {p : Nat} (h : DOK P M d) : DOK P M (fDrift I p d) := by
  unfold fDrift
  refine lp_inv _ _ h (fun j s _ hj hs => ?_)
  unfold fDrift1
  have hl := @wth_range (s 1 j + fMore I p s j) (-99) 99 (by omega)
  generalize wth (s 1 j + fMore I p s j) (-99) 99 = v at *
  clear h hj
  unfold DOK at *; simp only [mup_app]; grind
theorem DOK_come {P M : Int} {I d : Nat → Nat → Int} {p m s : Nat} (hs : s = 0 ∨ s = 1) (h : DOK P M d) : DOK P M (fCome I p m s d) := by
  unfold fCome
  split
  · rcases hs with rfl | rfl <;> (unfold DOK at *; simp only [mup_app]; grind)
  · exact h
theorem DOK_kept {P M : Int} {I d : Nat → Nat → Int} {p m : Nat} (h : DOK P M d) : DOK P M (fKept I p m d) := by
  unfold fKept
  split
  · exact h
  · unfold DOK at *; simp only [mup_app]; grind
theorem DOK_meet {P M : Int} {I d : Nat → Nat → Int} {p m : Nat} (h : DOK P M d) : DOK P M (fMeet I p m d) := by
  unfold fMeet
  split
  · exact DOK_kept (DOK_come (Or.inr rfl) (DOK_come (Or.inl rfl) h))
  · exact h
theorem DOK_meets {P M : Int} {I d : Nat → Nat → Int} {p : Nat} (h : DOK P M d) : DOK P M (fMeets I p d) := lp_inv _ _ h (fun _ _ _ _ hs => DOK_meet hs)
/-- the minute stays while meetings are kept -/
theorem meets_minute {I d : Nat → Nat → Int} {p : Nat} : fMeets I p d 0 10 = d 0 10 := by
  unfold fMeets
  refine lp_inv (P := fun (s : Nat → Nat → Int) => s 0 10 = d 0 10) _ _ rfl (fun j s _ _ hs => ?_)
  unfold fMeet fKept fCome
  grind [mup_app]
theorem DOK_E {P M : Int} {I d : Nat → Nat → Int} {p : Nat} (h : DOK P M d) : DOK P M (fE I p d) := by
  have h1 := DOK_meets (I := I) (p := p) h
  have h2 := meets_minute (I := I) (p := p) (d := d)
  unfold fE
  generalize fMeets I p d = e at *
  unfold DOK at *; simp only [mup_app]; grind
theorem DOK_fMin {M : Int} {I d : Nat → Nat → Int} {p : Nat} (hpl : planOK I p) (h : DOK (I p 13) M d) : DOK (I p 13) M (fMin I p d) := by
  have h1 : DOK (I p 13) M (fA I p d) := DOK_fStr (DOK_rings hpl h)
  have h2 : DOK (I p 13) M (fB I p (fA I p d)) := by
    generalize fA I p d = e at *
    unfold fB
    split
    · exact DOK_start hpl h1 (by omega)
    · exact h1
  have h3 : DOK (I p 13) M (fC I p (fB I p (fA I p d))) := by
    generalize fB I p (fA I p d) = e at *
    unfold fC
    split
    · exact h2
    · exact DOK_goOn h2 (by omega)
  have h4 : DOK (I p 13) M (fD I p (fC I p (fB I p (fA I p d)))) := by
    generalize fC I p (fB I p (fA I p d)) = e at *
    unfold fD
    split
    · exact DOK_drift h3
    · exact h3
  exact DOK_E h4
