/-! ===== phase 2: the steps of a minute keep the two days alike ===== -/
section R1
variable {P M : Int} {I d e : Nat → Nat → Int} {p : Nat}
theorem dIn_eq {q : Int} (ht : d 0 11 < 20 ∧ dMode d q = 0) : dIn d q = mup (mup (mup d 2 q.toNat (if d 0 12 = -1 then d 0 11 else d 0 11 + 1)) 4 (d 0 11).toNat q) 0 11 (d 0 11 + 1) := by unfold dIn; rw [if_pos ht]
theorem dMode_in {q r : Int} (hd : DOK P M d) (ht : d 0 11 < 20 ∧ dMode d q = 0) : dMode (dIn d q) r = if r = q then 1 else dMode d r := by
  have h0 := dMode_zero ht.2
  have hn := hd.2.2.1
  rw [dIn_eq ht]
  generalize (if d 0 12 = -1 then d 0 11 else d 0 11 + 1) = v
  have e11 : mup (mup (mup d 2 q.toNat v) 4 (d 0 11).toNat q) 0 11 (d 0 11 + 1) 0 11 = d 0 11 + 1 := mup_eq rfl rfl
  have e12 : mup (mup (mup d 2 q.toNat v) 4 (d 0 11).toNat q) 0 11 (d 0 11 + 1) 0 12 = d 0 12 := by simp [mup_app]
  have e4 : ∀ k, mup (mup (mup d 2 q.toNat v) 4 (d 0 11).toNat q) 0 11 (d 0 11 + 1) 4 k = if k = (d 0 11).toNat then q else d 4 k := fun k => by simp [mup_app]
  by_cases hr : r = q
  · subst hr
    rw [if_pos rfl]
    refine dMode_iff.2.1 (by rw [e12]; exact h0.1) ⟨(d 0 11).toNat, by rw [e11]; omega, by rw [e4, if_pos rfl]⟩
  · rw [if_neg hr]
    refine dMode_same (by rw [e12]) ⟨fun ⟨k, h1, h2⟩ => ⟨k, by rw [e11]; omega, by rw [e4, if_neg (by omega)]; exact h2⟩, fun ⟨k, h1, h2⟩ => ?_⟩
    rw [e11] at h1
    rw [e4] at h2
    by_cases hk : k = (d 0 11).toNat
    · rw [if_pos hk] at h2; exact absurd h2.symm hr
    · rw [if_neg hk] at h2; exact ⟨k, by omega, h2⟩
theorem en_ne {q : Int} (h : q ≠ -2) : en q = q := if_neg h
theorem DR_in {q : Int} (hP : 0 ≤ P ∧ P ≤ 6) (hd : DOK P M d) (h : DR P M d e) (hq : 0 ≤ q ∧ q < P) (ht : d 0 11 < 20 ∧ dMode d q = 0) : DR P M (dIn d q) (mup (mup (mup (mup e 1 q.toNat (if d 0 12 = -1 then d 0 11 else d 0 11 + 1)) 4 (d 0 11).toNat q) 5 0 (d 0 11 + 1)) 0 q.toNat 1) := by
  have hm := fun r => dMode_in (r := r) hd ht
  have hn := hd.2.2.1
  have hen := en_ne (q := q) (by omega)
  unfold DR at *
  refine ⟨?_, ?_, ?_, ?_, ?_, ?_, ?_, ?_⟩
  · rw [dIn_eq ht]; simp [mup_app]; exact h.1
  · rw [dIn_eq ht]; simp [mup_app]
  · rw [dIn_eq ht]; simp [mup_app]; exact h.2.2.1
  · rw [dIn_eq ht]; simp [mup_app]; exact h.2.2.2.1
  · rw [dIn_eq ht]; simp [mup_app]; exact h.2.2.2.2.1
  · intro r hr
    have := h.2.2.2.2.2.1 r hr
    rw [hm, dIn_eq ht]
    simp only [mup_app]
    grind
  · intro k hk
    rw [dIn_eq ht] at hk ⊢
    have h7 := h.2.2.2.2.2.2.1 k
    simp only [mup_app] at hk ⊢
    grind
  · intro m hm
    have := h.2.2.2.2.2.2.2 m hm
    rw [dIn_eq ht]
    simp only [mup_app]
    grind
theorem dMode_str {r : Int} (hd : DOK P M d) (hr : r ≠ -2) : dMode (dStr d) r = dMode d r := by
  have hn := hd.2.2.1
  unfold dStr
  split
  · have e11 : mup (mup (mup d 0 15 (wr (d 0 15 + 1))) 4 (d 0 11).toNat (-2)) 0 11 (d 0 11 + 1) 0 11 = d 0 11 + 1 := mup_eq rfl rfl
    have e4 : ∀ k, mup (mup (mup d 0 15 (wr (d 0 15 + 1))) 4 (d 0 11).toNat (-2)) 0 11 (d 0 11 + 1) 4 k = if k = (d 0 11).toNat then -2 else d 4 k := fun k => by simp [mup_app]
    refine dMode_same (by simp [mup_app]) ⟨fun ⟨k, h1, h2⟩ => ⟨k, by rw [e11]; omega, by rw [e4, if_neg (by omega)]; exact h2⟩, fun ⟨k, h1, h2⟩ => ?_⟩
    rw [e11] at h1
    rw [e4] at h2
    by_cases hk : k = (d 0 11).toNat
    · rw [if_pos hk] at h2; exact absurd h2.symm hr
    · rw [if_neg hk] at h2; exact ⟨k, by omega, h2⟩
  · exact dMode_congr (by simp [mup_app]) (by simp [mup_app]) (by rw [mup_other (by omega)])
theorem DR_str (hd : DOK P M d) (h : DR P M d e) : DR P M (dStr d) (if d 0 11 < 20 then mup (mup (mup e 12 0 (wr (e 12 0 + 1))) 4 (d 0 11).toNat 6) 5 0 (d 0 11 + 1) else mup e 12 0 (wr (e 12 0 + 1))) := by
  have hm := fun (r : Nat) => dMode_str (r := (r : Int)) hd (by omega)
  have hn := hd.2.2.1
  have he2 : en (-2) = 6 := rfl
  have h12 := h.2.2.2.2.1
  unfold DR at *
  by_cases ht : d 0 11 < 20
  · have hs : dStr d = mup (mup (mup d 0 15 (wr (d 0 15 + 1))) 4 (d 0 11).toNat (-2)) 0 11 (d 0 11 + 1) := by unfold dStr; rw [if_pos ht]
    rw [if_pos ht]
    refine ⟨?_, ?_, ?_, ?_, ?_, ?_, ?_, ?_⟩
    · rw [hs]; simp [mup_app]; exact h.1
    · rw [hs]; simp [mup_app]
    · rw [hs]; simp [mup_app]; exact h.2.2.1
    · rw [hs]; simp [mup_app]; exact h.2.2.2.1
    · rw [hs]; simp [mup_app]; rw [h12]
    · intro r hr
      have := h.2.2.2.2.2.1 r hr
      rw [hm, hs]
      simp only [mup_app]
      grind
    · intro k hk
      rw [hs] at hk ⊢
      have h7 := h.2.2.2.2.2.2.1 k
      simp only [mup_app] at hk ⊢
      grind
    · intro m hm
      have := h.2.2.2.2.2.2.2 m hm
      rw [hs]
      simp only [mup_app]
      grind
  · have hs : dStr d = mup d 0 15 (wr (d 0 15 + 1)) := by unfold dStr; rw [if_neg ht]
    rw [if_neg ht]
    refine ⟨?_, ?_, ?_, ?_, ?_, ?_, ?_, ?_⟩
    · rw [hs]; simp [mup_app]; exact h.1
    · rw [hs]; simp [mup_app]; exact h.2.1
    · rw [hs]; simp [mup_app]; exact h.2.2.1
    · rw [hs]; simp [mup_app]; exact h.2.2.2.1
    · rw [hs]; simp [mup_app]; rw [h12]
    · intro r hr
      have := h.2.2.2.2.2.1 r hr
      rw [hm, hs]
      simp only [mup_app]
      grind
    · intro k hk
      rw [hs] at hk ⊢
      have h7 := h.2.2.2.2.2.2.1 k
      simp only [mup_app] at hk ⊢
      grind
    · intro m hm
      have := h.2.2.2.2.2.2.2 m hm
      rw [hs]
      simp only [mup_app]
      grind
theorem DR_dr (h : DR P M d e) : DR P M (fDr I d) e := by
  unfold fDr dDraw
  split
  · have hm : ∀ r : Int, dMode (mup d 0 14 (drawn (d 0 14))) r = dMode d r := fun r => dMode_congr (by simp [mup_app]) (by simp [mup_app]) (by rw [mup_other (by omega)])
    unfold DR at *
    simp only [hm]
    simp only [mup_app]
    grind
  · exact h
end R1
