section R3
variable {Ls pp p b kc ks : Nat} {P M : Int} {I J K d e : Nat → Nat → Int} {Q : List mV → mM → Prop} {x : Int}
/-- the reference's day with one less in the row -/
def eOut (e : Nat → Nat → Int) (a : Nat) : Nat → Nat → Int := mup (rup e 4 (rowOut (e 4) a (e 5 0).toNat)) 5 0 (e 5 0 - 1)
theorem leaves_loop {a n : Nat} (hb : b ≤ 1) (hn : e 5 0 = (n : Int)) (h20 : n ≤ 20) (hQ : Q [] (mem Ls pp (jm J b (eOut e a) x) K)) : ∀ (t k : Nat), k + t + 1 = n → a ≤ k → m_Wp i_M_leaves 2 kc ks [(0, .inr (.inr 98)), (1, .inl (b : Int)), (3, .inl (k : Int))] [] (mem Ls pp (jm J b (rup e 4 (rowPart (e 4) a k)) x) K) Q := by
  unfold eOut at hQ
  rw [hn, Int.toNat_natCast] at hQ
  unfold jm at *
  intro t
  induction t with
  | zero =>
    intro k hk ha
    obtain ⟨j0, j1, j2, j3, j4, j5, j6, j7, j8, j9, j10, j11, j12⟩ := jS (b := b) (mup J 98 52 x) (rup e 4 (rowPart (e 4) a k))
    obtain ⟨w0, w1, w2, w3, w4, w5, w6, w7, w8, w9, w10, w11, w12⟩ := jW (b := b) (mup J 98 52 x)
    have h5 : rup e 4 (rowPart (e 4) a k) 5 0 = (n : Int) := by rw [rup_other (by omega)]; exact hn
    refine T_M_leaves_2 ?_
    rw [Int.toNat_natCast, j5, h5, wr_of (z := (k : Int) + 1) (by omega) (by omega), wr_of (z := (n : Int) - 1) (by omega) (by omega), w5]
    refine ⟨by omega, fun _ => ⟨by omega, by omega, ?_⟩, fun h => by omega⟩
    rw [show rowPart (e 4) a k = rowOut (e 4) a n by
      funext j
      unfold rowPart rowOut
      by_cases h : a ≤ j ∧ j < k
      · rw [if_pos h, if_pos (by omega)]
      · rw [if_neg h, if_neg (by omega)]]
    exact hQ
  | succ t ih =>
    intro k hk ha
    obtain ⟨j0, j1, j2, j3, j4, j5, j6, j7, j8, j9, j10, j11, j12⟩ := jS (b := b) (mup J 98 52 x) (rup e 4 (rowPart (e 4) a k))
    obtain ⟨w0, w1, w2, w3, w4, w5, w6, w7, w8, w9, w10, w11, w12⟩ := jW (b := b) (mup J 98 52 x)
    have h5 : rup e 4 (rowPart (e 4) a k) 5 0 = (n : Int) := by rw [rup_other (by omega)]; exact hn
    refine T_M_leaves_2 ?_
    rw [ix20 hb (by omega), Int.toNat_natCast, Int.toNat_natCast, Int.toNat_natCast, j5, h5, wr_of (z := (k : Int) + 1) (by omega) (by omega), wr_of (z := ((20 * b + k : Nat) : Int) + 1) (by omega) (by omega), show (((20 * b + k : Nat) : Int) + 1).toNat = 20 * b + (k + 1) by omega, j4 _ (by omega), w4 _ _ _ (by omega), rup_self, mup_rup, show (fun b => if b = k then rowPart (e 4) a k (k + 1) else rowPart (e 4) a k b) = rowPart (e 4) a (k + 1) by
      funext j
      unfold rowPart
      by_cases hj : j = k
      · rw [if_pos hj, if_neg (by omega), if_pos (by omega), hj]
      · rw [if_neg hj]
        by_cases h : a ≤ j ∧ j < k
        · rw [if_pos h, if_pos (by omega)]
        · rw [if_neg h, if_neg (by omega)]]
    refine ⟨by omega, fun h => by omega, fun _ => ⟨by omega, by omega, ?_⟩⟩
    exact ih (k + 1) (by omega) (by omega)
theorem r_leaves {a : Nat} (hb : b ≤ 1) (hn : 0 ≤ e 5 0 ∧ e 5 0 ≤ 20) (ha : (a : Int) < e 5 0) (hQ : Q [] (mem Ls pp (jm J b (eOut e a) x) K)) : m_Call i_M_leaves [.inr (.inr 98), .inl (b : Int), .inl (a : Int)] (mem Ls pp (jm J b e x) K) Q := by
  refine E_M_leaves ?_
  have h := leaves_loop (Ls := Ls) (pp := pp) (kc := 0) (ks := 0) (J := J) (K := K) (x := x) (Q := Q) (a := a) (n := (e 5 0).toNat) hb (by omega) (by omega) hQ ((e 5 0).toNat - a - 1) a (by omega) (by omega)
  rw [show rowPart (e 4) a a = e 4 by
    funext j
    unfold rowPart
    rw [if_neg (by omega)], rup_id] at h
  exact h
theorem DR_leave {a : Nat} (hd : DOK P M d) (h : DR P M d e) (ha : (a : Int) < d 0 11) : (∀ k : Nat, (k : Int) < d 0 11 - 1 → eOut e a 4 k = en (dOut d a 4 k)) ∧ (∀ k : Nat, (k : Int) < d 0 11 - 1 → dOut d a 4 k = if a ≤ k then d 4 (k + 1) else d 4 k) := by
  have hn := hd.2.2.1
  have h7 := h.2.2.2.2.2.2.1
  have h5 := h.2.1
  refine ⟨fun k hk => ?_, fun k hk => ?_⟩
  · unfold eOut dOut rowOut
    have h8 := h7 k (by omega)
    have h9 := h7 (k + 1) (by omega)
    simp only [mup_app, rup_app, h5]
    grind
  · unfold dOut rowOut
    simp only [mup_app, rup_app]
    grind
theorem dMode_out {a : Nat} {r : Int} (hd : DOK P M d) (ha : (a : Int) < d 0 11) (hr : r ≠ -2) (h12 : d 0 12 ≠ r) : dMode (dOut d a) r = if r = d 4 a then 0 else dMode d r := by
  have hn := hd.2.2.1
  have hds := hd.2.2.2.2.2.2.2.2.1
  have e11 : dOut d a 0 11 = d 0 11 - 1 := by unfold dOut; exact mup_eq rfl rfl
  have e12 : dOut d a 0 12 = d 0 12 := by unfold dOut; simp [mup_app, rup_app]
  have e4 : ∀ k : Nat, (k : Int) < d 0 11 - 1 → dOut d a 4 k = if a ≤ k then d 4 (k + 1) else d 4 k := fun k hk => by
    unfold dOut rowOut
    simp only [mup_app, rup_app]
    grind
  by_cases h : r = d 4 a
  · rw [if_pos h]
    refine dMode_iff.2.2 (by rw [e12]; exact h12) (fun k hk => ?_)
    rw [e11] at hk
    rw [e4 k hk]
    split
    · intro h2
      have := hds a (k + 1) (by omega) (by omega) (by rw [h2, h])
      omega
    · intro h2
      have := hds k a (by omega) (by omega) (by rw [h2, h])
      omega
  · rw [if_neg h]
    refine dMode_same (by rw [e12]) ⟨fun ⟨k, h1, h2⟩ => ?_, fun ⟨k, h1, h2⟩ => ?_⟩
    · have hka : k ≠ a := fun h3 => h (by rw [← h2, h3])
      by_cases hk : k < a
      · exact ⟨k, by rw [e11]; omega, by rw [e4 k (by omega), if_neg (by omega)]; exact h2⟩
      · refine ⟨k - 1, by rw [e11]; omega, ?_⟩
        rw [e4 (k - 1) (by omega), if_pos (by omega), show k - 1 + 1 = k by omega]; exact h2
    · rw [e11] at h1
      rw [e4 k h1] at h2
      split at h2
      · exact ⟨k + 1, by omega, h2⟩
      · exact ⟨k, by omega, h2⟩
theorem dMode_talk {w v r : Int} (hr : d 0 12 ≠ r) : dMode (mup (mup d 0 12 w) 0 13 v) r = if r = w then 2 else dMode d r := by
  by_cases h : r = w
  · rw [if_pos h]
    exact dMode_iff.1 (by simp [mup_app, h])
  · rw [if_neg h]
    refine dMode_same ?_ ?_
    · simp only [mup_app]
      simp only [Nat.reduceEqDiff, and_false, if_false, and_self, if_true]
      exact ⟨fun h2 => absurd h2 hr, fun h2 => absurd h2.symm h⟩
    · simp [mup_app]
/-- a talk begins -/
theorem DR_start {w v : Int} (hP : 0 ≤ P ∧ P ≤ 6) (hd : DOK P M d) (h : DR P M d e) (h12 : d 0 12 = -1) (h0 : 0 < d 0 11) (hw : w = d 4 0) : DR P M (mup (mup (dOut d 0) 0 12 w) 0 13 v) (mup (if w = -2 then mup (eOut e 0) 6 0 6 else mup (mup (eOut e 0) 6 0 w) 0 w.toNat 2) 7 0 v) := by
  have hn := hd.2.2.1
  have hrow := hd.2.2.2.2.2.2.2.1 0 (by omega)
  have hl := DR_leave (a := 0) hd h (by omega)
  have f12 : dOut d 0 0 12 = -1 := by rw [← h12]; unfold dOut; simp [mup_app, rup_app]
  have hm : ∀ r : Nat, dMode (mup (mup (dOut d 0) 0 12 w) 0 13 v) (r : Int) = if (r : Int) = w then 2 else dMode d r := by
    intro r
    rw [dMode_talk (by rw [f12]; omega)]
    split
    · rfl
    · next hh =>
      rw [dMode_out hd (by omega) (by omega) (by omega), if_neg (by rw [← hw]; exact hh)]
  have f : ∀ a k, a ≠ 4 → ¬ (a = 0 ∧ k = 11) → dOut d 0 a k = d a k := fun a k h1 h2 => by unfold dOut; rw [mup_ne (by omega), rup_other h1]
  have g : ∀ a k, a ≠ 4 → a ≠ 5 → eOut e 0 a k = e a k := fun a k h1 h2 => by unfold eOut; rw [mup_ne (Or.inl h2), rup_other h1]
  have f11 : dOut d 0 0 11 = d 0 11 - 1 := by unfold dOut; exact mup_eq rfl rfl
  have g5 : eOut e 0 5 0 = d 0 11 - 1 := by unfold eOut; rw [mup_eq rfl rfl, h.2.1]
  have hen : en w = if w = -2 then 6 else w := rfl
  unfold DR at *
  refine ⟨?_, ?_, ?_, ?_, ?_, ?_, ?_, ?_⟩
  · by_cases h2 : w = -2 <;> simp [h2, mup_app, f, g, h.1]
  · by_cases h2 : w = -2 <;> simp [h2, mup_app, f11, g5]
  · by_cases h2 : w = -2 <;> simp [h2, mup_app, en]
  · by_cases h2 : w = -2 <;> simp [h2, mup_app]
  · by_cases h2 : w = -2 <;> simp [h2, mup_app, f, g, h.2.2.2.2.1]
  · intro r hr
    have h6 := h.2.2.2.2.2.1 r hr
    rw [hm]
    by_cases h2 : w = -2
    · rw [if_pos h2, if_neg (by omega)]
      simp [mup_app, f, g, h6]
    · rw [if_neg h2]
      by_cases h3 : (r : Int) = w
      · have h4 : r = w.toNat := by omega
        rw [if_pos h3]
        simp only [mup_app]
        have := h6.1; have := h6.2.1; have := h6.2.2.1
        refine ⟨?_, ?_, ?_, ?_⟩
        · simp [f, g, h6]
        · simp [f, g, h6]
        · simp [f, g, h6]
        · simp [h4]
      · have h4 : r ≠ w.toNat := by omega
        simp [mup_app, f, g, h6, h3, h4]
  · intro k hk
    have hk' : (k : Int) < d 0 11 - 1 := by simpa [mup_app, f11] using hk
    have := hl.1 k hk'
    by_cases h2 : w = -2 <;> simp [h2, mup_app, this]
  · intro m hm
    have h8 := h.2.2.2.2.2.2.2 m hm
    by_cases h2 : w = -2 <;> simp [h2, mup_app, f, g, h8]
end R3
