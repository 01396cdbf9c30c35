/-! ===== phase 2: a day of the reference as a value ===== -/
/-- how long a half row 125 + r is -/
def jlen (r : Nat) : Nat := if r = 4 then 20 else if r = 9 then 12 else if r = 5 ∨ r = 6 ∨ r = 7 ∨ r = 11 ∨ r = 12 then 1 else 6
/-- the memory with another day b of the reference: rows 125 .. 137 -/
def jput (J : Nat → Nat → Int) (b : Nat) (e : Nat → Nat → Int) : Nat → Nat → Int := fun a => if 125 ≤ a ∧ a ≤ 137 then (fun k => if b * jlen (a - 125) ≤ k ∧ k < (b + 1) * jlen (a - 125) then e (a - 125) (k - b * jlen (a - 125)) else J a k) else J a
def jat (J : Nat → Nat → Int) (b : Nat) : Nat → Nat → Int := fun r k => if r ≤ 12 ∧ k < jlen r then J (125 + r) (b * jlen r + k) else 0
theorem jput_jat (J : Nat → Nat → Int) (b : Nat) : jput J b (jat J b) = J := by
  funext a
  unfold jput jat
  split
  · funext k
    split
    · next h =>
      rw [if_pos ⟨by omega, by have := h.2; rw [Nat.add_mul, Nat.one_mul] at this; omega⟩, show 125 + (a - 125) = a by omega, show b * jlen (a - 125) + (k - b * jlen (a - 125)) = k by omega]
    · rfl
  · rfl
theorem jat_at {J : Nat → Nat → Int} {b r k : Nat} (h : r ≤ 12) (hk : k < jlen r) : jat J b r k = J (125 + r) (b * jlen r + k) := if_pos ⟨h, hk⟩
theorem jat_congr {J J' : Nat → Nat → Int} {b : Nat} (h : ∀ r k, r ≤ 12 → k < jlen r → J' (125 + r) (b * jlen r + k) = J (125 + r) (b * jlen r + k)) : jat J' b = jat J b := by
  funext r k; unfold jat; split
  · next hh => exact h r k hh.1 hh.2
  · rfl
theorem jput_out {J e : Nat → Nat → Int} {b a : Nat} (h : a < 125 ∨ 137 < a) : jput J b e a = J a := by
  unfold jput; rw [if_neg (by omega)]
theorem jput_at {J e : Nat → Nat → Int} {b r k i : Nat} (h : r ≤ 12) (hk : k < jlen r) (hi : i = b * jlen r + k) : jput J b e (125 + r) i = e r k := by
  subst hi
  unfold jput
  rw [if_pos (by omega), show 125 + r - 125 = r by omega, if_pos (by rw [Nat.add_mul, Nat.one_mul]; omega), show b * jlen r + k - b * jlen r = k by omega]
theorem jput_app (J e : Nat → Nat → Int) (b a k : Nat) : jput J b e a k = if (125 ≤ a ∧ a ≤ 137) ∧ (b * jlen (a - 125) ≤ k ∧ k < (b + 1) * jlen (a - 125)) then e (a - 125) (k - b * jlen (a - 125)) else J a k := by
  unfold jput
  by_cases h : 125 ≤ a ∧ a ≤ 137
  · by_cases h2 : b * jlen (a - 125) ≤ k ∧ k < (b + 1) * jlen (a - 125)
    · simp only [h, h2, and_self, if_true]
    · simp only [h, h2, and_self, and_false, if_true, if_false]
  · simp only [h, false_and, if_false]
theorem mup_jput {J e : Nat → Nat → Int} {b r k i : Nat} {v : Int} (h : r ≤ 12) (hk : k < jlen r) (hi : i = b * jlen r + k) : mup (jput J b e) (125 + r) i v = jput J b (mup e r k v) := by
  subst hi
  funext a x
  rw [mup_app]
  by_cases ha : a = 125 + r
  · subst ha
    by_cases hx : x = b * jlen r + k
    · subst hx
      rw [if_pos ⟨rfl, rfl⟩, jput_at h hk rfl, mup_eq rfl rfl]
    · rw [if_neg (fun z => hx z.2), jput_app, jput_app, show 125 + r - 125 = r by omega]
      by_cases h2 : b * jlen r ≤ x ∧ x < (b + 1) * jlen r
      · rw [if_pos ⟨by omega, h2⟩, if_pos ⟨by omega, h2⟩, mup_ne (Or.inr (by omega))]
      · rw [if_neg (fun z => h2 z.2), if_neg (fun z => h2 z.2)]
  · rw [if_neg (fun z => ha z.1), jput_app, jput_app]
    by_cases h2 : (125 ≤ a ∧ a ≤ 137) ∧ (b * jlen (a - 125) ≤ x ∧ x < (b + 1) * jlen (a - 125))
    · rw [if_pos h2, if_pos h2, mup_ne (Or.inl (by omega))]
    · rw [if_neg h2, if_neg h2]
theorem mup_jput_out {J e : Nat → Nat → Int} {b a k : Nat} {v : Int} (h : a < 125 ∨ 137 < a) : mup (jput J b e) a k v = jput (mup J a k v) b e := by
  funext x
  by_cases hx : x = a
  · subst hx
    rw [jput_out h, mup_self, mup_self, jput_out h]
  · rw [mup_other hx]
    unfold jput
    split
    · rw [mup_other hx]
    · rw [mup_other hx]
/-- places of the reference's rows -/
theorem ix6 {b : Nat} {x : Int} (hb : b ≤ 1) (hx : 0 ≤ x ∧ x < 6) : wr (wr (6 * (b : Int)) + x) = ((6 * b + x.toNat : Nat) : Int) := by
  rw [wr_of (z := 6 * (b : Int)) (by omega) (by omega), wr_of (by omega) (by omega)]; omega
theorem ix20 {b : Nat} {x : Int} (hb : b ≤ 1) (hx : 0 ≤ x ∧ x < 20) : wr (wr (20 * (b : Int)) + x) = ((20 * b + x.toNat : Nat) : Int) := by
  rw [wr_of (z := 20 * (b : Int)) (by omega) (by omega), wr_of (by omega) (by omega)]; omega
theorem ix20' {b : Nat} (hb : b ≤ 1) : wr (20 * (b : Int)) = ((20 * b : Nat) : Int) := by
  rw [wr_of (z := 20 * (b : Int)) (by omega) (by omega)]; omega
theorem ix12 {b : Nat} {x : Int} (hb : b ≤ 1) (hx : 0 ≤ x ∧ x < 6) : wr (wr (12 * (b : Int)) + wr (2 * x)) = ((12 * b + 2 * x.toNat : Nat) : Int) := by
  rw [wr_of (z := 12 * (b : Int)) (by omega) (by omega), wr_of (z := 2 * x) (by omega) (by omega), wr_of (by omega) (by omega)]; omega
theorem ix12' {b : Nat} {x s : Int} (hb : b ≤ 1) (hx : 0 ≤ x ∧ x < 6) (hs : 0 ≤ s ∧ s ≤ 1) : wr (wr (wr (12 * (b : Int)) + wr (2 * x)) + s) = ((12 * b + 2 * x.toNat + s.toNat : Nat) : Int) := by
  rw [ix12 hb hx, wr_of (by omega) (by omega)]; omega
/-- all reads of a memory with a day b of the reference -/
theorem jS {b : Nat} (J e : Nat → Nat → Int) : (∀ q, q < 6 → jput J b e 125 (6 * b + q) = e 0 q) ∧ (∀ q, q < 6 → jput J b e 126 (6 * b + q) = e 1 q) ∧ (∀ q, q < 6 → jput J b e 127 (6 * b + q) = e 2 q) ∧ (∀ q, q < 6 → jput J b e 128 (6 * b + q) = e 3 q) ∧ (∀ q, q < 20 → jput J b e 129 (20 * b + q) = e 4 q) ∧ (jput J b e 130 b = e 5 0) ∧ (jput J b e 131 b = e 6 0) ∧ (jput J b e 132 b = e 7 0) ∧ (∀ q, q < 6 → jput J b e 133 (6 * b + q) = e 8 q) ∧ (∀ q, q < 12 → jput J b e 134 (12 * b + q) = e 9 q) ∧ (∀ q, q < 6 → jput J b e 135 (6 * b + q) = e 10 q) ∧ (jput J b e 136 b = e 11 0) ∧ (jput J b e 137 b = e 12 0) := by
  refine ⟨fun q hq => jput_at (r := 0) (by omega) hq ?_, fun q hq => jput_at (r := 1) (by omega) hq ?_, fun q hq => jput_at (r := 2) (by omega) hq ?_, fun q hq => jput_at (r := 3) (by omega) hq ?_, fun q hq => jput_at (r := 4) (by omega) hq ?_, jput_at (r := 5) (k := 0) (by omega) (by decide) ?_, jput_at (r := 6) (k := 0) (by omega) (by decide) ?_, jput_at (r := 7) (k := 0) (by omega) (by decide) ?_, fun q hq => jput_at (r := 8) (by omega) hq ?_, fun q hq => jput_at (r := 9) (by omega) hq ?_, fun q hq => jput_at (r := 10) (by omega) hq ?_, jput_at (r := 11) (k := 0) (by omega) (by decide) ?_, jput_at (r := 12) (k := 0) (by omega) (by decide) ?_⟩ <;> simp [jlen] <;> omega
theorem jW {b : Nat} (J : Nat → Nat → Int) : (∀ e q v, q < 6 → mup (jput J b e) 125 (6 * b + q) v = jput J b (mup e 0 q v)) ∧ (∀ e q v, q < 6 → mup (jput J b e) 126 (6 * b + q) v = jput J b (mup e 1 q v)) ∧ (∀ e q v, q < 6 → mup (jput J b e) 127 (6 * b + q) v = jput J b (mup e 2 q v)) ∧ (∀ e q v, q < 6 → mup (jput J b e) 128 (6 * b + q) v = jput J b (mup e 3 q v)) ∧ (∀ e q v, q < 20 → mup (jput J b e) 129 (20 * b + q) v = jput J b (mup e 4 q v)) ∧ (∀ e v, mup (jput J b e) 130 b v = jput J b (mup e 5 0 v)) ∧ (∀ e v, mup (jput J b e) 131 b v = jput J b (mup e 6 0 v)) ∧ (∀ e v, mup (jput J b e) 132 b v = jput J b (mup e 7 0 v)) ∧ (∀ e q v, q < 6 → mup (jput J b e) 133 (6 * b + q) v = jput J b (mup e 8 q v)) ∧ (∀ e q v, q < 12 → mup (jput J b e) 134 (12 * b + q) v = jput J b (mup e 9 q v)) ∧ (∀ e q v, q < 6 → mup (jput J b e) 135 (6 * b + q) v = jput J b (mup e 10 q v)) ∧ (∀ e v, mup (jput J b e) 136 b v = jput J b (mup e 11 0 v)) ∧ (∀ e v, mup (jput J b e) 137 b v = jput J b (mup e 12 0 v)) := by
  refine ⟨fun e q v hq => mup_jput (r := 0) (by omega) hq ?_, fun e q v hq => mup_jput (r := 1) (by omega) hq ?_, fun e q v hq => mup_jput (r := 2) (by omega) hq ?_, fun e q v hq => mup_jput (r := 3) (by omega) hq ?_, fun e q v hq => mup_jput (r := 4) (by omega) hq ?_, fun e v => mup_jput (r := 5) (k := 0) (by omega) (by decide) ?_, fun e v => mup_jput (r := 6) (k := 0) (by omega) (by decide) ?_, fun e v => mup_jput (r := 7) (k := 0) (by omega) (by decide) ?_, fun e q v hq => mup_jput (r := 8) (by omega) hq ?_, fun e q v hq => mup_jput (r := 9) (by omega) hq ?_, fun e q v hq => mup_jput (r := 10) (by omega) hq ?_, fun e v => mup_jput (r := 11) (k := 0) (by omega) (by decide) ?_, fun e v => mup_jput (r := 12) (k := 0) (by omega) (by decide) ?_⟩ <;> simp [jlen] <;> omega
/-! the two days -/
def en (x : Int) : Int := if x = -2 then 6 else x
def DR (P M : Int) (d e : Nat → Nat → Int) : Prop :=
  e 11 0 = d 0 10 ∧ e 5 0 = d 0 11 ∧ e 6 0 = en (d 0 12) ∧ (d 0 12 ≠ -1 → e 7 0 = d 0 13) ∧ e 12 0 = d 0 15 ∧
  (∀ q : Nat, (q : Int) < P → e 2 q = d 1 q ∧ e 1 q = d 2 q ∧ e 3 q = d 3 q ∧ e 0 q = dMode d q) ∧
  (∀ k : Nat, (k : Int) < d 0 11 → e 4 k = en (d 4 k)) ∧
  (∀ m : Nat, (m : Int) < M → e 8 m = d 5 m ∧ e 9 (2 * m) = d 6 m ∧ e 9 (2 * m + 1) = d 7 m ∧ e 10 m = d 8 m)
theorem dMode_congr {d d' : Nat → Nat → Int} {x : Int} (h1 : d' 0 11 = d 0 11) (h2 : d' 0 12 = d 0 12) (h3 : d' 4 = d 4) : dMode d' x = dMode d x := by
  unfold dMode dPl; rw [h1, h2, h3]
/-- who is talking, waiting, idle -/
theorem dMode_iff {d : Nat → Nat → Int} {x : Int} : (d 0 12 = x → dMode d x = 2) ∧ (d 0 12 ≠ x → (∃ k : Nat, (k : Int) < d 0 11 ∧ d 4 k = x) → dMode d x = 1) ∧ (d 0 12 ≠ x → (∀ k : Nat, (k : Int) < d 0 11 → d 4 k ≠ x) → dMode d x = 0) := by
  unfold dMode dPl
  refine ⟨fun h => if_pos h, fun h ⟨k, h1, h2⟩ => ?_, fun h h1 => ?_⟩
  · rw [if_neg h, if_neg (fun h3 => ?_)]
    exact pOf_none.mp h3 k (by omega) (by omega) h2
  · rw [if_neg h, if_pos]
    exact pOf_none.mpr (fun j _ h3 => h1 j (by omega))
/-- two days in which the same people wait and talk -/
theorem dMode_same {d d' : Nat → Nat → Int} {x : Int} (h1 : d 0 12 = x ↔ d' 0 12 = x) (h2 : (∃ k : Nat, (k : Int) < d 0 11 ∧ d 4 k = x) ↔ (∃ k : Nat, (k : Int) < d' 0 11 ∧ d' 4 k = x)) : dMode d' x = dMode d x := by
  have a := @dMode_iff d x
  have b := @dMode_iff d' x
  by_cases h3 : d 0 12 = x
  · rw [a.1 h3, b.1 (h1.mp h3)]
  · have h4 : d' 0 12 ≠ x := fun h => h3 (h1.mpr h)
    by_cases h5 : ∃ k : Nat, (k : Int) < d 0 11 ∧ d 4 k = x
    · rw [a.2.1 h3 h5, b.2.1 h4 (h2.mp h5)]
    · have h6 : ¬ ∃ k : Nat, (k : Int) < d' 0 11 ∧ d' 4 k = x := fun h => h5 (h2.mpr h)
      rw [a.2.2 h3 (fun k hk he => h5 ⟨k, hk, he⟩), b.2.2 h4 (fun k hk he => h6 ⟨k, hk, he⟩)]
