/-! ===== phase 2: a day as a value ===== -/
/-- the memory with another day at c -/
def dput (I : Nat → Nat → Int) (c : Nat) (d : Nat → Nat → Int) : Nat → Nat → Int := fun a => if c ≤ a ∧ a < c + 9 then d (a - c) else I a
/-- the day at c -/
def dat (I : Nat → Nat → Int) (c : Nat) : Nat → Nat → Int := fun j => if j < 9 then I (c + j) else fun _ => 0
def isPlan (p : Nat) : Prop := p = 68 ∨ p = 9
theorem dput_dat (I : Nat → Nat → Int) (c : Nat) : dput I c (dat I c) = I := by
  funext a; unfold dput dat; split
  · rw [if_pos (by omega), show c + (a - c) = a by omega]
  · rfl
theorem dat_at {I : Nat → Nat → Int} {c j : Nat} (h : j < 9) : dat I c j = I (c + j) := if_pos h
theorem dat_congr {I I' : Nat → Nat → Int} {c : Nat} (h : ∀ j, j < 9 → I' (c + j) = I (c + j)) : dat I' c = dat I c := by
  funext j; unfold dat; split
  · exact h j (by omega)
  · rfl
theorem dput_at {I : Nat → Nat → Int} {c : Nat} {d : Nat → Nat → Int} {j : Nat} (h : j < 9) : dput I c d (c + j) = d j := by
  unfold dput; rw [if_pos (by omega), show c + j - c = j by omega]
theorem dput_c {I : Nat → Nat → Int} {c : Nat} {d : Nat → Nat → Int} : dput I c d c = d 0 := by
  unfold dput; rw [if_pos (by omega), Nat.sub_self]
theorem dput_out {I : Nat → Nat → Int} {c : Nat} {d : Nat → Nat → Int} {a : Nat} (h : a < c ∨ c + 9 ≤ a) : dput I c d a = I a := by
  unfold dput; rw [if_neg (by omega)]
theorem mup_dput {I : Nat → Nat → Int} {c : Nat} {d : Nat → Nat → Int} {j k : Nat} {v : Int} (h : j < 9) : mup (dput I c d) (c + j) k v = dput I c (mup d j k v) := by
  funext a
  by_cases h1 : a = c + j
  · subst h1
    rw [mup_self, dput_at h, dput_at h, mup_self]
  · rw [mup_other h1]
    unfold dput
    split
    · rw [mup_other (by omega)]
    · rfl
theorem mup_dput0 {I : Nat → Nat → Int} {c : Nat} {d : Nat → Nat → Int} {k : Nat} {v : Int} : mup (dput I c d) c k v = dput I c (mup d 0 k v) := mup_dput (j := 0) (by omega)
theorem rup_dput {I : Nat → Nat → Int} {c : Nat} {d : Nat → Nat → Int} {j : Nat} {f : Nat → Int} (h : j < 9) : rup (dput I c d) (c + j) f = dput I c (rup d j f) := by
  funext a
  by_cases h1 : a = c + j
  · subst h1
    rw [rup_self, dput_at h, rup_self]
  · rw [rup_other h1]
    unfold dput
    split
    · rw [rup_other (by omega)]
    · rfl
theorem dput_dput {I : Nat → Nat → Int} {c : Nat} {d e : Nat → Nat → Int} : dput (dput I c d) c e = dput I c e := by
  funext a; unfold dput; split <;> rfl
/-- all reads and writes of a memory with a day at c -/
theorem dS {p c : Nat} (hp : isPlan p) (hc : isDay c) (I d : Nat → Nat → Int) :
    (dput I c d c = d 0 ∧ dput I c d (c + 1) = d 1 ∧ dput I c d (c + 2) = d 2 ∧ dput I c d (c + 3) = d 3 ∧ dput I c d (c + 4) = d 4 ∧ dput I c d (c + 5) = d 5 ∧ dput I c d (c + 6) = d 6 ∧ dput I c d (c + 7) = d 7 ∧ dput I c d (c + 8) = d 8) ∧
    (dput I c d p = I p ∧ (∀ k, k < 19 → dput I c d (p + k) = I (p + k)) ∧ dput I c d 64 = I 64 ∧ dput I c d 65 = I 65 ∧ dput I c d 66 = I 66) := by
  refine ⟨⟨dput_c, dput_at (by omega), dput_at (by omega), dput_at (by omega), dput_at (by omega), dput_at (by omega), dput_at (by omega), dput_at (by omega), dput_at (by omega)⟩, dput_out ?_, fun k hk => dput_out ?_, dput_out ?_, dput_out ?_, dput_out ?_⟩ <;> (unfold isPlan at hp; unfold isDay at hc; omega)
theorem dW {c : Nat} (I : Nat → Nat → Int) : (∀ d k v, mup (dput I c d) c k v = dput I c (mup d 0 k v)) ∧ (∀ d k v, mup (dput I c d) (c + 1) k v = dput I c (mup d 1 k v)) ∧ (∀ d k v, mup (dput I c d) (c + 2) k v = dput I c (mup d 2 k v)) ∧ (∀ d k v, mup (dput I c d) (c + 3) k v = dput I c (mup d 3 k v)) ∧ (∀ d k v, mup (dput I c d) (c + 4) k v = dput I c (mup d 4 k v)) ∧ (∀ d k v, mup (dput I c d) (c + 5) k v = dput I c (mup d 5 k v)) ∧ (∀ d k v, mup (dput I c d) (c + 6) k v = dput I c (mup d 6 k v)) ∧ (∀ d k v, mup (dput I c d) (c + 7) k v = dput I c (mup d 7 k v)) ∧ (∀ d k v, mup (dput I c d) (c + 8) k v = dput I c (mup d 8 k v)) :=
  ⟨fun _ _ _ => mup_dput0, fun _ _ _ => mup_dput (by omega), fun _ _ _ => mup_dput (by omega), fun _ _ _ => mup_dput (by omega), fun _ _ _ => mup_dput (by omega), fun _ _ _ => mup_dput (by omega), fun _ _ _ => mup_dput (by omega), fun _ _ _ => mup_dput (by omega), fun _ _ _ => mup_dput (by omega)⟩
/-! the steps of a day -/
def dPl (d : Nat → Nat → Int) (x : Int) : Int := pOf (d 4) x 0 (d 0 11).toNat
def dMode (d : Nat → Nat → Int) (x : Int) : Int := if d 0 12 = x then 2 else if dPl d x = -1 then 0 else 1
def dIn (d : Nat → Nat → Int) (x : Int) : Nat → Nat → Int := if d 0 11 < 20 ∧ dMode d x = 0 then mup (mup (mup d 2 x.toNat (if d 0 12 = -1 then d 0 11 else d 0 11 + 1)) 4 (d 0 11).toNat x) 0 11 (d 0 11 + 1) else d
def dStr (d : Nat → Nat → Int) : Nat → Nat → Int := if d 0 11 < 20 then mup (mup (mup d 0 15 (wr (d 0 15 + 1))) 4 (d 0 11).toNat (-2)) 0 11 (d 0 11 + 1) else mup d 0 15 (wr (d 0 15 + 1))
def dOut (d : Nat → Nat → Int) (k : Nat) : Nat → Nat → Int := mup (rup d 4 (rowOut (d 4) k (d 0 11).toNat)) 0 11 (d 0 11 - 1)
def drawn (n : Int) : Int := m_and (wr (wr (n * 1103515245) + 12345)) 2147483647
def dDraw (d : Nat → Nat → Int) : Nat → Nat → Int := mup d 0 14 (drawn (d 0 14))
/-- for k, k + 1, .., n times -/
def lp {S : Type} (f : Nat → S → S) : Nat → Nat → S → S
  | _, 0, s => s
  | k, n + 1, s => lp f (k + 1) n (f k s)
section D1
variable {Ls p c kc ks : Nat} {I L d : Nat → Nat → Int} {Q : List mV → mM → Prop}
theorem q_placeOf {x : Int} (hc : isDay c) (hn : 0 ≤ d 0 11 ∧ d 0 11 ≤ 20) (k : Q [.inl (dPl d x)] (mem Ls p (dput I c d) L)) : m_Call i_Day_placeOf [.inr (.inr c), .inl x] (mem Ls p (dput I c d) L) Q := by
  refine c_placeOf (n := (d 0 11).toNat) hc (by rw [dput_c]; omega) (by omega) ?_
  rw [dput_at (by omega)]; exact k
theorem q_modeOf {x : Int} (hc : isDay c) (hn : 0 ≤ d 0 11 ∧ d 0 11 ≤ 20) (k : Q [.inl (dMode d x)] (mem Ls p (dput I c d) L)) : m_Call i_Day_modeOf [.inr (.inr c), .inl x] (mem Ls p (dput I c d) L) Q := by
  refine c_modeOf (n := (d 0 11).toNat) hc (by rw [dput_c]; omega) (by omega) ?_
  unfold modeD; rw [dput_at (by omega), dput_c]; exact k
theorem q_takesIn {x : Int} (hc : isDay c) (hn : 0 ≤ d 0 11 ∧ d 0 11 ≤ 20) (hx : 0 ≤ x ∧ x < 6) (k : Q [.inl (if d 0 11 < 20 ∧ dMode d x = 0 then 1 else 0)] (mem Ls p (dput I c (dIn d x)) L)) : m_Call i_Day_takesIn [.inr (.inr c), .inl x] (mem Ls p (dput I c d) L) Q := by
  have hm : modeD (dput I c d) c x = dMode d x := by unfold modeD; rw [dput_at (by omega), dput_c]; rfl
  unfold dIn at k
  refine c_takesIn (n := (d 0 11).toNat) hc (by rw [dput_c]; omega) (by omega) hx (fun h => ?_) (fun h1 h2 => ?_)
  · rw [hm] at h
    have hh : ¬ (d 0 11 < 20 ∧ dMode d x = 0) := by omega
    rw [if_neg hh, if_neg hh] at k; exact k
  · rw [hm] at h2
    have hh : d 0 11 < 20 ∧ dMode d x = 0 := by omega
    rw [if_pos hh, if_pos hh] at k
    rw [mup_dput (by omega), mup_dput (by omega), mup_dput0, dput_c, show (((d 0 11).toNat : Nat) : Int) = d 0 11 by omega]
    exact k
theorem q_takesStranger (hc : isDay c) (hn : 0 ≤ d 0 11 ∧ d 0 11 ≤ 20) (k : Q [] (mem Ls p (dput I c (dStr d)) L)) : m_Call i_Day_takesStranger [.inr (.inr c)] (mem Ls p (dput I c d) L) Q := by
  unfold dStr at k
  refine E_Day_takesStranger hc ⟨fun h => ?_, fun h => ?_⟩
  · rw [dput_c] at h
    rw [if_neg (by omega)] at k
    rw [mup_dput0, dput_c]; exact k
  · rw [dput_c] at h
    rw [if_pos (by omega)] at k
    simp only [dput_c, mup_dput0, mup_dput (show 4 < 9 by omega)]
    rw [wr_of (z := d 0 11 + 1) (by omega) (by omega)]
    exact ⟨by omega, k⟩
theorem q_takeOut {x : Int} (hc : isDay c) (hn : 0 ≤ d 0 11 ∧ d 0 11 ≤ 20) (hx : 0 ≤ x ∧ x < d 0 11) (k : Q [] (mem Ls p (dput I c (dOut d x.toNat)) L)) : m_Call i_Day_takeOut [.inr (.inr c), .inl x] (mem Ls p (dput I c d) L) Q := by
  refine c_takeOut (n := (d 0 11).toNat) hc (by rw [dput_c]; omega) (by omega) (fun h => by omega) (fun h => ?_)
  rw [rup_dput (by omega), mup_dput0, dput_at (by omega), show (((d 0 11).toNat : Nat) : Int) = d 0 11 by omega]
  exact k
theorem q_drawNumber (hc : isDay c) (k : Q [.inl (wr (Int.tdiv (drawn (d 0 14)) 65536))] (mem Ls p (dput I c (dDraw d)) L)) : m_Call i_Day_drawNumber [.inr (.inr c)] (mem Ls p (dput I c d) L) Q := by
  refine E_Day_drawNumber hc ⟨by omega, ?_⟩
  rw [dput_c, mup_dput0]; exact k
end D1
