/-! ===== phase 2: the memory, read and written ===== -/
theorem mup_eq {I : Nat → Nat → Int} {k j a b : Nat} {v : Int} (h1 : a = k) (h2 : b = j) : mup I k j v a b = v := by
  subst h1; subst h2; rw [mup_self]; exact if_pos rfl
theorem mup_ne {I : Nat → Nat → Int} {k j a b : Nat} {v : Int} (h : a ≠ k ∨ b ≠ j) : mup I k j v a b = I a b := by
  by_cases h1 : a = k
  · subst h1
    rw [mup_self]
    exact if_neg (h.resolve_left (fun z => z rfl))
  · rw [mup_other h1]
theorem mup_app (I : Nat → Nat → Int) (k j : Nat) (v : Int) (a b : Nat) : mup I k j v a b = if a = k ∧ b = j then v else I a b := by
  by_cases h : a = k ∧ b = j
  · rw [if_pos h]; exact mup_eq h.1 h.2
  · rw [if_neg h]
    exact mup_ne (by by_cases h1 : a = k; exact Or.inr (fun h2 => h ⟨h1, h2⟩); exact Or.inl h1)
/-- a call whose answer and memory are known -/
theorem m_Call.to {m : Nat} {as : List mV} {M : mM} {v : List mV} {M1 : mM} {Q : List mV → mM → Prop} (h : m_Call m as M (fun r M' => r = v ∧ M' = M1)) (k : Q v M1) : m_Call m as M Q := m_Call.mono h (fun r M' h => by rw [h.1, h.2]; exact k)
theorem m_swap {m m' : Nat} {as as' : List mV} {M M' : mM} {Q : List mV → mM → List mV → mM → Prop} (h : m_Call m as M (fun r N => m_Call m' as' M' (Q r N))) : m_Call m' as' M' (fun r' N' => m_Call m as M (fun r N => Q r N r' N')) := m_Wr.swap h
/-- where x stands first among n places from k on; -1 -/
def pOf (f : Nat → Int) (x : Int) : Nat → Nat → Int
  | _, 0 => -1
  | k, n + 1 => if f k = x then (k : Int) else pOf f x (k + 1) n
def isDay (c : Nat) : Prop := c = 28 ∨ c = 37 ∨ c = 46 ∨ c = 55
section DAY
variable {Ls p c kc ks : Nat} {I L : Nat → Nat → Int} {Q : List mV → mM → Prop}
theorem placeOf_loop {x : Int} {n : Nat} (hc : isDay c) (hn : I c 11 = (n : Int)) (h20 : n ≤ 20) : ∀ (j k : Nat), k + j = n → Q [.inl (pOf (I (c + 4)) x k j)] (mem Ls p I L) → m_Wp i_Day_placeOf 2 kc ks [(0, .inr (.inr c)), (1, .inl x), (2, .inl (k : Int))] [] (mem Ls p I L) Q := by
  intro j
  induction j with
  | zero =>
    intro k hk hQ
    exact T_Day_placeOf_2 hc ⟨fun _ => hQ, fun h => absurd (show I c 11 ≤ (k : Int) by rw [hn]; omega) h⟩
  | succ j ih =>
    intro k hk hQ
    refine T_Day_placeOf_2 hc ⟨fun h => absurd h (by rw [hn]; omega), fun _ => ⟨by omega, fun h1 => ?_, fun h1 => ?_⟩⟩
    · rw [Int.toNat_natCast] at h1
      rw [show wr ((k : Int) + 1) = ((k + 1 : Nat) : Int) by rw [wr_of (by omega) (by omega)]; omega]
      refine ih (k + 1) (by omega) ?_
      rw [pOf, if_neg h1] at hQ
      exact hQ
    · rw [Int.toNat_natCast] at h1
      rw [pOf, if_pos (Classical.not_not.mp h1)] at hQ
      exact hQ
theorem c_placeOf {x : Int} {n : Nat} (hc : isDay c) (hn : I c 11 = (n : Int)) (h20 : n ≤ 20) (k : Q [.inl (pOf (I (c + 4)) x 0 n)] (mem Ls p I L)) : m_Call i_Day_placeOf [.inr (.inr c), .inl x] (mem Ls p I L) Q :=
  E_Day_placeOf hc (placeOf_loop hc hn h20 n 0 (by omega) k)
/-- 0 idle, 1 waiting, 2 talking -/
def modeD (I : Nat → Nat → Int) (c : Nat) (x : Int) : Int := if I c 12 = x then 2 else if pOf (I (c + 4)) x 0 (I c 11).toNat = -1 then 0 else 1
theorem c_modeOf {x : Int} {n : Nat} (hc : isDay c) (hn : I c 11 = (n : Int)) (h20 : n ≤ 20) (k : Q [.inl (modeD I c x)] (mem Ls p I L)) : m_Call i_Day_modeOf [.inr (.inr c), .inl x] (mem Ls p I L) Q := by
  have hnn : (I c 11).toNat = n := by rw [hn]; omega
  unfold modeD at k
  rw [hnn] at k
  refine E_Day_modeOf hc ⟨fun h => c_placeOf hc hn h20 (T_Day_modeOf_15 hc ⟨fun h1 => ?_, fun h1 => ?_⟩), fun h => ?_⟩
  · rw [if_neg h, if_neg h1] at k; exact k
  · rw [if_neg h, if_pos (Classical.not_not.mp h1)] at k; exact k
  · rw [if_pos (Classical.not_not.mp h)] at k; exact k
end DAY
section DAY2
variable {Ls p c kc ks : Nat} {I L : Nat → Nat → Int} {Q : List mV → mM → Prop}
theorem c_takesIn {x : Int} {n : Nat} (hc : isDay c) (hn : I c 11 = (n : Int)) (h20 : n ≤ 20) (hx : 0 ≤ x ∧ x < 6) (k1 : n = 20 ∨ ¬ modeD I c x = 0 → Q [.inl 0] (mem Ls p I L))
    (k2 : n < 20 → modeD I c x = 0 → Q [.inl 1] (mem Ls p (mup (mup (mup I (c + 2) x.toNat (if I c 12 = -1 then (n : Int) else (n : Int) + 1)) (c + 4) n x) c 11 ((n : Int) + 1)) L)) : m_Call i_Day_takesIn [.inr (.inr c), .inl x] (mem Ls p I L) Q := by
  refine E_Day_takesIn hc ⟨fun h => ⟨Or.inl rfl, k1 (Or.inl (by rw [hn] at h; omega))⟩, fun h => c_modeOf hc hn h20 (T_Day_takesIn_14 hc ⟨fun h1 => ⟨fun h2 => ?_, fun h2 => ?_⟩, fun h1 => ⟨Or.inl rfl, k1 (Or.inr h1)⟩⟩)⟩
  · rw [hn] at h
    have k := k2 (by omega) h1
    rw [if_neg h2] at k
    refine ⟨hx, by rw [hn]; omega, Or.inr rfl, ?_⟩
    rw [hn, wr_of (by omega) (by omega), Int.toNat_natCast]
    exact k
  · rw [hn] at h
    have k := k2 (by omega) h1
    rw [if_pos (Classical.not_not.mp h2)] at k
    refine ⟨hx, by rw [hn]; omega, Or.inr rfl, ?_⟩
    rw [hn, wr_of (by omega) (by omega), Int.toNat_natCast]
    exact k
theorem c_takesStranger {n : Nat} (hc : isDay c) (hn : I c 11 = (n : Int)) (h20 : n ≤ 20) (hs : 0 ≤ I c 15 ∧ I c 15 < 100000) (k1 : n = 20 → Q [] (mem Ls p (mup I c 15 (I c 15 + 1)) L)) (k2 : n < 20 → Q [] (mem Ls p (mup (mup (mup I c 15 (I c 15 + 1)) (c + 4) n (-2)) c 11 ((n : Int) + 1)) L)) : m_Call i_Day_takesStranger [.inr (.inr c)] (mem Ls p I L) Q := by
  refine E_Day_takesStranger hc ⟨fun h => ?_, fun h => ⟨by rw [hn] at h ⊢; omega, ?_⟩⟩
  · rw [wr_of (by omega) (by omega)]
    exact k1 (by rw [hn] at h; omega)
  · rw [hn] at h
    rw [wr_of (z := I c 15 + 1) (by omega) (by omega), hn, wr_of (by omega) (by omega), Int.toNat_natCast]
    exact k2 (by omega)
/-- a row without its place x: what is behind comes forward -/
def rowOut (f : Nat → Int) (a n : Nat) : Nat → Int := fun j => if a ≤ j ∧ j + 1 < n then f (j + 1) else f j
/-- the memory with another row -/
def rup (I : Nat → Nat → Int) (k : Nat) (f : Nat → Int) : Nat → Nat → Int := fun a => if a = k then f else I a
theorem rup_self (I : Nat → Nat → Int) (k : Nat) (f : Nat → Int) : rup I k f k = f := if_pos rfl
theorem rup_other {I : Nat → Nat → Int} {k a : Nat} {f : Nat → Int} (h : a ≠ k) : rup I k f a = I a := if_neg h
theorem mup_rup {I : Nat → Nat → Int} {k j : Nat} {v : Int} {f : Nat → Int} : mup (rup I k f) k j v = rup I k (fun b => if b = j then v else f b) := by
  funext a
  by_cases h : a = k
  · subst h; rw [mup_self, rup_self, rup_self]
  · rw [mup_other h, rup_other h, rup_other h]
theorem rup_id (I : Nat → Nat → Int) (k : Nat) : rup I k (I k) = I := by
  funext a
  by_cases h : a = k
  · subst h; rw [rup_self]
  · rw [rup_other h]
end DAY2
section DAY3
variable {Ls p c kc ks : Nat} {I L : Nat → Nat → Int} {Q : List mV → mM → Prop}
def rowPart (f : Nat → Int) (a k : Nat) : Nat → Int := fun j => if a ≤ j ∧ j < k then f (j + 1) else f j
theorem takeOut_loop {a n : Nat} (hc : isDay c) (hn : I c 11 = (n : Int)) (h20 : n ≤ 20) (hQ : Q [] (mem Ls p (mup (rup I (c + 4) (rowOut (I (c + 4)) a n)) c 11 ((n : Int) - 1)) L)) : ∀ (t k : Nat), k + t + 1 = n → a ≤ k → m_Wp i_Day_takeOut 15 kc ks [(0, .inr (.inr c)), (2, .inl (k : Int))] [] (mem Ls p (rup I (c + 4) (rowPart (I (c + 4)) a k)) L) Q := by
  intro t
  induction t with
  | zero =>
    intro k hk ha
    have h11 : rup I (c + 4) (rowPart (I (c + 4)) a k) c 11 = (n : Int) := by rw [rup_other (by omega)]; exact hn
    refine T_Day_takeOut_15 hc ⟨fun _ => ?_, fun h => absurd (show wr (rup I (c + 4) (rowPart (I (c + 4)) a k) c 11 - 1) ≤ (k : Int) by rw [h11, wr_of (by omega) (by omega)]; omega) h⟩
    rw [h11, wr_of (by omega) (by omega), show rowPart (I (c + 4)) a k = rowOut (I (c + 4)) a n by
      funext j
      unfold rowPart rowOut
      by_cases h : a ≤ j ∧ j < k
      · rw [if_pos h, if_pos (by omega)]
      · rw [if_neg h, if_neg (by omega)]]
    exact hQ
  | succ t ih =>
    intro k hk ha
    have h11 : rup I (c + 4) (rowPart (I (c + 4)) a k) c 11 = (n : Int) := by rw [rup_other (by omega)]; exact hn
    have hw1 : wr ((k : Int) + 1) = ((k + 1 : Nat) : Int) := by rw [wr_of (by omega) (by omega)]; omega
    refine T_Day_takeOut_15 hc ⟨fun h => absurd h (by rw [h11, wr_of (by omega) (by omega)]; omega), fun _ => ⟨by rw [hw1]; omega, by omega, ?_⟩⟩
    rw [hw1, Int.toNat_natCast, Int.toNat_natCast, rup_self, mup_rup, show (fun b => if b = k then rowPart (I (c + 4)) a k (k + 1) else rowPart (I (c + 4)) a k b) = rowPart (I (c + 4)) a (k + 1) by
      funext j
      unfold rowPart
      by_cases hj : j = k
      · rw [if_pos hj, if_neg (by omega), if_pos (by omega), hj]
      · rw [if_neg hj]
        by_cases h : a ≤ j ∧ j < k
        · rw [if_pos h, if_pos (by omega)]
        · rw [if_neg h, if_neg (by omega)]]
    exact ih (k + 1) (by omega) (by omega)
theorem c_takeOut {x : Int} {n : Nat} (hc : isDay c) (hn : I c 11 = (n : Int)) (h20 : n ≤ 20) (k1 : ¬ (0 ≤ x ∧ x < (n : Int)) → Q [] (mem Ls p I L)) (k2 : 0 ≤ x ∧ x < (n : Int) → Q [] (mem Ls p (mup (rup I (c + 4) (rowOut (I (c + 4)) x.toNat n)) c 11 ((n : Int) - 1)) L)) : m_Call i_Day_takeOut [.inr (.inr c), .inl x] (mem Ls p I L) Q := by
  refine E_Day_takeOut hc ⟨fun h => k1 (by omega), fun h => ⟨fun h1 => ?_, fun h1 => k1 (by rw [hn] at h1; omega)⟩⟩
  rw [hn] at h1
  have k := takeOut_loop (Ls := Ls) (p := p) (kc := 0) (ks := 0) (L := L) (Q := Q) (a := x.toNat) hc hn h20 (k2 (by omega)) (n - x.toNat - 1) x.toNat (by omega) (Nat.le_refl _)
  rw [show rowPart (I (c + 4)) x.toNat x.toNat = I (c + 4) by
    funext j
    unfold rowPart
    rw [if_neg (by omega)], rup_id, show ((x.toNat : Nat) : Int) = x by omega] at k
  exact k
end DAY3
