/-! ===== phase 2: a minute, by the class ===== -/
def planOK (I : Nat → Nat → Int) (p : Nat) : Prop :=
  (0 ≤ I p 13 ∧ I p 13 ≤ 6) ∧ (0 ≤ I p 14 ∧ I p 14 ≤ 10) ∧ (0 ≤ I p 15 ∧ I p 15 ≤ 6) ∧ (0 ≤ I p 16 ∧ I p 16 ≤ 3) ∧ (0 ≤ I p 17 ∧ I p 17 ≤ 100) ∧ (0 ≤ I p 18 ∧ I p 18 ≤ 99999) ∧
  (∀ r : Nat, (r : Int) < I p 14 → 0 ≤ I (p + 6) r ∧ I (p + 6) r < I p 13) ∧
  (∀ m : Nat, (m : Int) < I p 15 → 0 ≤ I (p + 8) m ∧ I (p + 8) m < I p 13 ∧ 0 ≤ I (p + 9) m ∧ I (p + 9) m < I p 13 ∧ 0 ≤ I (p + 10) m ∧ I (p + 10) m ≤ 300) ∧
  (∀ q : Nat, (q : Int) < I p 13 → 1 ≤ I (p + 2) q ∧ I (p + 2) q ≤ 9 ∧ 0 ≤ I (p + 3) q ∧ I (p + 3) q ≤ 30 ∧ -30 ≤ I (p + 4) q ∧ I (p + 4) q ≤ 30 ∧ -9 ≤ I (p + 5) q ∧ I (p + 5) q ≤ 9) ∧ lawOK I (p + 13)
/-- the way to go: colds, and the people's waits and rates -/
def wayOK (I : Nat → Nat → Int) (P : Int) : Prop := (0 ≤ I 64 5 ∧ I 64 5 ≤ 3) ∧ ∀ q : Nat, (q : Int) < P → 0 ≤ I 65 q ∧ I 65 q ≤ 30 ∧ -9 ≤ I 66 q ∧ I 66 q ≤ 9
def DOK (P M : Int) (d : Nat → Nat → Int) : Prop :=
  (d 0 8 = P ∧ d 0 9 = M) ∧ 0 ≤ d 0 10 ∧ (0 ≤ d 0 11 ∧ d 0 11 ≤ 20) ∧ (d 0 12 = -1 ∨ d 0 12 = -2 ∨ (0 ≤ d 0 12 ∧ d 0 12 < P)) ∧ (0 ≤ d 0 13 ∧ d 0 13 ≤ 20 ∧ (d 0 12 ≠ -1 → 1 ≤ d 0 13)) ∧ (0 ≤ d 0 14 ∧ d 0 14 ≤ 2147483647) ∧
  (∀ q : Nat, (q : Int) < P → -99 ≤ d 1 q ∧ d 1 q ≤ 99 ∧ 0 ≤ d 2 q ∧ d 2 q ≤ 20 ∧ big (d 3 q)) ∧
  (∀ k : Nat, (k : Int) < d 0 11 → d 4 k = -2 ∨ (0 ≤ d 4 k ∧ d 4 k < P)) ∧
  (∀ j k : Nat, j < k → (k : Int) < d 0 11 → d 4 j = d 4 k → d 4 j = -2) ∧
  (∀ k : Nat, (k : Int) < d 0 11 → d 4 k = d 0 12 → d 4 k = -2) ∧
  (∀ m : Nat, (m : Int) < M → True ∧ (-1 ≤ d 6 m ∧ d 6 m ≤ d 0 10) ∧ (-1 ≤ d 7 m ∧ d 7 m ≤ d 0 10) ∧ (0 ≤ d 8 m ∧ d 8 m ≤ 2))
def fRing (I : Nat → Nat → Int) (p : Nat) (r : Nat) (d : Nat → Nat → Int) : Nat → Nat → Int := if I (p + 7) r = d 0 10 ∧ I (p + 6) r ≠ I 64 6 then dIn d (I (p + 6) r) else d
def fRings (I : Nat → Nat → Int) (p : Nat) (d : Nat → Nat → Int) : Nat → Nat → Int := lp (fRing I p) 0 (I p 14).toNat d
def strF (I : Nat → Nat → Int) (d : Nat → Nat → Int) : Int := if I 64 8 = 0 then (if 50 ≤ I 64 4 then 1 else 0) else if I 64 4 = 0 then 0 else if I 64 4 = 100 then 1 else if Int.tmod (wr (Int.tdiv (drawn (d 0 14)) 65536)) 100 < I 64 4 then 1 else 0
def fDr (I : Nat → Nat → Int) (d : Nat → Nat → Int) : Nat → Nat → Int := if I 64 8 ≠ 0 ∧ I 64 4 ≠ 0 ∧ I 64 4 ≠ 100 then dDraw d else d
def fStr (I : Nat → Nat → Int) (d : Nat → Nat → Int) : Nat → Nat → Int := if strF I d = 0 then fDr I d else dStr (fDr I d)
def coldF (I : Nat → Nat → Int) (p : Nat) (t : Int) : Nat → Nat → Int
  | _, 0 => 0
  | k, n + 1 => if I (p + 11) k ≤ t ∧ t ≤ I (p + 12) k then 1 else coldF I p t (k + 1) n
def wth (v lo hi : Int) : Int := if v < lo then lo else if hi < v then hi else v
def fMins (I : Nat → Nat → Int) (p : Nat) (d : Nat → Nat → Int) (w : Int) : Int := if w = -2 then 2 else if lv I (p + 13) 0 (nmv I p d w (d 0 11)) = -9223372036854775808 then I (p + 2) w.toNat else wth (lv I (p + 13) 0 (nmv I p d w (d 0 11))) 1 20
def fStart (I : Nat → Nat → Int) (p : Nat) (d : Nat → Nat → Int) : Nat → Nat → Int := mup (mup (dOut d 0) 0 12 (d 4 0)) 0 13 (if coldF I p (d 0 10) 0 (I 64 5).toNat = 0 then fMins I p (dOut d 0) (d 4 0) else (if 20 < 2 * fMins I p (dOut d 0) (d 4 0) then 20 else 2 * fMins I p (dOut d 0) (d 4 0)))
def fLate (I : Nat → Nat → Int) (p : Nat) (d : Nat → Nat → Int) (w a : Int) : Int := if lv I (p + 13) 1 (nmv I p d w a) = -9223372036854775808 then wth (-a) (-30) 30 else wth (lv I (p + 13) 1 (nmv I p d w a)) (-30) 30
def fTold (I : Nat → Nat → Int) (p : Nat) (d : Nat → Nat → Int) (w : Int) : Nat → Nat → Int := mup (mup d 1 w.toNat (fLate I p d w (d 2 w.toNat))) 3 w.toNat (wr (d 3 w.toNat + 1))
def fGoOn (I : Nat → Nat → Int) (p : Nat) (d : Nat → Nat → Int) : Nat → Nat → Int := if 1 < d 0 13 then mup d 0 13 (d 0 13 - 1) else if d 0 12 = -2 then mup (mup d 0 13 (d 0 13 - 1)) 0 12 (-1) else fTold I p (mup (mup d 0 13 (d 0 13 - 1)) 0 12 (-1)) (d 0 12)
def fMore (I : Nat → Nat → Int) (p : Nat) (d : Nat → Nat → Int) (q : Nat) : Int := if lv I (p + 13) 2 (nmv I p d (q : Int) (d 0 11)) = -9223372036854775808 then I 66 q else wth (lv I (p + 13) 2 (nmv I p d (q : Int) (d 0 11))) (-9) 9
def fDrift1 (I : Nat → Nat → Int) (p : Nat) (q : Nat) (d : Nat → Nat → Int) : Nat → Nat → Int := mup d 1 q (wth (d 1 q + fMore I p d q) (-99) 99)
def fDrift (I : Nat → Nat → Int) (p : Nat) (d : Nat → Nat → Int) : Nat → Nat → Int := lp (fDrift1 I p) 0 (I p 13).toNat d
def fCome (I : Nat → Nat → Int) (p : Nat) (m s : Nat) (d : Nat → Nat → Int) : Nat → Nat → Int := if d (6 + s) m = -1 ∧ d 5 m ≤ wr (d 0 10 + d 1 (I (p + 8 + s) m).toNat) then mup d (6 + s) m (d 0 10) else d
def fKept (I : Nat → Nat → Int) (p : Nat) (m : Nat) (d : Nat → Nat → Int) : Nat → Nat → Int := if d 6 m = -1 ∨ d 7 m = -1 then d else mup d 8 m (if ((d 6 m - d 7 m).natAbs : Int) ≤ m_min (I 65 (I (p + 8) m).toNat) (I 65 (I (p + 9) m).toNat) then 1 else 2)
def fMeet (I : Nat → Nat → Int) (p : Nat) (m : Nat) (d : Nat → Nat → Int) : Nat → Nat → Int := if d 8 m = 0 then fKept I p m (fCome I p m 1 (fCome I p m 0 d)) else d
def fMeets (I : Nat → Nat → Int) (p : Nat) (d : Nat → Nat → Int) : Nat → Nat → Int := lp (fMeet I p) 0 (I p 15).toNat d
def fA (I : Nat → Nat → Int) (p : Nat) (d : Nat → Nat → Int) : Nat → Nat → Int := fStr I (fRings I p d)
def fB (I : Nat → Nat → Int) (p : Nat) (d : Nat → Nat → Int) : Nat → Nat → Int := if d 0 12 = -1 ∧ 0 < d 0 11 then fStart I p d else d
def fC (I : Nat → Nat → Int) (p : Nat) (d : Nat → Nat → Int) : Nat → Nat → Int := if d 0 12 = -1 then d else fGoOn I p d
def fD (I : Nat → Nat → Int) (p : Nat) (d : Nat → Nat → Int) : Nat → Nat → Int := if I 64 7 ≠ 0 ∧ Int.tmod (d 0 10 + 1) 10 = 0 then fDrift I p d else d
def fE (I : Nat → Nat → Int) (p : Nat) (d : Nat → Nat → Int) : Nat → Nat → Int := mup (fMeets I p d) 0 10 (d 0 10 + 1)
/-- a minute -/
def fMin (I : Nat → Nat → Int) (p : Nat) (d : Nat → Nat → Int) : Nat → Nat → Int := fE I p (fD I p (fC I p (fB I p (fA I p d))))
