/-! ===== segments of the code (by program: wip/whole/gen_all.py) ===== -/
theorem m_call_at (k : Nat) (cs : List Nat) {m : Nat} {as : List mV} {lv : List (Nat × mV)} {M : mM} {Q : List mV → mM → Prop} (he : m_ent 0 as = lv) (h : m_wp k cs m false (mcd m, 0, 0, lv, [], M) Q) : m_Call m as M Q := by
  subst he
  exact m_wp_sound k h
set_option maxHeartbeats 4000000 in
set_option maxRecDepth 20000 in
theorem E_Day_begin {Ls p c : Nat} (hp : p = 68 ∨ p = 9) (hc : c = 28 ∨ c = 37 ∨ c = 46 ∨ c = 55) {I L : Nat → Nat → Int} {Q : List mV → mM → Prop}
    (h : m_Wp i_Day_begin 51 0 0 [(0, .inr (.inr c)), (1, .inr (.inr p)), (2, .inl 0)] [] (mem Ls p (mup (mup (mup (mup (mup (mup (mup (mup I c 8 (I p 13)) c 9 (I p 15)) c 10 0) c 11 0) c 12 (-1)) c 13 0) c 14 (I p 18)) c 15 0) L) Q) :
    m_Call i_Day_begin [.inr (.inr c), .inr (.inr p)] (mem Ls p I L) Q := by
  have he : m_ent 0 ([.inr (.inr c), .inr (.inr p)] : List mV) = [(0, .inr (.inr c)), (1, .inr (.inr p))] := rfl
  rcases hp with rfl | rfl <;> rcases hc with rfl | rfl | rfl | rfl <;> exact m_call_at 30 [51, 93] he h
set_option maxHeartbeats 4000000 in
set_option maxRecDepth 20000 in
theorem T_Day_begin_51 {Ls p c kc ks : Nat} (hp : p = 68 ∨ p = 9) (hc : c = 28 ∨ c = 37 ∨ c = 46 ∨ c = 55) {I L : Nat → Nat → Int} {x2 : Int} {Q : List mV → mM → Prop}
    (h : (((I c 8) ≤ x2 →
    m_Wp i_Day_begin 93 kc ks [(0, .inr (.inr c)), (1, .inr (.inr p)), (2, .inl 0)] [] (mem Ls p I L) Q) ∧
   (¬ ((I c 8) ≤ x2) →
    (0 ≤ x2 ∧ x2 < 6) ∧
    (0 ≤ x2 ∧ x2 < 6) ∧
    (0 ≤ x2 ∧ x2 < 6) ∧
    (0 ≤ x2 ∧ x2 < 6) ∧
    m_Wp i_Day_begin 51 kc ks [(0, .inr (.inr c)), (1, .inr (.inr p)), (2, .inl (wr (x2 + 1)))] [] (mem Ls p (mup (mup (mup I (c + 1) (Int.toNat x2) (I (p + 4) (Int.toNat x2))) (c + 2) (Int.toNat x2) 0) (c + 3) (Int.toNat x2) 0) L) Q))) :
    m_Wp i_Day_begin 51 kc ks [(0, .inr (.inr c)), (1, .inr (.inr p)), (2, .inl x2)] [] (mem Ls p I L) Q := by
  rcases hp with rfl | rfl <;> rcases hc with rfl | rfl | rfl | rfl <;> exact m_wp_of 26 [51, 93] h
set_option maxHeartbeats 4000000 in
set_option maxRecDepth 20000 in
theorem T_Day_begin_93 {Ls p c kc ks : Nat} (hp : p = 68 ∨ p = 9) (hc : c = 28 ∨ c = 37 ∨ c = 46 ∨ c = 55) {I L : Nat → Nat → Int} {x2 : Int} {Q : List mV → mM → Prop}
    (h : (((I c 9) ≤ x2 →
    Q [] (mem Ls p I L)) ∧
   (¬ ((I c 9) ≤ x2) →
    (0 ≤ x2 ∧ x2 < 6) ∧
    (0 ≤ x2 ∧ x2 < 6) ∧
    (0 ≤ x2 ∧ x2 < 6) ∧
    (0 ≤ x2 ∧ x2 < 6) ∧
    (0 ≤ x2 ∧ x2 < 6) ∧
    m_Wp i_Day_begin 93 kc ks [(0, .inr (.inr c)), (1, .inr (.inr p)), (2, .inl (wr (x2 + 1)))] [] (mem Ls p (mup (mup (mup (mup I (c + 5) (Int.toNat x2) (I (p + 10) (Int.toNat x2))) (c + 6) (Int.toNat x2) (-1)) (c + 7) (Int.toNat x2) (-1)) (c + 8) (Int.toNat x2) 0) L) Q))) :
    m_Wp i_Day_begin 93 kc ks [(0, .inr (.inr c)), (1, .inr (.inr p)), (2, .inl x2)] [] (mem Ls p I L) Q := by
  rcases hp with rfl | rfl <;> rcases hc with rfl | rfl | rfl | rfl <;> exact m_wp_of 31 [51, 93] h
set_option maxHeartbeats 4000000 in
set_option maxRecDepth 20000 in
theorem E_Day_placeOf {Ls p c : Nat} (hc : c = 28 ∨ c = 37 ∨ c = 46 ∨ c = 55) {I L : Nat → Nat → Int} {a0 : Int} {Q : List mV → mM → Prop}
    (h : m_Wp i_Day_placeOf 2 0 0 [(0, .inr (.inr c)), (1, .inl a0), (2, .inl 0)] [] (mem Ls p I L) Q) :
    m_Call i_Day_placeOf [.inr (.inr c), .inl a0] (mem Ls p I L) Q := by
  have he : m_ent 0 ([.inr (.inr c), .inl a0] : List mV) = [(0, .inr (.inr c)), (1, .inl a0)] := rfl
  skip <;> rcases hc with rfl | rfl | rfl | rfl <;> exact m_call_at 3 [2] he h
set_option maxHeartbeats 4000000 in
set_option maxRecDepth 20000 in
theorem T_Day_placeOf_2 {Ls p c kc ks : Nat} (hc : c = 28 ∨ c = 37 ∨ c = 46 ∨ c = 55) {I L : Nat → Nat → Int} {x1 x2 : Int} {Q : List mV → mM → Prop}
    (h : (((I c 11) ≤ x2 →
    Q [.inl (-1)] (mem Ls p I L)) ∧
   (¬ ((I c 11) ≤ x2) →
    (0 ≤ x2 ∧ x2 < 20) ∧
    ((¬ (I (c + 4) (Int.toNat x2)) = x1 →
      m_Wp i_Day_placeOf 2 kc ks [(0, .inr (.inr c)), (1, .inl x1), (2, .inl (wr (x2 + 1)))] [] (mem Ls p I L) Q) ∧
     (¬ (¬ (I (c + 4) (Int.toNat x2)) = x1) →
      Q [.inl x2] (mem Ls p I L)))))) :
    m_Wp i_Day_placeOf 2 kc ks [(0, .inr (.inr c)), (1, .inl x1), (2, .inl x2)] [] (mem Ls p I L) Q := by
  skip <;> rcases hc with rfl | rfl | rfl | rfl <;> exact m_wp_of 14 [2] h
set_option maxHeartbeats 4000000 in
set_option maxRecDepth 20000 in
theorem E_Day_modeOf {Ls p c : Nat} (hc : c = 28 ∨ c = 37 ∨ c = 46 ∨ c = 55) {I L : Nat → Nat → Int} {a0 : Int} {Q : List mV → mM → Prop}
    (h : ((¬ (I c 12) = a0 →
    m_Call i_Day_placeOf [.inr (.inr c), .inl a0] (mem Ls p I L) (fun v M' =>
      m_Wp i_Day_modeOf 15 0 0 [(0, .inr (.inr c)), (1, .inl a0)] (v ++ []) M' Q)) ∧
   (¬ (¬ (I c 12) = a0) →
    Q [.inl 2] (mem Ls p I L)))) :
    m_Call i_Day_modeOf [.inr (.inr c), .inl a0] (mem Ls p I L) Q := by
  have he : m_ent 0 ([.inr (.inr c), .inl a0] : List mV) = [(0, .inr (.inr c)), (1, .inl a0)] := rfl
  skip <;> rcases hc with rfl | rfl | rfl | rfl <;> exact m_call_at 7 [] he h
set_option maxHeartbeats 4000000 in
set_option maxRecDepth 20000 in
theorem T_Day_modeOf_15 {Ls p c kc ks : Nat} (hc : c = 28 ∨ c = 37 ∨ c = 46 ∨ c = 55) {I L : Nat → Nat → Int} {x1 y0 : Int} {Q : List mV → mM → Prop}
    (h : ((¬ y0 = (-1) →
    Q [.inl 1] (mem Ls p I L)) ∧
   (¬ (¬ y0 = (-1)) →
    Q [.inl 0] (mem Ls p I L)))) :
    m_Wp i_Day_modeOf 15 kc ks [(0, .inr (.inr c)), (1, .inl x1)] [.inl y0] (mem Ls p I L) Q := by
  skip <;> rcases hc with rfl | rfl | rfl | rfl <;> exact m_wp_of 6 [] h
set_option maxHeartbeats 4000000 in
set_option maxRecDepth 20000 in
theorem E_Day_takesIn {Ls p c : Nat} (hc : c = 28 ∨ c = 37 ∨ c = 46 ∨ c = 55) {I L : Nat → Nat → Int} {a0 : Int} {Q : List mV → mM → Prop}
    (h : (((20 : Int) ≤ (I c 11) →
    ((0 : Int) = 0 ∨ (0 : Int) = 1) ∧
    Q [.inl 0] (mem Ls p I L)) ∧
   (¬ ((20 : Int) ≤ (I c 11)) →
    m_Call i_Day_modeOf [.inr (.inr c), .inl a0] (mem Ls p I L) (fun v M' =>
      m_Wp i_Day_takesIn 14 0 0 [(0, .inr (.inr c)), (1, .inl a0)] (v ++ []) M' Q)))) :
    m_Call i_Day_takesIn [.inr (.inr c), .inl a0] (mem Ls p I L) Q := by
  have he : m_ent 0 ([.inr (.inr c), .inl a0] : List mV) = [(0, .inr (.inr c)), (1, .inl a0)] := rfl
  skip <;> rcases hc with rfl | rfl | rfl | rfl <;> exact m_call_at 7 [] he h
set_option maxHeartbeats 4000000 in
set_option maxRecDepth 20000 in
theorem T_Day_takesIn_14 {Ls p c kc ks : Nat} (hc : c = 28 ∨ c = 37 ∨ c = 46 ∨ c = 55) {I L : Nat → Nat → Int} {x1 y0 : Int} {Q : List mV → mM → Prop}
    (h : ((y0 = (0 : Int) →
    ((¬ (I c 12) = (-1) →
      (0 ≤ x1 ∧ x1 < 6) ∧
      (0 ≤ (I c 11) ∧ (I c 11) < 20) ∧
      ((1 : Int) = 0 ∨ (1 : Int) = 1) ∧
      Q [.inl 1] (mem Ls p (mup (mup (mup I (c + 2) (Int.toNat x1) (wr ((I c 11) + 1))) (c + 4) (Int.toNat (I c 11)) x1) c 11 (wr ((I c 11) + 1))) L)) ∧
     (¬ (¬ (I c 12) = (-1)) →
      (0 ≤ x1 ∧ x1 < 6) ∧
      (0 ≤ (I c 11) ∧ (I c 11) < 20) ∧
      ((1 : Int) = 0 ∨ (1 : Int) = 1) ∧
      Q [.inl 1] (mem Ls p (mup (mup (mup I (c + 2) (Int.toNat x1) (I c 11)) (c + 4) (Int.toNat (I c 11)) x1) c 11 (wr ((I c 11) + 1))) L)))) ∧
   (¬ (y0 = (0 : Int)) →
    ((0 : Int) = 0 ∨ (0 : Int) = 1) ∧
    Q [.inl 0] (mem Ls p I L)))) :
    m_Wp i_Day_takesIn 14 kc ks [(0, .inr (.inr c)), (1, .inl x1)] [.inl y0] (mem Ls p I L) Q := by
  skip <;> rcases hc with rfl | rfl | rfl | rfl <;> exact m_wp_of 28 [] h
set_option maxHeartbeats 4000000 in
set_option maxRecDepth 20000 in
theorem E_Day_takeOut {Ls p c : Nat} (hc : c = 28 ∨ c = 37 ∨ c = 46 ∨ c = 55) {I L : Nat → Nat → Int} {a0 : Int} {Q : List mV → mM → Prop}
    (h : ((a0 < (0 : Int) →
    Q [] (mem Ls p I L)) ∧
   (¬ (a0 < (0 : Int)) →
    ((a0 < (I c 11) →
      m_Wp i_Day_takeOut 15 0 0 [(0, .inr (.inr c)), (2, .inl a0)] [] (mem Ls p I L) Q) ∧
     (¬ (a0 < (I c 11)) →
      Q [] (mem Ls p I L)))))) :
    m_Call i_Day_takeOut [.inr (.inr c), .inl a0] (mem Ls p I L) Q := by
  have he : m_ent 0 ([.inr (.inr c), .inl a0] : List mV) = [(0, .inr (.inr c)), (1, .inl a0)] := rfl
  skip <;> rcases hc with rfl | rfl | rfl | rfl <;> exact m_call_at 9 [15] he h
set_option maxHeartbeats 4000000 in
set_option maxRecDepth 20000 in
theorem T_Day_takeOut_15 {Ls p c kc ks : Nat} (hc : c = 28 ∨ c = 37 ∨ c = 46 ∨ c = 55) {I L : Nat → Nat → Int} {x2 : Int} {Q : List mV → mM → Prop}
    (h : (((wr ((I c 11) - 1)) ≤ x2 →
    Q [] (mem Ls p (mup I c 11 (wr ((I c 11) - 1))) L)) ∧
   (¬ ((wr ((I c 11) - 1)) ≤ x2) →
    (0 ≤ (wr (x2 + 1)) ∧ (wr (x2 + 1)) < 20) ∧
    (0 ≤ x2 ∧ x2 < 20) ∧
    m_Wp i_Day_takeOut 15 kc ks [(0, .inr (.inr c)), (2, .inl (wr (x2 + 1)))] [] (mem Ls p (mup I (c + 4) (Int.toNat x2) (I (c + 4) (Int.toNat (wr (x2 + 1))))) L) Q))) :
    m_Wp i_Day_takeOut 15 kc ks [(0, .inr (.inr c)), (2, .inl x2)] [] (mem Ls p I L) Q := by
  skip <;> rcases hc with rfl | rfl | rfl | rfl <;> exact m_wp_of 20 [15] h
set_option maxHeartbeats 4000000 in
set_option maxRecDepth 20000 in
theorem E_Day_isOneThere {Ls p c : Nat} (hc : c = 28 ∨ c = 37 ∨ c = 46 ∨ c = 55) {I L : Nat → Nat → Int} {a0 : Int} {Q : List mV → mM → Prop}
    (h : (0 ≤ a0 ∧ a0 < 6) ∧
  ((¬ (I (c + 6) (Int.toNat a0)) = (-1) →
    ((1 : Int) = 0 ∨ (1 : Int) = 1) ∧
    Q [.inl 1] (mem Ls p I L)) ∧
   (¬ (¬ (I (c + 6) (Int.toNat a0)) = (-1)) →
    (0 ≤ a0 ∧ a0 < 6) ∧
    (((I (c + 7) (Int.toNat a0)) = (-1) →
      ((0 : Int) = 0 ∨ (0 : Int) = 1) ∧
      Q [.inl 0] (mem Ls p I L)) ∧
     (¬ ((I (c + 7) (Int.toNat a0)) = (-1)) →
      ((1 : Int) = 0 ∨ (1 : Int) = 1) ∧
      Q [.inl 1] (mem Ls p I L)))))) :
    m_Call i_Day_isOneThere [.inr (.inr c), .inl a0] (mem Ls p I L) Q := by
  have he : m_ent 0 ([.inr (.inr c), .inl a0] : List mV) = [(0, .inr (.inr c)), (1, .inl a0)] := rfl
  skip <;> rcases hc with rfl | rfl | rfl | rfl <;> exact m_call_at 17 [] he h
set_option maxHeartbeats 4000000 in
set_option maxRecDepth 20000 in
theorem E_Day_drawNumber {Ls p c : Nat} (hc : c = 28 ∨ c = 37 ∨ c = 46 ∨ c = 55) {I L : Nat → Nat → Int} {Q : List mV → mM → Prop}
    (h : (¬ (65536 : Int) = (0 : Int)) ∧
  Q [.inl (wr (Int.tdiv (m_and (wr ((wr ((I c 14) * 1103515245)) + 12345)) 2147483647) 65536))] (mem Ls p (mup I c 14 (m_and (wr ((wr ((I c 14) * 1103515245)) + 12345)) 2147483647)) L)) :
    m_Call i_Day_drawNumber [.inr (.inr c)] (mem Ls p I L) Q := by
  have he : m_ent 0 ([.inr (.inr c)] : List mV) = [(0, .inr (.inr c))] := rfl
  skip <;> rcases hc with rfl | rfl | rfl | rfl <;> exact m_call_at 15 [] he h
set_option maxHeartbeats 4000000 in
set_option maxRecDepth 20000 in
theorem E_Day_takesStranger {Ls p c : Nat} (hc : c = 28 ∨ c = 37 ∨ c = 46 ∨ c = 55) {I L : Nat → Nat → Int} {Q : List mV → mM → Prop}
    (h : (((20 : Int) ≤ (I c 11) →
    Q [] (mem Ls p (mup I c 15 (wr ((I c 15) + 1))) L)) ∧
   (¬ ((20 : Int) ≤ (I c 11)) →
    (0 ≤ (I c 11) ∧ (I c 11) < 20) ∧
    Q [] (mem Ls p (mup (mup (mup I c 15 (wr ((I c 15) + 1))) (c + 4) (Int.toNat (I c 11)) (-2)) c 11 (wr ((I c 11) + 1))) L)))) :
    m_Call i_Day_takesStranger [.inr (.inr c)] (mem Ls p I L) Q := by
  have he : m_ent 0 ([.inr (.inr c)] : List mV) = [(0, .inr (.inr c))] := rfl
  skip <;> rcases hc with rfl | rfl | rfl | rfl <;> exact m_call_at 24 [] he h
set_option maxHeartbeats 4000000 in
set_option maxRecDepth 20000 in
theorem E_Day_copy {Ls p c d : Nat} (hcd : (c = 46 ∧ d = 28) ∨ (c = 55 ∧ d = 28) ∨ (c = 46 ∧ d = 55) ∨ (c = 37 ∧ d = 28) ∨ (c = 28 ∧ d = 37)) {I L : Nat → Nat → Int} {Q : List mV → mM → Prop}
    (h : ((0 ≤ (6 : Int) ∧ (6 : Int) ≤ 6) ∧ ((6 : Int) ≤ 6 ∧ ((Int.natAbs 0 : Nat) : Int) + ((Int.natAbs 0 : Nat) : Int) = 0)) ∧
  ((0 ≤ (6 : Int) ∧ (6 : Int) ≤ 6) ∧ ((6 : Int) ≤ 6 ∧ ((Int.natAbs 0 : Nat) : Int) + ((Int.natAbs 0 : Nat) : Int) = 0)) ∧
  ((0 ≤ (6 : Int) ∧ (6 : Int) ≤ 6) ∧ ((6 : Int) ≤ 6 ∧ ((Int.natAbs 0 : Nat) : Int) + ((Int.natAbs 0 : Nat) : Int) = 0)) ∧
  ((0 ≤ (20 : Int) ∧ (20 : Int) ≤ 20) ∧ ((20 : Int) ≤ 20 ∧ ((Int.natAbs 0 : Nat) : Int) + ((Int.natAbs 0 : Nat) : Int) = 0)) ∧
  ((0 ≤ (6 : Int) ∧ (6 : Int) ≤ 6) ∧ ((6 : Int) ≤ 6 ∧ ((Int.natAbs 0 : Nat) : Int) + ((Int.natAbs 0 : Nat) : Int) = 0)) ∧
  ((0 ≤ (6 : Int) ∧ (6 : Int) ≤ 6) ∧ ((6 : Int) ≤ 6 ∧ ((Int.natAbs 0 : Nat) : Int) + ((Int.natAbs 0 : Nat) : Int) = 0)) ∧
  ((0 ≤ (6 : Int) ∧ (6 : Int) ≤ 6) ∧ ((6 : Int) ≤ 6 ∧ ((Int.natAbs 0 : Nat) : Int) + ((Int.natAbs 0 : Nat) : Int) = 0)) ∧
  ((0 ≤ (6 : Int) ∧ (6 : Int) ≤ 6) ∧ ((6 : Int) ≤ 6 ∧ ((Int.natAbs 0 : Nat) : Int) + ((Int.natAbs 0 : Nat) : Int) = 0)) ∧
  Q [] (mem Ls p (mcpy (mcpy (mcpy (mcpy (mcpy (mcpy (mcpy (mcpy (mup (mup (mup (mup (mup (mup (mup (mup I c 8 (I d 8)) c 9 (I d 9)) c 10 (I d 10)) c 11 (I d 11)) c 12 (I d 12)) c 13 (I d 13)) c 14 (I d 14)) c 15 (I d 15)) (d + 1) (c + 1) (Int.toNat 6)) (d + 2) (c + 2) (Int.toNat 6)) (d + 3) (c + 3) (Int.toNat 6)) (d + 4) (c + 4) (Int.toNat 20)) (d + 5) (c + 5) (Int.toNat 6)) (d + 6) (c + 6) (Int.toNat 6)) (d + 7) (c + 7) (Int.toNat 6)) (d + 8) (c + 8) (Int.toNat 6)) L)) :
    m_Call i_Day_copy [.inr (.inr c), .inr (.inr d)] (mem Ls p I L) Q := by
  have he : m_ent 0 ([.inr (.inr c), .inr (.inr d)] : List mV) = [(0, .inr (.inr c)), (1, .inr (.inr d))] := rfl
  rcases hcd with ⟨rfl, rfl⟩ | ⟨rfl, rfl⟩ | ⟨rfl, rfl⟩ | ⟨rfl, rfl⟩ | ⟨rfl, rfl⟩ <;> exact m_call_at 97 [] he h
set_option maxHeartbeats 4000000 in
set_option maxRecDepth 20000 in
theorem E_Day_howMany {Ls p c : Nat} (hc : c = 28 ∨ c = 37 ∨ c = 46 ∨ c = 55) {I L : Nat → Nat → Int} {a0 : Int} {Q : List mV → mM → Prop}
    (h : m_Wp i_Day_howMany 4 0 0 [(0, .inr (.inr c)), (1, .inl a0), (2, .inl 0), (3, .inl 0)] [] (mem Ls p I L) Q) :
    m_Call i_Day_howMany [.inr (.inr c), .inl a0] (mem Ls p I L) Q := by
  have he : m_ent 0 ([.inr (.inr c), .inl a0] : List mV) = [(0, .inr (.inr c)), (1, .inl a0)] := rfl
  skip <;> rcases hc with rfl | rfl | rfl | rfl <;> exact m_call_at 5 [4] he h
set_option maxHeartbeats 4000000 in
set_option maxRecDepth 20000 in
theorem T_Day_howMany_4 {Ls p c kc ks : Nat} (hc : c = 28 ∨ c = 37 ∨ c = 46 ∨ c = 55) {I L : Nat → Nat → Int} {x1 x2 x3 : Int} {Q : List mV → mM → Prop}
    (h : (((I c 9) ≤ x3 →
    Q [.inl x2] (mem Ls p I L)) ∧
   (¬ ((I c 9) ≤ x3) →
    (0 ≤ x3 ∧ x3 < 6) ∧
    ((¬ (I (c + 8) (Int.toNat x3)) = x1 →
      m_Wp i_Day_howMany 4 kc ks [(0, .inr (.inr c)), (1, .inl x1), (2, .inl x2), (3, .inl (wr (x3 + 1)))] [] (mem Ls p I L) Q) ∧
     (¬ (¬ (I (c + 8) (Int.toNat x3)) = x1) →
      m_Wp i_Day_howMany 4 kc ks [(0, .inr (.inr c)), (1, .inl x1), (2, .inl (wr (x2 + 1))), (3, .inl (wr (x3 + 1)))] [] (mem Ls p I L) Q))))) :
    m_Wp i_Day_howMany 4 kc ks [(0, .inr (.inr c)), (1, .inl x1), (2, .inl x2), (3, .inl x3)] [] (mem Ls p I L) Q := by
  skip <;> rcases hc with rfl | rfl | rfl | rfl <;> exact m_wp_of 16 [4] h
set_option maxHeartbeats 4000000 in
set_option maxRecDepth 20000 in
theorem E_Day_spread {Ls p c : Nat} (hc : c = 28 ∨ c = 37 ∨ c = 46 ∨ c = 55) {I L : Nat → Nat → Int} {a0 : Int} {Q : List mV → mM → Prop}
    (h : m_Wp i_Day_spread 10 0 0 [(0, .inr (.inr c)), (1, .inl a0), (2, .inl 0), (3, .inl 0), (4, .inl 0), (5, .inl 0)] [] (mem Ls p I L) Q) :
    m_Call i_Day_spread [.inr (.inr c), .inl a0] (mem Ls p I L) Q := by
  have he : m_ent 0 ([.inr (.inr c), .inl a0] : List mV) = [(0, .inr (.inr c)), (1, .inl a0)] := rfl
  skip <;> rcases hc with rfl | rfl | rfl | rfl <;> exact m_call_at 9 [10] he h
set_option maxHeartbeats 4000000 in
set_option maxRecDepth 20000 in
theorem T_Day_spread_10 {Ls p c kc ks : Nat} (hc : c = 28 ∨ c = 37 ∨ c = 46 ∨ c = 55) {I L : Nat → Nat → Int} {x1 x2 x3 x4 x5 : Int} {Q : List mV → mM → Prop}
    (h : (((I c 8) ≤ x5 →
    Q [.inl (wr (x4 - x3))] (mem Ls p I L)) ∧
   (¬ ((I c 8) ≤ x5) →
    ((¬ (m_and (m_shr x1 x5) 1) = (1 : Int) →
      m_Wp i_Day_spread 10 kc ks [(0, .inr (.inr c)), (1, .inl x1), (2, .inl x2), (3, .inl x3), (4, .inl x4), (5, .inl (wr (x5 + 1)))] [] (mem Ls p I L) Q) ∧
     (¬ (¬ (m_and (m_shr x1 x5) 1) = (1 : Int)) →
      ((x2 = (0 : Int) →
        (0 ≤ x5 ∧ x5 < 6) ∧
        ((x2 = (0 : Int) →
          (0 ≤ x5 ∧ x5 < 6) ∧
          m_Wp i_Day_spread 10 kc ks [(0, .inr (.inr c)), (1, .inl x1), (2, .inl 1), (3, .inl (I (c + 1) (Int.toNat x5))), (4, .inl (I (c + 1) (Int.toNat x5))), (5, .inl (wr (x5 + 1)))] [] (mem Ls p I L) Q) ∧
         (¬ (x2 = (0 : Int)) →
          (0 ≤ x5 ∧ x5 < 6) ∧
          m_Wp i_Day_spread 10 kc ks [(0, .inr (.inr c)), (1, .inl x1), (2, .inl 1), (3, .inl (I (c + 1) (Int.toNat x5))), (4, .inl (m_max x4 (I (c + 1) (Int.toNat x5)))), (5, .inl (wr (x5 + 1)))] [] (mem Ls p I L) Q))) ∧
       (¬ (x2 = (0 : Int)) →
        (0 ≤ x5 ∧ x5 < 6) ∧
        ((x2 = (0 : Int) →
          (0 ≤ x5 ∧ x5 < 6) ∧
          m_Wp i_Day_spread 10 kc ks [(0, .inr (.inr c)), (1, .inl x1), (2, .inl 1), (3, .inl (m_min x3 (I (c + 1) (Int.toNat x5)))), (4, .inl (I (c + 1) (Int.toNat x5))), (5, .inl (wr (x5 + 1)))] [] (mem Ls p I L) Q) ∧
         (¬ (x2 = (0 : Int)) →
          (0 ≤ x5 ∧ x5 < 6) ∧
          m_Wp i_Day_spread 10 kc ks [(0, .inr (.inr c)), (1, .inl x1), (2, .inl 1), (3, .inl (m_min x3 (I (c + 1) (Int.toNat x5)))), (4, .inl (m_max x4 (I (c + 1) (Int.toNat x5)))), (5, .inl (wr (x5 + 1)))] [] (mem Ls p I L) Q))))))))) :
    m_Wp i_Day_spread 10 kc ks [(0, .inr (.inr c)), (1, .inl x1), (2, .inl x2), (3, .inl x3), (4, .inl x4), (5, .inl x5)] [] (mem Ls p I L) Q := by
  skip <;> rcases hc with rfl | rfl | rfl | rfl <;> exact m_wp_of 40 [10] h
set_option maxHeartbeats 4000000 in
set_option maxRecDepth 20000 in
theorem E_Day_howManySlower {Ls p c : Nat} (hc : c = 28 ∨ c = 37 ∨ c = 46 ∨ c = 55) {I L : Nat → Nat → Int} {a0 : Int} {Q : List mV → mM → Prop}
    (h : m_Wp i_Day_howManySlower 4 0 0 [(0, .inr (.inr c)), (1, .inl a0), (2, .inl 0), (3, .inl 0)] [] (mem Ls p I L) Q) :
    m_Call i_Day_howManySlower [.inr (.inr c), .inl a0] (mem Ls p I L) Q := by
  have he : m_ent 0 ([.inr (.inr c), .inl a0] : List mV) = [(0, .inr (.inr c)), (1, .inl a0)] := rfl
  skip <;> rcases hc with rfl | rfl | rfl | rfl <;> exact m_call_at 5 [4] he h
set_option maxHeartbeats 4000000 in
set_option maxRecDepth 20000 in
theorem T_Day_howManySlower_4 {Ls p c kc ks : Nat} (hc : c = 28 ∨ c = 37 ∨ c = 46 ∨ c = 55) {I L : Nat → Nat → Int} {x1 x2 x3 : Int} {Q : List mV → mM → Prop}
    (h : (((I c 8) ≤ x3 →
    Q [.inl x2] (mem Ls p I L)) ∧
   (¬ ((I c 8) ≤ x3) →
    (0 ≤ x3 ∧ x3 < 6) ∧
    (0 ≤ x1 ∧ x1 < 6) ∧
    (((I (c + 1) (Int.toNat x3)) < (I (c + 1) (Int.toNat x1)) →
      m_Wp i_Day_howManySlower 4 kc ks [(0, .inr (.inr c)), (1, .inl x1), (2, .inl (wr (x2 + 1))), (3, .inl (wr (x3 + 1)))] [] (mem Ls p I L) Q) ∧
     (¬ ((I (c + 1) (Int.toNat x3)) < (I (c + 1) (Int.toNat x1))) →
      (0 ≤ x3 ∧ x3 < 6) ∧
      (0 ≤ x1 ∧ x1 < 6) ∧
      ((¬ (I (c + 1) (Int.toNat x3)) = (I (c + 1) (Int.toNat x1)) →
        m_Wp i_Day_howManySlower 4 kc ks [(0, .inr (.inr c)), (1, .inl x1), (2, .inl x2), (3, .inl (wr (x3 + 1)))] [] (mem Ls p I L) Q) ∧
       (¬ (¬ (I (c + 1) (Int.toNat x3)) = (I (c + 1) (Int.toNat x1))) →
        ((x1 ≤ x3 →
          m_Wp i_Day_howManySlower 4 kc ks [(0, .inr (.inr c)), (1, .inl x1), (2, .inl x2), (3, .inl (wr (x3 + 1)))] [] (mem Ls p I L) Q) ∧
         (¬ (x1 ≤ x3) →
          m_Wp i_Day_howManySlower 4 kc ks [(0, .inr (.inr c)), (1, .inl x1), (2, .inl (wr (x2 + 1))), (3, .inl (wr (x3 + 1)))] [] (mem Ls p I L) Q))))))))) :
    m_Wp i_Day_howManySlower 4 kc ks [(0, .inr (.inr c)), (1, .inl x1), (2, .inl x2), (3, .inl x3)] [] (mem Ls p I L) Q := by
  skip <;> rcases hc with rfl | rfl | rfl | rfl <;> exact m_wp_of 32 [4] h
set_option maxHeartbeats 4000000 in
set_option maxRecDepth 20000 in
theorem E_Day_putIn {Ls p c : Nat} (hc : c = 28 ∨ c = 37 ∨ c = 46 ∨ c = 55) {I L : Nat → Nat → Int} {a0 a1 : Int} {Q : List mV → mM → Prop}
    (h : ((a0 < (0 : Int) →
    Q [] (mem Ls p I L)) ∧
   (¬ (a0 < (0 : Int)) →
    (((I c 11) < a0 →
      Q [] (mem Ls p I L)) ∧
     (¬ ((I c 11) < a0) →
      (((I c 11) < (20 : Int) →
        m_Wp i_Day_putIn 27 0 0 [(0, .inr (.inr c)), (1, .inl a0), (2, .inl a1), (3, .inl (I c 11))] [] (mem Ls p I L) Q) ∧
       (¬ ((I c 11) < (20 : Int)) →
        Q [] (mem Ls p I L)))))))) :
    m_Call i_Day_putIn [.inr (.inr c), .inl a0, .inl a1] (mem Ls p I L) Q := by
  have he : m_ent 0 ([.inr (.inr c), .inl a0, .inl a1] : List mV) = [(0, .inr (.inr c)), (1, .inl a0), (2, .inl a1)] := rfl
  skip <;> rcases hc with rfl | rfl | rfl | rfl <;> exact m_call_at 14 [27] he h
set_option maxHeartbeats 4000000 in
set_option maxRecDepth 20000 in
theorem T_Day_putIn_27 {Ls p c kc ks : Nat} (hc : c = 28 ∨ c = 37 ∨ c = 46 ∨ c = 55) {I L : Nat → Nat → Int} {x1 x2 x3 : Int} {Q : List mV → mM → Prop}
    (h : ((x3 ≤ x1 →
    (0 ≤ x1 ∧ x1 < 20) ∧
    Q [] (mem Ls p (mup (mup I (c + 4) (Int.toNat x1) x2) c 11 (wr ((I c 11) + 1))) L)) ∧
   (¬ (x3 ≤ x1) →
    (0 ≤ (wr (x3 - 1)) ∧ (wr (x3 - 1)) < 20) ∧
    (0 ≤ x3 ∧ x3 < 20) ∧
    m_Wp i_Day_putIn 27 kc ks [(0, .inr (.inr c)), (1, .inl x1), (2, .inl x2), (3, .inl (wr (x3 + (-1))))] [] (mem Ls p (mup I (c + 4) (Int.toNat x3) (I (c + 4) (Int.toNat (wr (x3 - 1))))) L) Q))) :
    m_Wp i_Day_putIn 27 kc ks [(0, .inr (.inr c)), (1, .inl x1), (2, .inl x2), (3, .inl x3)] [] (mem Ls p I L) Q := by
  skip <;> rcases hc with rfl | rfl | rfl | rfl <;> exact m_wp_of 17 [27] h
set_option maxHeartbeats 4000000 in
set_option maxRecDepth 20000 in
theorem E_Day_toldInAll {Ls p c : Nat} (hc : c = 28 ∨ c = 37 ∨ c = 46 ∨ c = 55) {I L : Nat → Nat → Int} {Q : List mV → mM → Prop}
    (h : m_Wp i_Day_toldInAll 4 0 0 [(0, .inr (.inr c)), (1, .inl 0), (2, .inl 0)] [] (mem Ls p I L) Q) :
    m_Call i_Day_toldInAll [.inr (.inr c)] (mem Ls p I L) Q := by
  have he : m_ent 0 ([.inr (.inr c)] : List mV) = [(0, .inr (.inr c))] := rfl
  skip <;> rcases hc with rfl | rfl | rfl | rfl <;> exact m_call_at 5 [4] he h
set_option maxHeartbeats 4000000 in
set_option maxRecDepth 20000 in
theorem T_Day_toldInAll_4 {Ls p c kc ks : Nat} (hc : c = 28 ∨ c = 37 ∨ c = 46 ∨ c = 55) {I L : Nat → Nat → Int} {x1 x2 : Int} {Q : List mV → mM → Prop}
    (h : (((I c 8) ≤ x2 →
    Q [.inl x1] (mem Ls p I L)) ∧
   (¬ ((I c 8) ≤ x2) →
    (0 ≤ x2 ∧ x2 < 6) ∧
    m_Wp i_Day_toldInAll 4 kc ks [(0, .inr (.inr c)), (1, .inl (wr (x1 + (I (c + 3) (Int.toNat x2))))), (2, .inl (wr (x2 + 1)))] [] (mem Ls p I L) Q))) :
    m_Wp i_Day_toldInAll 4 kc ks [(0, .inr (.inr c)), (1, .inl x1), (2, .inl x2)] [] (mem Ls p I L) Q := by
  skip <;> rcases hc with rfl | rfl | rfl | rfl <;> exact m_wp_of 15 [4] h
