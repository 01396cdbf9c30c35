/-! ===== segments of the code (by program: wip/whole/gen_all.py) ===== -/
set_option maxHeartbeats 4000000 in
set_option maxRecDepth 20000 in
theorem E_Laws_clear {Ls p w : Nat} (hw : w = 22 ∨ w = 81) {I L : Nat → Nat → Int} {Q : List mV → mM → Prop}
    (h : m_Wp i_Laws_clear 12 0 0 [(0, .inr (.inr w)), (1, .inl 0)] [] (mem Ls p (mup (mup I w 5 0) w 6 0) L) Q) :
    m_Call i_Laws_clear [.inr (.inr w)] (mem Ls p I L) Q := by
  have he : m_ent 0 ([.inr (.inr w)] : List mV) = [(0, .inr (.inr w))] := rfl
  skip <;> rcases hw with rfl | rfl <;> exact m_call_at 9 [12] he h
set_option maxHeartbeats 4000000 in
set_option maxRecDepth 20000 in
theorem T_Laws_clear_12 {Ls p w kc ks : Nat} (hw : w = 22 ∨ w = 81) {I L : Nat → Nat → Int} {x1 : Int} {Q : List mV → mM → Prop}
    (h : (((3 : Int) ≤ x1 →
    Q [] (mem Ls p I L)) ∧
   (¬ ((3 : Int) ≤ x1) →
    (0 ≤ x1 ∧ x1 < 3) ∧
    (0 ≤ x1 ∧ x1 < 3) ∧
    m_Wp i_Laws_clear 12 kc ks [(0, .inr (.inr w)), (1, .inl (wr (x1 + 1)))] [] (mem Ls p (mup (mup I (w + 3) (Int.toNat x1) 0) (w + 4) (Int.toNat x1) 0) L) Q))) :
    m_Wp i_Laws_clear 12 kc ks [(0, .inr (.inr w)), (1, .inl x1)] [] (mem Ls p I L) Q := by
  skip <;> rcases hw with rfl | rfl <;> exact m_wp_of 17 [12] h
set_option maxHeartbeats 4000000 in
set_option maxRecDepth 20000 in
theorem E_Plan_clear {Ls p : Nat} (hp : p = 68 ∨ p = 9) {I L : Nat → Nat → Int} {Q : List mV → mM → Prop}
    (h : m_Call i_Laws_clear [.inr (.inr (p + 13))] (mem Ls p (mup (mup (mup (mup (mup (mup I p 13 0) p 14 0) p 15 0) p 16 0) p 17 0) p 18 0) L) (fun v M' =>
    m_Wp i_Plan_clear 37 0 0 [(0, .inr (.inr p))] (v ++ []) M' Q)) :
    m_Call i_Plan_clear [.inr (.inr p)] (mem Ls p I L) Q := by
  have he : m_ent 0 ([.inr (.inr p)] : List mV) = [(0, .inr (.inr p))] := rfl
  rcases hp with rfl | rfl <;> exact m_call_at 21 [] he h
set_option maxHeartbeats 4000000 in
set_option maxRecDepth 20000 in
theorem T_Plan_clear_37 {Ls p kc ks : Nat} (hp : p = 68 ∨ p = 9) {I L : Nat → Nat → Int} {Q : List mV → mM → Prop}
    (h : Q [] (mem Ls p I L)) :
    m_Wp i_Plan_clear 37 kc ks [(0, .inr (.inr p))] [] (mem Ls p I L) Q := by
  rcases hp with rfl | rfl <;> exact m_wp_of 1 [] h
set_option maxHeartbeats 4000000 in
set_option maxRecDepth 20000 in
theorem E_Plan_numberOf {Ls p : Nat} (hp : p = 68 ∨ p = 9) {I L : Nat → Nat → Int} {a0 : Int} {Q : List mV → mM → Prop}
    (h : m_Wp i_Plan_numberOf 2 0 0 [(0, .inr (.inr p)), (1, .inl a0), (2, .inl 0)] [] (mem Ls p I L) Q) :
    m_Call i_Plan_numberOf [.inr (.inr p), .inl a0] (mem Ls p I L) Q := by
  have he : m_ent 0 ([.inr (.inr p), .inl a0] : List mV) = [(0, .inr (.inr p)), (1, .inl a0)] := rfl
  rcases hp with rfl | rfl <;> exact m_call_at 3 [2] he h
set_option maxHeartbeats 4000000 in
set_option maxRecDepth 20000 in
theorem T_Plan_numberOf_2 {Ls p kc ks : Nat} (hp : p = 68 ∨ p = 9) {I L : Nat → Nat → Int} {x1 x2 : Int} {Q : List mV → mM → Prop}
    (h : (((I p 13) ≤ x2 →
    Q [.inl (-1)] (mem Ls p I L)) ∧
   (¬ ((I p 13) ≤ x2) →
    (0 ≤ x2 ∧ x2 < 6) ∧
    ((¬ (I (p + 1) (Int.toNat x2)) = x1 →
      m_Wp i_Plan_numberOf 2 kc ks [(0, .inr (.inr p)), (1, .inl x1), (2, .inl (wr (x2 + 1)))] [] (mem Ls p I L) Q) ∧
     (¬ (¬ (I (p + 1) (Int.toNat x2)) = x1) →
      Q [.inl x2] (mem Ls p I L)))))) :
    m_Wp i_Plan_numberOf 2 kc ks [(0, .inr (.inr p)), (1, .inl x1), (2, .inl x2)] [] (mem Ls p I L) Q := by
  rcases hp with rfl | rfl <;> exact m_wp_of 14 [2] h
set_option maxHeartbeats 4000000 in
set_option maxRecDepth 20000 in
theorem E_Laws_isTold {Ls p w : Nat} (hw : w = 22 ∨ w = 81) {I L : Nat → Nat → Int} {a0 : Int} {Q : List mV → mM → Prop}
    (h : (0 ≤ a0 ∧ a0 < 3) ∧
  (0 ≤ a0 ∧ a0 < 3) ∧
  (((I (w + 4) (Int.toNat a0)) ≤ (I (w + 3) (Int.toNat a0)) →
    ((0 : Int) = 0 ∨ (0 : Int) = 1) ∧
    Q [.inl 0] (mem Ls p I L)) ∧
   (¬ ((I (w + 4) (Int.toNat a0)) ≤ (I (w + 3) (Int.toNat a0))) →
    ((1 : Int) = 0 ∨ (1 : Int) = 1) ∧
    Q [.inl 1] (mem Ls p I L)))) :
    m_Call i_Laws_isTold [.inr (.inr w), .inl a0] (mem Ls p I L) Q := by
  have he : m_ent 0 ([.inr (.inr w), .inl a0] : List mV) = [(0, .inr (.inr w)), (1, .inl a0)] := rfl
  skip <;> rcases hw with rfl | rfl <;> exact m_call_at 13 [] he h
set_option maxHeartbeats 4000000 in
set_option maxRecDepth 20000 in
theorem E_Laws_add {Ls p w : Nat} (hw : w = 22 ∨ w = 81) {I L : Nat → Nat → Int} {a0 a1 : Int} {Q : List mV → mM → Prop}
    (h : (((64 : Int) ≤ (I w 5) →
    Q [] (mem Ls p I L)) ∧
   (¬ ((64 : Int) ≤ (I w 5)) →
    (0 ≤ (I w 5) ∧ (I w 5) < 64) ∧
    (0 ≤ (I w 5) ∧ (I w 5) < 64) ∧
    Q [] (mem Ls p (mup (mup (mup I (w + 1) (Int.toNat (I w 5)) a0) (w + 2) (Int.toNat (I w 5)) a1) w 5 (wr ((I w 5) + 1))) L)))) :
    m_Call i_Laws_add [.inr (.inr w), .inl a0, .inl a1] (mem Ls p I L) Q := by
  have he : m_ent 0 ([.inr (.inr w), .inl a0, .inl a1] : List mV) = [(0, .inr (.inr w)), (1, .inl a0), (2, .inl a1)] := rfl
  skip <;> rcases hw with rfl | rfl <;> exact m_call_at 24 [] he h
set_option maxHeartbeats 4000000 in
set_option maxRecDepth 20000 in
theorem E_Seen_forget {Ls p : Nat}  {I L : Nat → Nat → Int} {Q : List mV → mM → Prop}
    (h : Q [] (mem Ls p (mup (mup I 87 6 0) 87 7 (-1)) L)) :
    m_Call i_Seen_forget [.inr (.inr 87)] (mem Ls p I L) Q := by
  have he : m_ent 0 ([.inr (.inr 87)] : List mV) = [(0, .inr (.inr 87))] := rfl
  skip <;> exact m_call_at 7 [] he h
set_option maxHeartbeats 4000000 in
set_option maxRecDepth 20000 in
theorem E_Laws_joined {Ls p : Nat}  {I L : Nat → Nat → Int} {a0 a1 a2 : Int} {Q : List mV → mM → Prop}
    (h : ((a0 = (7 : Int) →
    Q [.inr (.inl (wl (a1 + a2)))] (mem Ls p I L)) ∧
   (¬ a0 = (7 : Int) →
    ((a0 = (8 : Int) →
    Q [.inr (.inl (wl (a1 - a2)))] (mem Ls p I L)) ∧
   (¬ a0 = (8 : Int) →
    ((a0 = (9 : Int) →
    (((m_lcmp a2 0) = (0 : Int) →
      Q [.inr (.inl (wl (a1 * a2)))] (mem Ls p I L)) ∧
     (¬ ((m_lcmp a2 0) = (0 : Int)) →
      (¬ (if 0 ≤ a2 then a2 else wl (0 - a2)) = (0 : Int)) ∧
      (((m_lcmp (if 0 ≤ a1 then a1 else wl (0 - a1)) (wl (Int.tdiv 1000000000000 (if 0 ≤ a2 then a2 else wl (0 - a2))))) ≤ (0 : Int) →
        Q [.inr (.inl (wl (a1 * a2)))] (mem Ls p I L)) ∧
       (¬ ((m_lcmp (if 0 ≤ a1 then a1 else wl (0 - a1)) (wl (Int.tdiv 1000000000000 (if 0 ≤ a2 then a2 else wl (0 - a2))))) ≤ (0 : Int)) →
        Q [.inr (.inl (-9223372036854775808))] (mem Ls p I L)))))) ∧
   (¬ a0 = (9 : Int) →
    ((a0 = (10 : Int) →
    ((¬ (m_lcmp a2 0) = (0 : Int) →
      (¬ a2 = (0 : Int)) ∧
      Q [.inr (.inl (wl (Int.tdiv a1 a2)))] (mem Ls p I L)) ∧
     (¬ (¬ (m_lcmp a2 0) = (0 : Int)) →
      Q [.inr (.inl (-9223372036854775808))] (mem Ls p I L)))) ∧
   (¬ a0 = (10 : Int) →
    ((a0 = (11 : Int) →
    (((0 : Int) ≤ (m_lcmp a1 a2) →
      Q [.inr (.inl 0)] (mem Ls p I L)) ∧
     (¬ ((0 : Int) ≤ (m_lcmp a1 a2)) →
      Q [.inr (.inl 1)] (mem Ls p I L)))) ∧
   (¬ a0 = (11 : Int) →
    ((a0 = (12 : Int) →
    (((0 : Int) < (m_lcmp a1 a2) →
      Q [.inr (.inl 0)] (mem Ls p I L)) ∧
     (¬ ((0 : Int) < (m_lcmp a1 a2)) →
      Q [.inr (.inl 1)] (mem Ls p I L)))) ∧
   (¬ a0 = (12 : Int) →
    ((a0 = (13 : Int) →
    ((¬ (m_lcmp a1 a2) = (0 : Int) →
      Q [.inr (.inl 0)] (mem Ls p I L)) ∧
     (¬ (¬ (m_lcmp a1 a2) = (0 : Int)) →
      Q [.inr (.inl 1)] (mem Ls p I L)))) ∧
   (¬ a0 = (13 : Int) →
    ((a0 = (14 : Int) →
    (((m_lcmp a1 a2) = (0 : Int) →
      Q [.inr (.inl 0)] (mem Ls p I L)) ∧
     (¬ ((m_lcmp a1 a2) = (0 : Int)) →
      Q [.inr (.inl 1)] (mem Ls p I L)))) ∧
   (¬ a0 = (14 : Int) →
    ((a0 = (15 : Int) →
    (((m_lcmp a1 a2) < (0 : Int) →
      Q [.inr (.inl 0)] (mem Ls p I L)) ∧
     (¬ ((m_lcmp a1 a2) < (0 : Int)) →
      Q [.inr (.inl 1)] (mem Ls p I L)))) ∧
   (¬ a0 = (15 : Int) →
    ((a0 = (16 : Int) →
    (((m_lcmp a1 a2) ≤ (0 : Int) →
      Q [.inr (.inl 0)] (mem Ls p I L)) ∧
     (¬ ((m_lcmp a1 a2) ≤ (0 : Int)) →
      Q [.inr (.inl 1)] (mem Ls p I L)))) ∧
   (¬ a0 = (16 : Int) →
    ((a0 = (27 : Int) →
    ((¬ (m_lcmp a1 0) = (0 : Int) →
      Q [.inr (.inl 1)] (mem Ls p I L)) ∧
     (¬ (¬ (m_lcmp a1 0) = (0 : Int)) →
      (((m_lcmp a2 0) = (0 : Int) →
        Q [.inr (.inl 0)] (mem Ls p I L)) ∧
       (¬ ((m_lcmp a2 0) = (0 : Int)) →
        Q [.inr (.inl 1)] (mem Ls p I L)))))) ∧
   (¬ a0 = (27 : Int) →
    ((a0 = (28 : Int) →
    (((m_lcmp a1 0) = (0 : Int) →
      Q [.inr (.inl 0)] (mem Ls p I L)) ∧
     (¬ ((m_lcmp a1 0) = (0 : Int)) →
      (((m_lcmp a2 0) = (0 : Int) →
        Q [.inr (.inl 0)] (mem Ls p I L)) ∧
       (¬ ((m_lcmp a2 0) = (0 : Int)) →
        Q [.inr (.inl 1)] (mem Ls p I L)))))) ∧
   (¬ a0 = (28 : Int) →
    Q [.inr (.inl (-9223372036854775808))] (mem Ls p I L)))))))))))))))))))))))))) :
    m_Call i_Laws_joined [.inl a0, .inr (.inl a1), .inr (.inl a2)] (mem Ls p I L) Q := by
  have he : m_ent 0 ([.inl a0, .inr (.inl a1), .inr (.inl a2)] : List mV) = [(0, .inl a0), (1, .inr (.inl a1)), (3, .inr (.inl a2))] := rfl
  skip <;> exact m_call_at 20 [] he h
set_option maxHeartbeats 4000000 in
set_option maxRecDepth 20000 in
theorem E_Laws_valueOf {Ls p w : Nat} (hw : w = 22 ∨ w = 81) {I L : Nat → Nat → Int} {a0 : Int} {Q : List mV → mM → Prop}
    (h : (0 ≤ a0 ∧ a0 < 3) ∧
  m_Wp i_Laws_valueOf 10 0 0 [(0, .inr (.inr w)), (1, .inl a0), (2, .inr (.inr 67)), (3, .inl 0), (4, .inl (I (w + 3) (Int.toNat a0)))] [] (mem Ls p I L) Q) :
    m_Call i_Laws_valueOf [.inr (.inr w), .inl a0, .inr (.inr 67)] (mem Ls p I L) Q := by
  have he : m_ent 0 ([.inr (.inr w), .inl a0, .inr (.inr 67)] : List mV) = [(0, .inr (.inr w)), (1, .inl a0), (2, .inr (.inr 67))] := rfl
  skip <;> rcases hw with rfl | rfl <;> exact m_call_at 8 [10, 62, 101, 138, 142, 188, 205, 228] he h
set_option maxHeartbeats 4000000 in
set_option maxRecDepth 20000 in
theorem T_Laws_valueOf_10 {Ls p w kc ks : Nat} (hw : w = 22 ∨ w = 81) {I L : Nat → Nat → Int} {x1 x3 x4 : Int} {Q : List mV → mM → Prop}
    (h : (0 ≤ x1 ∧ x1 < 3) ∧
  (((I (w + 4) (Int.toNat x1)) ≤ x4 →
    ((¬ x3 = (1 : Int) →
      m_Wp i_Laws_valueOf 228 kc ks [] [.inr (.inl (-9223372036854775808))] (mem Ls p I L) Q) ∧
     (¬ (¬ x3 = (1 : Int)) →
      (0 ≤ (0 : Int) ∧ (0 : Int) < 64) ∧
      m_Wp i_Laws_valueOf 228 kc ks [] [.inr (.inl (L (w + 5) 0))] (mem Ls p I L) Q))) ∧
   (¬ ((I (w + 4) (Int.toNat x1)) ≤ x4) →
    (0 ≤ x4 ∧ x4 < 64) ∧
    (((64 : Int) ≤ x3 →
      m_Wp i_Laws_valueOf 62 kc ks [(0, .inr (.inr w)), (1, .inl x1), (2, .inr (.inr 67)), (3, .inl x3), (4, .inl x4), (5, .inl (I (w + 1) (Int.toNat x4)))] [] (mem Ls p I L) Q) ∧
     (¬ ((64 : Int) ≤ x3) →
      ((¬ (I (w + 1) (Int.toNat x4)) = (2 : Int) →
        m_Wp i_Laws_valueOf 62 kc ks [(0, .inr (.inr w)), (1, .inl x1), (2, .inr (.inr 67)), (3, .inl x3), (4, .inl x4), (5, .inl (I (w + 1) (Int.toNat x4)))] [] (mem Ls p I L) Q) ∧
       (¬ (¬ (I (w + 1) (Int.toNat x4)) = (2 : Int)) →
        (0 ≤ x4 ∧ x4 < 64) ∧
        (0 ≤ x3 ∧ x3 < 64) ∧
        m_Wp i_Laws_valueOf 205 kc ks [(0, .inr (.inr w)), (1, .inl x1), (2, .inr (.inr 67)), (3, .inl (wr (x3 + 1))), (4, .inl x4)] [] (mem Ls p I (mup L (w + 5) (Int.toNat x3) (I (w + 2) (Int.toNat x4)))) Q))))))) :
    m_Wp i_Laws_valueOf 10 kc ks [(0, .inr (.inr w)), (1, .inl x1), (2, .inr (.inr 67)), (3, .inl x3), (4, .inl x4)] [] (mem Ls p I L) Q := by
  skip <;> rcases hw with rfl | rfl <;> exact m_wp_of 30 [10, 62, 101, 138, 142, 188, 205, 228] h
set_option maxHeartbeats 4000000 in
set_option maxRecDepth 20000 in
theorem T_Laws_valueOf_228 {Ls p kc ks : Nat}  {I L : Nat → Nat → Int} {y0 : Int} {Q : List mV → mM → Prop}
    (h : Q [.inr (.inl y0)] (mem Ls p I L)) :
    m_Wp i_Laws_valueOf 228 kc ks [] [.inr (.inl y0)] (mem Ls p I L) Q := by
  skip <;> exact m_wp_of 2 [10, 62, 101, 138, 142, 188, 205, 228] h
set_option maxHeartbeats 4000000 in
set_option maxRecDepth 20000 in
theorem T_Laws_valueOf_62 {Ls p w kc ks : Nat} (hw : w = 22 ∨ w = 81) {I L : Nat → Nat → Int} {x1 x3 x4 x5 : Int} {Q : List mV → mM → Prop}
    (h : (((64 : Int) ≤ x3 →
    m_Wp i_Laws_valueOf 101 kc ks [(0, .inr (.inr w)), (1, .inl x1), (2, .inr (.inr 67)), (3, .inl x3), (4, .inl x4), (5, .inl x5)] [] (mem Ls p I L) Q) ∧
   (¬ ((64 : Int) ≤ x3) →
    ((x5 < (30 : Int) →
      m_Wp i_Laws_valueOf 101 kc ks [(0, .inr (.inr w)), (1, .inl x1), (2, .inr (.inr 67)), (3, .inl x3), (4, .inl x4), (5, .inl x5)] [] (mem Ls p I L) Q) ∧
     (¬ (x5 < (30 : Int)) →
      (((37 : Int) ≤ x5 →
        m_Wp i_Laws_valueOf 101 kc ks [(0, .inr (.inr w)), (1, .inl x1), (2, .inr (.inr 67)), (3, .inl x3), (4, .inl x4), (5, .inl x5)] [] (mem Ls p I L) Q) ∧
       (¬ ((37 : Int) ≤ x5) →
        (0 ≤ (wr (x5 - 30)) ∧ (wr (x5 - 30)) < 7) ∧
        (0 ≤ x3 ∧ x3 < 64) ∧
        m_Wp i_Laws_valueOf 205 kc ks [(0, .inr (.inr w)), (1, .inl x1), (2, .inr (.inr 67)), (3, .inl (wr (x3 + 1))), (4, .inl x4)] [] (mem Ls p I (mup L (w + 5) (Int.toNat x3) (L 67 (Int.toNat (wr (x5 - 30)))))) Q))))))) :
    m_Wp i_Laws_valueOf 62 kc ks [(0, .inr (.inr w)), (1, .inl x1), (2, .inr (.inr 67)), (3, .inl x3), (4, .inl x4), (5, .inl x5)] [] (mem Ls p I L) Q := by
  skip <;> rcases hw with rfl | rfl <;> exact m_wp_of 22 [10, 62, 101, 138, 142, 188, 205, 228] h
set_option maxHeartbeats 4000000 in
set_option maxRecDepth 20000 in
theorem T_Laws_valueOf_205 {Ls p w kc ks : Nat} (hw : w = 22 ∨ w = 81) {I L : Nat → Nat → Int} {x1 x3 x4 : Int} {Q : List mV → mM → Prop}
    (h : m_Wp i_Laws_valueOf 10 kc ks [(0, .inr (.inr w)), (1, .inl x1), (2, .inr (.inr 67)), (3, .inl x3), (4, .inl (wr (x4 + 1)))] [] (mem Ls p I L) Q) :
    m_Wp i_Laws_valueOf 205 kc ks [(0, .inr (.inr w)), (1, .inl x1), (2, .inr (.inr 67)), (3, .inl x3), (4, .inl x4)] [] (mem Ls p I L) Q := by
  skip <;> rcases hw with rfl | rfl <;> exact m_wp_of 4 [10, 62, 101, 138, 142, 188, 205, 228] h
set_option maxHeartbeats 4000000 in
set_option maxRecDepth 20000 in
theorem T_Laws_valueOf_101 {Ls p w kc ks : Nat} (hw : w = 22 ∨ w = 81) {I L : Nat → Nat → Int} {x1 x3 x4 x5 : Int} {Q : List mV → mM → Prop}
    (h : ((¬ x5 = (29 : Int) →
    m_Wp i_Laws_valueOf 142 kc ks [(0, .inr (.inr w)), (1, .inl x1), (2, .inr (.inr 67)), (3, .inl x3), (4, .inl x4), (5, .inl x5)] [] (mem Ls p I L) Q) ∧
   (¬ (¬ x5 = (29 : Int)) →
    ((x3 < (1 : Int) →
      m_Wp i_Laws_valueOf 142 kc ks [(0, .inr (.inr w)), (1, .inl x1), (2, .inr (.inr 67)), (3, .inl x3), (4, .inl x4), (5, .inl x5)] [] (mem Ls p I L) Q) ∧
     (¬ (x3 < (1 : Int)) →
      (0 ≤ (wr (x3 - 1)) ∧ (wr (x3 - 1)) < 64) ∧
      ((¬ (m_lcmp (L (w + 5) (Int.toNat (wr (x3 - 1)))) 0) = (0 : Int) →
        m_Wp i_Laws_valueOf 138 kc ks [(0, .inr (.inr w)), (1, .inl x1), (2, .inr (.inr 67)), (3, .inl x3), (4, .inl x4)] [.inr (.inl 0), .inl (wr (x3 - 1)), .inr (.inr (w + 5))] (mem Ls p I L) Q) ∧
       (¬ (¬ (m_lcmp (L (w + 5) (Int.toNat (wr (x3 - 1)))) 0) = (0 : Int)) →
        m_Wp i_Laws_valueOf 138 kc ks [(0, .inr (.inr w)), (1, .inl x1), (2, .inr (.inr 67)), (3, .inl x3), (4, .inl x4)] [.inr (.inl 1), .inl (wr (x3 - 1)), .inr (.inr (w + 5))] (mem Ls p I L) Q))))))) :
    m_Wp i_Laws_valueOf 101 kc ks [(0, .inr (.inr w)), (1, .inl x1), (2, .inr (.inr 67)), (3, .inl x3), (4, .inl x4), (5, .inl x5)] [] (mem Ls p I L) Q := by
  skip <;> rcases hw with rfl | rfl <;> exact m_wp_of 24 [10, 62, 101, 138, 142, 188, 205, 228] h
set_option maxHeartbeats 4000000 in
set_option maxRecDepth 20000 in
theorem T_Laws_valueOf_142 {Ls p w kc ks : Nat} (hw : w = 22 ∨ w = 81) {I L : Nat → Nat → Int} {x1 x3 x4 x5 : Int} {Q : List mV → mM → Prop}
    (h : ((x3 < (2 : Int) →
    m_Wp i_Laws_valueOf 205 kc ks [(0, .inr (.inr w)), (1, .inl x1), (2, .inr (.inr 67)), (3, .inl x3), (4, .inl x4)] [] (mem Ls p I L) Q) ∧
   (¬ (x3 < (2 : Int)) →
    (0 ≤ (wr (x3 - 2)) ∧ (wr (x3 - 2)) < 64) ∧
    (0 ≤ (wr (x3 - 1)) ∧ (wr (x3 - 1)) < 64) ∧
    m_Call i_Laws_joined [.inl x5, .inr (.inl (L (w + 5) (Int.toNat (wr (x3 - 2))))), .inr (.inl (L (w + 5) (Int.toNat (wr (x3 - 1)))))] (mem Ls p I L) (fun v M' =>
      m_Wp i_Laws_valueOf 168 kc ks [(0, .inr (.inr w)), (1, .inl x1), (2, .inr (.inr 67)), (3, .inl x3), (4, .inl x4), (5, .inl x5)] (v ++ []) M' Q)))) :
    m_Wp i_Laws_valueOf 142 kc ks [(0, .inr (.inr w)), (1, .inl x1), (2, .inr (.inr 67)), (3, .inl x3), (4, .inl x4), (5, .inl x5)] [] (mem Ls p I L) Q := by
  skip <;> rcases hw with rfl | rfl <;> exact m_wp_of 18 [10, 62, 101, 138, 142, 188, 205, 228] h
set_option maxHeartbeats 4000000 in
set_option maxRecDepth 20000 in
theorem T_Laws_valueOf_138 {Ls p w kc ks : Nat} (hw : w = 22 ∨ w = 81) {I L : Nat → Nat → Int} {x1 x3 x4 y1 y2 : Int} {Q : List mV → mM → Prop}
    (h : (0 ≤ y1 ∧ y1 < 64) ∧
  m_Wp i_Laws_valueOf 205 kc ks [(0, .inr (.inr w)), (1, .inl x1), (2, .inr (.inr 67)), (3, .inl x3), (4, .inl x4)] [] (mem Ls p I (mup L (w + 5) (Int.toNat y1) y2)) Q) :
    m_Wp i_Laws_valueOf 138 kc ks [(0, .inr (.inr w)), (1, .inl x1), (2, .inr (.inr 67)), (3, .inl x3), (4, .inl x4)] [.inr (.inl y2), .inl y1, .inr (.inr (w + 5))] (mem Ls p I L) Q := by
  skip <;> rcases hw with rfl | rfl <;> exact m_wp_of 4 [10, 62, 101, 138, 142, 188, 205, 228] h
set_option maxHeartbeats 4000000 in
set_option maxRecDepth 20000 in
theorem T_Laws_valueOf_168 {Ls p w kc ks : Nat} (hw : w = 22 ∨ w = 81) {I L : Nat → Nat → Int} {x1 x3 x4 x5 y0 : Int} {Q : List mV → mM → Prop}
    (h : (((0 : Int) < (m_lcmp y0 1000000000000) →
    m_Wp i_Laws_valueOf 188 kc ks [] [] (mem Ls p I L) Q) ∧
   (¬ ((0 : Int) < (m_lcmp y0 1000000000000)) →
    (((0 : Int) ≤ (m_lcmp y0 (-1000000000000)) →
      (0 ≤ (wr ((wr (x3 + (-1))) - 1)) ∧ (wr ((wr (x3 + (-1))) - 1)) < 64) ∧
      m_Wp i_Laws_valueOf 205 kc ks [(0, .inr (.inr w)), (1, .inl x1), (2, .inr (.inr 67)), (3, .inl (wr (x3 + (-1)))), (4, .inl x4)] [] (mem Ls p I (mup L (w + 5) (Int.toNat (wr ((wr (x3 + (-1))) - 1))) y0)) Q) ∧
     (¬ ((0 : Int) ≤ (m_lcmp y0 (-1000000000000))) →
      m_Wp i_Laws_valueOf 188 kc ks [] [] (mem Ls p I L) Q))))) :
    m_Wp i_Laws_valueOf 168 kc ks [(0, .inr (.inr w)), (1, .inl x1), (2, .inr (.inr 67)), (3, .inl x3), (4, .inl x4), (5, .inl x5)] [.inr (.inl y0)] (mem Ls p I L) Q := by
  skip <;> rcases hw with rfl | rfl <;> exact m_wp_of 18 [10, 62, 101, 138, 142, 188, 205, 228] h
set_option maxHeartbeats 4000000 in
set_option maxRecDepth 20000 in
theorem T_Laws_valueOf_188 {Ls p kc ks : Nat}  {I L : Nat → Nat → Int} {Q : List mV → mM → Prop}
    (h : Q [.inr (.inl (-9223372036854775808))] (mem Ls p I L)) :
    m_Wp i_Laws_valueOf 188 kc ks [] [] (mem Ls p I L) Q := by
  skip <;> exact m_wp_of 3 [10, 62, 101, 138, 142, 188, 205, 228] h
set_option maxHeartbeats 4000000 in
set_option maxRecDepth 20000 in
theorem E_Log_note {Ls p : Nat}  {I L : Nat → Nat → Int} {a0 a1 a2 : Int} {Q : List mV → mM → Prop}
    (h : (((I 94 3) < (20 : Int) →
    (0 ≤ (I 94 3) ∧ (I 94 3) < 20) ∧
    (0 ≤ (I 94 3) ∧ (I 94 3) < 20) ∧
    (0 ≤ (I 94 3) ∧ (I 94 3) < 20) ∧
    Q [] (mem Ls p (mup (mup (mup (mup I 95 (Int.toNat (I 94 3)) a0) 96 (Int.toNat (I 94 3)) a1) 97 (Int.toNat (I 94 3)) a2) 94 3 (wr ((I 94 3) + 1))) L)) ∧
   (¬ ((I 94 3) < (20 : Int)) →
    m_Wp i_Log_note 12 0 0 [(0, .inr (.inr 94)), (1, .inl a0), (2, .inl a1), (3, .inl a2), (4, .inl 1)] [] (mem Ls p I L) Q))) :
    m_Call i_Log_note [.inr (.inr 94), .inl a0, .inl a1, .inl a2] (mem Ls p I L) Q := by
  have he : m_ent 0 ([.inr (.inr 94), .inl a0, .inl a1, .inl a2] : List mV) = [(0, .inr (.inr 94)), (1, .inl a0), (2, .inl a1), (3, .inl a2)] := rfl
  skip <;> exact m_call_at 30 [12] he h
set_option maxHeartbeats 4000000 in
set_option maxRecDepth 20000 in
theorem T_Log_note_12 {Ls p kc ks : Nat}  {I L : Nat → Nat → Int} {x1 x2 x3 x4 : Int} {Q : List mV → mM → Prop}
    (h : (((20 : Int) ≤ x4 →
    (0 ≤ (19 : Int) ∧ (19 : Int) < 20) ∧
    (0 ≤ (19 : Int) ∧ (19 : Int) < 20) ∧
    (0 ≤ (19 : Int) ∧ (19 : Int) < 20) ∧
    Q [] (mem Ls p (mup (mup (mup (mup (mup I 94 3 19) 95 19 x1) 96 19 x2) 97 19 x3) 94 3 (wr (19 + 1))) L)) ∧
   (¬ ((20 : Int) ≤ x4) →
    (0 ≤ x4 ∧ x4 < 20) ∧
    (0 ≤ (wr (x4 - 1)) ∧ (wr (x4 - 1)) < 20) ∧
    (0 ≤ x4 ∧ x4 < 20) ∧
    (0 ≤ (wr (x4 - 1)) ∧ (wr (x4 - 1)) < 20) ∧
    (0 ≤ x4 ∧ x4 < 20) ∧
    (0 ≤ (wr (x4 - 1)) ∧ (wr (x4 - 1)) < 20) ∧
    m_Wp i_Log_note 12 kc ks [(0, .inr (.inr 94)), (1, .inl x1), (2, .inl x2), (3, .inl x3), (4, .inl (wr (x4 + 1)))] [] (mem Ls p (mup (mup (mup I 95 (Int.toNat (wr (x4 - 1))) (I 95 (Int.toNat x4))) 96 (Int.toNat (wr (x4 - 1))) (I 96 (Int.toNat x4))) 97 (Int.toNat (wr (x4 - 1))) (I 97 (Int.toNat x4))) L) Q))) :
    m_Wp i_Log_note 12 kc ks [(0, .inr (.inr 94)), (1, .inl x1), (2, .inl x2), (3, .inl x3), (4, .inl x4)] [] (mem Ls p I L) Q := by
  skip <;> exact m_wp_of 37 [12] h
set_option maxHeartbeats 4000000 in
set_option maxRecDepth 20000 in
theorem E_Seen_addSight {Ls p : Nat}  {I L : Nat → Nat → Int} {a0 a1 a2 a3 : Int} {Q : List mV → mM → Prop}
    (h : (((I 87 6) < (24 : Int) →
    (0 ≤ (I 87 6) ∧ (I 87 6) < 24) ∧
    (0 ≤ (I 87 6) ∧ (I 87 6) < 24) ∧
    (0 ≤ (I 87 6) ∧ (I 87 6) < 24) ∧
    ((0 ≤ (I 87 6) ∧ (I 87 6) < 24) ∧ (a3 = 0 ∨ a3 = 1)) ∧
    (0 ≤ (I 87 6) ∧ (I 87 6) < 24) ∧
    Q [.inl (wr ((wr ((I 87 6) + 1)) - 1))] (mem Ls p (mup (mup (mup (mup (mup (mup I 88 (Int.toNat (I 87 6)) a0) 89 (Int.toNat (I 87 6)) a1) 90 (Int.toNat (I 87 6)) a2) 92 (Int.toNat (I 87 6)) a3) 91 (Int.toNat (I 87 6)) (-1)) 87 6 (wr ((I 87 6) + 1))) L)) ∧
   (¬ ((I 87 6) < (24 : Int)) →
    Q [.inl (-1)] (mem Ls p I L)))) :
    m_Call i_Seen_addSight [.inr (.inr 87), .inl a0, .inl a1, .inl a2, .inl a3] (mem Ls p I L) Q := by
  have he : m_ent 0 ([.inr (.inr 87), .inl a0, .inl a1, .inl a2, .inl a3] : List mV) = [(0, .inr (.inr 87)), (1, .inl a0), (2, .inl a1), (3, .inl a2), (4, .inl a3)] := rfl
  skip <;> exact m_call_at 45 [] he h
set_option maxHeartbeats 4000000 in
set_option maxRecDepth 20000 in
theorem E_Seen_addStrike {Ls p : Nat}  {I L : Nat → Nat → Int} {a0 : Int} {Q : List mV → mM → Prop}
    (h : (((24 : Int) ≤ (I 87 6) →
    Q [.inl (-1)] (mem Ls p I L)) ∧
   (¬ ((24 : Int) ≤ (I 87 6)) →
    ((a0 < (0 : Int) →
      Q [.inl (-1)] (mem Ls p I L)) ∧
     (¬ (a0 < (0 : Int)) →
      ((a0 < (I 87 6) →
        (0 ≤ (I 87 6) ∧ (I 87 6) < 24) ∧
        Q [.inl (wr ((wr ((I 87 6) + 1)) - 1))] (mem Ls p (mup (mup I 91 (Int.toNat (I 87 6)) a0) 87 6 (wr ((I 87 6) + 1))) L)) ∧
       (¬ (a0 < (I 87 6)) →
        Q [.inl (-1)] (mem Ls p I L)))))))) :
    m_Call i_Seen_addStrike [.inr (.inr 87), .inl a0] (mem Ls p I L) Q := by
  have he : m_ent 0 ([.inr (.inr 87), .inl a0] : List mV) = [(0, .inr (.inr 87)), (1, .inl a0)] := rfl
  skip <;> exact m_call_at 27 [] he h
set_option maxHeartbeats 4000000 in
set_option maxRecDepth 20000 in
theorem E_Seen_knownBy {Ls p : Nat}  {I L : Nat → Nat → Int} {Q : List mV → mM → Prop}
    (h : ((¬ (I 87 7) = (-1) →
    Q [.inl (m_min (I 87 7) (I 87 6))] (mem Ls p I L)) ∧
   (¬ (¬ (I 87 7) = (-1)) →
    Q [.inl (I 87 6)] (mem Ls p I L)))) :
    m_Call i_Seen_knownBy [.inr (.inr 87)] (mem Ls p I L) Q := by
  have he : m_ent 0 ([.inr (.inr 87)] : List mV) = [(0, .inr (.inr 87))] := rfl
  skip <;> exact m_call_at 11 [] he h
set_option maxHeartbeats 4000000 in
set_option maxRecDepth 20000 in
theorem E_Seen_judge {Ls p : Nat}  {I L : Nat → Nat → Int} {Q : List mV → mM → Prop}
    (h : m_Call i_Seen_knownBy [.inr (.inr 87)] (mem Ls p I L) (fun v M' =>
    m_Wp i_Seen_judge 4 0 0 [(0, .inr (.inr 87))] (v ++ []) M' Q)) :
    m_Call i_Seen_judge [.inr (.inr 87)] (mem Ls p I L) Q := by
  have he : m_ent 0 ([.inr (.inr 87)] : List mV) = [(0, .inr (.inr 87))] := rfl
  skip <;> exact m_call_at 2 [7, 39] he h
set_option maxHeartbeats 4000000 in
set_option maxRecDepth 20000 in
theorem T_Seen_judge_4 {Ls p kc ks : Nat}  {I L : Nat → Nat → Int} {y0 : Int} {Q : List mV → mM → Prop}
    (h : m_Wp i_Seen_judge 7 kc ks [(0, .inr (.inr 87)), (1, .inl y0), (2, .inl 0)] [] (mem Ls p I L) Q) :
    m_Wp i_Seen_judge 4 kc ks [(0, .inr (.inr 87))] [.inl y0] (mem Ls p I L) Q := by
  skip <;> exact m_wp_of 4 [7, 39] h
set_option maxHeartbeats 4000000 in
set_option maxRecDepth 20000 in
theorem T_Seen_judge_7 {Ls p kc ks : Nat}  {I L : Nat → Nat → Int} {x1 x2 : Int} {Q : List mV → mM → Prop}
    (h : (((24 : Int) ≤ x2 →
    m_Wp i_Seen_judge 39 kc ks [(0, .inr (.inr 87)), (2, .inl (wr (x1 - 1)))] [] (mem Ls p I L) Q) ∧
   (¬ ((24 : Int) ≤ x2) →
    ((x1 ≤ x2 →
      ((0 ≤ x2 ∧ x2 < 24) ∧ ((0 : Int) = 0 ∨ (0 : Int) = 1)) ∧
      m_Wp i_Seen_judge 7 kc ks [(0, .inr (.inr 87)), (1, .inl x1), (2, .inl (wr (x2 + 1)))] [] (mem Ls p (mup I 93 (Int.toNat x2) 0) L) Q) ∧
     (¬ (x1 ≤ x2) →
      ((0 ≤ x2 ∧ x2 < 24) ∧ ((1 : Int) = 0 ∨ (1 : Int) = 1)) ∧
      m_Wp i_Seen_judge 7 kc ks [(0, .inr (.inr 87)), (1, .inl x1), (2, .inl (wr (x2 + 1)))] [] (mem Ls p (mup I 93 (Int.toNat x2) 1) L) Q))))) :
    m_Wp i_Seen_judge 7 kc ks [(0, .inr (.inr 87)), (1, .inl x1), (2, .inl x2)] [] (mem Ls p I L) Q := by
  skip <;> exact m_wp_of 17 [7, 39] h
set_option maxHeartbeats 4000000 in
set_option maxRecDepth 20000 in
theorem T_Seen_judge_39 {Ls p kc ks : Nat}  {I L : Nat → Nat → Int} {x2 : Int} {Q : List mV → mM → Prop}
    (h : ((x2 < (0 : Int) →
    Q [] (mem Ls p I L)) ∧
   (¬ (x2 < (0 : Int)) →
    (0 ≤ x2 ∧ x2 < 24) ∧
    (((I 91 (Int.toNat x2)) = (-1) →
      m_Wp i_Seen_judge 39 kc ks [(0, .inr (.inr 87)), (2, .inl (wr (x2 + (-1))))] [] (mem Ls p I L) Q) ∧
     (¬ ((I 91 (Int.toNat x2)) = (-1)) →
      (0 ≤ x2 ∧ x2 < 24) ∧
      (((I 93 (Int.toNat x2)) = (0 : Int) →
        ((0 ≤ x2 ∧ x2 < 24) ∧ ((0 : Int) = 0 ∨ (0 : Int) = 1)) ∧
        m_Wp i_Seen_judge 39 kc ks [(0, .inr (.inr 87)), (2, .inl (wr (x2 + (-1))))] [] (mem Ls p (mup I 93 (Int.toNat x2) 0) L) Q) ∧
       (¬ ((I 93 (Int.toNat x2)) = (0 : Int)) →
        (0 ≤ x2 ∧ x2 < 24) ∧
        ((0 ≤ (I 91 (Int.toNat x2)) ∧ (I 91 (Int.toNat x2)) < 24) ∧ ((0 : Int) = 0 ∨ (0 : Int) = 1)) ∧
        ((0 ≤ x2 ∧ x2 < 24) ∧ ((0 : Int) = 0 ∨ (0 : Int) = 1)) ∧
        m_Wp i_Seen_judge 39 kc ks [(0, .inr (.inr 87)), (2, .inl (wr (x2 + (-1))))] [] (mem Ls p (mup (mup I 93 (Int.toNat (I 91 (Int.toNat x2))) 0) 93 (Int.toNat x2) 0) L) Q))))))) :
    m_Wp i_Seen_judge 39 kc ks [(0, .inr (.inr 87)), (2, .inl x2)] [] (mem Ls p I L) Q := by
  skip <;> exact m_wp_of 32 [7, 39] h
set_option maxHeartbeats 4000000 in
set_option maxRecDepth 20000 in
theorem E_Seen_lastMinute {Ls p : Nat}  {I L : Nat → Nat → Int} {Q : List mV → mM → Prop}
    (h : m_Wp i_Seen_lastMinute 4 0 0 [(0, .inr (.inr 87)), (1, .inl 0), (2, .inl 0)] [] (mem Ls p I L) Q) :
    m_Call i_Seen_lastMinute [.inr (.inr 87)] (mem Ls p I L) Q := by
  have he : m_ent 0 ([.inr (.inr 87)] : List mV) = [(0, .inr (.inr 87))] := rfl
  skip <;> exact m_call_at 5 [4] he h
set_option maxHeartbeats 4000000 in
set_option maxRecDepth 20000 in
theorem T_Seen_lastMinute_4 {Ls p kc ks : Nat}  {I L : Nat → Nat → Int} {x1 x2 : Int} {Q : List mV → mM → Prop}
    (h : (((I 87 6) ≤ x2 →
    Q [.inl x1] (mem Ls p I L)) ∧
   (¬ ((I 87 6) ≤ x2) →
    (0 ≤ x2 ∧ x2 < 24) ∧
    (((I 93 (Int.toNat x2)) = (0 : Int) →
      m_Wp i_Seen_lastMinute 4 kc ks [(0, .inr (.inr 87)), (1, .inl x1), (2, .inl (wr (x2 + 1)))] [] (mem Ls p I L) Q) ∧
     (¬ ((I 93 (Int.toNat x2)) = (0 : Int)) →
      (0 ≤ x2 ∧ x2 < 24) ∧
      m_Wp i_Seen_lastMinute 4 kc ks [(0, .inr (.inr 87)), (1, .inl (m_max x1 (I 88 (Int.toNat x2)))), (2, .inl (wr (x2 + 1)))] [] (mem Ls p I L) Q))))) :
    m_Wp i_Seen_lastMinute 4 kc ks [(0, .inr (.inr 87)), (1, .inl x1), (2, .inl x2)] [] (mem Ls p I L) Q := by
  skip <;> exact m_wp_of 21 [4] h
set_option maxHeartbeats 4000000 in
set_option maxRecDepth 20000 in
theorem E_Seen_isSo {Ls p d : Nat} (hd : d = 28 ∨ d = 37 ∨ d = 46 ∨ d = 55) {I L : Nat → Nat → Int} {Q : List mV → mM → Prop}
    (h : m_Wp i_Seen_isSo 2 0 0 [(0, .inr (.inr 87)), (1, .inr (.inr d)), (2, .inl 0)] [] (mem Ls p I L) Q) :
    m_Call i_Seen_isSo [.inr (.inr 87), .inr (.inr d)] (mem Ls p I L) Q := by
  have he : m_ent 0 ([.inr (.inr 87), .inr (.inr d)] : List mV) = [(0, .inr (.inr 87)), (1, .inr (.inr d))] := rfl
  skip <;> rcases hd with rfl | rfl | rfl | rfl <;> exact m_call_at 3 [2] he h
set_option maxHeartbeats 4000000 in
set_option maxRecDepth 20000 in
theorem T_Seen_isSo_2 {Ls p d kc ks : Nat} (hd : d = 28 ∨ d = 37 ∨ d = 46 ∨ d = 55) {I L : Nat → Nat → Int} {x2 : Int} {Q : List mV → mM → Prop}
    (h : (((I 87 6) ≤ x2 →
    ((1 : Int) = 0 ∨ (1 : Int) = 1) ∧
    Q [.inl 1] (mem Ls p I L)) ∧
   (¬ ((I 87 6) ≤ x2) →
    (0 ≤ x2 ∧ x2 < 24) ∧
    (((I 93 (Int.toNat x2)) = (0 : Int) →
      m_Wp i_Seen_isSo 2 kc ks [(0, .inr (.inr 87)), (1, .inr (.inr d)), (2, .inl (wr (x2 + 1)))] [] (mem Ls p I L) Q) ∧
     (¬ ((I 93 (Int.toNat x2)) = (0 : Int)) →
      (0 ≤ x2 ∧ x2 < 24) ∧
      ((¬ (I 88 (Int.toNat x2)) = (I d 10) →
        m_Wp i_Seen_isSo 2 kc ks [(0, .inr (.inr 87)), (1, .inr (.inr d)), (2, .inl (wr (x2 + 1)))] [] (mem Ls p I L) Q) ∧
       (¬ (¬ (I 88 (Int.toNat x2)) = (I d 10)) →
        (0 ≤ x2 ∧ x2 < 24) ∧
        (0 ≤ (I 89 (Int.toNat x2)) ∧ (I 89 (Int.toNat x2)) < 6) ∧
        (0 ≤ x2 ∧ x2 < 24) ∧
        (((wr ((I d 10) + (I (d + 1) (Int.toNat (I 89 (Int.toNat x2)))))) < (I 90 (Int.toNat x2)) →
          (0 ≤ x2 ∧ x2 < 24) ∧
          (((0 : Int) = (I 92 (Int.toNat x2)) →
            m_Wp i_Seen_isSo 2 kc ks [(0, .inr (.inr 87)), (1, .inr (.inr d)), (2, .inl (wr (x2 + 1)))] [] (mem Ls p I L) Q) ∧
           (¬ ((0 : Int) = (I 92 (Int.toNat x2))) →
            ((0 : Int) = 0 ∨ (0 : Int) = 1) ∧
            Q [.inl 0] (mem Ls p I L)))) ∧
         (¬ ((wr ((I d 10) + (I (d + 1) (Int.toNat (I 89 (Int.toNat x2)))))) < (I 90 (Int.toNat x2))) →
          (0 ≤ x2 ∧ x2 < 24) ∧
          (((1 : Int) = (I 92 (Int.toNat x2)) →
            m_Wp i_Seen_isSo 2 kc ks [(0, .inr (.inr 87)), (1, .inr (.inr d)), (2, .inl (wr (x2 + 1)))] [] (mem Ls p I L) Q) ∧
           (¬ ((1 : Int) = (I 92 (Int.toNat x2))) →
            ((0 : Int) = 0 ∨ (0 : Int) = 1) ∧
            Q [.inl 0] (mem Ls p I L)))))))))))) :
    m_Wp i_Seen_isSo 2 kc ks [(0, .inr (.inr 87)), (1, .inr (.inr d)), (2, .inl x2)] [] (mem Ls p I L) Q := by
  skip <;> rcases hd with rfl | rfl | rfl | rfl <;> exact m_wp_of 44 [2] h
