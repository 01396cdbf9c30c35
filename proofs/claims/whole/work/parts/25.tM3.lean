/-! ===== segments of the code (by program: wip/whole/gen_all.py) ===== -/
set_option maxHeartbeats 4000000 in
set_option maxRecDepth 20000 in
theorem T_M_chance_59 {Ls p kc ks : Nat}  {I L : Nat → Nat → Int} {x2 x3 x4 x6 x7 : Int} {Q : List mV → mM → Prop}
    (h : ((1 : Int) = (0 : Int) ∨ (1 : Int) = (1 : Int)) ∧
  m_Call i_M_goMany [.inr (.inr 98), .inl x2] (mem Ls p (mup I 98 67 1) L) (fun v M' =>
    m_Wp i_M_chance 69 kc ks [(0, .inr (.inr 98)), (2, .inl x2), (3, .inl x3), (4, .inr (.inl x4)), (6, .inl x6), (7, .inl x7)] (v ++ []) M' Q)) :
    m_Wp i_M_chance 59 kc ks [(0, .inr (.inr 98)), (2, .inl x2), (3, .inl x3), (4, .inr (.inl x4)), (6, .inl x6), (7, .inl x7)] [] (mem Ls p I L) Q := by
  skip <;> exact m_wp_of 6 [48] h
set_option maxHeartbeats 4000000 in
set_option maxRecDepth 20000 in
theorem T_M_chance_69 {Ls p kc ks : Nat}  {I L : Nat → Nat → Int} {x2 x3 x4 x6 x7 : Int} {Q : List mV → mM → Prop}
    (h : (0 ≤ (wr (6 + x3)) ∧ (wr (6 + x3)) < 12) ∧
  ((¬ (I 135 (Int.toNat (wr (6 + x3)))) = (1 : Int) →
    m_Wp i_M_chance 48 kc ks [(0, .inr (.inr 98)), (2, .inl x2), (3, .inl x3), (4, .inr (.inl x4)), (6, .inl (wr (x6 + 0))), (7, .inl (wr (x7 + 1)))] [] (mem Ls p I L) Q) ∧
   (¬ (¬ (I 135 (Int.toNat (wr (6 + x3)))) = (1 : Int)) →
    m_Wp i_M_chance 48 kc ks [(0, .inr (.inr 98)), (2, .inl x2), (3, .inl x3), (4, .inr (.inl x4)), (6, .inl (wr (x6 + 1))), (7, .inl (wr (x7 + 1)))] [] (mem Ls p I L) Q))) :
    m_Wp i_M_chance 69 kc ks [(0, .inr (.inr 98)), (2, .inl x2), (3, .inl x3), (4, .inr (.inl x4)), (6, .inl x6), (7, .inl x7)] [] (mem Ls p I L) Q := by
  skip <;> exact m_wp_of 17 [48] h
set_option maxHeartbeats 4000000 in
set_option maxRecDepth 20000 in
theorem E_M_tried {Ls p : Nat}  {I L : Nat → Nat → Int} {a0 a1 a2 : Int} {Q : List mV → mM → Prop}
    (h : m_Call i_M_isIn [.inl a0, .inl 0, .inl 4] (mem Ls p (mup I 98 2 0) L) (fun v M' =>
    m_Wp i_M_tried 11 0 0 [(0, .inr (.inr 98)), (1, .inl a0), (2, .inl a1), (3, .inl a2)] (v ++ []) M' Q)) :
    m_Call i_M_tried [.inr (.inr 98), .inl a0, .inl a1, .inl a2] (mem Ls p I L) Q := by
  have he : m_ent 0 ([.inr (.inr 98), .inl a0, .inl a1, .inl a2] : List mV) = [(0, .inr (.inr 98)), (1, .inl a0), (2, .inl a1), (3, .inl a2)] := rfl
  skip <;> exact m_call_at 7 [45, 47, 61, 75, 89, 103, 117] he h
set_option maxHeartbeats 4000000 in
set_option maxRecDepth 20000 in
theorem T_M_tried_11 {Ls p kc ks : Nat}  {I L : Nat → Nat → Int} {x1 x2 x3 y0 : Int} {Q : List mV → mM → Prop}
    (h : ((y0 = (0 : Int) →
    m_Wp i_M_tried 45 kc ks [] [] (mem Ls p I L) Q) ∧
   (¬ (y0 = (0 : Int)) →
    m_Call i_M_isIn [.inl x3, .inl 0, .inl 200] (mem Ls p I L) (fun v M' =>
      m_Wp i_M_tried 22 kc ks [(0, .inr (.inr 98)), (1, .inl x1), (2, .inl x2), (3, .inl x3)] (v ++ []) M' Q)))) :
    m_Wp i_M_tried 11 kc ks [(0, .inr (.inr 98)), (1, .inl x1), (2, .inl x2), (3, .inl x3)] [.inl y0] (mem Ls p I L) Q := by
  skip <;> exact m_wp_of 5 [45, 47, 61, 75, 89, 103, 117] h
set_option maxHeartbeats 4000000 in
set_option maxRecDepth 20000 in
theorem T_M_tried_45 {Ls p kc ks : Nat}  {I L : Nat → Nat → Int} {Q : List mV → mM → Prop}
    (h : Q [.inl (-1)] (mem Ls p I L)) :
    m_Wp i_M_tried 45 kc ks [] [] (mem Ls p I L) Q := by
  skip <;> exact m_wp_of 3 [45, 47, 61, 75, 89, 103, 117] h
set_option maxHeartbeats 4000000 in
set_option maxRecDepth 20000 in
theorem T_M_tried_22 {Ls p kc ks : Nat}  {I L : Nat → Nat → Int} {x1 x2 x3 y0 : Int} {Q : List mV → mM → Prop}
    (h : ((y0 = (0 : Int) →
    m_Wp i_M_tried 45 kc ks [] [] (mem Ls p I L) Q) ∧
   (¬ (y0 = (0 : Int)) →
    ((¬ x1 = (2 : Int) →
      ((x2 = (0 : Int) →
        m_Wp i_M_tried 47 kc ks [(0, .inr (.inr 98)), (1, .inl x1), (2, .inl x2), (3, .inl x3)] [] (mem Ls p I L) Q) ∧
       (¬ (x2 = (0 : Int)) →
        m_Wp i_M_tried 45 kc ks [] [] (mem Ls p I L) Q))) ∧
     (¬ (¬ x1 = (2 : Int)) →
      m_Call i_M_isMan [.inr (.inr 98), .inl x2] (mem Ls p I L) (fun v M' =>
        m_Wp i_M_tried 35 kc ks [(0, .inr (.inr 98)), (1, .inl x1), (2, .inl x2), (3, .inl x3)] (v ++ []) M' Q)))))) :
    m_Wp i_M_tried 22 kc ks [(0, .inr (.inr 98)), (1, .inl x1), (2, .inl x2), (3, .inl x3)] [.inl y0] (mem Ls p I L) Q := by
  skip <;> exact m_wp_of 7 [45, 47, 61, 75, 89, 103, 117] h
set_option maxHeartbeats 4000000 in
set_option maxRecDepth 20000 in
theorem T_M_tried_47 {Ls p kc ks : Nat}  {I L : Nat → Nat → Int} {x1 x2 x3 : Int} {Q : List mV → mM → Prop}
    (h : m_Call i_M_layTried [.inr (.inr 98)] (mem Ls p I L) (fun v M' =>
    m_Wp i_M_tried 51 kc ks [(0, .inr (.inr 98)), (1, .inl x1), (2, .inl x2), (3, .inl x3)] (v ++ []) M' Q)) :
    m_Wp i_M_tried 47 kc ks [(0, .inr (.inr 98)), (1, .inl x1), (2, .inl x2), (3, .inl x3)] [] (mem Ls p I L) Q := by
  skip <;> exact m_wp_of 3 [45, 47, 61, 75, 89, 103, 117] h
set_option maxHeartbeats 4000000 in
set_option maxRecDepth 20000 in
theorem T_M_tried_35 {Ls p kc ks : Nat}  {I L : Nat → Nat → Int} {x1 x2 x3 y0 : Int} {Q : List mV → mM → Prop}
    (h : ((¬ y0 = (0 : Int) →
    m_Wp i_M_tried 47 kc ks [(0, .inr (.inr 98)), (1, .inl x1), (2, .inl x2), (3, .inl x3)] [] (mem Ls p I L) Q) ∧
   (¬ (¬ y0 = (0 : Int)) →
    m_Wp i_M_tried 45 kc ks [] [] (mem Ls p I L) Q))) :
    m_Wp i_M_tried 35 kc ks [(0, .inr (.inr 98)), (1, .inl x1), (2, .inl x2), (3, .inl x3)] [.inl y0] (mem Ls p I L) Q := by
  skip <;> exact m_wp_of 3 [45, 47, 61, 75, 89, 103, 117] h
set_option maxHeartbeats 4000000 in
set_option maxRecDepth 20000 in
theorem T_M_tried_51 {Ls p kc ks : Nat}  {I L : Nat → Nat → Int} {x1 x2 x3 : Int} {Q : List mV → mM → Prop}
    (h : ((¬ x1 = (0 : Int) →
    m_Wp i_M_tried 61 kc ks [(0, .inr (.inr 98)), (1, .inl x1), (2, .inl x2), (3, .inl x3)] [.inl 0, .inr (.inr 98)] (mem Ls p I L) Q) ∧
   (¬ (¬ x1 = (0 : Int)) →
    m_Wp i_M_tried 61 kc ks [(0, .inr (.inr 98)), (1, .inl x1), (2, .inl x2), (3, .inl x3)] [.inl 1, .inr (.inr 98)] (mem Ls p I L) Q))) :
    m_Wp i_M_tried 51 kc ks [(0, .inr (.inr 98)), (1, .inl x1), (2, .inl x2), (3, .inl x3)] [] (mem Ls p I L) Q := by
  skip <;> exact m_wp_of 6 [45, 47, 61, 75, 89, 103, 117] h
set_option maxHeartbeats 4000000 in
set_option maxRecDepth 20000 in
theorem T_M_tried_61 {Ls p kc ks : Nat}  {I L : Nat → Nat → Int} {x1 x2 x3 y1 : Int} {Q : List mV → mM → Prop}
    (h : (y1 = (0 : Int) ∨ y1 = (1 : Int)) ∧
  ((¬ x1 = (1 : Int) →
    m_Wp i_M_tried 75 kc ks [(0, .inr (.inr 98)), (1, .inl x1), (2, .inl x2), (3, .inl x3)] [.inl 0, .inr (.inr 98)] (mem Ls p (mup I 98 68 y1) L) Q) ∧
   (¬ (¬ x1 = (1 : Int)) →
    m_Wp i_M_tried 75 kc ks [(0, .inr (.inr 98)), (1, .inl x1), (2, .inl x2), (3, .inl x3)] [.inl 1, .inr (.inr 98)] (mem Ls p (mup I 98 68 y1) L) Q))) :
    m_Wp i_M_tried 61 kc ks [(0, .inr (.inr 98)), (1, .inl x1), (2, .inl x2), (3, .inl x3)] [.inl y1, .inr (.inr 98)] (mem Ls p I L) Q := by
  skip <;> exact m_wp_of 9 [45, 47, 61, 75, 89, 103, 117] h
set_option maxHeartbeats 4000000 in
set_option maxRecDepth 20000 in
theorem T_M_tried_75 {Ls p kc ks : Nat}  {I L : Nat → Nat → Int} {x1 x2 x3 y1 : Int} {Q : List mV → mM → Prop}
    (h : (y1 = (0 : Int) ∨ y1 = (1 : Int)) ∧
  ((¬ x1 = (2 : Int) →
    m_Wp i_M_tried 89 kc ks [(0, .inr (.inr 98)), (1, .inl x1), (3, .inl x3)] [.inl (-1), .inr (.inr 98)] (mem Ls p (mup I 98 69 y1) L) Q) ∧
   (¬ (¬ x1 = (2 : Int)) →
    m_Wp i_M_tried 89 kc ks [(0, .inr (.inr 98)), (1, .inl x1), (3, .inl x3)] [.inl x2, .inr (.inr 98)] (mem Ls p (mup I 98 69 y1) L) Q))) :
    m_Wp i_M_tried 75 kc ks [(0, .inr (.inr 98)), (1, .inl x1), (2, .inl x2), (3, .inl x3)] [.inl y1, .inr (.inr 98)] (mem Ls p I L) Q := by
  skip <;> exact m_wp_of 9 [45, 47, 61, 75, 89, 103, 117] h
set_option maxHeartbeats 4000000 in
set_option maxRecDepth 20000 in
theorem T_M_tried_89 {Ls p kc ks : Nat}  {I L : Nat → Nat → Int} {x1 x3 y1 : Int} {Q : List mV → mM → Prop}
    (h : ((¬ x1 = (3 : Int) →
    m_Wp i_M_tried 103 kc ks [(0, .inr (.inr 98)), (1, .inl x1), (3, .inl x3)] [.inl 0, .inr (.inr 98)] (mem Ls p (mup I 98 72 y1) L) Q) ∧
   (¬ (¬ x1 = (3 : Int)) →
    m_Wp i_M_tried 103 kc ks [(0, .inr (.inr 98)), (1, .inl x1), (3, .inl x3)] [.inl 1, .inr (.inr 98)] (mem Ls p (mup I 98 72 y1) L) Q))) :
    m_Wp i_M_tried 89 kc ks [(0, .inr (.inr 98)), (1, .inl x1), (3, .inl x3)] [.inl y1, .inr (.inr 98)] (mem Ls p I L) Q := by
  skip <;> exact m_wp_of 9 [45, 47, 61, 75, 89, 103, 117] h
set_option maxHeartbeats 4000000 in
set_option maxRecDepth 20000 in
theorem T_M_tried_103 {Ls p kc ks : Nat}  {I L : Nat → Nat → Int} {x1 x3 y1 : Int} {Q : List mV → mM → Prop}
    (h : (y1 = (0 : Int) ∨ y1 = (1 : Int)) ∧
  ((¬ x1 = (4 : Int) →
    m_Wp i_M_tried 117 kc ks [(0, .inr (.inr 98)), (3, .inl x3)] [.inl 0, .inr (.inr 98)] (mem Ls p (mup I 98 70 y1) L) Q) ∧
   (¬ (¬ x1 = (4 : Int)) →
    m_Wp i_M_tried 117 kc ks [(0, .inr (.inr 98)), (3, .inl x3)] [.inl 1, .inr (.inr 98)] (mem Ls p (mup I 98 70 y1) L) Q))) :
    m_Wp i_M_tried 103 kc ks [(0, .inr (.inr 98)), (1, .inl x1), (3, .inl x3)] [.inl y1, .inr (.inr 98)] (mem Ls p I L) Q := by
  skip <;> exact m_wp_of 9 [45, 47, 61, 75, 89, 103, 117] h
set_option maxHeartbeats 4000000 in
set_option maxRecDepth 20000 in
theorem T_M_tried_117 {Ls p kc ks : Nat}  {I L : Nat → Nat → Int} {x3 y1 : Int} {Q : List mV → mM → Prop}
    (h : (y1 = (0 : Int) ∨ y1 = (1 : Int)) ∧
  m_Call i_M_goMany [.inr (.inr 98), .inl x3] (mem Ls p (mup I 98 71 y1) L) (fun v M' =>
    m_Wp i_M_tried 125 kc ks [(0, .inr (.inr 98)), (3, .inl x3)] (v ++ []) M' Q)) :
    m_Wp i_M_tried 117 kc ks [(0, .inr (.inr 98)), (3, .inl x3)] [.inl y1, .inr (.inr 98)] (mem Ls p I L) Q := by
  skip <;> exact m_wp_of 5 [45, 47, 61, 75, 89, 103, 117] h
set_option maxHeartbeats 4000000 in
set_option maxRecDepth 20000 in
theorem T_M_tried_125 {Ls p kc ks : Nat}  {I L : Nat → Nat → Int} {x3 : Int} {Q : List mV → mM → Prop}
    (h : m_Call i_M_plainTried [.inr (.inr 98)] (mem Ls p I L) (fun v M' =>
    m_Wp i_M_tried 129 kc ks [(0, .inr (.inr 98)), (3, .inl x3)] (v ++ []) M' Q)) :
    m_Wp i_M_tried 125 kc ks [(0, .inr (.inr 98)), (3, .inl x3)] [] (mem Ls p I L) Q := by
  skip <;> exact m_wp_of 2 [45, 47, 61, 75, 89, 103, 117] h
set_option maxHeartbeats 4000000 in
set_option maxRecDepth 20000 in
theorem T_M_tried_129 {Ls p kc ks : Nat}  {I L : Nat → Nat → Int} {x3 : Int} {Q : List mV → mM → Prop}
    (h : m_Call i_M_are [.inr (.inr 98), .inl 1, .inl 1] (mem Ls p I L) (fun v M' =>
    m_Wp i_M_tried 135 kc ks [(0, .inr (.inr 98)), (3, .inl x3)] (v ++ []) M' Q)) :
    m_Wp i_M_tried 129 kc ks [(0, .inr (.inr 98)), (3, .inl x3)] [] (mem Ls p I L) Q := by
  skip <;> exact m_wp_of 4 [45, 47, 61, 75, 89, 103, 117] h
set_option maxHeartbeats 4000000 in
set_option maxRecDepth 20000 in
theorem T_M_tried_135 {Ls p kc ks : Nat}  {I L : Nat → Nat → Int} {x3 y0 : Int} {Q : List mV → mM → Prop}
    (h : m_Call i_M_are [.inr (.inr 98), .inl 0, .inl 1] (mem Ls p I L) (fun v M' =>
    m_Wp i_M_tried 141 kc ks [(0, .inr (.inr 98)), (3, .inl x3)] (v ++ [.inl y0]) M' Q)) :
    m_Wp i_M_tried 135 kc ks [(0, .inr (.inr 98)), (3, .inl x3)] [.inl y0] (mem Ls p I L) Q := by
  skip <;> exact m_wp_of 4 [45, 47, 61, 75, 89, 103, 117] h
set_option maxHeartbeats 4000000 in
set_option maxRecDepth 20000 in
theorem T_M_tried_141 {Ls p kc ks : Nat}  {I L : Nat → Nat → Int} {x3 y0 y1 : Int} {Q : List mV → mM → Prop}
    (h : Q [.inl (wr (y0 - y1))] (mem Ls p I L)) :
    m_Wp i_M_tried 141 kc ks [(0, .inr (.inr 98)), (3, .inl x3)] [.inl y1, .inl y0] (mem Ls p I L) Q := by
  skip <;> exact m_wp_of 2 [45, 47, 61, 75, 89, 103, 117] h
set_option maxHeartbeats 4000000 in
set_option maxRecDepth 20000 in
theorem E_M_take_r140 {Ls p : Nat}  {I L : Nat → Nat → Int} {a1 : Int} {Q : List mV → mM → Prop}
    (h : m_Wp i_M_take 2 0 0 [(0, .inr (.inr 98)), (1, .inr (.inr 140)), (2, .inl a1), (3, .inl 0)] [] (mem Ls p I L) Q) :
    m_Call i_M_take [.inr (.inr 98), .inr (.inr 140), .inl a1] (mem Ls p I L) Q := by
  have he : m_ent 0 ([.inr (.inr 98), .inr (.inr 140), .inl a1] : List mV) = [(0, .inr (.inr 98)), (1, .inr (.inr 140)), (2, .inl a1)] := rfl
  skip <;> exact m_call_at 3 [2, 69] he h
set_option maxHeartbeats 4000000 in
set_option maxRecDepth 20000 in
theorem T_M_take_2_r140 {Ls p kc ks : Nat}  {I L : Nat → Nat → Int} {x2 x3 : Int} {Q : List mV → mM → Prop}
    (h : (((6 : Int) ≤ x3 →
    m_Wp i_M_take 69 kc ks [(0, .inr (.inr 98)), (1, .inr (.inr 140)), (2, .inl x2), (3, .inl 0)] [] (mem Ls p I L) Q) ∧
   (¬ ((6 : Int) ≤ x3) →
    (0 ≤ (wr (x2 + x3)) ∧ (wr (x2 + x3)) < 940) ∧
    (0 ≤ x3 ∧ x3 < 12) ∧
    (0 ≤ (wr ((wr (x2 + 6)) + x3)) ∧ (wr ((wr (x2 + 6)) + x3)) < 940) ∧
    (0 ≤ x3 ∧ x3 < 12) ∧
    (0 ≤ (wr ((wr (x2 + 12)) + x3)) ∧ (wr ((wr (x2 + 12)) + x3)) < 940) ∧
    (0 ≤ x3 ∧ x3 < 12) ∧
    (0 ≤ (wr ((wr (x2 + 18)) + x3)) ∧ (wr ((wr (x2 + 18)) + x3)) < 940) ∧
    (0 ≤ x3 ∧ x3 < 12) ∧
    m_Wp i_M_take 2 kc ks [(0, .inr (.inr 98)), (1, .inr (.inr 140)), (2, .inl x2), (3, .inl (wr (x3 + 1)))] [] (mem Ls p (mup (mup (mup (mup I 125 (Int.toNat x3) (I 140 (Int.toNat (wr (x2 + x3))))) 126 (Int.toNat x3) (I 140 (Int.toNat (wr ((wr (x2 + 6)) + x3))))) 127 (Int.toNat x3) (I 140 (Int.toNat (wr ((wr (x2 + 12)) + x3))))) 133 (Int.toNat x3) (I 140 (Int.toNat (wr ((wr (x2 + 18)) + x3))))) L) Q))) :
    m_Wp i_M_take 2 kc ks [(0, .inr (.inr 98)), (1, .inr (.inr 140)), (2, .inl x2), (3, .inl x3)] [] (mem Ls p I L) Q := by
  skip <;> exact m_wp_of 49 [2, 69] h
set_option maxHeartbeats 4000000 in
set_option maxRecDepth 20000 in
theorem T_M_take_69_r140 {Ls p kc ks : Nat}  {I L : Nat → Nat → Int} {x2 x3 : Int} {Q : List mV → mM → Prop}
    (h : (((20 : Int) ≤ x3 →
    (0 ≤ (wr (x2 + 44)) ∧ (wr (x2 + 44)) < 940) ∧
    (0 ≤ (0 : Int) ∧ (0 : Int) < 2) ∧
    (0 ≤ (wr (x2 + 45)) ∧ (wr (x2 + 45)) < 940) ∧
    (0 ≤ (0 : Int) ∧ (0 : Int) < 2) ∧
    (0 ≤ (wr (x2 + 46)) ∧ (wr (x2 + 46)) < 940) ∧
    (0 ≤ (0 : Int) ∧ (0 : Int) < 2) ∧
    Q [] (mem Ls p (mup (mup (mup I 130 0 (I 140 (Int.toNat (wr (x2 + 44))))) 131 0 (I 140 (Int.toNat (wr (x2 + 45))))) 132 0 (I 140 (Int.toNat (wr (x2 + 46))))) L)) ∧
   (¬ ((20 : Int) ≤ x3) →
    (0 ≤ (wr ((wr (x2 + 24)) + x3)) ∧ (wr ((wr (x2 + 24)) + x3)) < 940) ∧
    (0 ≤ x3 ∧ x3 < 40) ∧
    m_Wp i_M_take 69 kc ks [(0, .inr (.inr 98)), (1, .inr (.inr 140)), (2, .inl x2), (3, .inl (wr (x3 + 1)))] [] (mem Ls p (mup I 129 (Int.toNat x3) (I 140 (Int.toNat (wr ((wr (x2 + 24)) + x3))))) L) Q))) :
    m_Wp i_M_take 69 kc ks [(0, .inr (.inr 98)), (1, .inr (.inr 140)), (2, .inl x2), (3, .inl x3)] [] (mem Ls p I L) Q := by
  skip <;> exact m_wp_of 32 [2, 69] h
set_option maxHeartbeats 4000000 in
set_option maxRecDepth 20000 in
theorem E_M_take_r141 {Ls p : Nat}  {I L : Nat → Nat → Int} {a1 : Int} {Q : List mV → mM → Prop}
    (h : m_Wp i_M_take 2 0 0 [(0, .inr (.inr 98)), (1, .inr (.inr 141)), (2, .inl a1), (3, .inl 0)] [] (mem Ls p I L) Q) :
    m_Call i_M_take [.inr (.inr 98), .inr (.inr 141), .inl a1] (mem Ls p I L) Q := by
  have he : m_ent 0 ([.inr (.inr 98), .inr (.inr 141), .inl a1] : List mV) = [(0, .inr (.inr 98)), (1, .inr (.inr 141)), (2, .inl a1)] := rfl
  skip <;> exact m_call_at 3 [2, 69] he h
set_option maxHeartbeats 4000000 in
set_option maxRecDepth 20000 in
theorem T_M_take_2_r141 {Ls p kc ks : Nat}  {I L : Nat → Nat → Int} {x2 x3 : Int} {Q : List mV → mM → Prop}
    (h : (((6 : Int) ≤ x3 →
    m_Wp i_M_take 69 kc ks [(0, .inr (.inr 98)), (1, .inr (.inr 141)), (2, .inl x2), (3, .inl 0)] [] (mem Ls p I L) Q) ∧
   (¬ ((6 : Int) ≤ x3) →
    (0 ≤ (wr (x2 + x3)) ∧ (wr (x2 + x3)) < 47) ∧
    (0 ≤ x3 ∧ x3 < 12) ∧
    (0 ≤ (wr ((wr (x2 + 6)) + x3)) ∧ (wr ((wr (x2 + 6)) + x3)) < 47) ∧
    (0 ≤ x3 ∧ x3 < 12) ∧
    (0 ≤ (wr ((wr (x2 + 12)) + x3)) ∧ (wr ((wr (x2 + 12)) + x3)) < 47) ∧
    (0 ≤ x3 ∧ x3 < 12) ∧
    (0 ≤ (wr ((wr (x2 + 18)) + x3)) ∧ (wr ((wr (x2 + 18)) + x3)) < 47) ∧
    (0 ≤ x3 ∧ x3 < 12) ∧
    m_Wp i_M_take 2 kc ks [(0, .inr (.inr 98)), (1, .inr (.inr 141)), (2, .inl x2), (3, .inl (wr (x3 + 1)))] [] (mem Ls p (mup (mup (mup (mup I 125 (Int.toNat x3) (I 141 (Int.toNat (wr (x2 + x3))))) 126 (Int.toNat x3) (I 141 (Int.toNat (wr ((wr (x2 + 6)) + x3))))) 127 (Int.toNat x3) (I 141 (Int.toNat (wr ((wr (x2 + 12)) + x3))))) 133 (Int.toNat x3) (I 141 (Int.toNat (wr ((wr (x2 + 18)) + x3))))) L) Q))) :
    m_Wp i_M_take 2 kc ks [(0, .inr (.inr 98)), (1, .inr (.inr 141)), (2, .inl x2), (3, .inl x3)] [] (mem Ls p I L) Q := by
  skip <;> exact m_wp_of 49 [2, 69] h
set_option maxHeartbeats 4000000 in
set_option maxRecDepth 20000 in
theorem T_M_take_69_r141 {Ls p kc ks : Nat}  {I L : Nat → Nat → Int} {x2 x3 : Int} {Q : List mV → mM → Prop}
    (h : (((20 : Int) ≤ x3 →
    (0 ≤ (wr (x2 + 44)) ∧ (wr (x2 + 44)) < 47) ∧
    (0 ≤ (0 : Int) ∧ (0 : Int) < 2) ∧
    (0 ≤ (wr (x2 + 45)) ∧ (wr (x2 + 45)) < 47) ∧
    (0 ≤ (0 : Int) ∧ (0 : Int) < 2) ∧
    (0 ≤ (wr (x2 + 46)) ∧ (wr (x2 + 46)) < 47) ∧
    (0 ≤ (0 : Int) ∧ (0 : Int) < 2) ∧
    Q [] (mem Ls p (mup (mup (mup I 130 0 (I 141 (Int.toNat (wr (x2 + 44))))) 131 0 (I 141 (Int.toNat (wr (x2 + 45))))) 132 0 (I 141 (Int.toNat (wr (x2 + 46))))) L)) ∧
   (¬ ((20 : Int) ≤ x3) →
    (0 ≤ (wr ((wr (x2 + 24)) + x3)) ∧ (wr ((wr (x2 + 24)) + x3)) < 47) ∧
    (0 ≤ x3 ∧ x3 < 40) ∧
    m_Wp i_M_take 69 kc ks [(0, .inr (.inr 98)), (1, .inr (.inr 141)), (2, .inl x2), (3, .inl (wr (x3 + 1)))] [] (mem Ls p (mup I 129 (Int.toNat x3) (I 141 (Int.toNat (wr ((wr (x2 + 24)) + x3))))) L) Q))) :
    m_Wp i_M_take 69 kc ks [(0, .inr (.inr 98)), (1, .inr (.inr 141)), (2, .inl x2), (3, .inl x3)] [] (mem Ls p I L) Q := by
  skip <;> exact m_wp_of 32 [2, 69] h
set_option maxHeartbeats 4000000 in
set_option maxRecDepth 20000 in
theorem E_M_undo {Ls p : Nat}  {I L : Nat → Nat → Int} {Q : List mV → mM → Prop}
    (h : ((¬ (I 98 79) = (0 : Int) →
    m_Call i_M_take [.inr (.inr 98), .inr (.inr 140), .inl (wr (47 * (wr ((I 98 79) - 1))))] (mem Ls p (mup (mup I 98 2 0) 98 79 (wr ((I 98 79) - 1))) L) (fun v M' =>
      m_Wp i_M_undo 39 0 0 [(0, .inr (.inr 98))] (v ++ []) M' Q)) ∧
   (¬ (¬ (I 98 79) = (0 : Int)) →
    Q [.inl (-1)] (mem Ls p (mup I 98 2 0) L)))) :
    m_Call i_M_undo [.inr (.inr 98)] (mem Ls p I L) Q := by
  have he : m_ent 0 ([.inr (.inr 98)] : List mV) = [(0, .inr (.inr 98))] := rfl
  skip <;> exact m_call_at 20 [] he h
set_option maxHeartbeats 4000000 in
set_option maxRecDepth 20000 in
theorem T_M_undo_39 {Ls p kc ks : Nat}  {I L : Nat → Nat → Int} {Q : List mV → mM → Prop}
    (h : Q [.inl (I 98 79)] (mem Ls p I L)) :
    m_Wp i_M_undo 39 kc ks [(0, .inr (.inr 98))] [] (mem Ls p I L) Q := by
  skip <;> exact m_wp_of 3 [] h
set_option maxHeartbeats 4000000 in
set_option maxRecDepth 20000 in
theorem E_M_keep {Ls p : Nat}  {I L : Nat → Nat → Int} {Q : List mV → mM → Prop}
    (h : ((1 : Int) = (0 : Int) ∨ (1 : Int) = (1 : Int)) ∧
  m_Call i_M_put [.inr (.inr 98), .inr (.inr 141), .inl 0] (mem Ls p (mup (mup I 98 2 0) 98 81 1) L) (fun v M' =>
    m_Wp i_M_keep 19 0 0 [(0, .inr (.inr 98))] (v ++ []) M' Q)) :
    m_Call i_M_keep [.inr (.inr 98)] (mem Ls p I L) Q := by
  have he : m_ent 0 ([.inr (.inr 98)] : List mV) = [(0, .inr (.inr 98))] := rfl
  skip <;> exact m_call_at 11 [21] he h
set_option maxHeartbeats 4000000 in
set_option maxRecDepth 20000 in
theorem T_M_keep_19 {Ls p kc ks : Nat}  {I L : Nat → Nat → Int} {Q : List mV → mM → Prop}
    (h : m_Wp i_M_keep 21 kc ks [(0, .inr (.inr 98)), (1, .inl 0)] [] (mem Ls p I L) Q) :
    m_Wp i_M_keep 19 kc ks [(0, .inr (.inr 98))] [] (mem Ls p I L) Q := by
  skip <;> exact m_wp_of 3 [21] h
set_option maxHeartbeats 4000000 in
set_option maxRecDepth 20000 in
theorem T_M_keep_21 {Ls p kc ks : Nat}  {I L : Nat → Nat → Int} {x1 : Int} {Q : List mV → mM → Prop}
    (h : (((6 : Int) ≤ x1 →
    (0 ≤ (0 : Int) ∧ (0 : Int) < 2) ∧
    (0 ≤ (24 : Int) ∧ (24 : Int) < 26) ∧
    (0 ≤ (0 : Int) ∧ (0 : Int) < 2) ∧
    (0 ≤ (25 : Int) ∧ (25 : Int) < 26) ∧
    (0 ≤ (0 : Int) ∧ (0 : Int) < 2) ∧
    Q [.inl (I 136 0)] (mem Ls p (mup (mup I 142 24 (I 136 0)) 142 25 (I 137 0)) (mup L 98 84 (L 98 66)))) ∧
   (¬ ((6 : Int) ≤ x1) →
    (0 ≤ x1 ∧ x1 < 12) ∧
    (0 ≤ x1 ∧ x1 < 26) ∧
    (0 ≤ x1 ∧ x1 < 12) ∧
    (0 ≤ (wr (6 + x1)) ∧ (wr (6 + x1)) < 26) ∧
    (0 ≤ (wr (2 * x1)) ∧ (wr (2 * x1)) < 24) ∧
    (0 ≤ (wr (12 + (wr (2 * x1)))) ∧ (wr (12 + (wr (2 * x1)))) < 26) ∧
    (0 ≤ (wr ((wr (2 * x1)) + 1)) ∧ (wr ((wr (2 * x1)) + 1)) < 24) ∧
    (0 ≤ (wr ((wr (12 + (wr (2 * x1)))) + 1)) ∧ (wr ((wr (12 + (wr (2 * x1)))) + 1)) < 26) ∧
    m_Wp i_M_keep 21 kc ks [(0, .inr (.inr 98)), (1, .inl (wr (x1 + 1)))] [] (mem Ls p (mup (mup (mup (mup I 142 (Int.toNat x1) (I 128 (Int.toNat x1))) 142 (Int.toNat (wr (6 + x1))) (I 135 (Int.toNat x1))) 142 (Int.toNat (wr (12 + (wr (2 * x1))))) (I 134 (Int.toNat (wr (2 * x1))))) 142 (Int.toNat (wr ((wr (12 + (wr (2 * x1)))) + 1))) (I 134 (Int.toNat (wr ((wr (2 * x1)) + 1))))) L) Q))) :
    m_Wp i_M_keep 21 kc ks [(0, .inr (.inr 98)), (1, .inl x1)] [] (mem Ls p I L) Q := by
  skip <;> exact m_wp_of 57 [21] h
set_option maxHeartbeats 4000000 in
set_option maxRecDepth 20000 in
theorem E_M_back {Ls p : Nat}  {I L : Nat → Nat → Int} {Q : List mV → mM → Prop}
    (h : ((¬ (I 98 81) = (0 : Int) →
    m_Call i_M_take [.inr (.inr 98), .inr (.inr 141), .inl 0] (mem Ls p (mup I 98 2 0) L) (fun v M' =>
      m_Wp i_M_back 23 0 0 [(0, .inr (.inr 98))] (v ++ []) M' Q)) ∧
   (¬ (¬ (I 98 81) = (0 : Int)) →
    Q [.inl (-1)] (mem Ls p (mup I 98 2 0) L)))) :
    m_Call i_M_back [.inr (.inr 98)] (mem Ls p I L) Q := by
  have he : m_ent 0 ([.inr (.inr 98)] : List mV) = [(0, .inr (.inr 98))] := rfl
  skip <;> exact m_call_at 11 [25] he h
set_option maxHeartbeats 4000000 in
set_option maxRecDepth 20000 in
theorem T_M_back_23 {Ls p kc ks : Nat}  {I L : Nat → Nat → Int} {Q : List mV → mM → Prop}
    (h : m_Wp i_M_back 25 kc ks [(0, .inr (.inr 98)), (1, .inl 0)] [] (mem Ls p I L) Q) :
    m_Wp i_M_back 23 kc ks [(0, .inr (.inr 98))] [] (mem Ls p I L) Q := by
  skip <;> exact m_wp_of 3 [25] h
set_option maxHeartbeats 4000000 in
set_option maxRecDepth 20000 in
theorem T_M_back_25 {Ls p kc ks : Nat}  {I L : Nat → Nat → Int} {x1 : Int} {Q : List mV → mM → Prop}
    (h : (((6 : Int) ≤ x1 →
    (0 ≤ (24 : Int) ∧ (24 : Int) < 26) ∧
    (0 ≤ (0 : Int) ∧ (0 : Int) < 2) ∧
    (0 ≤ (25 : Int) ∧ (25 : Int) < 26) ∧
    (0 ≤ (0 : Int) ∧ (0 : Int) < 2) ∧
    (0 ≤ (0 : Int) ∧ (0 : Int) < 2) ∧
    Q [.inl (I 142 24)] (mem Ls p (mup (mup (mup I 136 0 (I 142 24)) 137 0 (I 142 25)) 98 79 0) (mup L 98 66 (L 98 84)))) ∧
   (¬ ((6 : Int) ≤ x1) →
    (0 ≤ x1 ∧ x1 < 26) ∧
    (0 ≤ x1 ∧ x1 < 12) ∧
    (0 ≤ (wr (6 + x1)) ∧ (wr (6 + x1)) < 26) ∧
    (0 ≤ x1 ∧ x1 < 12) ∧
    (0 ≤ (wr (12 + (wr (2 * x1)))) ∧ (wr (12 + (wr (2 * x1)))) < 26) ∧
    (0 ≤ (wr (2 * x1)) ∧ (wr (2 * x1)) < 24) ∧
    (0 ≤ (wr ((wr (12 + (wr (2 * x1)))) + 1)) ∧ (wr ((wr (12 + (wr (2 * x1)))) + 1)) < 26) ∧
    (0 ≤ (wr ((wr (2 * x1)) + 1)) ∧ (wr ((wr (2 * x1)) + 1)) < 24) ∧
    m_Wp i_M_back 25 kc ks [(0, .inr (.inr 98)), (1, .inl (wr (x1 + 1)))] [] (mem Ls p (mup (mup (mup (mup I 128 (Int.toNat x1) (I 142 (Int.toNat x1))) 135 (Int.toNat x1) (I 142 (Int.toNat (wr (6 + x1))))) 134 (Int.toNat (wr (2 * x1))) (I 142 (Int.toNat (wr (12 + (wr (2 * x1))))))) 134 (Int.toNat (wr ((wr (2 * x1)) + 1))) (I 142 (Int.toNat (wr ((wr (12 + (wr (2 * x1)))) + 1))))) L) Q))) :
    m_Wp i_M_back 25 kc ks [(0, .inr (.inr 98)), (1, .inl x1)] [] (mem Ls p I L) Q := by
  skip <;> exact m_wp_of 57 [25] h
set_option maxHeartbeats 4000000 in
set_option maxRecDepth 20000 in
theorem E_M_count {Ls p : Nat}  {I L : Nat → Nat → Int} {a0 : Int} {Q : List mV → mM → Prop}
    (h : ((a0 = (0 : Int) →
    Q [.inl (I 98 12)] (mem Ls p (mup I 98 2 0) L)) ∧
   (¬ a0 = (0 : Int) →
    ((a0 = (1 : Int) →
    Q [.inl (I 98 13)] (mem Ls p (mup I 98 2 0) L)) ∧
   (¬ a0 = (1 : Int) →
    ((a0 = (2 : Int) →
    Q [.inl (I 98 14)] (mem Ls p (mup I 98 2 0) L)) ∧
   (¬ a0 = (2 : Int) →
    ((a0 = (3 : Int) →
    Q [.inl (I 98 16)] (mem Ls p (mup I 98 2 0) L)) ∧
   (¬ a0 = (3 : Int) →
    ((a0 = (4 : Int) →
    (0 ≤ (0 : Int) ∧ (0 : Int) < 2) ∧
    Q [.inl (I 136 0)] (mem Ls p (mup I 98 2 0) L)) ∧
   (¬ a0 = (4 : Int) →
    ((a0 = (5 : Int) →
    (0 ≤ (0 : Int) ∧ (0 : Int) < 2) ∧
    Q [.inl (I 130 0)] (mem Ls p (mup I 98 2 0) L)) ∧
   (¬ a0 = (5 : Int) →
    ((a0 = (6 : Int) →
    (0 ≤ (0 : Int) ∧ (0 : Int) < 2) ∧
    ((¬ (I 131 0) = (-1) →
      Q [.inl 1] (mem Ls p (mup I 98 2 0) L)) ∧
     (¬ (¬ (I 131 0) = (-1)) →
      Q [.inl 0] (mem Ls p (mup I 98 2 0) L)))) ∧
   (¬ a0 = (6 : Int) →
    ((a0 = (7 : Int) →
    m_Wp i_M_count 132 0 0 [(0, .inr (.inr 98)), (2, .inl 0), (3, .inl 0)] [] (mem Ls p (mup I 98 2 0) L) Q) ∧
   (¬ a0 = (7 : Int) →
    ((a0 = (8 : Int) →
    m_Call i_M_are [.inr (.inr 98), .inl 0, .inl 1] (mem Ls p (mup I 98 2 0) L) (fun v M' =>
      m_Wp i_M_count 163 0 0 [(0, .inr (.inr 98)), (1, .inl a0), (2, .inl 0)] (v ++ []) M' Q)) ∧
   (¬ a0 = (8 : Int) →
    ((a0 = (9 : Int) →
    m_Call i_M_are [.inr (.inr 98), .inl 0, .inl 2] (mem Ls p (mup I 98 2 0) L) (fun v M' =>
      m_Wp i_M_count 170 0 0 [(0, .inr (.inr 98)), (1, .inl a0), (2, .inl 0)] (v ++ []) M' Q)) ∧
   (¬ a0 = (9 : Int) →
    ((a0 = (10 : Int) →
    (0 ≤ (0 : Int) ∧ (0 : Int) < 2) ∧
    Q [.inl (I 137 0)] (mem Ls p (mup I 98 2 0) L)) ∧
   (¬ a0 = (10 : Int) →
    ((a0 = (11 : Int) →
    Q [.inl (I 98 75)] (mem Ls p (mup I 98 2 0) L)) ∧
   (¬ a0 = (11 : Int) →
    ((a0 = (12 : Int) →
    m_Call i_M_knownBy [.inr (.inr 98)] (mem Ls p (mup I 98 2 0) L) (fun v M' =>
      m_Wp i_M_count 187 0 0 [(0, .inr (.inr 98)), (1, .inl a0), (2, .inl 0)] (v ++ []) M' Q)) ∧
   (¬ a0 = (12 : Int) →
    ((a0 = (13 : Int) →
    Q [.inl (I 98 79)] (mem Ls p (mup I 98 2 0) L)) ∧
   (¬ a0 = (13 : Int) →
    Q [.inl (-1)] (mem Ls p (mup I 98 2 0) L)))))))))))))))))))))))))))))) :
    m_Call i_M_count [.inr (.inr 98), .inl a0] (mem Ls p I L) Q := by
  have he : m_ent 0 ([.inr (.inr 98), .inl a0] : List mV) = [(0, .inr (.inr 98)), (1, .inl a0)] := rfl
  skip <;> exact m_call_at 17 [132] he h
set_option maxHeartbeats 4000000 in
set_option maxRecDepth 20000 in
theorem T_M_count_132 {Ls p kc ks : Nat}  {I L : Nat → Nat → Int} {x2 x3 : Int} {Q : List mV → mM → Prop}
    (h : (((I 98 12) ≤ x3 →
    Q [.inl x2] (mem Ls p I L)) ∧
   (¬ ((I 98 12) ≤ x3) →
    (0 ≤ x3 ∧ x3 < 12) ∧
    m_Wp i_M_count 132 kc ks [(0, .inr (.inr 98)), (2, .inl (wr (x2 + (I 128 (Int.toNat x3))))), (3, .inl (wr (x3 + 1)))] [] (mem Ls p I L) Q))) :
    m_Wp i_M_count 132 kc ks [(0, .inr (.inr 98)), (2, .inl x2), (3, .inl x3)] [] (mem Ls p I L) Q := by
  skip <;> exact m_wp_of 15 [132] h
set_option maxHeartbeats 4000000 in
set_option maxRecDepth 20000 in
theorem T_M_count_163 {Ls p kc ks : Nat}  {I L : Nat → Nat → Int} {x1 x2 y0 : Int} {Q : List mV → mM → Prop}
    (h : Q [.inl y0] (mem Ls p I L)) :
    m_Wp i_M_count 163 kc ks [(0, .inr (.inr 98)), (1, .inl x1), (2, .inl x2)] [.inl y0] (mem Ls p I L) Q := by
  skip <;> exact m_wp_of 1 [132] h
set_option maxHeartbeats 4000000 in
set_option maxRecDepth 20000 in
theorem T_M_count_170 {Ls p kc ks : Nat}  {I L : Nat → Nat → Int} {x1 x2 y0 : Int} {Q : List mV → mM → Prop}
    (h : Q [.inl y0] (mem Ls p I L)) :
    m_Wp i_M_count 170 kc ks [(0, .inr (.inr 98)), (1, .inl x1), (2, .inl x2)] [.inl y0] (mem Ls p I L) Q := by
  skip <;> exact m_wp_of 1 [132] h
set_option maxHeartbeats 4000000 in
set_option maxRecDepth 20000 in
theorem T_M_count_187 {Ls p kc ks : Nat}  {I L : Nat → Nat → Int} {x1 x2 y0 : Int} {Q : List mV → mM → Prop}
    (h : Q [.inl y0] (mem Ls p I L)) :
    m_Wp i_M_count 187 kc ks [(0, .inr (.inr 98)), (1, .inl x1), (2, .inl x2)] [.inl y0] (mem Ls p I L) Q := by
  skip <;> exact m_wp_of 1 [132] h
