/-! ===== segments of the code (by program: wip/whole/gen_all.py) ===== -/
set_option maxHeartbeats 4000000 in
set_option maxRecDepth 20000 in
theorem T_M_minuteGoes_50 {Ls p kc ks : Nat}  {I L : Nat → Nat → Int} {x1 x2 : Int} {Q : List mV → mM → Prop}
    (h : m_Wp i_M_minuteGoes 2 kc ks [(0, .inr (.inr 98)), (1, .inl x1), (2, .inl (wr (x2 + 1)))] [] (mem Ls p I L) Q) :
    m_Wp i_M_minuteGoes 50 kc ks [(0, .inr (.inr 98)), (1, .inl x1), (2, .inl x2)] [] (mem Ls p I L) Q := by
  skip <;> exact m_wp_of 4 [2, 50, 112, 136, 170, 196, 198, 226] h
set_option maxHeartbeats 4000000 in
set_option maxRecDepth 20000 in
theorem T_M_minuteGoes_49 {Ls p kc ks : Nat}  {I L : Nat → Nat → Int} {x1 x2 y0 : Int} {Q : List mV → mM → Prop}
    (h : m_Wp i_M_minuteGoes 50 kc ks [(0, .inr (.inr 98)), (1, .inl x1), (2, .inl x2)] [] (mem Ls p I L) Q) :
    m_Wp i_M_minuteGoes 49 kc ks [(0, .inr (.inr 98)), (1, .inl x1), (2, .inl x2)] [.inl y0] (mem Ls p I L) Q := by
  skip <;> exact m_wp_of 2 [2, 50, 112, 136, 170, 196, 198, 226] h
set_option maxHeartbeats 4000000 in
set_option maxRecDepth 20000 in
theorem T_M_minuteGoes_112 {Ls p kc ks : Nat}  {I L : Nat → Nat → Int} {x1 : Int} {Q : List mV → mM → Prop}
    (h : (0 ≤ x1 ∧ x1 < 2) ∧
  ((¬ (I 131 (Int.toNat x1)) = (-1) →
    m_Wp i_M_minuteGoes 136 kc ks [(0, .inr (.inr 98)), (1, .inl x1)] [] (mem Ls p I L) Q) ∧
   (¬ (¬ (I 131 (Int.toNat x1)) = (-1)) →
    (0 ≤ x1 ∧ x1 < 2) ∧
    (((I 130 (Int.toNat x1)) ≤ (0 : Int) →
      m_Wp i_M_minuteGoes 136 kc ks [(0, .inr (.inr 98)), (1, .inl x1)] [] (mem Ls p I L) Q) ∧
     (¬ ((I 130 (Int.toNat x1)) ≤ (0 : Int)) →
      m_Call i_M_begins [.inr (.inr 98), .inl x1] (mem Ls p I L) (fun v M' =>
        m_Wp i_M_minuteGoes 136 kc ks [(0, .inr (.inr 98)), (1, .inl x1)] (v ++ []) M' Q)))))) :
    m_Wp i_M_minuteGoes 112 kc ks [(0, .inr (.inr 98)), (1, .inl x1)] [] (mem Ls p I L) Q := by
  skip <;> exact m_wp_of 15 [2, 50, 112, 136, 170, 196, 198, 226] h
set_option maxHeartbeats 4000000 in
set_option maxRecDepth 20000 in
theorem T_M_minuteGoes_136 {Ls p kc ks : Nat}  {I L : Nat → Nat → Int} {x1 : Int} {Q : List mV → mM → Prop}
    (h : (0 ≤ x1 ∧ x1 < 2) ∧
  (((I 131 (Int.toNat x1)) = (-1) →
    m_Wp i_M_minuteGoes 170 kc ks [(0, .inr (.inr 98)), (1, .inl x1)] [] (mem Ls p I L) Q) ∧
   (¬ ((I 131 (Int.toNat x1)) = (-1)) →
    (0 ≤ x1 ∧ x1 < 2) ∧
    (0 ≤ x1 ∧ x1 < 2) ∧
    (0 ≤ x1 ∧ x1 < 2) ∧
    ((¬ ((mup I 132 (Int.toNat x1) (wr ((I 132 (Int.toNat x1)) - 1))) 132 (Int.toNat x1)) = (0 : Int) →
      m_Wp i_M_minuteGoes 170 kc ks [(0, .inr (.inr 98)), (1, .inl x1)] [] (mem Ls p (mup I 132 (Int.toNat x1) (wr ((I 132 (Int.toNat x1)) - 1))) L) Q) ∧
     (¬ (¬ ((mup I 132 (Int.toNat x1) (wr ((I 132 (Int.toNat x1)) - 1))) 132 (Int.toNat x1)) = (0 : Int)) →
      m_Call i_M_isTold [.inr (.inr 98), .inl x1] (mem Ls p (mup I 132 (Int.toNat x1) (wr ((I 132 (Int.toNat x1)) - 1))) L) (fun v M' =>
        m_Wp i_M_minuteGoes 170 kc ks [(0, .inr (.inr 98)), (1, .inl x1)] (v ++ []) M' Q)))))) :
    m_Wp i_M_minuteGoes 136 kc ks [(0, .inr (.inr 98)), (1, .inl x1)] [] (mem Ls p I L) Q := by
  skip <;> exact m_wp_of 23 [2, 50, 112, 136, 170, 196, 198, 226] h
set_option maxHeartbeats 4000000 in
set_option maxRecDepth 20000 in
theorem T_M_minuteGoes_170 {Ls p kc ks : Nat}  {I L : Nat → Nat → Int} {x1 : Int} {Q : List mV → mM → Prop}
    (h : (0 ≤ x1 ∧ x1 < 2) ∧
  (¬ (10 : Int) = (0 : Int)) ∧
  ((¬ (Int.tmod (wr ((I 136 (Int.toNat x1)) + 1)) 10) = (0 : Int) →
    m_Wp i_M_minuteGoes 196 kc ks [(0, .inr (.inr 98)), (1, .inl x1)] [] (mem Ls p I L) Q) ∧
   (¬ (¬ (Int.tmod (wr ((I 136 (Int.toNat x1)) + 1)) 10) = (0 : Int)) →
    ((¬ (I 98 70) = (0 : Int) →
      m_Wp i_M_minuteGoes 196 kc ks [(0, .inr (.inr 98)), (1, .inl x1)] [] (mem Ls p I L) Q) ∧
     (¬ (¬ (I 98 70) = (0 : Int)) →
      m_Call i_M_drifts [.inr (.inr 98), .inl x1] (mem Ls p I L) (fun v M' =>
        m_Wp i_M_minuteGoes 196 kc ks [(0, .inr (.inr 98)), (1, .inl x1)] (v ++ []) M' Q)))))) :
    m_Wp i_M_minuteGoes 170 kc ks [(0, .inr (.inr 98)), (1, .inl x1)] [] (mem Ls p I L) Q := by
  skip <;> exact m_wp_of 16 [2, 50, 112, 136, 170, 196, 198, 226] h
set_option maxHeartbeats 4000000 in
set_option maxRecDepth 20000 in
theorem T_M_minuteGoes_196 {Ls p kc ks : Nat}  {I L : Nat → Nat → Int} {x1 : Int} {Q : List mV → mM → Prop}
    (h : m_Wp i_M_minuteGoes 198 kc ks [(0, .inr (.inr 98)), (1, .inl x1), (2, .inl 0)] [] (mem Ls p I L) Q) :
    m_Wp i_M_minuteGoes 196 kc ks [(0, .inr (.inr 98)), (1, .inl x1)] [] (mem Ls p I L) Q := by
  skip <;> exact m_wp_of 4 [2, 50, 112, 136, 170, 196, 198, 226] h
set_option maxHeartbeats 4000000 in
set_option maxRecDepth 20000 in
theorem T_M_minuteGoes_198 {Ls p kc ks : Nat}  {I L : Nat → Nat → Int} {x1 x2 : Int} {Q : List mV → mM → Prop}
    (h : (((I 98 14) ≤ x2 →
    (0 ≤ x1 ∧ x1 < 2) ∧
    (0 ≤ x1 ∧ x1 < 2) ∧
    Q [] (mem Ls p (mup I 136 (Int.toNat x1) (wr ((I 136 (Int.toNat x1)) + 1))) L)) ∧
   (¬ ((I 98 14) ≤ x2) →
    (0 ≤ (wr ((wr (6 * x1)) + x2)) ∧ (wr ((wr (6 * x1)) + x2)) < 12) ∧
    ((¬ (I 135 (Int.toNat (wr ((wr (6 * x1)) + x2)))) = (0 : Int) →
      m_Wp i_M_minuteGoes 226 kc ks [(0, .inr (.inr 98)), (1, .inl x1), (2, .inl x2)] [] (mem Ls p I L) Q) ∧
     (¬ (¬ (I 135 (Int.toNat (wr ((wr (6 * x1)) + x2)))) = (0 : Int)) →
      m_Call i_M_meets [.inr (.inr 98), .inl x1, .inl x2] (mem Ls p I L) (fun v M' =>
        m_Wp i_M_minuteGoes 226 kc ks [(0, .inr (.inr 98)), (1, .inl x1), (2, .inl x2)] (v ++ []) M' Q)))))) :
    m_Wp i_M_minuteGoes 198 kc ks [(0, .inr (.inr 98)), (1, .inl x1), (2, .inl x2)] [] (mem Ls p I L) Q := by
  skip <;> exact m_wp_of 18 [2, 50, 112, 136, 170, 196, 198, 226] h
set_option maxHeartbeats 4000000 in
set_option maxRecDepth 20000 in
theorem T_M_minuteGoes_226 {Ls p kc ks : Nat}  {I L : Nat → Nat → Int} {x1 x2 : Int} {Q : List mV → mM → Prop}
    (h : m_Wp i_M_minuteGoes 198 kc ks [(0, .inr (.inr 98)), (1, .inl x1), (2, .inl (wr (x2 + 1)))] [] (mem Ls p I L) Q) :
    m_Wp i_M_minuteGoes 226 kc ks [(0, .inr (.inr 98)), (1, .inl x1), (2, .inl x2)] [] (mem Ls p I L) Q := by
  skip <;> exact m_wp_of 4 [2, 50, 112, 136, 170, 196, 198, 226] h
set_option maxHeartbeats 4000000 in
set_option maxRecDepth 20000 in
theorem E_M_go {Ls p : Nat}  {I L : Nat → Nat → Int} {a0 : Int} {Q : List mV → mM → Prop}
    (h : m_Call i_M_isIn [.inl a0, .inl 0, .inl 200] (mem Ls p (mup I 98 2 0) L) (fun v M' =>
    m_Wp i_M_go 13 0 0 [(0, .inr (.inr 98)), (1, .inl a0)] (v ++ []) M' Q)) :
    m_Call i_M_go [.inr (.inr 98), .inl a0] (mem Ls p I L) Q := by
  have he : m_ent 0 ([.inr (.inr 98), .inl a0] : List mV) = [(0, .inr (.inr 98)), (1, .inl a0)] := rfl
  skip <;> exact m_call_at 7 [43] he h
set_option maxHeartbeats 4000000 in
set_option maxRecDepth 20000 in
theorem T_M_go_13 {Ls p kc ks : Nat}  {I L : Nat → Nat → Int} {x1 y0 : Int} {Q : List mV → mM → Prop}
    (h : ((y0 = (0 : Int) →
    Q [.inl (-1)] (mem Ls p I L)) ∧
   (¬ (y0 = (0 : Int)) →
    (0 ≤ (0 : Int) ∧ (0 : Int) < 2) ∧
    (((wr ((I 136 0) + x1)) ≤ (9000 : Int) →
      m_Call i_M_plainTried [.inr (.inr 98)] (mem Ls p I L) (fun v M' =>
        m_Wp i_M_go 36 kc ks [(0, .inr (.inr 98)), (1, .inl x1)] (v ++ []) M' Q)) ∧
     (¬ ((wr ((I 136 0) + x1)) ≤ (9000 : Int)) →
      Q [.inl (-1)] (mem Ls p I L)))))) :
    m_Wp i_M_go 13 kc ks [(0, .inr (.inr 98)), (1, .inl x1)] [.inl y0] (mem Ls p I L) Q := by
  skip <;> exact m_wp_of 12 [43] h
set_option maxHeartbeats 4000000 in
set_option maxRecDepth 20000 in
theorem T_M_go_36 {Ls p kc ks : Nat}  {I L : Nat → Nat → Int} {x1 : Int} {Q : List mV → mM → Prop}
    (h : ((1 : Int) = (0 : Int) ∨ (1 : Int) = (1 : Int)) ∧
  m_Wp i_M_go 43 kc ks [(0, .inr (.inr 98)), (1, .inl x1), (2, .inl 0)] [] (mem Ls p (mup I 98 67 1) L) Q) :
    m_Wp i_M_go 36 kc ks [(0, .inr (.inr 98)), (1, .inl x1)] [] (mem Ls p I L) Q := by
  skip <;> exact m_wp_of 6 [43] h
set_option maxHeartbeats 4000000 in
set_option maxRecDepth 20000 in
theorem T_M_go_43 {Ls p kc ks : Nat}  {I L : Nat → Nat → Int} {x1 x2 : Int} {Q : List mV → mM → Prop}
    (h : ((x1 ≤ x2 →
    ((0 : Int) = (0 : Int) ∨ (0 : Int) = (1 : Int)) ∧
    ((x1 ≤ (0 : Int) →
      (0 ≤ (0 : Int) ∧ (0 : Int) < 2) ∧
      Q [.inl (I 136 0)] (mem Ls p (mup (mup I 98 67 0) 98 79 (I 98 79)) L)) ∧
     (¬ (x1 ≤ (0 : Int)) →
      (0 ≤ (0 : Int) ∧ (0 : Int) < 2) ∧
      Q [.inl (I 136 0)] (mem Ls p (mup (mup I 98 67 0) 98 79 0) L)))) ∧
   (¬ (x1 ≤ x2) →
    m_Call i_M_minuteGoes [.inr (.inr 98), .inl 0] (mem Ls p I L) (fun v M' =>
      m_Wp i_M_go 53 kc ks [(0, .inr (.inr 98)), (1, .inl x1), (2, .inl x2)] (v ++ []) M' Q)))) :
    m_Wp i_M_go 43 kc ks [(0, .inr (.inr 98)), (1, .inl x1), (2, .inl x2)] [] (mem Ls p I L) Q := by
  skip <;> exact m_wp_of 19 [43] h
set_option maxHeartbeats 4000000 in
set_option maxRecDepth 20000 in
theorem T_M_go_53 {Ls p kc ks : Nat}  {I L : Nat → Nat → Int} {x1 x2 : Int} {Q : List mV → mM → Prop}
    (h : m_Wp i_M_go 43 kc ks [(0, .inr (.inr 98)), (1, .inl x1), (2, .inl (wr (x2 + 1)))] [] (mem Ls p I L) Q) :
    m_Wp i_M_go 53 kc ks [(0, .inr (.inr 98)), (1, .inl x1), (2, .inl x2)] [] (mem Ls p I L) Q := by
  skip <;> exact m_wp_of 3 [43] h
set_option maxHeartbeats 4000000 in
set_option maxRecDepth 20000 in
theorem E_M_layTried {Ls p : Nat}  {I L : Nat → Nat → Int} {Q : List mV → mM → Prop}
    (h : m_Wp i_M_layTried 2 0 0 [(0, .inr (.inr 98)), (1, .inl 0)] [] (mem Ls p I L) Q) :
    m_Call i_M_layTried [.inr (.inr 98)] (mem Ls p I L) Q := by
  have he : m_ent 0 ([.inr (.inr 98)] : List mV) = [(0, .inr (.inr 98))] := rfl
  skip <;> exact m_call_at 3 [2, 148] he h
set_option maxHeartbeats 4000000 in
set_option maxRecDepth 20000 in
theorem T_M_layTried_2 {Ls p kc ks : Nat}  {I L : Nat → Nat → Int} {x1 : Int} {Q : List mV → mM → Prop}
    (h : (((6 : Int) ≤ x1 →
    m_Wp i_M_layTried 148 kc ks [(0, .inr (.inr 98)), (1, .inl 0)] [] (mem Ls p I L) Q) ∧
   (¬ ((6 : Int) ≤ x1) →
    (0 ≤ x1 ∧ x1 < 12) ∧
    (0 ≤ (wr (6 + x1)) ∧ (wr (6 + x1)) < 12) ∧
    (0 ≤ x1 ∧ x1 < 12) ∧
    (0 ≤ (wr (6 + x1)) ∧ (wr (6 + x1)) < 12) ∧
    (0 ≤ x1 ∧ x1 < 12) ∧
    (0 ≤ (wr (6 + x1)) ∧ (wr (6 + x1)) < 12) ∧
    (0 ≤ x1 ∧ x1 < 12) ∧
    (0 ≤ (wr (6 + x1)) ∧ (wr (6 + x1)) < 12) ∧
    (0 ≤ x1 ∧ x1 < 12) ∧
    (0 ≤ (wr (6 + x1)) ∧ (wr (6 + x1)) < 12) ∧
    (0 ≤ x1 ∧ x1 < 12) ∧
    (0 ≤ (wr (6 + x1)) ∧ (wr (6 + x1)) < 12) ∧
    (0 ≤ (wr (2 * x1)) ∧ (wr (2 * x1)) < 24) ∧
    (0 ≤ (wr (12 + (wr (2 * x1)))) ∧ (wr (12 + (wr (2 * x1)))) < 24) ∧
    (0 ≤ (wr ((wr (2 * x1)) + 1)) ∧ (wr ((wr (2 * x1)) + 1)) < 24) ∧
    (0 ≤ (wr ((wr (12 + (wr (2 * x1)))) + 1)) ∧ (wr ((wr (12 + (wr (2 * x1)))) + 1)) < 24) ∧
    m_Wp i_M_layTried 2 kc ks [(0, .inr (.inr 98)), (1, .inl (wr (x1 + 1)))] [] (mem Ls p (mup (mup (mup (mup (mup (mup (mup (mup I 125 (Int.toNat (wr (6 + x1))) (I 125 (Int.toNat x1))) 126 (Int.toNat (wr (6 + x1))) (I 126 (Int.toNat x1))) 127 (Int.toNat (wr (6 + x1))) (I 127 (Int.toNat x1))) 128 (Int.toNat (wr (6 + x1))) (I 128 (Int.toNat x1))) 133 (Int.toNat (wr (6 + x1))) (I 133 (Int.toNat x1))) 135 (Int.toNat (wr (6 + x1))) (I 135 (Int.toNat x1))) 134 (Int.toNat (wr (12 + (wr (2 * x1))))) (I 134 (Int.toNat (wr (2 * x1))))) 134 (Int.toNat (wr ((wr (12 + (wr (2 * x1)))) + 1))) ((mup I 134 (Int.toNat (wr (12 + (wr (2 * x1))))) (I 134 (Int.toNat (wr (2 * x1))))) 134 (Int.toNat (wr ((wr (2 * x1)) + 1))))) L) Q))) :
    m_Wp i_M_layTried 2 kc ks [(0, .inr (.inr 98)), (1, .inl x1)] [] (mem Ls p I L) Q := by
  skip <;> exact m_wp_of 99 [2, 148] h
set_option maxHeartbeats 4000000 in
set_option maxRecDepth 20000 in
theorem T_M_layTried_148 {Ls p kc ks : Nat}  {I L : Nat → Nat → Int} {x1 : Int} {Q : List mV → mM → Prop}
    (h : (((20 : Int) ≤ x1 →
    (0 ≤ (0 : Int) ∧ (0 : Int) < 2) ∧
    (0 ≤ (1 : Int) ∧ (1 : Int) < 2) ∧
    (0 ≤ (0 : Int) ∧ (0 : Int) < 2) ∧
    (0 ≤ (1 : Int) ∧ (1 : Int) < 2) ∧
    (0 ≤ (0 : Int) ∧ (0 : Int) < 2) ∧
    (0 ≤ (1 : Int) ∧ (1 : Int) < 2) ∧
    (0 ≤ (0 : Int) ∧ (0 : Int) < 2) ∧
    (0 ≤ (1 : Int) ∧ (1 : Int) < 2) ∧
    (0 ≤ (0 : Int) ∧ (0 : Int) < 2) ∧
    (0 ≤ (1 : Int) ∧ (1 : Int) < 2) ∧
    m_Call i_M_plainTried [.inr (.inr 98)] (mem Ls p (mup (mup (mup (mup (mup I 130 1 (I 130 0)) 131 1 (I 131 0)) 132 1 (I 132 0)) 136 1 (I 136 0)) 137 1 (I 137 0)) L) (fun v M' =>
      m_Wp i_M_layTried 239 kc ks [(0, .inr (.inr 98)), (1, .inl x1)] (v ++ []) M' Q)) ∧
   (¬ ((20 : Int) ≤ x1) →
    (0 ≤ x1 ∧ x1 < 40) ∧
    (0 ≤ (wr (20 + x1)) ∧ (wr (20 + x1)) < 40) ∧
    m_Wp i_M_layTried 148 kc ks [(0, .inr (.inr 98)), (1, .inl (wr (x1 + 1)))] [] (mem Ls p (mup I 129 (Int.toNat (wr (20 + x1))) (I 129 (Int.toNat x1))) L) Q))) :
    m_Wp i_M_layTried 148 kc ks [(0, .inr (.inr 98)), (1, .inl x1)] [] (mem Ls p I L) Q := by
  skip <;> exact m_wp_of 46 [2, 148] h
set_option maxHeartbeats 4000000 in
set_option maxRecDepth 20000 in
theorem T_M_layTried_239 {Ls p kc ks : Nat}  {I L : Nat → Nat → Int} {x1 : Int} {Q : List mV → mM → Prop}
    (h : Q [] (mem Ls p I L)) :
    m_Wp i_M_layTried 239 kc ks [(0, .inr (.inr 98)), (1, .inl x1)] [] (mem Ls p I L) Q := by
  skip <;> exact m_wp_of 1 [2, 148] h
set_option maxHeartbeats 4000000 in
set_option maxRecDepth 20000 in
theorem E_M_goMany {Ls p : Nat}  {I L : Nat → Nat → Int} {a0 : Int} {Q : List mV → mM → Prop}
    (h : m_Wp i_M_goMany 2 0 0 [(0, .inr (.inr 98)), (1, .inl a0), (2, .inl 0)] [] (mem Ls p I L) Q) :
    m_Call i_M_goMany [.inr (.inr 98), .inl a0] (mem Ls p I L) Q := by
  have he : m_ent 0 ([.inr (.inr 98), .inl a0] : List mV) = [(0, .inr (.inr 98)), (1, .inl a0)] := rfl
  skip <;> exact m_call_at 3 [2] he h
set_option maxHeartbeats 4000000 in
set_option maxRecDepth 20000 in
theorem T_M_goMany_2 {Ls p kc ks : Nat}  {I L : Nat → Nat → Int} {x1 x2 : Int} {Q : List mV → mM → Prop}
    (h : ((x1 ≤ x2 →
    Q [] (mem Ls p I L)) ∧
   (¬ (x1 ≤ x2) →
    m_Call i_M_minuteGoes [.inr (.inr 98), .inl 1] (mem Ls p I L) (fun v M' =>
      m_Wp i_M_goMany 12 kc ks [(0, .inr (.inr 98)), (1, .inl x1), (2, .inl x2)] (v ++ []) M' Q)))) :
    m_Wp i_M_goMany 2 kc ks [(0, .inr (.inr 98)), (1, .inl x1), (2, .inl x2)] [] (mem Ls p I L) Q := by
  skip <;> exact m_wp_of 7 [2] h
set_option maxHeartbeats 4000000 in
set_option maxRecDepth 20000 in
theorem T_M_goMany_12 {Ls p kc ks : Nat}  {I L : Nat → Nat → Int} {x1 x2 : Int} {Q : List mV → mM → Prop}
    (h : m_Wp i_M_goMany 2 kc ks [(0, .inr (.inr 98)), (1, .inl x1), (2, .inl (wr (x2 + 1)))] [] (mem Ls p I L) Q) :
    m_Wp i_M_goMany 12 kc ks [(0, .inr (.inr 98)), (1, .inl x1), (2, .inl x2)] [] (mem Ls p I L) Q := by
  skip <;> exact m_wp_of 3 [2] h
set_option maxHeartbeats 4000000 in
set_option maxRecDepth 20000 in
theorem E_M_are {Ls p : Nat}  {I L : Nat → Nat → Int} {a0 a1 : Int} {Q : List mV → mM → Prop}
    (h : m_Wp i_M_are 5 0 0 [(0, .inr (.inr 98)), (1, .inl a0), (2, .inl a1), (3, .inl 0), (4, .inl 0)] [] (mem Ls p I L) Q) :
    m_Call i_M_are [.inr (.inr 98), .inl a0, .inl a1] (mem Ls p I L) Q := by
  have he : m_ent 0 ([.inr (.inr 98), .inl a0, .inl a1] : List mV) = [(0, .inr (.inr 98)), (1, .inl a0), (2, .inl a1)] := rfl
  skip <;> exact m_call_at 5 [5] he h
set_option maxHeartbeats 4000000 in
set_option maxRecDepth 20000 in
theorem T_M_are_5 {Ls p kc ks : Nat}  {I L : Nat → Nat → Int} {x1 x2 x3 x4 : Int} {Q : List mV → mM → Prop}
    (h : (((I 98 14) ≤ x4 →
    Q [.inl x3] (mem Ls p I L)) ∧
   (¬ ((I 98 14) ≤ x4) →
    (0 ≤ (wr ((wr (6 * x1)) + x4)) ∧ (wr ((wr (6 * x1)) + x4)) < 12) ∧
    ((¬ (I 135 (Int.toNat (wr ((wr (6 * x1)) + x4)))) = x2 →
      m_Wp i_M_are 5 kc ks [(0, .inr (.inr 98)), (1, .inl x1), (2, .inl x2), (3, .inl (wr (x3 + 0))), (4, .inl (wr (x4 + 1)))] [] (mem Ls p I L) Q) ∧
     (¬ (¬ (I 135 (Int.toNat (wr ((wr (6 * x1)) + x4)))) = x2) →
      m_Wp i_M_are 5 kc ks [(0, .inr (.inr 98)), (1, .inl x1), (2, .inl x2), (3, .inl (wr (x3 + 1))), (4, .inl (wr (x4 + 1)))] [] (mem Ls p I L) Q))))) :
    m_Wp i_M_are 5 kc ks [(0, .inr (.inr 98)), (1, .inl x1), (2, .inl x2), (3, .inl x3), (4, .inl x4)] [] (mem Ls p I L) Q := by
  skip <;> exact m_wp_of 24 [5] h
set_option maxHeartbeats 4000000 in
set_option maxRecDepth 20000 in
theorem E_M_ahead {Ls p : Nat}  {I L : Nat → Nat → Int} {a0 a1 a2 : Int} {Q : List mV → mM → Prop}
    (h : m_Call i_M_isIn [.inl a0, .inl 0, .inl 200] (mem Ls p (mup I 98 2 0) L) (fun v M' =>
    m_Wp i_M_ahead 13 0 0 [(0, .inr (.inr 98)), (1, .inl a0), (2, .inl a1), (3, .inl a2)] (v ++ []) M' Q)) :
    m_Call i_M_ahead [.inr (.inr 98), .inl a0, .inl a1, .inl a2] (mem Ls p I L) Q := by
  have he : m_ent 0 ([.inr (.inr 98), .inl a0, .inl a1, .inl a2] : List mV) = [(0, .inr (.inr 98)), (1, .inl a0), (2, .inl a1), (3, .inl a2)] := rfl
  skip <;> exact m_call_at 7 [] he h
set_option maxHeartbeats 4000000 in
set_option maxRecDepth 20000 in
theorem T_M_ahead_13 {Ls p kc ks : Nat}  {I L : Nat → Nat → Int} {x1 x2 x3 y0 : Int} {Q : List mV → mM → Prop}
    (h : ((y0 = (0 : Int) →
    Q [.inl (-2147483648)] (mem Ls p I L)) ∧
   (¬ (y0 = (0 : Int)) →
    m_Call i_M_isIn [.inl x2, .inl 0, .inl 3] (mem Ls p I L) (fun v M' =>
      m_Wp i_M_ahead 22 kc ks [(0, .inr (.inr 98)), (1, .inl x1), (2, .inl x2), (3, .inl x3)] (v ++ []) M' Q)))) :
    m_Wp i_M_ahead 13 kc ks [(0, .inr (.inr 98)), (1, .inl x1), (2, .inl x2), (3, .inl x3)] [.inl y0] (mem Ls p I L) Q := by
  skip <;> exact m_wp_of 5 [] h
set_option maxHeartbeats 4000000 in
set_option maxRecDepth 20000 in
theorem T_M_ahead_22 {Ls p kc ks : Nat}  {I L : Nat → Nat → Int} {x1 x2 x3 y0 : Int} {Q : List mV → mM → Prop}
    (h : ((y0 = (0 : Int) →
    Q [.inl (-2147483648)] (mem Ls p I L)) ∧
   (¬ (y0 = (0 : Int)) →
    ((¬ x2 = (2 : Int) →
      m_Call i_M_layTried [.inr (.inr 98)] (mem Ls p I L) (fun v M' =>
        m_Wp i_M_ahead 46 kc ks [(0, .inr (.inr 98)), (1, .inl x1), (2, .inl x2), (3, .inl x3)] (v ++ []) M' Q)) ∧
     (¬ (¬ x2 = (2 : Int)) →
      m_Call i_M_isMan [.inr (.inr 98), .inl x3] (mem Ls p I L) (fun v M' =>
        m_Wp i_M_ahead 35 kc ks [(0, .inr (.inr 98)), (1, .inl x1), (2, .inl x2), (3, .inl x3)] (v ++ []) M' Q)))))) :
    m_Wp i_M_ahead 22 kc ks [(0, .inr (.inr 98)), (1, .inl x1), (2, .inl x2), (3, .inl x3)] [.inl y0] (mem Ls p I L) Q := by
  skip <;> exact m_wp_of 7 [] h
set_option maxHeartbeats 4000000 in
set_option maxRecDepth 20000 in
theorem T_M_ahead_46 {Ls p kc ks : Nat}  {I L : Nat → Nat → Int} {x1 x2 x3 : Int} {Q : List mV → mM → Prop}
    (h : m_Call i_M_goMany [.inr (.inr 98), .inl x1] (mem Ls p I L) (fun v M' =>
    m_Wp i_M_ahead 51 kc ks [(0, .inr (.inr 98)), (1, .inl x1), (2, .inl x2), (3, .inl x3)] (v ++ []) M' Q)) :
    m_Wp i_M_ahead 46 kc ks [(0, .inr (.inr 98)), (1, .inl x1), (2, .inl x2), (3, .inl x3)] [] (mem Ls p I L) Q := by
  skip <;> exact m_wp_of 3 [] h
set_option maxHeartbeats 4000000 in
set_option maxRecDepth 20000 in
theorem T_M_ahead_35 {Ls p kc ks : Nat}  {I L : Nat → Nat → Int} {x1 x2 x3 y0 : Int} {Q : List mV → mM → Prop}
    (h : ((¬ y0 = (0 : Int) →
    m_Call i_M_layTried [.inr (.inr 98)] (mem Ls p I L) (fun v M' =>
      m_Wp i_M_ahead 46 kc ks [(0, .inr (.inr 98)), (1, .inl x1), (2, .inl x2), (3, .inl x3)] (v ++ []) M' Q)) ∧
   (¬ (¬ y0 = (0 : Int)) →
    Q [.inl (-2147483648)] (mem Ls p I L)))) :
    m_Wp i_M_ahead 35 kc ks [(0, .inr (.inr 98)), (1, .inl x1), (2, .inl x2), (3, .inl x3)] [.inl y0] (mem Ls p I L) Q := by
  skip <;> exact m_wp_of 4 [] h
set_option maxHeartbeats 4000000 in
set_option maxRecDepth 20000 in
theorem T_M_ahead_51 {Ls p kc ks : Nat}  {I L : Nat → Nat → Int} {x1 x2 x3 : Int} {Q : List mV → mM → Prop}
    (h : ((x2 = (0 : Int) →
    m_Call i_M_are [.inr (.inr 98), .inl 1, .inl 1] (mem Ls p I L) (fun v M' =>
      m_Wp i_M_ahead 86 kc ks [(0, .inr (.inr 98)), (1, .inl x1), (2, .inl x2), (3, .inl x3)] (v ++ []) M' Q)) ∧
   (¬ x2 = (0 : Int) →
    ((x2 = (1 : Int) →
    m_Call i_M_are [.inr (.inr 98), .inl 1, .inl 2] (mem Ls p I L) (fun v M' =>
      m_Wp i_M_ahead 100 kc ks [(0, .inr (.inr 98)), (1, .inl x1), (2, .inl x2), (3, .inl x3)] (v ++ []) M' Q)) ∧
   (¬ x2 = (1 : Int) →
    ((x2 = (2 : Int) →
    (0 ≤ (wr (6 + x3)) ∧ (wr (6 + x3)) < 12) ∧
    Q [.inl (I 127 (Int.toNat (wr (6 + x3))))] (mem Ls p I L)) ∧
   (¬ x2 = (2 : Int) →
    (0 ≤ (1 : Int) ∧ (1 : Int) < 2) ∧
    Q [.inl (I 130 1)] (mem Ls p I L)))))))) :
    m_Wp i_M_ahead 51 kc ks [(0, .inr (.inr 98)), (1, .inl x1), (2, .inl x2), (3, .inl x3)] [] (mem Ls p I L) Q := by
  skip <;> exact m_wp_of 9 [] h
set_option maxHeartbeats 4000000 in
set_option maxRecDepth 20000 in
theorem T_M_ahead_86 {Ls p kc ks : Nat}  {I L : Nat → Nat → Int} {x1 x2 x3 y0 : Int} {Q : List mV → mM → Prop}
    (h : m_Call i_M_are [.inr (.inr 98), .inl 0, .inl 1] (mem Ls p I L) (fun v M' =>
    m_Wp i_M_ahead 92 kc ks [(0, .inr (.inr 98)), (1, .inl x1), (2, .inl x2), (3, .inl x3)] (v ++ [.inl y0]) M' Q)) :
    m_Wp i_M_ahead 86 kc ks [(0, .inr (.inr 98)), (1, .inl x1), (2, .inl x2), (3, .inl x3)] [.inl y0] (mem Ls p I L) Q := by
  skip <;> exact m_wp_of 4 [] h
set_option maxHeartbeats 4000000 in
set_option maxRecDepth 20000 in
theorem T_M_ahead_100 {Ls p kc ks : Nat}  {I L : Nat → Nat → Int} {x1 x2 x3 y0 : Int} {Q : List mV → mM → Prop}
    (h : m_Call i_M_are [.inr (.inr 98), .inl 0, .inl 2] (mem Ls p I L) (fun v M' =>
    m_Wp i_M_ahead 106 kc ks [(0, .inr (.inr 98)), (1, .inl x1), (2, .inl x2), (3, .inl x3)] (v ++ [.inl y0]) M' Q)) :
    m_Wp i_M_ahead 100 kc ks [(0, .inr (.inr 98)), (1, .inl x1), (2, .inl x2), (3, .inl x3)] [.inl y0] (mem Ls p I L) Q := by
  skip <;> exact m_wp_of 4 [] h
set_option maxHeartbeats 4000000 in
set_option maxRecDepth 20000 in
theorem T_M_ahead_92 {Ls p kc ks : Nat}  {I L : Nat → Nat → Int} {x1 x2 x3 y0 y1 : Int} {Q : List mV → mM → Prop}
    (h : Q [.inl (wr (y0 - y1))] (mem Ls p I L)) :
    m_Wp i_M_ahead 92 kc ks [(0, .inr (.inr 98)), (1, .inl x1), (2, .inl x2), (3, .inl x3)] [.inl y1, .inl y0] (mem Ls p I L) Q := by
  skip <;> exact m_wp_of 2 [] h
set_option maxHeartbeats 4000000 in
set_option maxRecDepth 20000 in
theorem T_M_ahead_106 {Ls p kc ks : Nat}  {I L : Nat → Nat → Int} {x1 x2 x3 y0 y1 : Int} {Q : List mV → mM → Prop}
    (h : Q [.inl (wr (y0 - y1))] (mem Ls p I L)) :
    m_Wp i_M_ahead 106 kc ks [(0, .inr (.inr 98)), (1, .inl x1), (2, .inl x2), (3, .inl x3)] [.inl y1, .inl y0] (mem Ls p I L) Q := by
  skip <;> exact m_wp_of 2 [] h
set_option maxHeartbeats 4000000 in
set_option maxRecDepth 20000 in
theorem E_M_toldBy {Ls p : Nat}  {I L : Nat → Nat → Int} {a0 : Int} {Q : List mV → mM → Prop}
    (h : (0 ≤ (wr (6 + a0)) ∧ (wr (6 + a0)) < 12) ∧
  m_Wp i_M_toldBy 12 0 0 [(0, .inr (.inr 98)), (1, .inl a0), (2, .inl (I 128 (Int.toNat (wr (6 + a0))))), (3, .inl 1)] [] (mem Ls p I L) Q) :
    m_Call i_M_toldBy [.inr (.inr 98), .inl a0] (mem Ls p I L) Q := by
  have he : m_ent 0 ([.inr (.inr 98), .inl a0] : List mV) = [(0, .inr (.inr 98)), (1, .inl a0)] := rfl
  skip <;> exact m_call_at 10 [12] he h
set_option maxHeartbeats 4000000 in
set_option maxRecDepth 20000 in
theorem T_M_toldBy_12 {Ls p kc ks : Nat}  {I L : Nat → Nat → Int} {x1 x2 x3 : Int} {Q : List mV → mM → Prop}
    (h : (((99 : Int) < x3 →
    Q [.inl (-2)] (mem Ls p I L)) ∧
   (¬ ((99 : Int) < x3) →
    m_Call i_M_minuteGoes [.inr (.inr 98), .inl 1] (mem Ls p I L) (fun v M' =>
      m_Wp i_M_toldBy 23 kc ks [(0, .inr (.inr 98)), (1, .inl x1), (2, .inl x2), (3, .inl x3)] (v ++ []) M' Q)))) :
    m_Wp i_M_toldBy 12 kc ks [(0, .inr (.inr 98)), (1, .inl x1), (2, .inl x2), (3, .inl x3)] [] (mem Ls p I L) Q := by
  skip <;> exact m_wp_of 7 [12] h
set_option maxHeartbeats 4000000 in
set_option maxRecDepth 20000 in
theorem T_M_toldBy_23 {Ls p kc ks : Nat}  {I L : Nat → Nat → Int} {x1 x2 x3 : Int} {Q : List mV → mM → Prop}
    (h : (0 ≤ (wr (6 + x1)) ∧ (wr (6 + x1)) < 12) ∧
  (((I 128 (Int.toNat (wr (6 + x1)))) ≤ x2 →
    m_Wp i_M_toldBy 12 kc ks [(0, .inr (.inr 98)), (1, .inl x1), (2, .inl x2), (3, .inl (wr (x3 + 1)))] [] (mem Ls p I L) Q) ∧
   (¬ ((I 128 (Int.toNat (wr (6 + x1)))) ≤ x2) →
    Q [.inl x3] (mem Ls p I L)))) :
    m_Wp i_M_toldBy 23 kc ks [(0, .inr (.inr 98)), (1, .inl x1), (2, .inl x2), (3, .inl x3)] [] (mem Ls p I L) Q := by
  skip <;> exact m_wp_of 11 [12] h
set_option maxHeartbeats 4000000 in
set_option maxRecDepth 20000 in
theorem E_M_delay {Ls p : Nat}  {I L : Nat → Nat → Int} {a0 : Int} {Q : List mV → mM → Prop}
    (h : m_Call i_M_isMan [.inr (.inr 98), .inl a0] (mem Ls p (mup I 98 2 0) L) (fun v M' =>
    m_Wp i_M_delay 10 0 0 [(0, .inr (.inr 98)), (1, .inl a0)] (v ++ []) M' Q)) :
    m_Call i_M_delay [.inr (.inr 98), .inl a0] (mem Ls p I L) Q := by
  have he : m_ent 0 ([.inr (.inr 98), .inl a0] : List mV) = [(0, .inr (.inr 98)), (1, .inl a0)] := rfl
  skip <;> exact m_call_at 6 [] he h
set_option maxHeartbeats 4000000 in
set_option maxRecDepth 20000 in
theorem T_M_delay_10 {Ls p kc ks : Nat}  {I L : Nat → Nat → Int} {x1 y0 : Int} {Q : List mV → mM → Prop}
    (h : ((¬ y0 = (0 : Int) →
    m_Call i_M_layTried [.inr (.inr 98)] (mem Ls p I L) (fun v M' =>
      m_Wp i_M_delay 19 kc ks [(0, .inr (.inr 98)), (1, .inl x1)] (v ++ []) M' Q)) ∧
   (¬ (¬ y0 = (0 : Int)) →
    Q [.inl (-1)] (mem Ls p I L)))) :
    m_Wp i_M_delay 10 kc ks [(0, .inr (.inr 98)), (1, .inl x1)] [.inl y0] (mem Ls p I L) Q := by
  skip <;> exact m_wp_of 3 [] h
set_option maxHeartbeats 4000000 in
set_option maxRecDepth 20000 in
theorem T_M_delay_19 {Ls p kc ks : Nat}  {I L : Nat → Nat → Int} {x1 : Int} {Q : List mV → mM → Prop}
    (h : m_Call i_M_joins [.inr (.inr 98), .inl 1, .inl x1] (mem Ls p I L) (fun v M' =>
    m_Wp i_M_delay 25 kc ks [(0, .inr (.inr 98)), (1, .inl x1)] (v ++ []) M' Q)) :
    m_Wp i_M_delay 19 kc ks [(0, .inr (.inr 98)), (1, .inl x1)] [] (mem Ls p I L) Q := by
  skip <;> exact m_wp_of 4 [] h
set_option maxHeartbeats 4000000 in
set_option maxRecDepth 20000 in
theorem T_M_delay_25 {Ls p kc ks : Nat}  {I L : Nat → Nat → Int} {x1 y0 : Int} {Q : List mV → mM → Prop}
    (h : m_Call i_M_toldBy [.inr (.inr 98), .inl x1] (mem Ls p I L) (fun v M' =>
    m_Wp i_M_delay 31 kc ks [(0, .inr (.inr 98)), (1, .inl x1)] (v ++ []) M' Q)) :
    m_Wp i_M_delay 25 kc ks [(0, .inr (.inr 98)), (1, .inl x1)] [.inl y0] (mem Ls p I L) Q := by
  skip <;> exact m_wp_of 4 [] h
set_option maxHeartbeats 4000000 in
set_option maxRecDepth 20000 in
theorem T_M_delay_31 {Ls p kc ks : Nat}  {I L : Nat → Nat → Int} {x1 y0 : Int} {Q : List mV → mM → Prop}
    (h : Q [.inl y0] (mem Ls p I L)) :
    m_Wp i_M_delay 31 kc ks [(0, .inr (.inr 98)), (1, .inl x1)] [.inl y0] (mem Ls p I L) Q := by
  skip <;> exact m_wp_of 1 [] h
set_option maxHeartbeats 4000000 in
set_option maxRecDepth 20000 in
theorem E_M_bestRing {Ls p : Nat}  {I L : Nat → Nat → Int} {a0 a1 a2 : Int} {Q : List mV → mM → Prop}
    (h : m_Call i_M_isMan [.inr (.inr 98), .inl a0] (mem Ls p (mup I 98 2 0) L) (fun v M' =>
    m_Wp i_M_bestRing 10 0 0 [(0, .inr (.inr 98)), (1, .inl a0), (2, .inl a1), (3, .inl a2)] (v ++ []) M' Q)) :
    m_Call i_M_bestRing [.inr (.inr 98), .inl a0, .inl a1, .inl a2] (mem Ls p I L) Q := by
  have he : m_ent 0 ([.inr (.inr 98), .inl a0, .inl a1, .inl a2] : List mV) = [(0, .inr (.inr 98)), (1, .inl a0), (2, .inl a1), (3, .inl a2)] := rfl
  skip <;> exact m_call_at 6 [45] he h
set_option maxHeartbeats 4000000 in
set_option maxRecDepth 20000 in
theorem T_M_bestRing_10 {Ls p kc ks : Nat}  {I L : Nat → Nat → Int} {x1 x2 x3 y0 : Int} {Q : List mV → mM → Prop}
    (h : ((y0 = (0 : Int) →
    Q [.inl (-1)] (mem Ls p I L)) ∧
   (¬ (y0 = (0 : Int)) →
    m_Call i_M_isIn [.inl x2, .inl 0, .inl 60] (mem Ls p I L) (fun v M' =>
      m_Wp i_M_bestRing 20 kc ks [(0, .inr (.inr 98)), (1, .inl x1), (2, .inl x2), (3, .inl x3)] (v ++ []) M' Q)))) :
    m_Wp i_M_bestRing 10 kc ks [(0, .inr (.inr 98)), (1, .inl x1), (2, .inl x2), (3, .inl x3)] [.inl y0] (mem Ls p I L) Q := by
  skip <;> exact m_wp_of 5 [45] h
set_option maxHeartbeats 4000000 in
set_option maxRecDepth 20000 in
theorem T_M_bestRing_20 {Ls p kc ks : Nat}  {I L : Nat → Nat → Int} {x1 x2 x3 y0 : Int} {Q : List mV → mM → Prop}
    (h : ((y0 = (0 : Int) →
    Q [.inl (-1)] (mem Ls p I L)) ∧
   (¬ (y0 = (0 : Int)) →
    m_Call i_M_isIn [.inl x3, .inl 0, .inl 1] (mem Ls p I L) (fun v M' =>
      m_Wp i_M_bestRing 29 kc ks [(0, .inr (.inr 98)), (1, .inl x1), (2, .inl x2), (3, .inl x3)] (v ++ []) M' Q)))) :
    m_Wp i_M_bestRing 20 kc ks [(0, .inr (.inr 98)), (1, .inl x1), (2, .inl x2), (3, .inl x3)] [.inl y0] (mem Ls p I L) Q := by
  skip <;> exact m_wp_of 5 [45] h
set_option maxHeartbeats 4000000 in
set_option maxRecDepth 20000 in
theorem T_M_bestRing_29 {Ls p kc ks : Nat}  {I L : Nat → Nat → Int} {x1 x2 x3 y0 : Int} {Q : List mV → mM → Prop}
    (h : ((¬ y0 = (0 : Int) →
    m_Wp i_M_bestRing 45 kc ks [(0, .inr (.inr 98)), (1, .inl x1), (2, .inl x2), (3, .inl x3), (4, .inl (-2)), (5, .inl (-2)), (6, .inl 0)] [] (mem Ls p I L) Q) ∧
   (¬ (¬ y0 = (0 : Int)) →
    Q [.inl (-1)] (mem Ls p I L)))) :
    m_Wp i_M_bestRing 29 kc ks [(0, .inr (.inr 98)), (1, .inl x1), (2, .inl x2), (3, .inl x3)] [.inl y0] (mem Ls p I L) Q := by
  skip <;> exact m_wp_of 8 [45] h
set_option maxHeartbeats 4000000 in
set_option maxRecDepth 20000 in
theorem T_M_bestRing_45 {Ls p kc ks : Nat}  {I L : Nat → Nat → Int} {x1 x2 x3 x4 x5 x6 : Int} {Q : List mV → mM → Prop}
    (h : ((x2 < x6 →
    m_Call i_M_plainTried [.inr (.inr 98)] (mem Ls p I L) (fun v M' =>
      m_Wp i_M_bestRing 118 kc ks [(0, .inr (.inr 98)), (1, .inl x1), (2, .inl x2), (3, .inl x3), (4, .inl x4), (5, .inl x5), (6, .inl x6)] (v ++ []) M' Q)) ∧
   (¬ (x2 < x6) →
    m_Call i_M_layTried [.inr (.inr 98)] (mem Ls p I L) (fun v M' =>
      m_Wp i_M_bestRing 55 kc ks [(0, .inr (.inr 98)), (1, .inl x1), (2, .inl x2), (3, .inl x3), (4, .inl x4), (5, .inl x5), (6, .inl x6)] (v ++ []) M' Q)))) :
    m_Wp i_M_bestRing 45 kc ks [(0, .inr (.inr 98)), (1, .inl x1), (2, .inl x2), (3, .inl x3), (4, .inl x4), (5, .inl x5), (6, .inl x6)] [] (mem Ls p I L) Q := by
  skip <;> exact m_wp_of 6 [45] h
set_option maxHeartbeats 4000000 in
set_option maxRecDepth 20000 in
theorem T_M_bestRing_118 {Ls p kc ks : Nat}  {I L : Nat → Nat → Int} {x1 x2 x3 x4 x5 x6 : Int} {Q : List mV → mM → Prop}
    (h : ((¬ x3 = (0 : Int) →
    Q [.inl x5] (mem Ls p I L)) ∧
   (¬ (¬ x3 = (0 : Int)) →
    Q [.inl x4] (mem Ls p I L)))) :
    m_Wp i_M_bestRing 118 kc ks [(0, .inr (.inr 98)), (1, .inl x1), (2, .inl x2), (3, .inl x3), (4, .inl x4), (5, .inl x5), (6, .inl x6)] [] (mem Ls p I L) Q := by
  skip <;> exact m_wp_of 6 [45] h
set_option maxHeartbeats 4000000 in
set_option maxRecDepth 20000 in
theorem T_M_bestRing_55 {Ls p kc ks : Nat}  {I L : Nat → Nat → Int} {x1 x2 x3 x4 x5 x6 : Int} {Q : List mV → mM → Prop}
    (h : m_Call i_M_goMany [.inr (.inr 98), .inl x6] (mem Ls p I L) (fun v M' =>
    m_Wp i_M_bestRing 61 kc ks [(0, .inr (.inr 98)), (1, .inl x1), (2, .inl x2), (3, .inl x3), (4, .inl x4), (5, .inl x5), (6, .inl x6)] (v ++ []) M' Q)) :
    m_Wp i_M_bestRing 55 kc ks [(0, .inr (.inr 98)), (1, .inl x1), (2, .inl x2), (3, .inl x3), (4, .inl x4), (5, .inl x5), (6, .inl x6)] [] (mem Ls p I L) Q := by
  skip <;> exact m_wp_of 3 [45] h
set_option maxHeartbeats 4000000 in
set_option maxRecDepth 20000 in
theorem T_M_bestRing_61 {Ls p kc ks : Nat}  {I L : Nat → Nat → Int} {x1 x2 x3 x4 x5 x6 : Int} {Q : List mV → mM → Prop}
    (h : m_Call i_M_joins [.inr (.inr 98), .inl 1, .inl x1] (mem Ls p I L) (fun v M' =>
    m_Wp i_M_bestRing 67 kc ks [(0, .inr (.inr 98)), (1, .inl x1), (2, .inl x2), (3, .inl x3), (4, .inl x4), (5, .inl x5), (6, .inl x6)] (v ++ []) M' Q)) :
    m_Wp i_M_bestRing 61 kc ks [(0, .inr (.inr 98)), (1, .inl x1), (2, .inl x2), (3, .inl x3), (4, .inl x4), (5, .inl x5), (6, .inl x6)] [] (mem Ls p I L) Q := by
  skip <;> exact m_wp_of 4 [45] h
set_option maxHeartbeats 4000000 in
set_option maxRecDepth 20000 in
theorem T_M_bestRing_67 {Ls p kc ks : Nat}  {I L : Nat → Nat → Int} {x1 x2 x3 x4 x5 x6 y0 : Int} {Q : List mV → mM → Prop}
    (h : ((¬ y0 = (0 : Int) →
    m_Call i_M_toldBy [.inr (.inr 98), .inl x1] (mem Ls p I L) (fun v M' =>
      m_Wp i_M_bestRing 78 kc ks [(0, .inr (.inr 98)), (1, .inl x1), (2, .inl x2), (3, .inl x3), (4, .inl x4), (5, .inl x5), (6, .inl x6)] (v ++ []) M' Q)) ∧
   (¬ (¬ y0 = (0 : Int)) →
    m_Wp i_M_bestRing 45 kc ks [(0, .inr (.inr 98)), (1, .inl x1), (2, .inl x2), (3, .inl x3), (4, .inl x4), (5, .inl x5), (6, .inl (wr (x6 + 1)))] [] (mem Ls p I L) Q))) :
    m_Wp i_M_bestRing 67 kc ks [(0, .inr (.inr 98)), (1, .inl x1), (2, .inl x2), (3, .inl x3), (4, .inl x4), (5, .inl x5), (6, .inl x6)] [.inl y0] (mem Ls p I L) Q := by
  skip <;> exact m_wp_of 6 [45] h
set_option maxHeartbeats 4000000 in
set_option maxRecDepth 20000 in
theorem T_M_bestRing_78 {Ls p kc ks : Nat}  {I L : Nat → Nat → Int} {x1 x2 x3 x4 x5 x6 y0 : Int} {Q : List mV → mM → Prop}
    (h : ((y0 < (0 : Int) →
    m_Wp i_M_bestRing 45 kc ks [(0, .inr (.inr 98)), (1, .inl x1), (2, .inl x2), (3, .inl x3), (4, .inl x4), (5, .inl x5), (6, .inl (wr (x6 + 1)))] [] (mem Ls p I L) Q) ∧
   (¬ (y0 < (0 : Int)) →
    ((x4 < (0 : Int) →
      m_Wp i_M_bestRing 45 kc ks [(0, .inr (.inr 98)), (1, .inl x1), (2, .inl x2), (3, .inl x3), (4, .inl x6), (5, .inl y0), (6, .inl (wr (x6 + 1)))] [] (mem Ls p I L) Q) ∧
     (¬ (x4 < (0 : Int)) →
      ((y0 < x5 →
        m_Wp i_M_bestRing 45 kc ks [(0, .inr (.inr 98)), (1, .inl x1), (2, .inl x2), (3, .inl x3), (4, .inl x6), (5, .inl y0), (6, .inl (wr (x6 + 1)))] [] (mem Ls p I L) Q) ∧
       (¬ (y0 < x5) →
        m_Wp i_M_bestRing 45 kc ks [(0, .inr (.inr 98)), (1, .inl x1), (2, .inl x2), (3, .inl x3), (4, .inl x4), (5, .inl x5), (6, .inl (wr (x6 + 1)))] [] (mem Ls p I L) Q))))))) :
    m_Wp i_M_bestRing 78 kc ks [(0, .inr (.inr 98)), (1, .inl x1), (2, .inl x2), (3, .inl x3), (4, .inl x4), (5, .inl x5), (6, .inl x6)] [.inl y0] (mem Ls p I L) Q := by
  skip <;> exact m_wp_of 17 [45] h
set_option maxHeartbeats 4000000 in
set_option maxRecDepth 20000 in
theorem E_M_manyOf {Ls p : Nat}  {I L : Nat → Nat → Int} {a0 : Int} {Q : List mV → mM → Prop}
    (h : m_Wp i_M_manyOf 4 0 0 [(0, .inl a0), (1, .inl 0), (2, .inl 0)] [] (mem Ls p I L) Q) :
    m_Call i_M_manyOf [.inl a0] (mem Ls p I L) Q := by
  have he : m_ent 0 ([.inl a0] : List mV) = [(0, .inl a0)] := rfl
  skip <;> exact m_call_at 5 [4] he h
set_option maxHeartbeats 4000000 in
set_option maxRecDepth 20000 in
theorem T_M_manyOf_4 {Ls p kc ks : Nat}  {I L : Nat → Nat → Int} {x0 x1 x2 : Int} {Q : List mV → mM → Prop}
    (h : (((6 : Int) ≤ x2 →
    Q [.inl x1] (mem Ls p I L)) ∧
   (¬ ((6 : Int) ≤ x2) →
    m_Wp i_M_manyOf 4 kc ks [(0, .inl x0), (1, .inl (wr (x1 + (m_and (m_shr x0 x2) 1)))), (2, .inl (wr (x2 + 1)))] [] (mem Ls p I L) Q))) :
    m_Wp i_M_manyOf 4 kc ks [(0, .inl x0), (1, .inl x1), (2, .inl x2)] [] (mem Ls p I L) Q := by
  skip <;> exact m_wp_of 15 [4] h
set_option maxHeartbeats 4000000 in
set_option maxRecDepth 20000 in
theorem E_M_isOf {Ls p : Nat}  {I L : Nat → Nat → Int} {a0 a1 : Int} {Q : List mV → mM → Prop}
    (h : ((¬ (m_and (m_shr a0 a1) 1) = (1 : Int) →
    ((0 : Int) = 0 ∨ (0 : Int) = 1) ∧
    Q [.inl 0] (mem Ls p I L)) ∧
   (¬ (¬ (m_and (m_shr a0 a1) 1) = (1 : Int)) →
    ((1 : Int) = 0 ∨ (1 : Int) = 1) ∧
    Q [.inl 1] (mem Ls p I L)))) :
    m_Call i_M_isOf [.inl a0, .inl a1] (mem Ls p I L) Q := by
  have he : m_ent 0 ([.inl a0, .inl a1] : List mV) = [(0, .inl a0), (1, .inl a1)] := rfl
  skip <;> exact m_call_at 11 [] he h
set_option maxHeartbeats 4000000 in
set_option maxRecDepth 20000 in
theorem E_M_spread {Ls p : Nat}  {I L : Nat → Nat → Int} {a0 a1 : Int} {Q : List mV → mM → Prop}
    (h : m_Wp i_M_spread 11 0 0 [(0, .inr (.inr 98)), (1, .inl a0), (2, .inl a1), (3, .inl 0), (4, .inl 0), (5, .inl 0), (6, .inl 0)] [] (mem Ls p I L) Q) :
    m_Call i_M_spread [.inr (.inr 98), .inl a0, .inl a1] (mem Ls p I L) Q := by
  have he : m_ent 0 ([.inr (.inr 98), .inl a0, .inl a1] : List mV) = [(0, .inr (.inr 98)), (1, .inl a0), (2, .inl a1)] := rfl
  skip <;> exact m_call_at 9 [11, 57, 64, 77, 84, 88] he h
set_option maxHeartbeats 4000000 in
set_option maxRecDepth 20000 in
theorem T_M_spread_11 {Ls p kc ks : Nat}  {I L : Nat → Nat → Int} {x1 x2 x3 x4 x5 x6 : Int} {Q : List mV → mM → Prop}
    (h : (((I 98 12) ≤ x6 →
    Q [.inl (wr (x5 - x4))] (mem Ls p I L)) ∧
   (¬ ((I 98 12) ≤ x6) →
    m_Call i_M_isOf [.inl x2, .inl x6] (mem Ls p I L) (fun v M' =>
      m_Wp i_M_spread 26 kc ks [(0, .inr (.inr 98)), (1, .inl x1), (2, .inl x2), (3, .inl x3), (4, .inl x4), (5, .inl x5), (6, .inl x6)] (v ++ []) M' Q)))) :
    m_Wp i_M_spread 11 kc ks [(0, .inr (.inr 98)), (1, .inl x1), (2, .inl x2), (3, .inl x3), (4, .inl x4), (5, .inl x5), (6, .inl x6)] [] (mem Ls p I L) Q := by
  skip <;> exact m_wp_of 9 [11, 57, 64, 77, 84, 88] h
set_option maxHeartbeats 4000000 in
set_option maxRecDepth 20000 in
theorem T_M_spread_26 {Ls p kc ks : Nat}  {I L : Nat → Nat → Int} {x1 x2 x3 x4 x5 x6 y0 : Int} {Q : List mV → mM → Prop}
    (h : ((y0 = (0 : Int) →
    (0 ≤ (wr ((wr (6 * x1)) + x6)) ∧ (wr ((wr (6 * x1)) + x6)) < 12) ∧
    ((x3 = (0 : Int) →
      m_Wp i_M_spread 57 kc ks [(0, .inr (.inr 98)), (1, .inl x1), (2, .inl x2), (3, .inl x3), (5, .inl x5), (6, .inl x6), (7, .inl (I 127 (Int.toNat (wr ((wr (6 * x1)) + x6)))))] [] (mem Ls p I L) Q) ∧
     (¬ (x3 = (0 : Int)) →
      ((x4 ≤ (I 127 (Int.toNat (wr ((wr (6 * x1)) + x6)))) →
        m_Wp i_M_spread 64 kc ks [(0, .inr (.inr 98)), (1, .inl x1), (2, .inl x2), (3, .inl x3), (5, .inl x5), (6, .inl x6), (7, .inl (I 127 (Int.toNat (wr ((wr (6 * x1)) + x6)))))] [.inl x4] (mem Ls p I L) Q) ∧
       (¬ (x4 ≤ (I 127 (Int.toNat (wr ((wr (6 * x1)) + x6))))) →
        m_Wp i_M_spread 57 kc ks [(0, .inr (.inr 98)), (1, .inl x1), (2, .inl x2), (3, .inl x3), (5, .inl x5), (6, .inl x6), (7, .inl (I 127 (Int.toNat (wr ((wr (6 * x1)) + x6)))))] [] (mem Ls p I L) Q))))) ∧
   (¬ (y0 = (0 : Int)) →
    m_Wp i_M_spread 88 kc ks [(0, .inr (.inr 98)), (1, .inl x1), (2, .inl x2), (3, .inl x3), (4, .inl x4), (5, .inl x5), (6, .inl x6)] [] (mem Ls p I L) Q))) :
    m_Wp i_M_spread 26 kc ks [(0, .inr (.inr 98)), (1, .inl x1), (2, .inl x2), (3, .inl x3), (4, .inl x4), (5, .inl x5), (6, .inl x6)] [.inl y0] (mem Ls p I L) Q := by
  skip <;> exact m_wp_of 17 [11, 57, 64, 77, 84, 88] h
set_option maxHeartbeats 4000000 in
set_option maxRecDepth 20000 in
theorem T_M_spread_57 {Ls p kc ks : Nat}  {I L : Nat → Nat → Int} {x1 x2 x3 x5 x6 x7 : Int} {Q : List mV → mM → Prop}
    (h : m_Wp i_M_spread 64 kc ks [(0, .inr (.inr 98)), (1, .inl x1), (2, .inl x2), (3, .inl x3), (5, .inl x5), (6, .inl x6), (7, .inl x7)] [.inl x7] (mem Ls p I L) Q) :
    m_Wp i_M_spread 57 kc ks [(0, .inr (.inr 98)), (1, .inl x1), (2, .inl x2), (3, .inl x3), (5, .inl x5), (6, .inl x6), (7, .inl x7)] [] (mem Ls p I L) Q := by
  skip <;> exact m_wp_of 4 [11, 57, 64, 77, 84, 88] h
set_option maxHeartbeats 4000000 in
set_option maxRecDepth 20000 in
theorem T_M_spread_64 {Ls p kc ks : Nat}  {I L : Nat → Nat → Int} {x1 x2 x3 x5 x6 x7 y0 : Int} {Q : List mV → mM → Prop}
    (h : ((x3 = (0 : Int) →
    m_Wp i_M_spread 77 kc ks [(0, .inr (.inr 98)), (1, .inl x1), (2, .inl x2), (4, .inl y0), (6, .inl x6), (7, .inl x7)] [] (mem Ls p I L) Q) ∧
   (¬ (x3 = (0 : Int)) →
    ((x7 ≤ x5 →
      m_Wp i_M_spread 84 kc ks [(0, .inr (.inr 98)), (1, .inl x1), (2, .inl x2), (4, .inl y0), (6, .inl x6)] [.inl x5] (mem Ls p I L) Q) ∧
     (¬ (x7 ≤ x5) →
      m_Wp i_M_spread 77 kc ks [(0, .inr (.inr 98)), (1, .inl x1), (2, .inl x2), (4, .inl y0), (6, .inl x6), (7, .inl x7)] [] (mem Ls p I L) Q))))) :
    m_Wp i_M_spread 64 kc ks [(0, .inr (.inr 98)), (1, .inl x1), (2, .inl x2), (3, .inl x3), (5, .inl x5), (6, .inl x6), (7, .inl x7)] [.inl y0] (mem Ls p I L) Q := by
  skip <;> exact m_wp_of 9 [11, 57, 64, 77, 84, 88] h
set_option maxHeartbeats 4000000 in
set_option maxRecDepth 20000 in
theorem T_M_spread_88 {Ls p kc ks : Nat}  {I L : Nat → Nat → Int} {x1 x2 x3 x4 x5 x6 : Int} {Q : List mV → mM → Prop}
    (h : m_Wp i_M_spread 11 kc ks [(0, .inr (.inr 98)), (1, .inl x1), (2, .inl x2), (3, .inl x3), (4, .inl x4), (5, .inl x5), (6, .inl (wr (x6 + 1)))] [] (mem Ls p I L) Q) :
    m_Wp i_M_spread 88 kc ks [(0, .inr (.inr 98)), (1, .inl x1), (2, .inl x2), (3, .inl x3), (4, .inl x4), (5, .inl x5), (6, .inl x6)] [] (mem Ls p I L) Q := by
  skip <;> exact m_wp_of 4 [11, 57, 64, 77, 84, 88] h
set_option maxHeartbeats 4000000 in
set_option maxRecDepth 20000 in
theorem T_M_spread_77 {Ls p kc ks : Nat}  {I L : Nat → Nat → Int} {x1 x2 x4 x6 x7 : Int} {Q : List mV → mM → Prop}
    (h : m_Wp i_M_spread 84 kc ks [(0, .inr (.inr 98)), (1, .inl x1), (2, .inl x2), (4, .inl x4), (6, .inl x6)] [.inl x7] (mem Ls p I L) Q) :
    m_Wp i_M_spread 77 kc ks [(0, .inr (.inr 98)), (1, .inl x1), (2, .inl x2), (4, .inl x4), (6, .inl x6), (7, .inl x7)] [] (mem Ls p I L) Q := by
  skip <;> exact m_wp_of 4 [11, 57, 64, 77, 84, 88] h
set_option maxHeartbeats 4000000 in
set_option maxRecDepth 20000 in
theorem T_M_spread_84 {Ls p kc ks : Nat}  {I L : Nat → Nat → Int} {x1 x2 x4 x6 y0 : Int} {Q : List mV → mM → Prop}
    (h : m_Wp i_M_spread 88 kc ks [(0, .inr (.inr 98)), (1, .inl x1), (2, .inl x2), (3, .inl 1), (4, .inl x4), (5, .inl y0), (6, .inl x6)] [] (mem Ls p I L) Q) :
    m_Wp i_M_spread 84 kc ks [(0, .inr (.inr 98)), (1, .inl x1), (2, .inl x2), (4, .inl x4), (6, .inl x6)] [.inl y0] (mem Ls p I L) Q := by
  skip <;> exact m_wp_of 5 [11, 57, 64, 77, 84, 88] h
set_option maxHeartbeats 4000000 in
set_option maxRecDepth 20000 in
theorem E_M_near {Ls p : Nat}  {I L : Nat → Nat → Int} {a0 : Int} {Q : List mV → mM → Prop}
    (h : m_Call i_M_isIn [.inl a0, .inl 0, .inl 60] (mem Ls p (mup I 98 2 0) L) (fun v M' =>
    m_Wp i_M_near 12 0 0 [(0, .inr (.inr 98)), (1, .inl a0)] (v ++ []) M' Q)) :
    m_Call i_M_near [.inr (.inr 98), .inl a0] (mem Ls p I L) Q := by
  have he : m_ent 0 ([.inr (.inr 98), .inl a0] : List mV) = [(0, .inr (.inr 98)), (1, .inl a0)] := rfl
  skip <;> exact m_call_at 7 [22, 57] he h
set_option maxHeartbeats 4000000 in
set_option maxRecDepth 20000 in
theorem T_M_near_12 {Ls p kc ks : Nat}  {I L : Nat → Nat → Int} {x1 y0 : Int} {Q : List mV → mM → Prop}
    (h : ((¬ y0 = (0 : Int) →
    m_Wp i_M_near 22 kc ks [(0, .inr (.inr 98)), (1, .inl x1), (2, .inl (-2)), (3, .inl 0)] [] (mem Ls p I L) Q) ∧
   (¬ (¬ y0 = (0 : Int)) →
    Q [.inl (-1)] (mem Ls p I L)))) :
    m_Wp i_M_near 12 kc ks [(0, .inr (.inr 98)), (1, .inl x1)] [.inl y0] (mem Ls p I L) Q := by
  skip <;> exact m_wp_of 6 [22, 57] h
set_option maxHeartbeats 4000000 in
set_option maxRecDepth 20000 in
theorem T_M_near_22 {Ls p kc ks : Nat}  {I L : Nat → Nat → Int} {x1 x2 x3 : Int} {Q : List mV → mM → Prop}
    (h : (((m_shl 1 (I 98 12)) ≤ x3 →
    Q [.inl x2] (mem Ls p I L)) ∧
   (¬ ((m_shl 1 (I 98 12)) ≤ x3) →
    ((x2 < (0 : Int) →
      m_Call i_M_layTried [.inr (.inr 98)] (mem Ls p I L) (fun v M' =>
        m_Wp i_M_near 54 kc ks [(0, .inr (.inr 98)), (1, .inl x1), (2, .inl x2), (3, .inl x3)] (v ++ []) M' Q)) ∧
     (¬ (x2 < (0 : Int)) →
      m_Call i_M_manyOf [.inl x3] (mem Ls p I L) (fun v M' =>
        m_Wp i_M_near 40 kc ks [(0, .inr (.inr 98)), (1, .inl x1), (2, .inl x2), (3, .inl x3)] (v ++ []) M' Q)))))) :
    m_Wp i_M_near 22 kc ks [(0, .inr (.inr 98)), (1, .inl x1), (2, .inl x2), (3, .inl x3)] [] (mem Ls p I L) Q := by
  skip <;> exact m_wp_of 12 [22, 57] h
set_option maxHeartbeats 4000000 in
set_option maxRecDepth 20000 in
theorem T_M_near_54 {Ls p kc ks : Nat}  {I L : Nat → Nat → Int} {x1 x2 x3 : Int} {Q : List mV → mM → Prop}
    (h : m_Wp i_M_near 57 kc ks [(0, .inr (.inr 98)), (1, .inl x1), (2, .inl x2), (3, .inl x3), (4, .inl 0)] [] (mem Ls p I L) Q) :
    m_Wp i_M_near 54 kc ks [(0, .inr (.inr 98)), (1, .inl x1), (2, .inl x2), (3, .inl x3)] [] (mem Ls p I L) Q := by
  skip <;> exact m_wp_of 3 [22, 57] h
set_option maxHeartbeats 4000000 in
set_option maxRecDepth 20000 in
theorem T_M_near_40 {Ls p kc ks : Nat}  {I L : Nat → Nat → Int} {x1 x2 x3 y0 : Int} {Q : List mV → mM → Prop}
    (h : m_Call i_M_manyOf [.inl x2] (mem Ls p I L) (fun v M' =>
    m_Wp i_M_near 44 kc ks [(0, .inr (.inr 98)), (1, .inl x1), (2, .inl x2), (3, .inl x3)] (v ++ [.inl y0]) M' Q)) :
    m_Wp i_M_near 40 kc ks [(0, .inr (.inr 98)), (1, .inl x1), (2, .inl x2), (3, .inl x3)] [.inl y0] (mem Ls p I L) Q := by
  skip <;> exact m_wp_of 2 [22, 57] h
set_option maxHeartbeats 4000000 in
set_option maxRecDepth 20000 in
theorem T_M_near_57 {Ls p kc ks : Nat}  {I L : Nat → Nat → Int} {x1 x2 x3 x4 : Int} {Q : List mV → mM → Prop}
    (h : (((I 98 12) ≤ x4 →
    m_Call i_M_goMany [.inr (.inr 98), .inl 60] (mem Ls p I L) (fun v M' =>
      m_Wp i_M_near 95 kc ks [(0, .inr (.inr 98)), (1, .inl x1), (2, .inl x2), (3, .inl x3), (4, .inl x4)] (v ++ []) M' Q)) ∧
   (¬ ((I 98 12) ≤ x4) →
    m_Call i_M_isOf [.inl x3, .inl x4] (mem Ls p I L) (fun v M' =>
      m_Wp i_M_near 72 kc ks [(0, .inr (.inr 98)), (1, .inl x1), (2, .inl x2), (3, .inl x3), (4, .inl x4)] (v ++ []) M' Q)))) :
    m_Wp i_M_near 57 kc ks [(0, .inr (.inr 98)), (1, .inl x1), (2, .inl x2), (3, .inl x3), (4, .inl x4)] [] (mem Ls p I L) Q := by
  skip <;> exact m_wp_of 8 [22, 57] h
set_option maxHeartbeats 4000000 in
set_option maxRecDepth 20000 in
theorem T_M_near_44 {Ls p kc ks : Nat}  {I L : Nat → Nat → Int} {x1 x2 x3 y0 y1 : Int} {Q : List mV → mM → Prop}
    (h : ((y0 < y1 →
    m_Call i_M_layTried [.inr (.inr 98)] (mem Ls p I L) (fun v M' =>
      m_Wp i_M_near 54 kc ks [(0, .inr (.inr 98)), (1, .inl x1), (2, .inl x2), (3, .inl x3)] (v ++ []) M' Q)) ∧
   (¬ (y0 < y1) →
    m_Wp i_M_near 22 kc ks [(0, .inr (.inr 98)), (1, .inl x1), (2, .inl x2), (3, .inl (wr (x3 + 1)))] [] (mem Ls p I L) Q))) :
    m_Wp i_M_near 44 kc ks [(0, .inr (.inr 98)), (1, .inl x1), (2, .inl x2), (3, .inl x3)] [.inl y1, .inl y0] (mem Ls p I L) Q := by
  skip <;> exact m_wp_of 6 [22, 57] h
set_option maxHeartbeats 4000000 in
set_option maxRecDepth 20000 in
theorem T_M_near_95 {Ls p kc ks : Nat}  {I L : Nat → Nat → Int} {x1 x2 x3 x4 : Int} {Q : List mV → mM → Prop}
    (h : m_Call i_M_spread [.inr (.inr 98), .inl 1, .inl 0] (mem Ls p I L) (fun v M' =>
    m_Wp i_M_near 101 kc ks [(0, .inr (.inr 98)), (1, .inl x1), (2, .inl x2), (3, .inl x3), (4, .inl x4)] (v ++ []) M' Q)) :
    m_Wp i_M_near 95 kc ks [(0, .inr (.inr 98)), (1, .inl x1), (2, .inl x2), (3, .inl x3), (4, .inl x4)] [] (mem Ls p I L) Q := by
  skip <;> exact m_wp_of 4 [22, 57] h
set_option maxHeartbeats 4000000 in
set_option maxRecDepth 20000 in
theorem T_M_near_72 {Ls p kc ks : Nat}  {I L : Nat → Nat → Int} {x1 x2 x3 x4 y0 : Int} {Q : List mV → mM → Prop}
    (h : ((y0 = (0 : Int) →
    m_Wp i_M_near 57 kc ks [(0, .inr (.inr 98)), (1, .inl x1), (2, .inl x2), (3, .inl x3), (4, .inl (wr (x4 + 1)))] [] (mem Ls p I L) Q) ∧
   (¬ (y0 = (0 : Int)) →
    m_Call i_M_joins [.inr (.inr 98), .inl 1, .inl x4] (mem Ls p I L) (fun v M' =>
      m_Wp i_M_near 82 kc ks [(0, .inr (.inr 98)), (1, .inl x1), (2, .inl x2), (3, .inl x3), (4, .inl x4)] (v ++ []) M' Q)))) :
    m_Wp i_M_near 72 kc ks [(0, .inr (.inr 98)), (1, .inl x1), (2, .inl x2), (3, .inl x3), (4, .inl x4)] [.inl y0] (mem Ls p I L) Q := by
  skip <;> exact m_wp_of 5 [22, 57] h
set_option maxHeartbeats 4000000 in
set_option maxRecDepth 20000 in
theorem T_M_near_101 {Ls p kc ks : Nat}  {I L : Nat → Nat → Int} {x1 x2 x3 x4 y0 : Int} {Q : List mV → mM → Prop}
    (h : ((x1 < y0 →
    m_Wp i_M_near 22 kc ks [(0, .inr (.inr 98)), (1, .inl x1), (2, .inl x2), (3, .inl (wr (x3 + 1)))] [] (mem Ls p I L) Q) ∧
   (¬ (x1 < y0) →
    m_Wp i_M_near 22 kc ks [(0, .inr (.inr 98)), (1, .inl x1), (2, .inl x3), (3, .inl (wr (x3 + 1)))] [] (mem Ls p I L) Q))) :
    m_Wp i_M_near 101 kc ks [(0, .inr (.inr 98)), (1, .inl x1), (2, .inl x2), (3, .inl x3), (4, .inl x4)] [.inl y0] (mem Ls p I L) Q := by
  skip <;> exact m_wp_of 8 [22, 57] h
set_option maxHeartbeats 4000000 in
set_option maxRecDepth 20000 in
theorem T_M_near_82 {Ls p kc ks : Nat}  {I L : Nat → Nat → Int} {x1 x2 x3 x4 y0 : Int} {Q : List mV → mM → Prop}
    (h : m_Wp i_M_near 57 kc ks [(0, .inr (.inr 98)), (1, .inl x1), (2, .inl x2), (3, .inl x3), (4, .inl (wr (x4 + 1)))] [] (mem Ls p I L) Q) :
    m_Wp i_M_near 82 kc ks [(0, .inr (.inr 98)), (1, .inl x1), (2, .inl x2), (3, .inl x3), (4, .inl x4)] [.inl y0] (mem Ls p I L) Q := by
  skip <;> exact m_wp_of 5 [22, 57] h
set_option maxHeartbeats 4000000 in
set_option maxRecDepth 20000 in
theorem E_M_liars {Ls p : Nat}  {I L : Nat → Nat → Int} {a0 : Int} {Q : List mV → mM → Prop}
    (h : m_Call i_M_isIn [.inl a0, .inl 0, .inl 60] (mem Ls p (mup I 98 2 0) L) (fun v M' =>
    m_Wp i_M_liars 12 0 0 [(0, .inr (.inr 98)), (1, .inl a0)] (v ++ []) M' Q)) :
    m_Call i_M_liars [.inr (.inr 98), .inl a0] (mem Ls p I L) Q := by
  have he : m_ent 0 ([.inr (.inr 98), .inl a0] : List mV) = [(0, .inr (.inr 98)), (1, .inl a0)] := rfl
  skip <;> exact m_call_at 7 [21] he h
set_option maxHeartbeats 4000000 in
set_option maxRecDepth 20000 in
theorem T_M_liars_12 {Ls p kc ks : Nat}  {I L : Nat → Nat → Int} {x1 y0 : Int} {Q : List mV → mM → Prop}
    (h : ((¬ y0 = (0 : Int) →
    m_Wp i_M_liars 21 kc ks [(0, .inr (.inr 98)), (1, .inl x1), (2, .inl (-1)), (3, .inl 0)] [] (mem Ls p I L) Q) ∧
   (¬ (¬ y0 = (0 : Int)) →
    Q [.inl (-1)] (mem Ls p I L)))) :
    m_Wp i_M_liars 12 kc ks [(0, .inr (.inr 98)), (1, .inl x1)] [.inl y0] (mem Ls p I L) Q := by
  skip <;> exact m_wp_of 6 [21] h
set_option maxHeartbeats 4000000 in
set_option maxRecDepth 20000 in
theorem T_M_liars_21 {Ls p kc ks : Nat}  {I L : Nat → Nat → Int} {x1 x2 x3 : Int} {Q : List mV → mM → Prop}
    (h : (((m_shl 1 (I 98 12)) ≤ x3 →
    Q [.inl x2] (mem Ls p I L)) ∧
   (¬ ((m_shl 1 (I 98 12)) ≤ x3) →
    ((x2 < (0 : Int) →
      m_Call i_M_spread [.inr (.inr 98), .inl 0, .inl x3] (mem Ls p I L) (fun v M' =>
        m_Wp i_M_liars 55 kc ks [(0, .inr (.inr 98)), (1, .inl x1), (2, .inl x2), (3, .inl x3)] (v ++ []) M' Q)) ∧
     (¬ (x2 < (0 : Int)) →
      m_Call i_M_manyOf [.inl x3] (mem Ls p I L) (fun v M' =>
        m_Wp i_M_liars 39 kc ks [(0, .inr (.inr 98)), (1, .inl x1), (2, .inl x2), (3, .inl x3)] (v ++ []) M' Q)))))) :
    m_Wp i_M_liars 21 kc ks [(0, .inr (.inr 98)), (1, .inl x1), (2, .inl x2), (3, .inl x3)] [] (mem Ls p I L) Q := by
  skip <;> exact m_wp_of 14 [21] h
set_option maxHeartbeats 4000000 in
set_option maxRecDepth 20000 in
theorem T_M_liars_55 {Ls p kc ks : Nat}  {I L : Nat → Nat → Int} {x1 x2 x3 y0 : Int} {Q : List mV → mM → Prop}
    (h : ((x1 < y0 →
    m_Wp i_M_liars 21 kc ks [(0, .inr (.inr 98)), (1, .inl x1), (2, .inl x2), (3, .inl (wr (x3 + 1)))] [] (mem Ls p I L) Q) ∧
   (¬ (x1 < y0) →
    m_Wp i_M_liars 21 kc ks [(0, .inr (.inr 98)), (1, .inl x1), (2, .inl x3), (3, .inl (wr (x3 + 1)))] [] (mem Ls p I L) Q))) :
    m_Wp i_M_liars 55 kc ks [(0, .inr (.inr 98)), (1, .inl x1), (2, .inl x2), (3, .inl x3)] [.inl y0] (mem Ls p I L) Q := by
  skip <;> exact m_wp_of 8 [21] h
set_option maxHeartbeats 4000000 in
set_option maxRecDepth 20000 in
theorem T_M_liars_39 {Ls p kc ks : Nat}  {I L : Nat → Nat → Int} {x1 x2 x3 y0 : Int} {Q : List mV → mM → Prop}
    (h : m_Call i_M_manyOf [.inl x2] (mem Ls p I L) (fun v M' =>
    m_Wp i_M_liars 43 kc ks [(0, .inr (.inr 98)), (1, .inl x1), (2, .inl x2), (3, .inl x3)] (v ++ [.inl y0]) M' Q)) :
    m_Wp i_M_liars 39 kc ks [(0, .inr (.inr 98)), (1, .inl x1), (2, .inl x2), (3, .inl x3)] [.inl y0] (mem Ls p I L) Q := by
  skip <;> exact m_wp_of 2 [21] h
set_option maxHeartbeats 4000000 in
set_option maxRecDepth 20000 in
theorem T_M_liars_43 {Ls p kc ks : Nat}  {I L : Nat → Nat → Int} {x1 x2 x3 y0 y1 : Int} {Q : List mV → mM → Prop}
    (h : ((y0 < y1 →
    m_Call i_M_spread [.inr (.inr 98), .inl 0, .inl x3] (mem Ls p I L) (fun v M' =>
      m_Wp i_M_liars 55 kc ks [(0, .inr (.inr 98)), (1, .inl x1), (2, .inl x2), (3, .inl x3)] (v ++ []) M' Q)) ∧
   (¬ (y0 < y1) →
    m_Wp i_M_liars 21 kc ks [(0, .inr (.inr 98)), (1, .inl x1), (2, .inl x2), (3, .inl (wr (x3 + 1)))] [] (mem Ls p I L) Q))) :
    m_Wp i_M_liars 43 kc ks [(0, .inr (.inr 98)), (1, .inl x1), (2, .inl x2), (3, .inl x3)] [.inl y1, .inl y0] (mem Ls p I L) Q := by
  skip <;> exact m_wp_of 6 [21] h
set_option maxHeartbeats 4000000 in
set_option maxRecDepth 20000 in
theorem E_M_median {Ls p : Nat}  {I L : Nat → Nat → Int} {Q : List mV → mM → Prop}
    (h : m_Wp i_M_median 7 0 0 [(0, .inr (.inr 98)), (1, .inl 0)] [] (mem Ls p (mup I 98 2 0) L) Q) :
    m_Call i_M_median [.inr (.inr 98)] (mem Ls p I L) Q := by
  have he : m_ent 0 ([.inr (.inr 98)] : List mV) = [(0, .inr (.inr 98))] := rfl
  skip <;> exact m_call_at 6 [7, 19] he h
set_option maxHeartbeats 4000000 in
set_option maxRecDepth 20000 in
theorem T_M_median_7 {Ls p kc ks : Nat}  {I L : Nat → Nat → Int} {x1 : Int} {Q : List mV → mM → Prop}
    (h : (((I 98 12) ≤ x1 →
    Q [.inl (-1)] (mem Ls p I L)) ∧
   (¬ ((I 98 12) ≤ x1) →
    m_Wp i_M_median 19 kc ks [(0, .inr (.inr 98)), (1, .inl x1), (2, .inl 0), (3, .inl 0)] [] (mem Ls p I L) Q))) :
    m_Wp i_M_median 7 kc ks [(0, .inr (.inr 98)), (1, .inl x1)] [] (mem Ls p I L) Q := by
  skip <;> exact m_wp_of 10 [7, 19] h
set_option maxHeartbeats 4000000 in
set_option maxRecDepth 20000 in
theorem T_M_median_19 {Ls p kc ks : Nat}  {I L : Nat → Nat → Int} {x1 x2 x3 : Int} {Q : List mV → mM → Prop}
    (h : (((I 98 12) ≤ x3 →
    (¬ (2 : Int) = (0 : Int)) ∧
    ((¬ x2 = (wr (Int.tdiv (I 98 12) 2)) →
      m_Wp i_M_median 7 kc ks [(0, .inr (.inr 98)), (1, .inl (wr (x1 + 1)))] [] (mem Ls p I L) Q) ∧
     (¬ (¬ x2 = (wr (Int.tdiv (I 98 12) 2))) →
      Q [.inl x1] (mem Ls p I L)))) ∧
   (¬ ((I 98 12) ≤ x3) →
    (0 ≤ x3 ∧ x3 < 12) ∧
    (0 ≤ x1 ∧ x1 < 12) ∧
    (((I 127 (Int.toNat x3)) < (I 127 (Int.toNat x1)) →
      m_Wp i_M_median 19 kc ks [(0, .inr (.inr 98)), (1, .inl x1), (2, .inl (wr (x2 + 1))), (3, .inl (wr (x3 + 1)))] [] (mem Ls p I L) Q) ∧
     (¬ ((I 127 (Int.toNat x3)) < (I 127 (Int.toNat x1))) →
      (0 ≤ x3 ∧ x3 < 12) ∧
      (0 ≤ x1 ∧ x1 < 12) ∧
      ((¬ (I 127 (Int.toNat x3)) = (I 127 (Int.toNat x1)) →
        m_Wp i_M_median 19 kc ks [(0, .inr (.inr 98)), (1, .inl x1), (2, .inl (wr (x2 + 0))), (3, .inl (wr (x3 + 1)))] [] (mem Ls p I L) Q) ∧
       (¬ (¬ (I 127 (Int.toNat x3)) = (I 127 (Int.toNat x1))) →
        ((x1 ≤ x3 →
          m_Wp i_M_median 19 kc ks [(0, .inr (.inr 98)), (1, .inl x1), (2, .inl (wr (x2 + 0))), (3, .inl (wr (x3 + 1)))] [] (mem Ls p I L) Q) ∧
         (¬ (x1 ≤ x3) →
          m_Wp i_M_median 19 kc ks [(0, .inr (.inr 98)), (1, .inl x1), (2, .inl (wr (x2 + 1))), (3, .inl (wr (x3 + 1)))] [] (mem Ls p I L) Q))))))))) :
    m_Wp i_M_median 19 kc ks [(0, .inr (.inr 98)), (1, .inl x1), (2, .inl x2), (3, .inl x3)] [] (mem Ls p I L) Q := by
  skip <;> exact m_wp_of 36 [7, 19] h
set_option maxHeartbeats 4000000 in
set_option maxRecDepth 20000 in
theorem E_M_agree {Ls p : Nat}  {I L : Nat → Nat → Int} {a0 : Int} {Q : List mV → mM → Prop}
    (h : m_Call i_M_isIn [.inl a0, .inl 0, .inl 60] (mem Ls p (mup I 98 2 0) L) (fun v M' =>
    m_Wp i_M_agree 12 0 0 [(0, .inr (.inr 98)), (1, .inl a0)] (v ++ []) M' Q)) :
    m_Call i_M_agree [.inr (.inr 98), .inl a0] (mem Ls p I L) Q := by
  have he : m_ent 0 ([.inr (.inr 98), .inl a0] : List mV) = [(0, .inr (.inr 98)), (1, .inl a0)] := rfl
  skip <;> exact m_call_at 7 [23] he h
set_option maxHeartbeats 4000000 in
set_option maxRecDepth 20000 in
theorem T_M_agree_12 {Ls p kc ks : Nat}  {I L : Nat → Nat → Int} {x1 y0 : Int} {Q : List mV → mM → Prop}
    (h : ((¬ y0 = (0 : Int) →
    m_Call i_M_layTried [.inr (.inr 98)] (mem Ls p I L) (fun v M' =>
      m_Wp i_M_agree 21 kc ks [(0, .inr (.inr 98)), (1, .inl x1)] (v ++ []) M' Q)) ∧
   (¬ (¬ y0 = (0 : Int)) →
    Q [.inl (-1)] (mem Ls p I L)))) :
    m_Wp i_M_agree 12 kc ks [(0, .inr (.inr 98)), (1, .inl x1)] [.inl y0] (mem Ls p I L) Q := by
  skip <;> exact m_wp_of 3 [23] h
set_option maxHeartbeats 4000000 in
set_option maxRecDepth 20000 in
theorem T_M_agree_21 {Ls p kc ks : Nat}  {I L : Nat → Nat → Int} {x1 : Int} {Q : List mV → mM → Prop}
    (h : m_Wp i_M_agree 23 kc ks [(0, .inr (.inr 98)), (1, .inl x1), (2, .inl 0)] [] (mem Ls p I L) Q) :
    m_Wp i_M_agree 21 kc ks [(0, .inr (.inr 98)), (1, .inl x1)] [] (mem Ls p I L) Q := by
  skip <;> exact m_wp_of 3 [23] h
set_option maxHeartbeats 4000000 in
set_option maxRecDepth 20000 in
theorem T_M_agree_23 {Ls p kc ks : Nat}  {I L : Nat → Nat → Int} {x1 x2 : Int} {Q : List mV → mM → Prop}
    (h : (((99 : Int) < x2 →
    Q [.inl (-2)] (mem Ls p I L)) ∧
   (¬ ((99 : Int) < x2) →
    m_Call i_M_spread [.inr (.inr 98), .inl 1, .inl 0] (mem Ls p I L) (fun v M' =>
      m_Wp i_M_agree 35 kc ks [(0, .inr (.inr 98)), (1, .inl x1), (2, .inl x2)] (v ++ []) M' Q)))) :
    m_Wp i_M_agree 23 kc ks [(0, .inr (.inr 98)), (1, .inl x1), (2, .inl x2)] [] (mem Ls p I L) Q := by
  skip <;> exact m_wp_of 8 [23] h
set_option maxHeartbeats 4000000 in
set_option maxRecDepth 20000 in
theorem T_M_agree_35 {Ls p kc ks : Nat}  {I L : Nat → Nat → Int} {x1 x2 y0 : Int} {Q : List mV → mM → Prop}
    (h : ((x1 < y0 →
    m_Call i_M_minuteGoes [.inr (.inr 98), .inl 1] (mem Ls p I L) (fun v M' =>
      m_Wp i_M_agree 46 kc ks [(0, .inr (.inr 98)), (1, .inl x1), (2, .inl x2)] (v ++ []) M' Q)) ∧
   (¬ (x1 < y0) →
    Q [.inl x2] (mem Ls p I L)))) :
    m_Wp i_M_agree 35 kc ks [(0, .inr (.inr 98)), (1, .inl x1), (2, .inl x2)] [.inl y0] (mem Ls p I L) Q := by
  skip <;> exact m_wp_of 5 [23] h
set_option maxHeartbeats 4000000 in
set_option maxRecDepth 20000 in
theorem T_M_agree_46 {Ls p kc ks : Nat}  {I L : Nat → Nat → Int} {x1 x2 : Int} {Q : List mV → mM → Prop}
    (h : m_Wp i_M_agree 23 kc ks [(0, .inr (.inr 98)), (1, .inl x1), (2, .inl (wr (x2 + 1)))] [] (mem Ls p I L) Q) :
    m_Wp i_M_agree 46 kc ks [(0, .inr (.inr 98)), (1, .inl x1), (2, .inl x2)] [] (mem Ls p I L) Q := by
  skip <;> exact m_wp_of 3 [23] h
set_option maxHeartbeats 4000000 in
set_option maxRecDepth 20000 in
theorem E_M_needs {Ls p : Nat}  {I L : Nat → Nat → Int} {a0 : Int} {Q : List mV → mM → Prop}
    (h : m_Call i_M_isOpen [.inr (.inr 98), .inl a0] (mem Ls p (mup I 98 2 0) L) (fun v M' =>
    m_Wp i_M_needs 10 0 0 [(0, .inr (.inr 98)), (1, .inl a0)] (v ++ []) M' Q)) :
    m_Call i_M_needs [.inr (.inr 98), .inl a0] (mem Ls p I L) Q := by
  have he : m_ent 0 ([.inr (.inr 98), .inl a0] : List mV) = [(0, .inr (.inr 98)), (1, .inl a0)] := rfl
  skip <;> exact m_call_at 6 [17] he h
set_option maxHeartbeats 4000000 in
set_option maxRecDepth 20000 in
theorem T_M_needs_10 {Ls p kc ks : Nat}  {I L : Nat → Nat → Int} {x1 y0 : Int} {Q : List mV → mM → Prop}
    (h : ((¬ y0 = (0 : Int) →
    m_Wp i_M_needs 17 kc ks [(0, .inr (.inr 98)), (1, .inl x1), (2, .inl 0)] [] (mem Ls p I L) Q) ∧
   (¬ (¬ y0 = (0 : Int)) →
    Q [.inl (-1)] (mem Ls p I L)))) :
    m_Wp i_M_needs 10 kc ks [(0, .inr (.inr 98)), (1, .inl x1)] [.inl y0] (mem Ls p I L) Q := by
  skip <;> exact m_wp_of 4 [17] h
set_option maxHeartbeats 4000000 in
set_option maxRecDepth 20000 in
theorem T_M_needs_17 {Ls p kc ks : Nat}  {I L : Nat → Nat → Int} {x1 x2 : Int} {Q : List mV → mM → Prop}
    (h : (((60 : Int) < x2 →
    Q [.inl (-2)] (mem Ls p I L)) ∧
   (¬ ((60 : Int) < x2) →
    m_Call i_M_layTried [.inr (.inr 98)] (mem Ls p I L) (fun v M' =>
      m_Wp i_M_needs 27 kc ks [(0, .inr (.inr 98)), (1, .inl x1), (2, .inl x2)] (v ++ []) M' Q)))) :
    m_Wp i_M_needs 17 kc ks [(0, .inr (.inr 98)), (1, .inl x1), (2, .inl x2)] [] (mem Ls p I L) Q := by
  skip <;> exact m_wp_of 6 [17] h
set_option maxHeartbeats 4000000 in
set_option maxRecDepth 20000 in
theorem T_M_needs_27 {Ls p kc ks : Nat}  {I L : Nat → Nat → Int} {x1 x2 : Int} {Q : List mV → mM → Prop}
    (h : (0 ≤ x1 ∧ x1 < 12) ∧
  (0 ≤ (wr (6 + x1)) ∧ (wr (6 + x1)) < 12) ∧
  m_Call i_M_goMany [.inr (.inr 98), .inl 200] (mem Ls p (mup I 133 (Int.toNat (wr (6 + x1))) (wr ((I 133 (Int.toNat x1)) + x2))) L) (fun v M' =>
    m_Wp i_M_needs 51 kc ks [(0, .inr (.inr 98)), (1, .inl x1), (2, .inl x2)] (v ++ []) M' Q)) :
    m_Wp i_M_needs 27 kc ks [(0, .inr (.inr 98)), (1, .inl x1), (2, .inl x2)] [] (mem Ls p I L) Q := by
  skip <;> exact m_wp_of 15 [17] h
set_option maxHeartbeats 4000000 in
set_option maxRecDepth 20000 in
theorem T_M_needs_51 {Ls p kc ks : Nat}  {I L : Nat → Nat → Int} {x1 x2 : Int} {Q : List mV → mM → Prop}
    (h : (0 ≤ (wr (6 + x1)) ∧ (wr (6 + x1)) < 12) ∧
  ((¬ (I 135 (Int.toNat (wr (6 + x1)))) = (1 : Int) →
    m_Wp i_M_needs 17 kc ks [(0, .inr (.inr 98)), (1, .inl x1), (2, .inl (wr (x2 + 1)))] [] (mem Ls p I L) Q) ∧
   (¬ (¬ (I 135 (Int.toNat (wr (6 + x1)))) = (1 : Int)) →
    Q [.inl x2] (mem Ls p I L)))) :
    m_Wp i_M_needs 51 kc ks [(0, .inr (.inr 98)), (1, .inl x1), (2, .inl x2)] [] (mem Ls p I L) Q := by
  skip <;> exact m_wp_of 11 [17] h
set_option maxHeartbeats 4000000 in
set_option maxRecDepth 20000 in
theorem E_M_certain {Ls p : Nat}  {I L : Nat → Nat → Int} {Q : List mV → mM → Prop}
    (h : m_Call i_M_layTried [.inr (.inr 98)] (mem Ls p (mup I 98 2 0) L) (fun v M' =>
    m_Wp i_M_certain 9 0 0 [(0, .inr (.inr 98))] (v ++ []) M' Q)) :
    m_Call i_M_certain [.inr (.inr 98)] (mem Ls p I L) Q := by
  have he : m_ent 0 ([.inr (.inr 98)] : List mV) = [(0, .inr (.inr 98))] := rfl
  skip <;> exact m_call_at 5 [20] he h
set_option maxHeartbeats 4000000 in
set_option maxRecDepth 20000 in
theorem T_M_certain_9 {Ls p kc ks : Nat}  {I L : Nat → Nat → Int} {Q : List mV → mM → Prop}
    (h : m_Call i_M_goMany [.inr (.inr 98), .inl 200] (mem Ls p I L) (fun v M' =>
    m_Wp i_M_certain 16 kc ks [(0, .inr (.inr 98))] (v ++ []) M' Q)) :
    m_Wp i_M_certain 9 kc ks [(0, .inr (.inr 98))] [] (mem Ls p I L) Q := by
  skip <;> exact m_wp_of 3 [20] h
set_option maxHeartbeats 4000000 in
set_option maxRecDepth 20000 in
theorem T_M_certain_16 {Ls p kc ks : Nat}  {I L : Nat → Nat → Int} {Q : List mV → mM → Prop}
    (h : m_Wp i_M_certain 20 kc ks [(0, .inr (.inr 98)), (1, .inl 0), (2, .inl 0)] [] (mem Ls p I L) Q) :
    m_Wp i_M_certain 16 kc ks [(0, .inr (.inr 98))] [] (mem Ls p I L) Q := by
  skip <;> exact m_wp_of 5 [20] h
set_option maxHeartbeats 4000000 in
set_option maxRecDepth 20000 in
theorem T_M_certain_20 {Ls p kc ks : Nat}  {I L : Nat → Nat → Int} {x1 x2 : Int} {Q : List mV → mM → Prop}
    (h : (((I 98 14) ≤ x2 →
    Q [.inl x1] (mem Ls p I L)) ∧
   (¬ ((I 98 14) ≤ x2) →
    (0 ≤ (wr (6 + x2)) ∧ (wr (6 + x2)) < 12) ∧
    ((¬ (I 135 (Int.toNat (wr (6 + x2)))) = (1 : Int) →
      m_Wp i_M_certain 20 kc ks [(0, .inr (.inr 98)), (1, .inl (m_or x1 0)), (2, .inl (wr (x2 + 1)))] [] (mem Ls p I L) Q) ∧
     (¬ (¬ (I 135 (Int.toNat (wr (6 + x2)))) = (1 : Int)) →
      m_Wp i_M_certain 20 kc ks [(0, .inr (.inr 98)), (1, .inl (m_or x1 (m_shl 1 x2))), (2, .inl (wr (x2 + 1)))] [] (mem Ls p I L) Q))))) :
    m_Wp i_M_certain 20 kc ks [(0, .inr (.inr 98)), (1, .inl x1), (2, .inl x2)] [] (mem Ls p I L) Q := by
  skip <;> exact m_wp_of 24 [20] h
set_option maxHeartbeats 4000000 in
set_option maxRecDepth 20000 in
theorem E_M_latest {Ls p : Nat}  {I L : Nat → Nat → Int} {Q : List mV → mM → Prop}
    (h : m_Wp i_M_latest 9 0 0 [(0, .inr (.inr 98)), (1, .inl (-1)), (2, .inl 0)] [] (mem Ls p (mup I 98 2 0) L) Q) :
    m_Call i_M_latest [.inr (.inr 98)] (mem Ls p I L) Q := by
  have he : m_ent 0 ([.inr (.inr 98)] : List mV) = [(0, .inr (.inr 98))] := rfl
  skip <;> exact m_call_at 8 [9] he h
set_option maxHeartbeats 4000000 in
set_option maxRecDepth 20000 in
theorem T_M_latest_9 {Ls p kc ks : Nat}  {I L : Nat → Nat → Int} {x1 x2 : Int} {Q : List mV → mM → Prop}
    (h : (((I 98 12) ≤ x2 →
    Q [.inl x1] (mem Ls p I L)) ∧
   (¬ ((I 98 12) ≤ x2) →
    ((x1 < (0 : Int) →
      m_Wp i_M_latest 9 kc ks [(0, .inr (.inr 98)), (1, .inl x2), (2, .inl (wr (x2 + 1)))] [] (mem Ls p I L) Q) ∧
     (¬ (x1 < (0 : Int)) →
      (0 ≤ x2 ∧ x2 < 12) ∧
      (0 ≤ x1 ∧ x1 < 12) ∧
      (((I 127 (Int.toNat x1)) ≤ (I 127 (Int.toNat x2)) →
        m_Wp i_M_latest 9 kc ks [(0, .inr (.inr 98)), (1, .inl x1), (2, .inl (wr (x2 + 1)))] [] (mem Ls p I L) Q) ∧
       (¬ ((I 127 (Int.toNat x1)) ≤ (I 127 (Int.toNat x2))) →
        m_Wp i_M_latest 9 kc ks [(0, .inr (.inr 98)), (1, .inl x2), (2, .inl (wr (x2 + 1)))] [] (mem Ls p I L) Q))))))) :
    m_Wp i_M_latest 9 kc ks [(0, .inr (.inr 98)), (1, .inl x1), (2, .inl x2)] [] (mem Ls p I L) Q := by
  skip <;> exact m_wp_of 24 [9] h
set_option maxHeartbeats 4000000 in
set_option maxRecDepth 20000 in
theorem E_M_areTwo {Ls p : Nat}  {I L : Nat → Nat → Int} {a0 a1 : Int} {Q : List mV → mM → Prop}
    (h : m_Call i_M_isMan [.inr (.inr 98), .inl a0] (mem Ls p I L) (fun v M' =>
    m_Wp i_M_areTwo 5 0 0 [(0, .inr (.inr 98)), (1, .inl a0), (2, .inl a1)] (v ++ []) M' Q)) :
    m_Call i_M_areTwo [.inr (.inr 98), .inl a0, .inl a1] (mem Ls p I L) Q := by
  have he : m_ent 0 ([.inr (.inr 98), .inl a0, .inl a1] : List mV) = [(0, .inr (.inr 98)), (1, .inl a0), (2, .inl a1)] := rfl
  skip <;> exact m_call_at 3 [] he h
set_option maxHeartbeats 4000000 in
set_option maxRecDepth 20000 in
theorem T_M_areTwo_5 {Ls p kc ks : Nat}  {I L : Nat → Nat → Int} {x1 x2 y0 : Int} {Q : List mV → mM → Prop}
    (h : ((y0 = (0 : Int) →
    ((0 : Int) = 0 ∨ (0 : Int) = 1) ∧
    Q [.inl 0] (mem Ls p I L)) ∧
   (¬ (y0 = (0 : Int)) →
    m_Call i_M_isMan [.inr (.inr 98), .inl x2] (mem Ls p I L) (fun v M' =>
      m_Wp i_M_areTwo 13 kc ks [(0, .inr (.inr 98)), (1, .inl x1), (2, .inl x2)] (v ++ []) M' Q)))) :
    m_Wp i_M_areTwo 5 kc ks [(0, .inr (.inr 98)), (1, .inl x1), (2, .inl x2)] [.inl y0] (mem Ls p I L) Q := by
  skip <;> exact m_wp_of 5 [] h
set_option maxHeartbeats 4000000 in
set_option maxRecDepth 20000 in
theorem T_M_areTwo_13 {Ls p kc ks : Nat}  {I L : Nat → Nat → Int} {x1 x2 y0 : Int} {Q : List mV → mM → Prop}
    (h : ((y0 = (0 : Int) →
    ((0 : Int) = 0 ∨ (0 : Int) = 1) ∧
    Q [.inl 0] (mem Ls p I L)) ∧
   (¬ (y0 = (0 : Int)) →
    ((x1 = x2 →
      ((0 : Int) = 0 ∨ (0 : Int) = 1) ∧
      Q [.inl 0] (mem Ls p I L)) ∧
     (¬ (x1 = x2) →
      ((1 : Int) = 0 ∨ (1 : Int) = 1) ∧
      Q [.inl 1] (mem Ls p I L)))))) :
    m_Wp i_M_areTwo 13 kc ks [(0, .inr (.inr 98)), (1, .inl x1), (2, .inl x2)] [.inl y0] (mem Ls p I L) Q := by
  skip <;> exact m_wp_of 8 [] h
set_option maxHeartbeats 4000000 in
set_option maxRecDepth 20000 in
theorem E_M_hasBy {Ls p : Nat}  {I L : Nat → Nat → Int} {a0 a1 : Int} {Q : List mV → mM → Prop}
    (h : ((a0 ≤ a1 →
    ((¬ a0 = a1 →
      (¬ (4 : Int) = (0 : Int)) ∧
      Q [.inl (wr (0 - (wr (Int.tdiv a0 4))))] (mem Ls p I L)) ∧
     (¬ (¬ a0 = a1) →
      (¬ (4 : Int) = (0 : Int)) ∧
      Q [.inl (wr (2 - (wr (Int.tdiv a0 4))))] (mem Ls p I L)))) ∧
   (¬ (a0 ≤ a1) →
    (¬ (4 : Int) = (0 : Int)) ∧
    Q [.inl (wr (6 - (wr (Int.tdiv a0 4))))] (mem Ls p I L)))) :
    m_Call i_M_hasBy [.inl a0, .inl a1] (mem Ls p I L) Q := by
  have he : m_ent 0 ([.inl a0, .inl a1] : List mV) = [(0, .inl a0), (1, .inl a1)] := rfl
  skip <;> exact m_call_at 14 [] he h
set_option maxHeartbeats 4000000 in
set_option maxRecDepth 20000 in
theorem E_M_restAt {Ls p : Nat}  {I L : Nat → Nat → Int} {a0 a1 a2 : Int} {Q : List mV → mM → Prop}
    (h : (0 ≤ a0 ∧ a0 < 12) ∧
  (0 ≤ a1 ∧ a1 < 12) ∧
  m_Wp i_M_restAt 22 0 0 [(3, .inl a2), (4, .inl (I 104 (Int.toNat a0))), (5, .inl (I 104 (Int.toNat a1))), (6, .inl 0), (7, .inl 0)] [] (mem Ls p I L) Q) :
    m_Call i_M_restAt [.inr (.inr 98), .inl a0, .inl a1, .inl a2] (mem Ls p I L) Q := by
  have he : m_ent 0 ([.inr (.inr 98), .inl a0, .inl a1, .inl a2] : List mV) = [(0, .inr (.inr 98)), (1, .inl a0), (2, .inl a1), (3, .inl a2)] := rfl
  skip <;> exact m_call_at 15 [22, 51] he h
set_option maxHeartbeats 4000000 in
set_option maxRecDepth 20000 in
theorem T_M_restAt_22 {Ls p kc ks : Nat}  {I L : Nat → Nat → Int} {x3 x4 x5 x6 x7 : Int} {Q : List mV → mM → Prop}
    (h : (((16 : Int) ≤ x7 →
    (((0 : Int) ≤ x3 →
      Q [.inl (-2)] (mem Ls p I L)) ∧
     (¬ ((0 : Int) ≤ x3) →
      Q [.inl x6] (mem Ls p I L)))) ∧
   (¬ ((16 : Int) ≤ x7) →
    (¬ (4 : Int) = (0 : Int)) ∧
    (¬ (4 : Int) = (0 : Int)) ∧
    m_Wp i_M_restAt 51 kc ks [(3, .inl x3), (4, .inl x4), (5, .inl x5), (6, .inl x6), (7, .inl x7), (8, .inl (wr (1 + (wr (Int.tdiv x7 4))))), (9, .inl (wr (1 + (Int.tmod x7 4)))), (10, .inl 1), (11, .inl 1)] [] (mem Ls p I L) Q))) :
    m_Wp i_M_restAt 22 kc ks [(3, .inl x3), (4, .inl x4), (5, .inl x5), (6, .inl x6), (7, .inl x7)] [] (mem Ls p I L) Q := by
  skip <;> exact m_wp_of 21 [22, 51] h
set_option maxHeartbeats 4000000 in
set_option maxRecDepth 20000 in
theorem T_M_restAt_51 {Ls p kc ks : Nat}  {I L : Nat → Nat → Int} {x3 x4 x5 x6 x7 x8 x9 x10 x11 : Int} {Q : List mV → mM → Prop}
    (h : (((5 : Int) ≤ x11 →
    ((¬ x10 = (0 : Int) →
      ((¬ x6 = x3 →
        m_Wp i_M_restAt 22 kc ks [(3, .inl x3), (4, .inl x4), (5, .inl x5), (6, .inl (wr (x6 + 1))), (7, .inl (wr (x7 + 1)))] [] (mem Ls p I L) Q) ∧
       (¬ (¬ x6 = x3) →
        Q [.inl (wr ((wr (10 * x8)) + x9))] (mem Ls p I L)))) ∧
     (¬ (¬ x10 = (0 : Int)) →
      m_Wp i_M_restAt 22 kc ks [(3, .inl x3), (4, .inl x4), (5, .inl x5), (6, .inl x6), (7, .inl (wr (x7 + 1)))] [] (mem Ls p I L) Q))) ∧
   (¬ ((5 : Int) ≤ x11) →
    ((x10 = (0 : Int) →
      m_Wp i_M_restAt 51 kc ks [(3, .inl x3), (4, .inl x4), (5, .inl x5), (6, .inl x6), (7, .inl x7), (8, .inl x8), (9, .inl x9), (10, .inl 0), (11, .inl (wr (x11 + 1)))] [] (mem Ls p I L) Q) ∧
     (¬ (x10 = (0 : Int)) →
      m_Call i_M_hasBy [.inl (wr (x11 * x4)), .inl (wr (x9 * x5))] (mem Ls p I L) (fun v M' =>
        m_Wp i_M_restAt 75 kc ks [(3, .inl x3), (4, .inl x4), (5, .inl x5), (6, .inl x6), (7, .inl x7), (8, .inl x8), (9, .inl x9), (10, .inl x10), (11, .inl x11)] (v ++ []) M' Q)))))) :
    m_Wp i_M_restAt 51 kc ks [(3, .inl x3), (4, .inl x4), (5, .inl x5), (6, .inl x6), (7, .inl x7), (8, .inl x8), (9, .inl x9), (10, .inl x10), (11, .inl x11)] [] (mem Ls p I L) Q := by
  skip <;> exact m_wp_of 15 [22, 51] h
set_option maxHeartbeats 4000000 in
set_option maxRecDepth 20000 in
theorem T_M_restAt_75 {Ls p kc ks : Nat}  {I L : Nat → Nat → Int} {x3 x4 x5 x6 x7 x8 x9 x10 x11 y0 : Int} {Q : List mV → mM → Prop}
    (h : m_Call i_M_hasBy [.inl (wr (x8 * x4)), .inl (wr (x9 * x5))] (mem Ls p I L) (fun v M' =>
    m_Wp i_M_restAt 88 kc ks [(3, .inl x3), (4, .inl x4), (5, .inl x5), (6, .inl x6), (7, .inl x7), (8, .inl x8), (9, .inl x9), (10, .inl x10), (11, .inl x11)] (v ++ [.inl y0]) M' Q)) :
    m_Wp i_M_restAt 75 kc ks [(3, .inl x3), (4, .inl x4), (5, .inl x5), (6, .inl x6), (7, .inl x7), (8, .inl x8), (9, .inl x9), (10, .inl x10), (11, .inl x11)] [.inl y0] (mem Ls p I L) Q := by
  skip <;> exact m_wp_of 7 [22, 51] h
set_option maxHeartbeats 4000000 in
set_option maxRecDepth 20000 in
theorem T_M_restAt_88 {Ls p kc ks : Nat}  {I L : Nat → Nat → Int} {x3 x4 x5 x6 x7 x8 x9 x10 x11 y0 y1 : Int} {Q : List mV → mM → Prop}
    (h : ((y1 < y0 →
    m_Wp i_M_restAt 51 kc ks [(3, .inl x3), (4, .inl x4), (5, .inl x5), (6, .inl x6), (7, .inl x7), (8, .inl x8), (9, .inl x9), (10, .inl 0), (11, .inl (wr (x11 + 1)))] [] (mem Ls p I L) Q) ∧
   (¬ (y1 < y0) →
    m_Call i_M_hasBy [.inl (wr (x11 * x5)), .inl (wr (x8 * x4))] (mem Ls p I L) (fun v M' =>
      m_Wp i_M_restAt 104 kc ks [(3, .inl x3), (4, .inl x4), (5, .inl x5), (6, .inl x6), (7, .inl x7), (8, .inl x8), (9, .inl x9), (10, .inl x10), (11, .inl x11)] (v ++ []) M' Q)))) :
    m_Wp i_M_restAt 88 kc ks [(3, .inl x3), (4, .inl x4), (5, .inl x5), (6, .inl x6), (7, .inl x7), (8, .inl x8), (9, .inl x9), (10, .inl x10), (11, .inl x11)] [.inl y1, .inl y0] (mem Ls p I L) Q := by
  skip <;> exact m_wp_of 8 [22, 51] h
set_option maxHeartbeats 4000000 in
set_option maxRecDepth 20000 in
theorem T_M_restAt_104 {Ls p kc ks : Nat}  {I L : Nat → Nat → Int} {x3 x4 x5 x6 x7 x8 x9 x10 x11 y0 : Int} {Q : List mV → mM → Prop}
    (h : m_Call i_M_hasBy [.inl (wr (x9 * x5)), .inl (wr (x8 * x4))] (mem Ls p I L) (fun v M' =>
    m_Wp i_M_restAt 117 kc ks [(3, .inl x3), (4, .inl x4), (5, .inl x5), (6, .inl x6), (7, .inl x7), (8, .inl x8), (9, .inl x9), (10, .inl x10), (11, .inl x11)] (v ++ [.inl y0]) M' Q)) :
    m_Wp i_M_restAt 104 kc ks [(3, .inl x3), (4, .inl x4), (5, .inl x5), (6, .inl x6), (7, .inl x7), (8, .inl x8), (9, .inl x9), (10, .inl x10), (11, .inl x11)] [.inl y0] (mem Ls p I L) Q := by
  skip <;> exact m_wp_of 7 [22, 51] h
set_option maxHeartbeats 4000000 in
set_option maxRecDepth 20000 in
theorem T_M_restAt_117 {Ls p kc ks : Nat}  {I L : Nat → Nat → Int} {x3 x4 x5 x6 x7 x8 x9 x10 x11 y0 y1 : Int} {Q : List mV → mM → Prop}
    (h : ((y1 < y0 →
    m_Wp i_M_restAt 51 kc ks [(3, .inl x3), (4, .inl x4), (5, .inl x5), (6, .inl x6), (7, .inl x7), (8, .inl x8), (9, .inl x9), (10, .inl 0), (11, .inl (wr (x11 + 1)))] [] (mem Ls p I L) Q) ∧
   (¬ (y1 < y0) →
    m_Wp i_M_restAt 51 kc ks [(3, .inl x3), (4, .inl x4), (5, .inl x5), (6, .inl x6), (7, .inl x7), (8, .inl x8), (9, .inl x9), (10, .inl 1), (11, .inl (wr (x11 + 1)))] [] (mem Ls p I L) Q))) :
    m_Wp i_M_restAt 117 kc ks [(3, .inl x3), (4, .inl x4), (5, .inl x5), (6, .inl x6), (7, .inl x7), (8, .inl x8), (9, .inl x9), (10, .inl x10), (11, .inl x11)] [.inl y1, .inl y0] (mem Ls p I L) Q := by
  skip <;> exact m_wp_of 8 [22, 51] h
set_option maxHeartbeats 4000000 in
set_option maxRecDepth 20000 in
theorem E_M_rests {Ls p : Nat}  {I L : Nat → Nat → Int} {a0 a1 : Int} {Q : List mV → mM → Prop}
    (h : m_Call i_M_areTwo [.inr (.inr 98), .inl a0, .inl a1] (mem Ls p (mup I 98 2 0) L) (fun v M' =>
    m_Wp i_M_rests 11 0 0 [(0, .inr (.inr 98)), (1, .inl a0), (2, .inl a1)] (v ++ []) M' Q)) :
    m_Call i_M_rests [.inr (.inr 98), .inl a0, .inl a1] (mem Ls p I L) Q := by
  have he : m_ent 0 ([.inr (.inr 98), .inl a0, .inl a1] : List mV) = [(0, .inr (.inr 98)), (1, .inl a0), (2, .inl a1)] := rfl
  skip <;> exact m_call_at 7 [] he h
set_option maxHeartbeats 4000000 in
set_option maxRecDepth 20000 in
theorem T_M_rests_11 {Ls p kc ks : Nat}  {I L : Nat → Nat → Int} {x1 x2 y0 : Int} {Q : List mV → mM → Prop}
    (h : ((y0 = (0 : Int) →
    Q [.inl (-1)] (mem Ls p I L)) ∧
   (¬ (y0 = (0 : Int)) →
    m_Call i_M_restAt [.inr (.inr 98), .inl x1, .inl x2, .inl (-1)] (mem Ls p I L) (fun v M' =>
      m_Wp i_M_rests 21 kc ks [(0, .inr (.inr 98)), (1, .inl x1), (2, .inl x2)] (v ++ []) M' Q)))) :
    m_Wp i_M_rests 11 kc ks [(0, .inr (.inr 98)), (1, .inl x1), (2, .inl x2)] [.inl y0] (mem Ls p I L) Q := by
  skip <;> exact m_wp_of 6 [] h
set_option maxHeartbeats 4000000 in
set_option maxRecDepth 20000 in
theorem T_M_rests_21 {Ls p kc ks : Nat}  {I L : Nat → Nat → Int} {x1 x2 y0 : Int} {Q : List mV → mM → Prop}
    (h : Q [.inl y0] (mem Ls p I L)) :
    m_Wp i_M_rests 21 kc ks [(0, .inr (.inr 98)), (1, .inl x1), (2, .inl x2)] [.inl y0] (mem Ls p I L) Q := by
  skip <;> exact m_wp_of 3 [] h
set_option maxHeartbeats 4000000 in
set_option maxRecDepth 20000 in
theorem E_M_rest {Ls p : Nat}  {I L : Nat → Nat → Int} {a0 a1 a2 : Int} {Q : List mV → mM → Prop}
    (h : m_Call i_M_areTwo [.inr (.inr 98), .inl a0, .inl a1] (mem Ls p (mup I 98 2 0) L) (fun v M' =>
    m_Wp i_M_rest 11 0 0 [(0, .inr (.inr 98)), (1, .inl a0), (2, .inl a1), (3, .inl a2)] (v ++ []) M' Q)) :
    m_Call i_M_rest [.inr (.inr 98), .inl a0, .inl a1, .inl a2] (mem Ls p I L) Q := by
  have he : m_ent 0 ([.inr (.inr 98), .inl a0, .inl a1, .inl a2] : List mV) = [(0, .inr (.inr 98)), (1, .inl a0), (2, .inl a1), (3, .inl a2)] := rfl
  skip <;> exact m_call_at 7 [] he h
set_option maxHeartbeats 4000000 in
set_option maxRecDepth 20000 in
theorem T_M_rest_11 {Ls p kc ks : Nat}  {I L : Nat → Nat → Int} {x1 x2 x3 y0 : Int} {Q : List mV → mM → Prop}
    (h : ((y0 = (0 : Int) →
    Q [.inl (-1)] (mem Ls p I L)) ∧
   (¬ (y0 = (0 : Int)) →
    ((x3 < (0 : Int) →
      Q [.inl (-1)] (mem Ls p I L)) ∧
     (¬ (x3 < (0 : Int)) →
      m_Call i_M_restAt [.inr (.inr 98), .inl x1, .inl x2, .inl x3] (mem Ls p I L) (fun v M' =>
        m_Wp i_M_rest 25 kc ks [(0, .inr (.inr 98)), (1, .inl x1), (2, .inl x2), (3, .inl x3)] (v ++ []) M' Q)))))) :
    m_Wp i_M_rest 11 kc ks [(0, .inr (.inr 98)), (1, .inl x1), (2, .inl x2), (3, .inl x3)] [.inl y0] (mem Ls p I L) Q := by
  skip <;> exact m_wp_of 8 [] h
set_option maxHeartbeats 4000000 in
set_option maxRecDepth 20000 in
theorem T_M_rest_25 {Ls p kc ks : Nat}  {I L : Nat → Nat → Int} {x1 x2 x3 y0 : Int} {Q : List mV → mM → Prop}
    (h : Q [.inl y0] (mem Ls p I L)) :
    m_Wp i_M_rest 25 kc ks [(0, .inr (.inr 98)), (1, .inl x1), (2, .inl x2), (3, .inl x3)] [.inl y0] (mem Ls p I L) Q := by
  skip <;> exact m_wp_of 3 [] h
set_option maxHeartbeats 4000000 in
set_option maxRecDepth 20000 in
theorem E_M_apart {Ls p : Nat}  {I L : Nat → Nat → Int} {a0 a1 : Int} {Q : List mV → mM → Prop}
    (h : m_Call i_M_isMan [.inr (.inr 98), .inl a0] (mem Ls p (mup I 98 2 0) L) (fun v M' =>
    m_Wp i_M_apart 10 0 0 [(0, .inr (.inr 98)), (1, .inl a0), (2, .inl a1)] (v ++ []) M' Q)) :
    m_Call i_M_apart [.inr (.inr 98), .inl a0, .inl a1] (mem Ls p I L) Q := by
  have he : m_ent 0 ([.inr (.inr 98), .inl a0, .inl a1] : List mV) = [(0, .inr (.inr 98)), (1, .inl a0), (2, .inl a1)] := rfl
  skip <;> exact m_call_at 6 [] he h
set_option maxHeartbeats 4000000 in
set_option maxRecDepth 20000 in
theorem T_M_apart_10 {Ls p kc ks : Nat}  {I L : Nat → Nat → Int} {x1 x2 y0 : Int} {Q : List mV → mM → Prop}
    (h : ((y0 = (0 : Int) →
    Q [.inl (-1)] (mem Ls p I L)) ∧
   (¬ (y0 = (0 : Int)) →
    m_Call i_M_isMan [.inr (.inr 98), .inl x2] (mem Ls p I L) (fun v M' =>
      m_Wp i_M_apart 18 kc ks [(0, .inr (.inr 98)), (1, .inl x1), (2, .inl x2)] (v ++ []) M' Q)))) :
    m_Wp i_M_apart 10 kc ks [(0, .inr (.inr 98)), (1, .inl x1), (2, .inl x2)] [.inl y0] (mem Ls p I L) Q := by
  skip <;> exact m_wp_of 4 [] h
set_option maxHeartbeats 4000000 in
set_option maxRecDepth 20000 in
theorem T_M_apart_18 {Ls p kc ks : Nat}  {I L : Nat → Nat → Int} {x1 x2 y0 : Int} {Q : List mV → mM → Prop}
    (h : ((¬ y0 = (0 : Int) →
    (0 ≤ x1 ∧ x1 < 12) ∧
    (0 ≤ x2 ∧ x2 < 12) ∧
    (((I 127 (Int.toNat x1)) ≤ (I 127 (Int.toNat x2)) →
      (0 ≤ x2 ∧ x2 < 12) ∧
      (0 ≤ x1 ∧ x1 < 12) ∧
      Q [.inl (wr ((I 127 (Int.toNat x2)) - (I 127 (Int.toNat x1))))] (mem Ls p I L)) ∧
     (¬ ((I 127 (Int.toNat x1)) ≤ (I 127 (Int.toNat x2))) →
      (0 ≤ x1 ∧ x1 < 12) ∧
      (0 ≤ x2 ∧ x2 < 12) ∧
      Q [.inl (wr ((I 127 (Int.toNat x1)) - (I 127 (Int.toNat x2))))] (mem Ls p I L)))) ∧
   (¬ (¬ y0 = (0 : Int)) →
    Q [.inl (-1)] (mem Ls p I L)))) :
    m_Wp i_M_apart 18 kc ks [(0, .inr (.inr 98)), (1, .inl x1), (2, .inl x2)] [.inl y0] (mem Ls p I L) Q := by
  skip <;> exact m_wp_of 22 [] h
set_option maxHeartbeats 4000000 in
set_option maxRecDepth 20000 in
theorem E_M_quiet {Ls p : Nat}  {I L : Nat → Nat → Int} {Q : List mV → mM → Prop}
    (h : m_Call i_M_layTried [.inr (.inr 98)] (mem Ls p (mup I 98 2 0) L) (fun v M' =>
    m_Wp i_M_quiet 9 0 0 [(0, .inr (.inr 98))] (v ++ []) M' Q)) :
    m_Call i_M_quiet [.inr (.inr 98)] (mem Ls p I L) Q := by
  have he : m_ent 0 ([.inr (.inr 98)] : List mV) = [(0, .inr (.inr 98))] := rfl
  skip <;> exact m_call_at 5 [11] he h
set_option maxHeartbeats 4000000 in
set_option maxRecDepth 20000 in
theorem T_M_quiet_9 {Ls p kc ks : Nat}  {I L : Nat → Nat → Int} {Q : List mV → mM → Prop}
    (h : m_Wp i_M_quiet 11 kc ks [(0, .inr (.inr 98)), (1, .inl 0)] [] (mem Ls p I L) Q) :
    m_Wp i_M_quiet 9 kc ks [(0, .inr (.inr 98))] [] (mem Ls p I L) Q := by
  skip <;> exact m_wp_of 3 [11] h
set_option maxHeartbeats 4000000 in
set_option maxRecDepth 20000 in
theorem T_M_quiet_11 {Ls p kc ks : Nat}  {I L : Nat → Nat → Int} {x1 : Int} {Q : List mV → mM → Prop}
    (h : (((200 : Int) < x1 →
    Q [.inl (-2)] (mem Ls p I L)) ∧
   (¬ ((200 : Int) < x1) →
    (0 ≤ (1 : Int) ∧ (1 : Int) < 2) ∧
    ((¬ (I 130 1) = (0 : Int) →
      m_Call i_M_minuteGoes [.inr (.inr 98), .inl 1] (mem Ls p I L) (fun v M' =>
        m_Wp i_M_quiet 44 kc ks [(0, .inr (.inr 98)), (1, .inl x1)] (v ++ []) M' Q)) ∧
     (¬ (¬ (I 130 1) = (0 : Int)) →
      (0 ≤ (1 : Int) ∧ (1 : Int) < 2) ∧
      ((¬ (I 131 1) = (-1) →
        m_Call i_M_minuteGoes [.inr (.inr 98), .inl 1] (mem Ls p I L) (fun v M' =>
          m_Wp i_M_quiet 44 kc ks [(0, .inr (.inr 98)), (1, .inl x1)] (v ++ []) M' Q)) ∧
       (¬ (¬ (I 131 1) = (-1)) →
        Q [.inl x1] (mem Ls p I L)))))))) :
    m_Wp i_M_quiet 11 kc ks [(0, .inr (.inr 98)), (1, .inl x1)] [] (mem Ls p I L) Q := by
  skip <;> exact m_wp_of 19 [11] h
set_option maxHeartbeats 4000000 in
set_option maxRecDepth 20000 in
theorem T_M_quiet_44 {Ls p kc ks : Nat}  {I L : Nat → Nat → Int} {x1 : Int} {Q : List mV → mM → Prop}
    (h : m_Wp i_M_quiet 11 kc ks [(0, .inr (.inr 98)), (1, .inl (wr (x1 + 1)))] [] (mem Ls p I L) Q) :
    m_Wp i_M_quiet 44 kc ks [(0, .inr (.inr 98)), (1, .inl x1)] [] (mem Ls p I L) Q := by
  skip <;> exact m_wp_of 3 [11] h
set_option maxHeartbeats 4000000 in
set_option maxRecDepth 20000 in
theorem E_M_firstMissed {Ls p : Nat}  {I L : Nat → Nat → Int} {a0 : Int} {Q : List mV → mM → Prop}
    (h : m_Call i_M_isIn [.inl a0, .inl 0, .inl 1] (mem Ls p (mup I 98 2 0) L) (fun v M' =>
    m_Wp i_M_firstMissed 11 0 0 [(0, .inr (.inr 98)), (1, .inl a0)] (v ++ []) M' Q)) :
    m_Call i_M_firstMissed [.inr (.inr 98), .inl a0] (mem Ls p I L) Q := by
  have he : m_ent 0 ([.inr (.inr 98), .inl a0] : List mV) = [(0, .inr (.inr 98)), (1, .inl a0)] := rfl
  skip <;> exact m_call_at 7 [22, 36] he h
set_option maxHeartbeats 4000000 in
set_option maxRecDepth 20000 in
theorem T_M_firstMissed_11 {Ls p kc ks : Nat}  {I L : Nat → Nat → Int} {x1 y0 : Int} {Q : List mV → mM → Prop}
    (h : ((¬ y0 = (0 : Int) →
    m_Call i_M_layTried [.inr (.inr 98)] (mem Ls p I L) (fun v M' =>
      m_Wp i_M_firstMissed 20 kc ks [(0, .inr (.inr 98)), (1, .inl x1)] (v ++ []) M' Q)) ∧
   (¬ (¬ y0 = (0 : Int)) →
    Q [.inl (-1)] (mem Ls p I L)))) :
    m_Wp i_M_firstMissed 11 kc ks [(0, .inr (.inr 98)), (1, .inl x1)] [.inl y0] (mem Ls p I L) Q := by
  skip <;> exact m_wp_of 3 [22, 36] h
set_option maxHeartbeats 4000000 in
set_option maxRecDepth 20000 in
theorem T_M_firstMissed_20 {Ls p kc ks : Nat}  {I L : Nat → Nat → Int} {x1 : Int} {Q : List mV → mM → Prop}
    (h : m_Wp i_M_firstMissed 22 kc ks [(0, .inr (.inr 98)), (1, .inl x1), (2, .inl 1)] [] (mem Ls p I L) Q) :
    m_Wp i_M_firstMissed 20 kc ks [(0, .inr (.inr 98)), (1, .inl x1)] [] (mem Ls p I L) Q := by
  skip <;> exact m_wp_of 3 [22, 36] h
set_option maxHeartbeats 4000000 in
set_option maxRecDepth 20000 in
theorem T_M_firstMissed_22 {Ls p kc ks : Nat}  {I L : Nat → Nat → Int} {x1 x2 : Int} {Q : List mV → mM → Prop}
    (h : (((200 : Int) < x2 →
    Q [.inl (-2)] (mem Ls p I L)) ∧
   (¬ ((200 : Int) < x2) →
    m_Call i_M_minuteGoes [.inr (.inr 98), .inl 1] (mem Ls p I L) (fun v M' =>
      m_Wp i_M_firstMissed 34 kc ks [(0, .inr (.inr 98)), (1, .inl x1), (2, .inl x2)] (v ++ []) M' Q)))) :
    m_Wp i_M_firstMissed 22 kc ks [(0, .inr (.inr 98)), (1, .inl x1), (2, .inl x2)] [] (mem Ls p I L) Q := by
  skip <;> exact m_wp_of 7 [22, 36] h
set_option maxHeartbeats 4000000 in
set_option maxRecDepth 20000 in
theorem T_M_firstMissed_34 {Ls p kc ks : Nat}  {I L : Nat → Nat → Int} {x1 x2 : Int} {Q : List mV → mM → Prop}
    (h : m_Wp i_M_firstMissed 36 kc ks [(0, .inr (.inr 98)), (1, .inl x1), (2, .inl x2), (3, .inl 0)] [] (mem Ls p I L) Q) :
    m_Wp i_M_firstMissed 34 kc ks [(0, .inr (.inr 98)), (1, .inl x1), (2, .inl x2)] [] (mem Ls p I L) Q := by
  skip <;> exact m_wp_of 3 [22, 36] h
set_option maxHeartbeats 4000000 in
set_option maxRecDepth 20000 in
theorem T_M_firstMissed_36 {Ls p kc ks : Nat}  {I L : Nat → Nat → Int} {x1 x2 x3 : Int} {Q : List mV → mM → Prop}
    (h : (((I 98 14) ≤ x3 →
    m_Wp i_M_firstMissed 22 kc ks [(0, .inr (.inr 98)), (1, .inl x1), (2, .inl (wr (x2 + 1)))] [] (mem Ls p I L) Q) ∧
   (¬ ((I 98 14) ≤ x3) →
    (0 ≤ (wr (6 + x3)) ∧ (wr (6 + x3)) < 12) ∧
    ((¬ (I 135 (Int.toNat (wr (6 + x3)))) = (2 : Int) →
      m_Wp i_M_firstMissed 36 kc ks [(0, .inr (.inr 98)), (1, .inl x1), (2, .inl x2), (3, .inl (wr (x3 + 1)))] [] (mem Ls p I L) Q) ∧
     (¬ (¬ (I 135 (Int.toNat (wr (6 + x3)))) = (2 : Int)) →
      (0 ≤ x3 ∧ x3 < 12) ∧
      (((I 135 (Int.toNat x3)) = (2 : Int) →
        m_Wp i_M_firstMissed 36 kc ks [(0, .inr (.inr 98)), (1, .inl x1), (2, .inl x2), (3, .inl (wr (x3 + 1)))] [] (mem Ls p I L) Q) ∧
       (¬ ((I 135 (Int.toNat x3)) = (2 : Int)) →
        ((¬ x1 = (0 : Int) →
          Q [.inl x3] (mem Ls p I L)) ∧
         (¬ (¬ x1 = (0 : Int)) →
          Q [.inl x2] (mem Ls p I L)))))))))) :
    m_Wp i_M_firstMissed 36 kc ks [(0, .inr (.inr 98)), (1, .inl x1), (2, .inl x2), (3, .inl x3)] [] (mem Ls p I L) Q := by
  skip <;> exact m_wp_of 25 [22, 36] h
set_option maxHeartbeats 4000000 in
set_option maxRecDepth 20000 in
theorem E_M_longest {Ls p : Nat}  {I L : Nat → Nat → Int} {a0 : Int} {Q : List mV → mM → Prop}
    (h : m_Call i_M_isIn [.inl a0, .inl 0, .inl 200] (mem Ls p (mup I 98 2 0) L) (fun v M' =>
    m_Wp i_M_longest 13 0 0 [(0, .inr (.inr 98)), (1, .inl a0)] (v ++ []) M' Q)) :
    m_Call i_M_longest [.inr (.inr 98), .inl a0] (mem Ls p I L) Q := by
  have he : m_ent 0 ([.inr (.inr 98), .inl a0] : List mV) = [(0, .inr (.inr 98)), (1, .inl a0)] := rfl
  skip <;> exact m_call_at 7 [31] he h
set_option maxHeartbeats 4000000 in
set_option maxRecDepth 20000 in
theorem T_M_longest_13 {Ls p kc ks : Nat}  {I L : Nat → Nat → Int} {x1 y0 : Int} {Q : List mV → mM → Prop}
    (h : ((¬ y0 = (0 : Int) →
    m_Call i_M_layTried [.inr (.inr 98)] (mem Ls p I L) (fun v M' =>
      m_Wp i_M_longest 22 kc ks [(0, .inr (.inr 98)), (1, .inl x1)] (v ++ []) M' Q)) ∧
   (¬ (¬ y0 = (0 : Int)) →
    Q [.inl (-1)] (mem Ls p I L)))) :
    m_Wp i_M_longest 13 kc ks [(0, .inr (.inr 98)), (1, .inl x1)] [.inl y0] (mem Ls p I L) Q := by
  skip <;> exact m_wp_of 3 [31] h
set_option maxHeartbeats 4000000 in
set_option maxRecDepth 20000 in
theorem T_M_longest_22 {Ls p kc ks : Nat}  {I L : Nat → Nat → Int} {x1 : Int} {Q : List mV → mM → Prop}
    (h : (0 ≤ (1 : Int) ∧ (1 : Int) < 2) ∧
  m_Wp i_M_longest 31 kc ks [(0, .inr (.inr 98)), (1, .inl x1), (2, .inl (I 130 1)), (3, .inl 0)] [] (mem Ls p I L) Q) :
    m_Wp i_M_longest 22 kc ks [(0, .inr (.inr 98)), (1, .inl x1)] [] (mem Ls p I L) Q := by
  skip <;> exact m_wp_of 8 [31] h
set_option maxHeartbeats 4000000 in
set_option maxRecDepth 20000 in
theorem T_M_longest_31 {Ls p kc ks : Nat}  {I L : Nat → Nat → Int} {x1 x2 x3 : Int} {Q : List mV → mM → Prop}
    (h : ((x1 ≤ x3 →
    Q [.inl x2] (mem Ls p I L)) ∧
   (¬ (x1 ≤ x3) →
    m_Call i_M_minuteGoes [.inr (.inr 98), .inl 1] (mem Ls p I L) (fun v M' =>
      m_Wp i_M_longest 41 kc ks [(0, .inr (.inr 98)), (1, .inl x1), (2, .inl x2), (3, .inl x3)] (v ++ []) M' Q)))) :
    m_Wp i_M_longest 31 kc ks [(0, .inr (.inr 98)), (1, .inl x1), (2, .inl x2), (3, .inl x3)] [] (mem Ls p I L) Q := by
  skip <;> exact m_wp_of 7 [31] h
set_option maxHeartbeats 4000000 in
set_option maxRecDepth 20000 in
theorem T_M_longest_41 {Ls p kc ks : Nat}  {I L : Nat → Nat → Int} {x1 x2 x3 : Int} {Q : List mV → mM → Prop}
    (h : (0 ≤ (1 : Int) ∧ (1 : Int) < 2) ∧
  (((I 130 1) ≤ x2 →
    m_Wp i_M_longest 31 kc ks [(0, .inr (.inr 98)), (1, .inl x1), (2, .inl x2), (3, .inl (wr (x3 + 1)))] [] (mem Ls p I L) Q) ∧
   (¬ ((I 130 1) ≤ x2) →
    (0 ≤ (1 : Int) ∧ (1 : Int) < 2) ∧
    m_Wp i_M_longest 31 kc ks [(0, .inr (.inr 98)), (1, .inl x1), (2, .inl (I 130 1)), (3, .inl (wr (x3 + 1)))] [] (mem Ls p I L) Q))) :
    m_Wp i_M_longest 41 kc ks [(0, .inr (.inr 98)), (1, .inl x1), (2, .inl x2), (3, .inl x3)] [] (mem Ls p I L) Q := by
  skip <;> exact m_wp_of 16 [31] h
set_option maxHeartbeats 4000000 in
set_option maxRecDepth 20000 in
theorem E_M_queue {Ls p : Nat}  {I L : Nat → Nat → Int} {a0 : Int} {Q : List mV → mM → Prop}
    (h : ((a0 < (0 : Int) →
    Q [.inl (-1)] (mem Ls p (mup I 98 2 0) L)) ∧
   (¬ (a0 < (0 : Int)) →
    (0 ≤ (0 : Int) ∧ (0 : Int) < 2) ∧
    ((a0 < (I 130 0) →
      (0 ≤ a0 ∧ a0 < 40) ∧
      ((¬ (I 129 (Int.toNat a0)) = (6 : Int) →
        (0 ≤ a0 ∧ a0 < 40) ∧
        Q [.inl (I 129 (Int.toNat a0))] (mem Ls p (mup I 98 2 0) L)) ∧
       (¬ (¬ (I 129 (Int.toNat a0)) = (6 : Int)) →
        Q [.inl (-2)] (mem Ls p (mup I 98 2 0) L)))) ∧
     (¬ (a0 < (I 130 0)) →
      Q [.inl (-1)] (mem Ls p (mup I 98 2 0) L)))))) :
    m_Call i_M_queue [.inr (.inr 98), .inl a0] (mem Ls p I L) Q := by
  have he : m_ent 0 ([.inr (.inr 98), .inl a0] : List mV) = [(0, .inr (.inr 98)), (1, .inl a0)] := rfl
  skip <;> exact m_call_at 23 [] he h
set_option maxHeartbeats 4000000 in
set_option maxRecDepth 20000 in
theorem E_M_there {Ls p : Nat}  {I L : Nat → Nat → Int} {a0 : Int} {Q : List mV → mM → Prop}
    (h : m_Call i_M_isMan [.inr (.inr 98), .inl a0] (mem Ls p (mup I 98 2 0) L) (fun v M' =>
    m_Wp i_M_there 10 0 0 [(0, .inr (.inr 98)), (1, .inl a0)] (v ++ []) M' Q)) :
    m_Call i_M_there [.inr (.inr 98), .inl a0] (mem Ls p I L) Q := by
  have he : m_ent 0 ([.inr (.inr 98), .inl a0] : List mV) = [(0, .inr (.inr 98)), (1, .inl a0)] := rfl
  skip <;> exact m_call_at 6 [19] he h
set_option maxHeartbeats 4000000 in
set_option maxRecDepth 20000 in
theorem T_M_there_10 {Ls p kc ks : Nat}  {I L : Nat → Nat → Int} {x1 y0 : Int} {Q : List mV → mM → Prop}
    (h : ((¬ y0 = (0 : Int) →
    m_Wp i_M_there 19 kc ks [(0, .inr (.inr 98)), (1, .inl x1), (2, .inl 0), (3, .inl 0)] [] (mem Ls p I L) Q) ∧
   (¬ (¬ y0 = (0 : Int)) →
    Q [.inl (-1)] (mem Ls p I L)))) :
    m_Wp i_M_there 10 kc ks [(0, .inr (.inr 98)), (1, .inl x1)] [.inl y0] (mem Ls p I L) Q := by
  skip <;> exact m_wp_of 6 [19] h
set_option maxHeartbeats 4000000 in
set_option maxRecDepth 20000 in
theorem T_M_there_19 {Ls p kc ks : Nat}  {I L : Nat → Nat → Int} {x1 x2 x3 : Int} {Q : List mV → mM → Prop}
    (h : (((I 98 14) ≤ x3 →
    Q [.inl x2] (mem Ls p I L)) ∧
   (¬ ((I 98 14) ≤ x3) →
    (0 ≤ x3 ∧ x3 < 12) ∧
    ((¬ (I 110 (Int.toNat x3)) = x1 →
      (0 ≤ x3 ∧ x3 < 12) ∧
      ((¬ (I 111 (Int.toNat x3)) = x1 →
        m_Wp i_M_there 19 kc ks [(0, .inr (.inr 98)), (1, .inl x1), (2, .inl (m_or x2 0)), (3, .inl (wr (x3 + 1)))] [] (mem Ls p I L) Q) ∧
       (¬ (¬ (I 111 (Int.toNat x3)) = x1) →
        (0 ≤ (wr ((wr (2 * x3)) + 1)) ∧ (wr ((wr (2 * x3)) + 1)) < 24) ∧
        (((I 134 (Int.toNat (wr ((wr (2 * x3)) + 1)))) < (0 : Int) →
          m_Wp i_M_there 19 kc ks [(0, .inr (.inr 98)), (1, .inl x1), (2, .inl (m_or x2 0)), (3, .inl (wr (x3 + 1)))] [] (mem Ls p I L) Q) ∧
         (¬ ((I 134 (Int.toNat (wr ((wr (2 * x3)) + 1)))) < (0 : Int)) →
          m_Wp i_M_there 19 kc ks [(0, .inr (.inr 98)), (1, .inl x1), (2, .inl (m_or x2 (m_shl 1 x3))), (3, .inl (wr (x3 + 1)))] [] (mem Ls p I L) Q))))) ∧
     (¬ (¬ (I 110 (Int.toNat x3)) = x1) →
      (0 ≤ (wr (2 * x3)) ∧ (wr (2 * x3)) < 24) ∧
      (((0 : Int) ≤ (I 134 (Int.toNat (wr (2 * x3)))) →
        m_Wp i_M_there 19 kc ks [(0, .inr (.inr 98)), (1, .inl x1), (2, .inl (m_or x2 (m_shl 1 x3))), (3, .inl (wr (x3 + 1)))] [] (mem Ls p I L) Q) ∧
       (¬ ((0 : Int) ≤ (I 134 (Int.toNat (wr (2 * x3))))) →
        (0 ≤ x3 ∧ x3 < 12) ∧
        ((¬ (I 111 (Int.toNat x3)) = x1 →
          m_Wp i_M_there 19 kc ks [(0, .inr (.inr 98)), (1, .inl x1), (2, .inl (m_or x2 0)), (3, .inl (wr (x3 + 1)))] [] (mem Ls p I L) Q) ∧
         (¬ (¬ (I 111 (Int.toNat x3)) = x1) →
          (0 ≤ (wr ((wr (2 * x3)) + 1)) ∧ (wr ((wr (2 * x3)) + 1)) < 24) ∧
          (((I 134 (Int.toNat (wr ((wr (2 * x3)) + 1)))) < (0 : Int) →
            m_Wp i_M_there 19 kc ks [(0, .inr (.inr 98)), (1, .inl x1), (2, .inl (m_or x2 0)), (3, .inl (wr (x3 + 1)))] [] (mem Ls p I L) Q) ∧
           (¬ ((I 134 (Int.toNat (wr ((wr (2 * x3)) + 1)))) < (0 : Int)) →
            m_Wp i_M_there 19 kc ks [(0, .inr (.inr 98)), (1, .inl x1), (2, .inl (m_or x2 (m_shl 1 x3))), (3, .inl (wr (x3 + 1)))] [] (mem Ls p I L) Q))))))))))) :
    m_Wp i_M_there 19 kc ks [(0, .inr (.inr 98)), (1, .inl x1), (2, .inl x2), (3, .inl x3)] [] (mem Ls p I L) Q := by
  skip <;> exact m_wp_of 46 [19] h
set_option maxHeartbeats 4000000 in
set_option maxRecDepth 20000 in
theorem E_M_noted {Ls p : Nat}  {I L : Nat → Nat → Int} {a0 a1 a2 a3 : Int} {Q : List mV → mM → Prop}
    (h : (0 ≤ (wr (4 * (I 98 75))) ∧ (wr (4 * (I 98 75))) < 96) ∧
  (0 ≤ (wr ((wr (4 * (I 98 75))) + 1)) ∧ (wr ((wr (4 * (I 98 75))) + 1)) < 96) ∧
  (0 ≤ (wr ((wr (4 * (I 98 75))) + 2)) ∧ (wr ((wr (4 * (I 98 75))) + 2)) < 96) ∧
  (0 ≤ (wr ((wr (4 * (I 98 75))) + 3)) ∧ (wr ((wr (4 * (I 98 75))) + 3)) < 96) ∧
  Q [.inl (wr ((wr ((I 98 75) + 1)) - 1))] (mem Ls p (mup (mup (mup (mup (mup I 138 (Int.toNat (wr (4 * (I 98 75)))) a0) 138 (Int.toNat (wr ((wr (4 * (I 98 75))) + 1))) a1) 138 (Int.toNat (wr ((wr (4 * (I 98 75))) + 2))) a2) 138 (Int.toNat (wr ((wr (4 * (I 98 75))) + 3))) a3) 98 75 (wr ((I 98 75) + 1))) L)) :
    m_Call i_M_noted [.inr (.inr 98), .inl a0, .inl a1, .inl a2, .inl a3] (mem Ls p I L) Q := by
  have he : m_ent 0 ([.inr (.inr 98), .inl a0, .inl a1, .inl a2, .inl a3] : List mV) = [(0, .inr (.inr 98)), (1, .inl a0), (2, .inl a1), (3, .inl a2), (4, .inl a3)] := rfl
  skip <;> exact m_call_at 49 [] he h
set_option maxHeartbeats 4000000 in
set_option maxRecDepth 20000 in
theorem E_M_see {Ls p : Nat}  {I L : Nat → Nat → Int} {a0 a1 a2 a3 : Int} {Q : List mV → mM → Prop}
    (h : (((I 98 75) = (24 : Int) →
    Q [.inl (-1)] (mem Ls p (mup I 98 2 0) L)) ∧
   (¬ ((I 98 75) = (24 : Int)) →
    m_Call i_M_isIn [.inl a0, .inl 1, .inl 99] (mem Ls p (mup I 98 2 0) L) (fun v M' =>
      m_Wp i_M_see 21 0 0 [(0, .inr (.inr 98)), (1, .inl a0), (2, .inl a1), (3, .inl a2), (4, .inl a3)] (v ++ []) M' Q)))) :
    m_Call i_M_see [.inr (.inr 98), .inl a0, .inl a1, .inl a2, .inl a3] (mem Ls p I L) Q := by
  have he : m_ent 0 ([.inr (.inr 98), .inl a0, .inl a1, .inl a2, .inl a3] : List mV) = [(0, .inr (.inr 98)), (1, .inl a0), (2, .inl a1), (3, .inl a2), (4, .inl a3)] := rfl
  skip <;> exact m_call_at 12 [] he h
set_option maxHeartbeats 4000000 in
set_option maxRecDepth 20000 in
theorem T_M_see_21 {Ls p kc ks : Nat}  {I L : Nat → Nat → Int} {x1 x2 x3 x4 y0 : Int} {Q : List mV → mM → Prop}
    (h : ((y0 = (0 : Int) →
    Q [.inl (-1)] (mem Ls p I L)) ∧
   (¬ (y0 = (0 : Int)) →
    m_Call i_M_isMan [.inr (.inr 98), .inl x2] (mem Ls p I L) (fun v M' =>
      m_Wp i_M_see 29 kc ks [(0, .inr (.inr 98)), (1, .inl x1), (2, .inl x2), (3, .inl x3), (4, .inl x4)] (v ++ []) M' Q)))) :
    m_Wp i_M_see 21 kc ks [(0, .inr (.inr 98)), (1, .inl x1), (2, .inl x2), (3, .inl x3), (4, .inl x4)] [.inl y0] (mem Ls p I L) Q := by
  skip <;> exact m_wp_of 6 [] h
set_option maxHeartbeats 4000000 in
set_option maxRecDepth 20000 in
theorem T_M_see_29 {Ls p kc ks : Nat}  {I L : Nat → Nat → Int} {x1 x2 x3 x4 y0 : Int} {Q : List mV → mM → Prop}
    (h : ((y0 = (0 : Int) →
    Q [.inl (-1)] (mem Ls p I L)) ∧
   (¬ (y0 = (0 : Int)) →
    m_Call i_M_isIn [.inl x3, .inl (-200), .inl 400] (mem Ls p I L) (fun v M' =>
      m_Wp i_M_see 42 kc ks [(0, .inr (.inr 98)), (1, .inl x1), (2, .inl x2), (3, .inl x3), (4, .inl x4)] (v ++ []) M' Q)))) :
    m_Wp i_M_see 29 kc ks [(0, .inr (.inr 98)), (1, .inl x1), (2, .inl x2), (3, .inl x3), (4, .inl x4)] [.inl y0] (mem Ls p I L) Q := by
  skip <;> exact m_wp_of 6 [] h
set_option maxHeartbeats 4000000 in
set_option maxRecDepth 20000 in
theorem T_M_see_42 {Ls p kc ks : Nat}  {I L : Nat → Nat → Int} {x1 x2 x3 x4 y0 : Int} {Q : List mV → mM → Prop}
    (h : ((¬ y0 = (0 : Int) →
    ((x4 = (0 : Int) →
      m_Call i_M_noted [.inr (.inr 98), .inl x1, .inl x2, .inl x3, .inl 0] (mem Ls p I L) (fun v M' =>
        m_Wp i_M_see 66 kc ks [] (v ++ []) M' Q)) ∧
     (¬ (x4 = (0 : Int)) →
      m_Call i_M_noted [.inr (.inr 98), .inl x1, .inl x2, .inl x3, .inl 1] (mem Ls p I L) (fun v M' =>
        m_Wp i_M_see 66 kc ks [] (v ++ []) M' Q)))) ∧
   (¬ (¬ y0 = (0 : Int)) →
    Q [.inl (-1)] (mem Ls p I L)))) :
    m_Wp i_M_see 42 kc ks [(0, .inr (.inr 98)), (1, .inl x1), (2, .inl x2), (3, .inl x3), (4, .inl x4)] [.inl y0] (mem Ls p I L) Q := by
  skip <;> exact m_wp_of 11 [] h
set_option maxHeartbeats 4000000 in
set_option maxRecDepth 20000 in
theorem T_M_see_66 {Ls p kc ks : Nat}  {I L : Nat → Nat → Int} {y0 : Int} {Q : List mV → mM → Prop}
    (h : Q [.inl y0] (mem Ls p I L)) :
    m_Wp i_M_see 66 kc ks [] [.inl y0] (mem Ls p I L) Q := by
  skip <;> exact m_wp_of 2 [] h
set_option maxHeartbeats 4000000 in
set_option maxRecDepth 20000 in
theorem E_M_strike {Ls p : Nat}  {I L : Nat → Nat → Int} {a0 : Int} {Q : List mV → mM → Prop}
    (h : (((I 98 75) = (24 : Int) →
    Q [.inl (-1)] (mem Ls p (mup I 98 2 0) L)) ∧
   (¬ ((I 98 75) = (24 : Int)) →
    ((a0 < (0 : Int) →
      Q [.inl (-1)] (mem Ls p (mup I 98 2 0) L)) ∧
     (¬ (a0 < (0 : Int)) →
      ((a0 < (I 98 75) →
        m_Call i_M_noted [.inr (.inr 98), .inl (-1), .inl a0, .inl 0, .inl 0] (mem Ls p (mup I 98 2 0) L) (fun v M' =>
          m_Wp i_M_strike 38 0 0 [(0, .inr (.inr 98)), (1, .inl a0)] (v ++ []) M' Q)) ∧
       (¬ (a0 < (I 98 75)) →
        Q [.inl (-1)] (mem Ls p (mup I 98 2 0) L)))))))) :
    m_Call i_M_strike [.inr (.inr 98), .inl a0] (mem Ls p I L) Q := by
  have he : m_ent 0 ([.inr (.inr 98), .inl a0] : List mV) = [(0, .inr (.inr 98)), (1, .inl a0)] := rfl
  skip <;> exact m_call_at 19 [] he h
set_option maxHeartbeats 4000000 in
set_option maxRecDepth 20000 in
theorem T_M_strike_38 {Ls p kc ks : Nat}  {I L : Nat → Nat → Int} {x1 y0 : Int} {Q : List mV → mM → Prop}
    (h : Q [.inl y0] (mem Ls p I L)) :
    m_Wp i_M_strike 38 kc ks [(0, .inr (.inr 98)), (1, .inl x1)] [.inl y0] (mem Ls p I L) Q := by
  skip <;> exact m_wp_of 2 [] h
set_option maxHeartbeats 4000000 in
set_option maxRecDepth 20000 in
theorem E_M_known {Ls p : Nat}  {I L : Nat → Nat → Int} {a0 : Int} {Q : List mV → mM → Prop}
    (h : m_Call i_M_isIn [.inl a0, .inl (-1), .inl (I 98 75)] (mem Ls p (mup I 98 2 0) L) (fun v M' =>
    m_Wp i_M_known 14 0 0 [(0, .inr (.inr 98)), (1, .inl a0)] (v ++ []) M' Q)) :
    m_Call i_M_known [.inr (.inr 98), .inl a0] (mem Ls p I L) Q := by
  have he : m_ent 0 ([.inr (.inr 98), .inl a0] : List mV) = [(0, .inr (.inr 98)), (1, .inl a0)] := rfl
  skip <;> exact m_call_at 8 [] he h
set_option maxHeartbeats 4000000 in
set_option maxRecDepth 20000 in
theorem T_M_known_14 {Ls p kc ks : Nat}  {I L : Nat → Nat → Int} {x1 y0 : Int} {Q : List mV → mM → Prop}
    (h : ((¬ y0 = (0 : Int) →
    ((1 : Int) = 0 ∨ (1 : Int) = 1) ∧
    Q [.inl 1] (mem Ls p (mup I 98 76 x1) L)) ∧
   (¬ (¬ y0 = (0 : Int)) →
    ((0 : Int) = 0 ∨ (0 : Int) = 1) ∧
    Q [.inl 0] (mem Ls p I L)))) :
    m_Wp i_M_known 14 kc ks [(0, .inr (.inr 98)), (1, .inl x1)] [.inl y0] (mem Ls p I L) Q := by
  skip <;> exact m_wp_of 6 [] h
set_option maxHeartbeats 4000000 in
set_option maxRecDepth 20000 in
theorem E_M_knownBy {Ls p : Nat}  {I L : Nat → Nat → Int} {Q : List mV → mM → Prop}
    (h : (((0 : Int) ≤ (I 98 76) →
    Q [.inl (I 98 76)] (mem Ls p I L)) ∧
   (¬ ((0 : Int) ≤ (I 98 76)) →
    Q [.inl (I 98 75)] (mem Ls p I L)))) :
    m_Call i_M_knownBy [.inr (.inr 98)] (mem Ls p I L) Q := by
  have he : m_ent 0 ([.inr (.inr 98)] : List mV) = [(0, .inr (.inr 98))] := rfl
  skip <;> exact m_call_at 8 [] he h
set_option maxHeartbeats 4000000 in
set_option maxRecDepth 20000 in
theorem E_M_isSo {Ls p : Nat}  {I L : Nat → Nat → Int} {a0 : Int} {Q : List mV → mM → Prop}
    (h : m_Wp i_M_isSo 2 0 0 [(0, .inr (.inr 98)), (1, .inl a0), (2, .inl 0)] [] (mem Ls p I L) Q) :
    m_Call i_M_isSo [.inr (.inr 98), .inl a0] (mem Ls p I L) Q := by
  have he : m_ent 0 ([.inr (.inr 98), .inl a0] : List mV) = [(0, .inr (.inr 98)), (1, .inl a0)] := rfl
  skip <;> exact m_call_at 3 [2] he h
set_option maxHeartbeats 4000000 in
set_option maxRecDepth 20000 in
theorem T_M_isSo_2 {Ls p kc ks : Nat}  {I L : Nat → Nat → Int} {x1 x2 : Int} {Q : List mV → mM → Prop}
    (h : m_Call i_M_knownBy [.inr (.inr 98)] (mem Ls p I L) (fun v M' =>
    m_Wp i_M_isSo 7 kc ks [(0, .inr (.inr 98)), (1, .inl x1), (2, .inl x2)] (v ++ [.inl x2]) M' Q)) :
    m_Wp i_M_isSo 2 kc ks [(0, .inr (.inr 98)), (1, .inl x1), (2, .inl x2)] [] (mem Ls p I L) Q := by
  skip <;> exact m_wp_of 4 [2] h
set_option maxHeartbeats 4000000 in
set_option maxRecDepth 20000 in
theorem T_M_isSo_7 {Ls p kc ks : Nat}  {I L : Nat → Nat → Int} {x1 x2 y0 y1 : Int} {Q : List mV → mM → Prop}
    (h : ((y1 ≤ y0 →
    ((1 : Int) = 0 ∨ (1 : Int) = 1) ∧
    Q [.inl 1] (mem Ls p I L)) ∧
   (¬ (y1 ≤ y0) →
    (0 ≤ x2 ∧ x2 < 24) ∧
    (((I 139 (Int.toNat x2)) = (0 : Int) →
      m_Wp i_M_isSo 2 kc ks [(0, .inr (.inr 98)), (1, .inl x1), (2, .inl (wr (x2 + 1)))] [] (mem Ls p I L) Q) ∧
     (¬ ((I 139 (Int.toNat x2)) = (0 : Int)) →
      (0 ≤ (wr (4 * x2)) ∧ (wr (4 * x2)) < 96) ∧
      (((I 138 (Int.toNat (wr (4 * x2)))) = x1 →
        (0 ≤ (wr ((wr (4 * x2)) + 1)) ∧ (wr ((wr (4 * x2)) + 1)) < 96) ∧
        (0 ≤ (wr (6 + (I 138 (Int.toNat (wr ((wr (4 * x2)) + 1)))))) ∧ (wr (6 + (I 138 (Int.toNat (wr ((wr (4 * x2)) + 1)))))) < 12) ∧
        (0 ≤ (wr ((wr (4 * x2)) + 2)) ∧ (wr ((wr (4 * x2)) + 2)) < 96) ∧
        (((wr (x1 + (I 127 (Int.toNat (wr (6 + (I 138 (Int.toNat (wr ((wr (4 * x2)) + 1)))))))))) < (I 138 (Int.toNat (wr ((wr (4 * x2)) + 2)))) →
          (0 ≤ (wr ((wr (4 * x2)) + 3)) ∧ (wr ((wr (4 * x2)) + 3)) < 96) ∧
          ((¬ (I 138 (Int.toNat (wr ((wr (4 * x2)) + 3)))) = (1 : Int) →
            (((0 : Int) = (0 : Int) →
              m_Wp i_M_isSo 2 kc ks [(0, .inr (.inr 98)), (1, .inl x1), (2, .inl (wr (x2 + 1)))] [] (mem Ls p I L) Q) ∧
             (¬ ((0 : Int) = (0 : Int)) →
              ((0 : Int) = 0 ∨ (0 : Int) = 1) ∧
              Q [.inl 0] (mem Ls p I L)))) ∧
           (¬ (¬ (I 138 (Int.toNat (wr ((wr (4 * x2)) + 3)))) = (1 : Int)) →
            (((0 : Int) = (1 : Int) →
              m_Wp i_M_isSo 2 kc ks [(0, .inr (.inr 98)), (1, .inl x1), (2, .inl (wr (x2 + 1)))] [] (mem Ls p I L) Q) ∧
             (¬ ((0 : Int) = (1 : Int)) →
              ((0 : Int) = 0 ∨ (0 : Int) = 1) ∧
              Q [.inl 0] (mem Ls p I L)))))) ∧
         (¬ ((wr (x1 + (I 127 (Int.toNat (wr (6 + (I 138 (Int.toNat (wr ((wr (4 * x2)) + 1)))))))))) < (I 138 (Int.toNat (wr ((wr (4 * x2)) + 2))))) →
          (0 ≤ (wr ((wr (4 * x2)) + 3)) ∧ (wr ((wr (4 * x2)) + 3)) < 96) ∧
          ((¬ (I 138 (Int.toNat (wr ((wr (4 * x2)) + 3)))) = (1 : Int) →
            (((1 : Int) = (0 : Int) →
              m_Wp i_M_isSo 2 kc ks [(0, .inr (.inr 98)), (1, .inl x1), (2, .inl (wr (x2 + 1)))] [] (mem Ls p I L) Q) ∧
             (¬ ((1 : Int) = (0 : Int)) →
              ((0 : Int) = 0 ∨ (0 : Int) = 1) ∧
              Q [.inl 0] (mem Ls p I L)))) ∧
           (¬ (¬ (I 138 (Int.toNat (wr ((wr (4 * x2)) + 3)))) = (1 : Int)) →
            (((1 : Int) = (1 : Int) →
              m_Wp i_M_isSo 2 kc ks [(0, .inr (.inr 98)), (1, .inl x1), (2, .inl (wr (x2 + 1)))] [] (mem Ls p I L) Q) ∧
             (¬ ((1 : Int) = (1 : Int)) →
              ((0 : Int) = 0 ∨ (0 : Int) = 1) ∧
              Q [.inl 0] (mem Ls p I L)))))))) ∧
       (¬ ((I 138 (Int.toNat (wr (4 * x2)))) = x1) →
        m_Wp i_M_isSo 2 kc ks [(0, .inr (.inr 98)), (1, .inl x1), (2, .inl (wr (x2 + 1)))] [] (mem Ls p I L) Q))))))) :
    m_Wp i_M_isSo 7 kc ks [(0, .inr (.inr 98)), (1, .inl x1), (2, .inl x2)] [.inl y1, .inl y0] (mem Ls p I L) Q := by
  skip <;> exact m_wp_of 61 [2] h
set_option maxHeartbeats 4000000 in
set_option maxRecDepth 20000 in
theorem E_M_fits {Ls p : Nat}  {I L : Nat → Nat → Int} {a0 a1 : Int} {Q : List mV → mM → Prop}
    (h : m_Call i_M_atFirst [.inr (.inr 98), .inl 1] (mem Ls p I L) (fun v M' =>
    m_Wp i_M_fits 5 0 0 [(0, .inr (.inr 98)), (1, .inl a0), (2, .inl a1)] (v ++ []) M' Q)) :
    m_Call i_M_fits [.inr (.inr 98), .inl a0, .inl a1] (mem Ls p I L) Q := by
  have he : m_ent 0 ([.inr (.inr 98), .inl a0, .inl a1] : List mV) = [(0, .inr (.inr 98)), (1, .inl a0), (2, .inl a1)] := rfl
  skip <;> exact m_call_at 3 [21] he h
set_option maxHeartbeats 4000000 in
set_option maxRecDepth 20000 in
theorem T_M_fits_5 {Ls p kc ks : Nat}  {I L : Nat → Nat → Int} {x1 x2 : Int} {Q : List mV → mM → Prop}
    (h : m_Call i_M_plainTried [.inr (.inr 98)] (mem Ls p I L) (fun v M' =>
    m_Wp i_M_fits 9 kc ks [(0, .inr (.inr 98)), (1, .inl x1), (2, .inl x2)] (v ++ []) M' Q)) :
    m_Wp i_M_fits 5 kc ks [(0, .inr (.inr 98)), (1, .inl x1), (2, .inl x2)] [] (mem Ls p I L) Q := by
  skip <;> exact m_wp_of 2 [21] h
set_option maxHeartbeats 4000000 in
set_option maxRecDepth 20000 in
theorem T_M_fits_9 {Ls p kc ks : Nat}  {I L : Nat → Nat → Int} {x1 x2 : Int} {Q : List mV → mM → Prop}
    (h : m_Wp i_M_fits 21 kc ks [(0, .inr (.inr 98)), (3, .inl 1)] [] (mem Ls p (mup (mup I 98 73 x1) 98 74 x2) L) Q) :
    m_Wp i_M_fits 9 kc ks [(0, .inr (.inr 98)), (1, .inl x1), (2, .inl x2)] [] (mem Ls p I L) Q := by
  skip <;> exact m_wp_of 9 [21] h
set_option maxHeartbeats 4000000 in
set_option maxRecDepth 20000 in
theorem T_M_fits_21 {Ls p kc ks : Nat}  {I L : Nat → Nat → Int} {x3 : Int} {Q : List mV → mM → Prop}
    (h : (((99 : Int) < x3 →
    ((1 : Int) = 0 ∨ (1 : Int) = 1) ∧
    Q [.inl 1] (mem Ls p I L)) ∧
   (¬ ((99 : Int) < x3) →
    m_Call i_M_minuteGoes [.inr (.inr 98), .inl 1] (mem Ls p I L) (fun v M' =>
      m_Wp i_M_fits 32 kc ks [(0, .inr (.inr 98)), (3, .inl x3)] (v ++ []) M' Q)))) :
    m_Wp i_M_fits 21 kc ks [(0, .inr (.inr 98)), (3, .inl x3)] [] (mem Ls p I L) Q := by
  skip <;> exact m_wp_of 7 [21] h
set_option maxHeartbeats 4000000 in
set_option maxRecDepth 20000 in
theorem T_M_fits_32 {Ls p kc ks : Nat}  {I L : Nat → Nat → Int} {x3 : Int} {Q : List mV → mM → Prop}
    (h : m_Call i_M_isSo [.inr (.inr 98), .inl x3] (mem Ls p I L) (fun v M' =>
    m_Wp i_M_fits 37 kc ks [(0, .inr (.inr 98)), (3, .inl x3)] (v ++ []) M' Q)) :
    m_Wp i_M_fits 32 kc ks [(0, .inr (.inr 98)), (3, .inl x3)] [] (mem Ls p I L) Q := by
  skip <;> exact m_wp_of 3 [21] h
set_option maxHeartbeats 4000000 in
set_option maxRecDepth 20000 in
theorem T_M_fits_37 {Ls p kc ks : Nat}  {I L : Nat → Nat → Int} {x3 y0 : Int} {Q : List mV → mM → Prop}
    (h : ((¬ y0 = (0 : Int) →
    m_Wp i_M_fits 21 kc ks [(0, .inr (.inr 98)), (3, .inl (wr (x3 + 1)))] [] (mem Ls p I L) Q) ∧
   (¬ (¬ y0 = (0 : Int)) →
    ((0 : Int) = 0 ∨ (0 : Int) = 1) ∧
    Q [.inl 0] (mem Ls p I L)))) :
    m_Wp i_M_fits 37 kc ks [(0, .inr (.inr 98)), (3, .inl x3)] [.inl y0] (mem Ls p I L) Q := by
  skip <;> exact m_wp_of 4 [21] h
set_option maxHeartbeats 4000000 in
set_option maxRecDepth 20000 in
theorem E_M_rates {Ls p : Nat}  {I L : Nat → Nat → Int} {a0 : Int} {Q : List mV → mM → Prop}
    (h : m_Call i_M_isMan [.inr (.inr 98), .inl a0] (mem Ls p (mup I 98 2 0) L) (fun v M' =>
    m_Wp i_M_rates 10 0 0 [(0, .inr (.inr 98)), (1, .inl a0)] (v ++ []) M' Q)) :
    m_Call i_M_rates [.inr (.inr 98), .inl a0] (mem Ls p I L) Q := by
  have he : m_ent 0 ([.inr (.inr 98), .inl a0] : List mV) = [(0, .inr (.inr 98)), (1, .inl a0)] := rfl
  skip <;> exact m_call_at 6 [17, 45, 95] he h
set_option maxHeartbeats 4000000 in
set_option maxRecDepth 20000 in
theorem T_M_rates_10 {Ls p kc ks : Nat}  {I L : Nat → Nat → Int} {x1 y0 : Int} {Q : List mV → mM → Prop}
    (h : ((¬ y0 = (0 : Int) →
    m_Wp i_M_rates 17 kc ks [(0, .inr (.inr 98)), (1, .inl x1), (2, .inl 0)] [] (mem Ls p I L) Q) ∧
   (¬ (¬ y0 = (0 : Int)) →
    Q [.inl (-1)] (mem Ls p I L)))) :
    m_Wp i_M_rates 10 kc ks [(0, .inr (.inr 98)), (1, .inl x1)] [.inl y0] (mem Ls p I L) Q := by
  skip <;> exact m_wp_of 4 [17, 45, 95] h
set_option maxHeartbeats 4000000 in
set_option maxRecDepth 20000 in
theorem T_M_rates_17 {Ls p kc ks : Nat}  {I L : Nat → Nat → Int} {x1 x2 : Int} {Q : List mV → mM → Prop}
    (h : m_Call i_M_knownBy [.inr (.inr 98)] (mem Ls p I L) (fun v M' =>
    m_Wp i_M_rates 22 kc ks [(0, .inr (.inr 98)), (1, .inl x1), (2, .inl x2)] (v ++ [.inl x2]) M' Q)) :
    m_Wp i_M_rates 17 kc ks [(0, .inr (.inr 98)), (1, .inl x1), (2, .inl x2)] [] (mem Ls p I L) Q := by
  skip <;> exact m_wp_of 4 [17, 45, 95] h
set_option maxHeartbeats 4000000 in
set_option maxRecDepth 20000 in
theorem T_M_rates_22 {Ls p kc ks : Nat}  {I L : Nat → Nat → Int} {x1 x2 y0 y1 : Int} {Q : List mV → mM → Prop}
    (h : ((y1 ≤ y0 →
    m_Call i_M_knownBy [.inr (.inr 98)] (mem Ls p I L) (fun v M' =>
      m_Wp i_M_rates 42 kc ks [(0, .inr (.inr 98)), (1, .inl x1), (2, .inl x2)] (v ++ []) M' Q)) ∧
   (¬ (y1 ≤ y0) →
    ((0 ≤ x2 ∧ x2 < 24) ∧ ((1 : Int) = 0 ∨ (1 : Int) = 1)) ∧
    m_Wp i_M_rates 17 kc ks [(0, .inr (.inr 98)), (1, .inl x1), (2, .inl (wr (x2 + 1)))] [] (mem Ls p (mup I 139 (Int.toNat x2) 1) L) Q))) :
    m_Wp i_M_rates 22 kc ks [(0, .inr (.inr 98)), (1, .inl x1), (2, .inl x2)] [.inl y1, .inl y0] (mem Ls p I L) Q := by
  skip <;> exact m_wp_of 9 [17, 45, 95] h
set_option maxHeartbeats 4000000 in
set_option maxRecDepth 20000 in
theorem T_M_rates_42 {Ls p kc ks : Nat}  {I L : Nat → Nat → Int} {x1 x2 y0 : Int} {Q : List mV → mM → Prop}
    (h : m_Wp i_M_rates 45 kc ks [(0, .inr (.inr 98)), (1, .inl x1), (2, .inl (wr (y0 - 1)))] [] (mem Ls p I L) Q) :
    m_Wp i_M_rates 42 kc ks [(0, .inr (.inr 98)), (1, .inl x1), (2, .inl x2)] [.inl y0] (mem Ls p I L) Q := by
  skip <;> exact m_wp_of 4 [17, 45, 95] h
set_option maxHeartbeats 4000000 in
set_option maxRecDepth 20000 in
theorem T_M_rates_45 {Ls p kc ks : Nat}  {I L : Nat → Nat → Int} {x1 x2 : Int} {Q : List mV → mM → Prop}
    (h : ((x2 < (0 : Int) →
    m_Wp i_M_rates 95 kc ks [(0, .inr (.inr 98)), (1, .inl x1), (2, .inl 0), (3, .inl 0)] [] (mem Ls p I L) Q) ∧
   (¬ (x2 < (0 : Int)) →
    (0 ≤ x2 ∧ x2 < 24) ∧
    (((I 139 (Int.toNat x2)) = (0 : Int) →
      m_Wp i_M_rates 45 kc ks [(0, .inr (.inr 98)), (1, .inl x1), (2, .inl (wr (x2 + (-1))))] [] (mem Ls p I L) Q) ∧
     (¬ ((I 139 (Int.toNat x2)) = (0 : Int)) →
      (0 ≤ (wr (4 * x2)) ∧ (wr (4 * x2)) < 96) ∧
      (((0 : Int) ≤ (I 138 (Int.toNat (wr (4 * x2)))) →
        m_Wp i_M_rates 45 kc ks [(0, .inr (.inr 98)), (1, .inl x1), (2, .inl (wr (x2 + (-1))))] [] (mem Ls p I L) Q) ∧
       (¬ ((0 : Int) ≤ (I 138 (Int.toNat (wr (4 * x2))))) →
        (0 ≤ (wr ((wr (4 * x2)) + 1)) ∧ (wr ((wr (4 * x2)) + 1)) < 96) ∧
        ((0 ≤ (I 138 (Int.toNat (wr ((wr (4 * x2)) + 1)))) ∧ (I 138 (Int.toNat (wr ((wr (4 * x2)) + 1)))) < 24) ∧ ((0 : Int) = 0 ∨ (0 : Int) = 1)) ∧
        m_Wp i_M_rates 45 kc ks [(0, .inr (.inr 98)), (1, .inl x1), (2, .inl (wr (x2 + (-1))))] [] (mem Ls p (mup I 139 (Int.toNat (I 138 (Int.toNat (wr ((wr (4 * x2)) + 1))))) 0) L) Q))))))) :
    m_Wp i_M_rates 45 kc ks [(0, .inr (.inr 98)), (1, .inl x1), (2, .inl x2)] [] (mem Ls p I L) Q := by
  skip <;> exact m_wp_of 31 [17, 45, 95] h
set_option maxHeartbeats 4000000 in
set_option maxRecDepth 20000 in
theorem T_M_rates_95 {Ls p kc ks : Nat}  {I L : Nat → Nat → Int} {x1 x2 x3 : Int} {Q : List mV → mM → Prop}
    (h : (((10 : Int) ≤ x3 →
    m_Call i_M_plainTried [.inr (.inr 98)] (mem Ls p I L) (fun v M' =>
      m_Wp i_M_rates 132 kc ks [(0, .inr (.inr 98)), (1, .inl x1), (2, .inl x2), (3, .inl x3)] (v ++ []) M' Q)) ∧
   (¬ ((10 : Int) ≤ x3) →
    m_Call i_M_fits [.inr (.inr 98), .inl x1, .inl (wr (x3 - 4))] (mem Ls p I L) (fun v M' =>
      m_Wp i_M_rates 110 kc ks [(0, .inr (.inr 98)), (1, .inl x1), (2, .inl x2), (3, .inl x3)] (v ++ [.inl x2]) M' Q)))) :
    m_Wp i_M_rates 95 kc ks [(0, .inr (.inr 98)), (1, .inl x1), (2, .inl x2), (3, .inl x3)] [] (mem Ls p I L) Q := by
  skip <;> exact m_wp_of 11 [17, 45, 95] h
set_option maxHeartbeats 4000000 in
set_option maxRecDepth 20000 in
theorem T_M_rates_132 {Ls p kc ks : Nat}  {I L : Nat → Nat → Int} {x1 x2 x3 : Int} {Q : List mV → mM → Prop}
    (h : Q [.inl x2] (mem Ls p I L)) :
    m_Wp i_M_rates 132 kc ks [(0, .inr (.inr 98)), (1, .inl x1), (2, .inl x2), (3, .inl x3)] [] (mem Ls p I L) Q := by
  skip <;> exact m_wp_of 2 [17, 45, 95] h
set_option maxHeartbeats 4000000 in
set_option maxRecDepth 20000 in
theorem T_M_rates_110 {Ls p kc ks : Nat}  {I L : Nat → Nat → Int} {x1 x2 x3 y0 y1 : Int} {Q : List mV → mM → Prop}
    (h : ((y1 = (0 : Int) →
    m_Wp i_M_rates 95 kc ks [(0, .inr (.inr 98)), (1, .inl x1), (2, .inl (m_or y0 0)), (3, .inl (wr (x3 + 1)))] [] (mem Ls p I L) Q) ∧
   (¬ (y1 = (0 : Int)) →
    m_Wp i_M_rates 95 kc ks [(0, .inr (.inr 98)), (1, .inl x1), (2, .inl (m_or y0 (m_shl 1 x3))), (3, .inl (wr (x3 + 1)))] [] (mem Ls p I L) Q))) :
    m_Wp i_M_rates 110 kc ks [(0, .inr (.inr 98)), (1, .inl x1), (2, .inl x2), (3, .inl x3)] [.inl y1, .inl y0] (mem Ls p I L) Q := by
  skip <;> exact m_wp_of 11 [17, 45, 95] h
set_option maxHeartbeats 4000000 in
set_option maxRecDepth 20000 in
theorem E_M_chance {Ls p : Nat}  {I L : Nat → Nat → Int} {a0 a1 a2 : Int} {Q : List mV → mM → Prop}
    (h : ((a0 < (0 : Int) →
    Q [.inl (-1)] (mem Ls p (mup I 98 2 0) L)) ∧
   (¬ (a0 < (0 : Int)) →
    m_Call i_M_isIn [.inl a1, .inl 1, .inl 200] (mem Ls p (mup I 98 2 0) L) (fun v M' =>
      m_Wp i_M_chance 17 0 0 [(0, .inr (.inr 98)), (1, .inl a0), (2, .inl a1), (3, .inl a2)] (v ++ []) M' Q)))) :
    m_Call i_M_chance [.inr (.inr 98), .inl a0, .inl a1, .inl a2] (mem Ls p I L) Q := by
  have he : m_ent 0 ([.inr (.inr 98), .inl a0, .inl a1, .inl a2] : List mV) = [(0, .inr (.inr 98)), (1, .inl a0), (2, .inl a1), (3, .inl a2)] := rfl
  skip <;> exact m_call_at 9 [48] he h
set_option maxHeartbeats 4000000 in
set_option maxRecDepth 20000 in
theorem T_M_chance_17 {Ls p kc ks : Nat}  {I L : Nat → Nat → Int} {x1 x2 x3 y0 : Int} {Q : List mV → mM → Prop}
    (h : ((y0 = (0 : Int) →
    Q [.inl (-1)] (mem Ls p I L)) ∧
   (¬ (y0 = (0 : Int)) →
    m_Call i_M_isMeeting [.inr (.inr 98), .inl x3] (mem Ls p I L) (fun v M' =>
      m_Wp i_M_chance 25 kc ks [(0, .inr (.inr 98)), (1, .inl x1), (2, .inl x2), (3, .inl x3)] (v ++ []) M' Q)))) :
    m_Wp i_M_chance 17 kc ks [(0, .inr (.inr 98)), (1, .inl x1), (2, .inl x2), (3, .inl x3)] [.inl y0] (mem Ls p I L) Q := by
  skip <;> exact m_wp_of 4 [48] h
set_option maxHeartbeats 4000000 in
set_option maxRecDepth 20000 in
theorem T_M_chance_25 {Ls p kc ks : Nat}  {I L : Nat → Nat → Int} {x1 x2 x3 y0 : Int} {Q : List mV → mM → Prop}
    (h : ((¬ y0 = (0 : Int) →
    m_Wp i_M_chance 48 kc ks [(0, .inr (.inr 98)), (2, .inl x2), (3, .inl x3), (4, .inr (.inl (L 98 66))), (6, .inl 0), (7, .inl 0)] [] (mem Ls p I (mup L 98 66 x1)) Q) ∧
   (¬ (¬ y0 = (0 : Int)) →
    Q [.inl (-1)] (mem Ls p I L)))) :
    m_Wp i_M_chance 25 kc ks [(0, .inr (.inr 98)), (1, .inl x1), (2, .inl x2), (3, .inl x3)] [.inl y0] (mem Ls p I L) Q := by
  skip <;> exact m_wp_of 13 [48] h
set_option maxHeartbeats 4000000 in
set_option maxRecDepth 20000 in
theorem T_M_chance_48 {Ls p kc ks : Nat}  {I L : Nat → Nat → Int} {x2 x3 x4 x6 x7 : Int} {Q : List mV → mM → Prop}
    (h : (((10 : Int) ≤ x7 →
    ((0 : Int) = (0 : Int) ∨ (0 : Int) = (1 : Int)) ∧
    Q [.inl x6] (mem Ls p (mup I 98 67 0) (mup L 98 66 x4))) ∧
   (¬ ((10 : Int) ≤ x7) →
    m_Call i_M_layTried [.inr (.inr 98)] (mem Ls p I L) (fun v M' =>
      m_Wp i_M_chance 59 kc ks [(0, .inr (.inr 98)), (2, .inl x2), (3, .inl x3), (4, .inr (.inl x4)), (6, .inl x6), (7, .inl x7)] (v ++ []) M' Q)))) :
    m_Wp i_M_chance 48 kc ks [(0, .inr (.inr 98)), (2, .inl x2), (3, .inl x3), (4, .inr (.inl x4)), (6, .inl x6), (7, .inl x7)] [] (mem Ls p I L) Q := by
  skip <;> exact m_wp_of 12 [48] h
