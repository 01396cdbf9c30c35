/-! ===== segments of the law (by program: wip/whole/gen_law.py) ===== -/
set_option maxHeartbeats 4000000 in
set_option maxRecDepth 20000 in
theorem LW_220 {Ls kc ks : Nat} {RR : Nat → Nat → Nat} {I L : Nat → Nat → Int} {x4 : Int} {Q : List mV → mM → Prop}
    (h : (0 ≤ (wr (x4 + 1)) ∧ (wr (x4 + 1)) < (Ls : Nat)) ∧
  (0 ≤ (wr (x4 + 2)) ∧ (wr (x4 + 2)) < (Ls : Nat)) ∧
  (0 ≤ (wr (x4 + 3)) ∧ (wr (x4 + 3)) < (Ls : Nat)) ∧
  (0 ≤ (wr (x4 + 4)) ∧ (wr (x4 + 4)) < (Ls : Nat)) ∧
  (0 ≤ (wr (x4 + 5)) ∧ (wr (x4 + 5)) < (Ls : Nat)) ∧
  m_Call i_C_feed [.inr (.inr 2), .inl (I 1 (Int.toNat (wr (x4 + 1)))), .inl (I 1 (Int.toNat (wr (x4 + 2)))), .inl (I 1 (Int.toNat (wr (x4 + 3)))), .inl (I 1 (Int.toNat (wr (x4 + 4)))), .inl (I 1 (Int.toNat (wr (x4 + 5))))] (144, sh0 Ls, RR, I, L) (fun v M' =>
    m_Wp i_L_law 254 kc ks [(0, .inr (.inr 1)), (1, .inr (.inr 2)), (2, .inr (.inr 98)), (3, .inr (.inr 143)), (4, .inl x4)] (v ++ []) M' Q)) :
    m_Wp i_L_law 220 kc ks [(0, .inr (.inr 1)), (1, .inr (.inr 2)), (2, .inr (.inr 98)), (3, .inr (.inr 143)), (4, .inl x4)] [] (144, sh0 Ls, RR, I, L) Q := m_wp_of 27 [1497] h
set_option maxHeartbeats 4000000 in
set_option maxRecDepth 20000 in
theorem LW_254 {Ls kc ks : Nat} {RR : Nat → Nat → Nat} {I L : Nat → Nat → Int} {x4 y0 : Int} {Q : List mV → mM → Prop}
    (h : (0 ≤ (wr (x4 + 1)) ∧ (wr (x4 + 1)) < (Ls : Nat)) ∧
  (0 ≤ (wr (x4 + 2)) ∧ (wr (x4 + 2)) < (Ls : Nat)) ∧
  (0 ≤ (wr (x4 + 3)) ∧ (wr (x4 + 3)) < (Ls : Nat)) ∧
  (0 ≤ (wr (x4 + 4)) ∧ (wr (x4 + 4)) < (Ls : Nat)) ∧
  (0 ≤ (wr (x4 + 5)) ∧ (wr (x4 + 5)) < (Ls : Nat)) ∧
  m_Call i_M_feed [.inr (.inr 98), .inl (I 1 (Int.toNat (wr (x4 + 1)))), .inl (I 1 (Int.toNat (wr (x4 + 2)))), .inl (I 1 (Int.toNat (wr (x4 + 3)))), .inl (I 1 (Int.toNat (wr (x4 + 4)))), .inl (I 1 (Int.toNat (wr (x4 + 5))))] (144, sh0 Ls, RR, I, L) (fun v M' =>
    m_Wp i_L_law 288 kc ks [(0, .inr (.inr 1)), (1, .inr (.inr 2)), (2, .inr (.inr 98)), (3, .inr (.inr 143)), (4, .inl x4)] (v ++ [.inl y0]) M' Q)) :
    m_Wp i_L_law 254 kc ks [(0, .inr (.inr 1)), (1, .inr (.inr 2)), (2, .inr (.inr 98)), (3, .inr (.inr 143)), (4, .inl x4)] [.inl y0] (144, sh0 Ls, RR, I, L) Q := m_wp_of 27 [1497] h
set_option maxHeartbeats 4000000 in
set_option maxRecDepth 20000 in
theorem LW_288 {Ls kc ks : Nat} {RR : Nat → Nat → Nat} {I L : Nat → Nat → Int} {x4 y0 y1 : Int} {Q : List mV → mM → Prop}
    (h : ((y0 = y1 →
    m_Wp i_L_law 1497 kc ks [(0, .inr (.inr 1)), (1, .inr (.inr 2)), (2, .inr (.inr 98)), (3, .inr (.inr 143)), (4, .inl x4)] [] (144, sh0 Ls, RR, I, L) Q) ∧
   (¬ (y0 = y1) →
    ((0 : Int) = 0 ∨ (0 : Int) = 1) ∧
    Q [.inl 0] (144, sh0 Ls, RR, I, L)))) :
    m_Wp i_L_law 288 kc ks [(0, .inr (.inr 1)), (1, .inr (.inr 2)), (2, .inr (.inr 98)), (3, .inr (.inr 143)), (4, .inl x4)] [.inl y1, .inl y0] (144, sh0 Ls, RR, I, L) Q := m_wp_of 3 [1497] h
set_option maxHeartbeats 4000000 in
set_option maxRecDepth 20000 in
theorem LW_293 {Ls kc ks : Nat} {RR : Nat → Nat → Nat} {I L : Nat → Nat → Int} {x4 : Int} {Q : List mV → mM → Prop}
    (h : (0 ≤ (wr (x4 + 1)) ∧ (wr (x4 + 1)) < (Ls : Nat)) ∧
  m_Call i_C_text [.inr (.inr 2), .inl (I 1 (Int.toNat (wr (x4 + 1))))] (144, sh0 Ls, RR, I, L) (fun v M' =>
    m_Wp i_L_law 303 kc ks [(0, .inr (.inr 1)), (1, .inr (.inr 2)), (2, .inr (.inr 98)), (3, .inr (.inr 143)), (4, .inl x4)] (v ++ []) M' Q)) :
    m_Wp i_L_law 293 kc ks [(0, .inr (.inr 1)), (1, .inr (.inr 2)), (2, .inr (.inr 98)), (3, .inr (.inr 143)), (4, .inl x4)] [] (144, sh0 Ls, RR, I, L) Q := m_wp_of 7 [1497] h
set_option maxHeartbeats 4000000 in
set_option maxRecDepth 20000 in
theorem LW_303 {Ls kc ks : Nat} {RR : Nat → Nat → Nat} {I L : Nat → Nat → Int} {x4 y0 : Int} {Q : List mV → mM → Prop}
    (h : (0 ≤ (wr (x4 + 1)) ∧ (wr (x4 + 1)) < (Ls : Nat)) ∧
  m_Call i_M_text [.inr (.inr 98), .inl (I 1 (Int.toNat (wr (x4 + 1))))] (144, sh0 Ls, RR, I, L) (fun v M' =>
    m_Wp i_L_law 313 kc ks [(0, .inr (.inr 1)), (1, .inr (.inr 2)), (2, .inr (.inr 98)), (3, .inr (.inr 143)), (4, .inl x4)] (v ++ [.inl y0]) M' Q)) :
    m_Wp i_L_law 303 kc ks [(0, .inr (.inr 1)), (1, .inr (.inr 2)), (2, .inr (.inr 98)), (3, .inr (.inr 143)), (4, .inl x4)] [.inl y0] (144, sh0 Ls, RR, I, L) Q := m_wp_of 7 [1497] h
set_option maxHeartbeats 4000000 in
set_option maxRecDepth 20000 in
theorem LW_313 {Ls kc ks : Nat} {RR : Nat → Nat → Nat} {I L : Nat → Nat → Int} {x4 y0 y1 : Int} {Q : List mV → mM → Prop}
    (h : ((y0 = y1 →
    m_Wp i_L_law 1497 kc ks [(0, .inr (.inr 1)), (1, .inr (.inr 2)), (2, .inr (.inr 98)), (3, .inr (.inr 143)), (4, .inl x4)] [] (144, sh0 Ls, RR, I, L) Q) ∧
   (¬ (y0 = y1) →
    ((0 : Int) = 0 ∨ (0 : Int) = 1) ∧
    Q [.inl 0] (144, sh0 Ls, RR, I, L)))) :
    m_Wp i_L_law 313 kc ks [(0, .inr (.inr 1)), (1, .inr (.inr 2)), (2, .inr (.inr 98)), (3, .inr (.inr 143)), (4, .inl x4)] [.inl y1, .inl y0] (144, sh0 Ls, RR, I, L) Q := m_wp_of 3 [1497] h
set_option maxHeartbeats 4000000 in
set_option maxRecDepth 20000 in
theorem LW_318 {Ls kc ks : Nat} {RR : Nat → Nat → Nat} {I L : Nat → Nat → Int} {x4 : Int} {Q : List mV → mM → Prop}
    (h : (0 ≤ (wr (x4 + 1)) ∧ (wr (x4 + 1)) < (Ls : Nat)) ∧
  m_Call i_C_fault [.inr (.inr 2), .inl (I 1 (Int.toNat (wr (x4 + 1))))] (144, sh0 Ls, RR, I, L) (fun v M' =>
    m_Wp i_L_law 328 kc ks [(0, .inr (.inr 1)), (1, .inr (.inr 2)), (2, .inr (.inr 98)), (3, .inr (.inr 143)), (4, .inl x4)] (v ++ []) M' Q)) :
    m_Wp i_L_law 318 kc ks [(0, .inr (.inr 1)), (1, .inr (.inr 2)), (2, .inr (.inr 98)), (3, .inr (.inr 143)), (4, .inl x4)] [] (144, sh0 Ls, RR, I, L) Q := m_wp_of 7 [1497] h
set_option maxHeartbeats 4000000 in
set_option maxRecDepth 20000 in
theorem LW_328 {Ls kc ks : Nat} {RR : Nat → Nat → Nat} {I L : Nat → Nat → Int} {x4 y0 : Int} {Q : List mV → mM → Prop}
    (h : (0 ≤ (wr (x4 + 1)) ∧ (wr (x4 + 1)) < (Ls : Nat)) ∧
  m_Call i_M_fault [.inr (.inr 98), .inl (I 1 (Int.toNat (wr (x4 + 1))))] (144, sh0 Ls, RR, I, L) (fun v M' =>
    m_Wp i_L_law 338 kc ks [(0, .inr (.inr 1)), (1, .inr (.inr 2)), (2, .inr (.inr 98)), (3, .inr (.inr 143)), (4, .inl x4)] (v ++ [.inl y0]) M' Q)) :
    m_Wp i_L_law 328 kc ks [(0, .inr (.inr 1)), (1, .inr (.inr 2)), (2, .inr (.inr 98)), (3, .inr (.inr 143)), (4, .inl x4)] [.inl y0] (144, sh0 Ls, RR, I, L) Q := m_wp_of 7 [1497] h
set_option maxHeartbeats 4000000 in
set_option maxRecDepth 20000 in
theorem LW_338 {Ls kc ks : Nat} {RR : Nat → Nat → Nat} {I L : Nat → Nat → Int} {x4 y0 y1 : Int} {Q : List mV → mM → Prop}
    (h : ((y0 = y1 →
    m_Wp i_L_law 1497 kc ks [(0, .inr (.inr 1)), (1, .inr (.inr 2)), (2, .inr (.inr 98)), (3, .inr (.inr 143)), (4, .inl x4)] [] (144, sh0 Ls, RR, I, L) Q) ∧
   (¬ (y0 = y1) →
    ((0 : Int) = 0 ∨ (0 : Int) = 1) ∧
    Q [.inl 0] (144, sh0 Ls, RR, I, L)))) :
    m_Wp i_L_law 338 kc ks [(0, .inr (.inr 1)), (1, .inr (.inr 2)), (2, .inr (.inr 98)), (3, .inr (.inr 143)), (4, .inl x4)] [.inl y1, .inl y0] (144, sh0 Ls, RR, I, L) Q := m_wp_of 3 [1497] h
set_option maxHeartbeats 4000000 in
set_option maxRecDepth 20000 in
theorem LW_343 {Ls kc ks : Nat} {RR : Nat → Nat → Nat} {I L : Nat → Nat → Int} {x4 : Int} {Q : List mV → mM → Prop}
    (h : (0 ≤ (wr (x4 + 1)) ∧ (wr (x4 + 1)) < (Ls : Nat)) ∧
  m_Call i_C_named [.inr (.inr 2), .inl (I 1 (Int.toNat (wr (x4 + 1))))] (144, sh0 Ls, RR, I, L) (fun v M' =>
    m_Wp i_L_law 353 kc ks [(0, .inr (.inr 1)), (1, .inr (.inr 2)), (2, .inr (.inr 98)), (3, .inr (.inr 143)), (4, .inl x4)] (v ++ []) M' Q)) :
    m_Wp i_L_law 343 kc ks [(0, .inr (.inr 1)), (1, .inr (.inr 2)), (2, .inr (.inr 98)), (3, .inr (.inr 143)), (4, .inl x4)] [] (144, sh0 Ls, RR, I, L) Q := m_wp_of 7 [1497] h
set_option maxHeartbeats 4000000 in
set_option maxRecDepth 20000 in
theorem LW_353 {Ls kc ks : Nat} {RR : Nat → Nat → Nat} {I L : Nat → Nat → Int} {x4 y0 : Int} {Q : List mV → mM → Prop}
    (h : (0 ≤ (wr (x4 + 1)) ∧ (wr (x4 + 1)) < (Ls : Nat)) ∧
  m_Call i_M_named [.inr (.inr 98), .inl (I 1 (Int.toNat (wr (x4 + 1))))] (144, sh0 Ls, RR, I, L) (fun v M' =>
    m_Wp i_L_law 363 kc ks [(0, .inr (.inr 1)), (1, .inr (.inr 2)), (2, .inr (.inr 98)), (3, .inr (.inr 143)), (4, .inl x4)] (v ++ [.inl y0]) M' Q)) :
    m_Wp i_L_law 353 kc ks [(0, .inr (.inr 1)), (1, .inr (.inr 2)), (2, .inr (.inr 98)), (3, .inr (.inr 143)), (4, .inl x4)] [.inl y0] (144, sh0 Ls, RR, I, L) Q := m_wp_of 7 [1497] h
set_option maxHeartbeats 4000000 in
set_option maxRecDepth 20000 in
theorem LW_363 {Ls kc ks : Nat} {RR : Nat → Nat → Nat} {I L : Nat → Nat → Int} {x4 y0 y1 : Int} {Q : List mV → mM → Prop}
    (h : ((y0 = y1 →
    m_Wp i_L_law 1497 kc ks [(0, .inr (.inr 1)), (1, .inr (.inr 2)), (2, .inr (.inr 98)), (3, .inr (.inr 143)), (4, .inl x4)] [] (144, sh0 Ls, RR, I, L) Q) ∧
   (¬ (y0 = y1) →
    ((0 : Int) = 0 ∨ (0 : Int) = 1) ∧
    Q [.inl 0] (144, sh0 Ls, RR, I, L)))) :
    m_Wp i_L_law 363 kc ks [(0, .inr (.inr 1)), (1, .inr (.inr 2)), (2, .inr (.inr 98)), (3, .inr (.inr 143)), (4, .inl x4)] [.inl y1, .inl y0] (144, sh0 Ls, RR, I, L) Q := m_wp_of 3 [1497] h
set_option maxHeartbeats 4000000 in
set_option maxRecDepth 20000 in
theorem LW_368 {Ls kc ks : Nat} {RR : Nat → Nat → Nat} {I L : Nat → Nat → Int} {x4 : Int} {Q : List mV → mM → Prop}
    (h : (0 ≤ (wr (x4 + 1)) ∧ (wr (x4 + 1)) < (Ls : Nat)) ∧
  (0 ≤ (wr (x4 + 2)) ∧ (wr (x4 + 2)) < (Ls : Nat)) ∧
  ((((kc + 1 : Nat) : Int) ≤ ((1168 : Nat) : Int)) ∧ (((ks + 6 : Nat) : Int) ≤ ((13168 : Nat) : Int))) ∧ m_CallA 98 [.inr (.inr 2), .inl (I 1 (Int.toNat (wr (x4 + 1)))), .inl (I 1 (Int.toNat (wr (x4 + 2)))), .inr (.inr 143)] (144, sh0 Ls, RR, I, L) (fun v M' =>
    m_Wp i_L_law 385 (kc + 1) (ks + 6) [(0, .inr (.inr 1)), (1, .inr (.inr 2)), (2, .inr (.inr 98)), (3, .inr (.inr 143)), (4, .inl x4)] (v ++ []) M' Q)) :
    m_Wp i_L_law 368 kc ks [(0, .inr (.inr 1)), (1, .inr (.inr 2)), (2, .inr (.inr 98)), (3, .inr (.inr 143)), (4, .inl x4)] [] (144, sh0 Ls, RR, I, L) Q := m_wp_of 13 [1497] h
set_option maxHeartbeats 4000000 in
set_option maxRecDepth 20000 in
theorem LW_385 {Ls kc ks : Nat} {RR : Nat → Nat → Nat} {I L : Nat → Nat → Int} {x4 y0 : Int} {Q : List mV → mM → Prop}
    (h : (0 ≤ (wr (x4 + 1)) ∧ (wr (x4 + 1)) < (Ls : Nat)) ∧
  (0 ≤ (wr (x4 + 2)) ∧ (wr (x4 + 2)) < (Ls : Nat)) ∧
  m_Call i_M_man [.inr (.inr 98), .inl (I 1 (Int.toNat (wr (x4 + 1)))), .inl (I 1 (Int.toNat (wr (x4 + 2))))] (144, sh0 Ls, RR, I, L) (fun v M' =>
    m_Wp i_L_law 403 kc ks [(0, .inr (.inr 1)), (1, .inr (.inr 2)), (2, .inr (.inr 98)), (3, .inr (.inr 143)), (4, .inl x4), (5, .inl y0)] (v ++ []) M' Q)) :
    m_Wp i_L_law 385 kc ks [(0, .inr (.inr 1)), (1, .inr (.inr 2)), (2, .inr (.inr 98)), (3, .inr (.inr 143)), (4, .inl x4)] [.inl y0] (144, sh0 Ls, RR, I, L) Q := m_wp_of 13 [1497] h
set_option maxHeartbeats 4000000 in
set_option maxRecDepth 20000 in
theorem LW_403 {Ls kc ks : Nat} {RR : Nat → Nat → Nat} {I L : Nat → Nat → Int} {x4 x5 y0 : Int} {Q : List mV → mM → Prop}
    (h : m_Call i_M_thrown [.inr (.inr 98)] (144, sh0 Ls, RR, I, L) (fun v M' =>
    m_Wp i_L_law 409 kc ks [(0, .inr (.inr 1)), (1, .inr (.inr 2)), (2, .inr (.inr 98)), (3, .inr (.inr 143)), (4, .inl x4), (5, .inl x5), (6, .inl y0)] (v ++ []) M' Q)) :
    m_Wp i_L_law 403 kc ks [(0, .inr (.inr 1)), (1, .inr (.inr 2)), (2, .inr (.inr 98)), (3, .inr (.inr 143)), (4, .inl x4), (5, .inl x5)] [.inl y0] (144, sh0 Ls, RR, I, L) Q := m_wp_of 3 [1497] h
set_option maxHeartbeats 4000000 in
set_option maxRecDepth 20000 in
theorem LW_409 {Ls kc ks : Nat} {RR : Nat → Nat → Nat} {I L : Nat → Nat → Int} {x4 x5 x6 y0 : Int} {Q : List mV → mM → Prop}
    (h : ((y0 = x5 →
    ((¬ x5 = (0 : Int) →
      m_Wp i_L_law 1497 kc ks [(0, .inr (.inr 1)), (1, .inr (.inr 2)), (2, .inr (.inr 98)), (3, .inr (.inr 143)), (4, .inl x4)] [] (144, sh0 Ls, RR, I, L) Q) ∧
     (¬ (¬ x5 = (0 : Int)) →
      (0 ≤ (0 : Int) ∧ (0 : Int) < 1) ∧
      (((m_lcmp (L 143 0) x6) = (0 : Int) →
        m_Wp i_L_law 1497 kc ks [(0, .inr (.inr 1)), (1, .inr (.inr 2)), (2, .inr (.inr 98)), (3, .inr (.inr 143)), (4, .inl x4)] [] (144, sh0 Ls, RR, I, L) Q) ∧
       (¬ ((m_lcmp (L 143 0) x6) = (0 : Int)) →
        ((0 : Int) = 0 ∨ (0 : Int) = 1) ∧
        Q [.inl 0] (144, sh0 Ls, RR, I, L)))))) ∧
   (¬ (y0 = x5) →
    ((0 : Int) = 0 ∨ (0 : Int) = 1) ∧
    Q [.inl 0] (144, sh0 Ls, RR, I, L)))) :
    m_Wp i_L_law 409 kc ks [(0, .inr (.inr 1)), (1, .inr (.inr 2)), (2, .inr (.inr 98)), (3, .inr (.inr 143)), (4, .inl x4), (5, .inl x5), (6, .inl x6)] [.inl y0] (144, sh0 Ls, RR, I, L) Q := m_wp_of 14 [1497] h
set_option maxHeartbeats 4000000 in
set_option maxRecDepth 20000 in
theorem LW_436 {Ls kc ks : Nat} {RR : Nat → Nat → Nat} {I L : Nat → Nat → Int} {x4 : Int} {Q : List mV → mM → Prop}
    (h : (0 ≤ (wr (x4 + 1)) ∧ (wr (x4 + 1)) < (Ls : Nat)) ∧
  (0 ≤ (wr (x4 + 2)) ∧ (wr (x4 + 2)) < (Ls : Nat)) ∧
  m_Call i_C_meeting [.inr (.inr 2), .inl (I 1 (Int.toNat (wr (x4 + 1)))), .inl (I 1 (Int.toNat (wr (x4 + 2))))] (144, sh0 Ls, RR, I, L) (fun v M' =>
    m_Wp i_L_law 452 kc ks [(0, .inr (.inr 1)), (1, .inr (.inr 2)), (2, .inr (.inr 98)), (3, .inr (.inr 143)), (4, .inl x4)] (v ++ []) M' Q)) :
    m_Wp i_L_law 436 kc ks [(0, .inr (.inr 1)), (1, .inr (.inr 2)), (2, .inr (.inr 98)), (3, .inr (.inr 143)), (4, .inl x4)] [] (144, sh0 Ls, RR, I, L) Q := m_wp_of 12 [1497] h
set_option maxHeartbeats 4000000 in
set_option maxRecDepth 20000 in
theorem LW_452 {Ls kc ks : Nat} {RR : Nat → Nat → Nat} {I L : Nat → Nat → Int} {x4 y0 : Int} {Q : List mV → mM → Prop}
    (h : (0 ≤ (wr (x4 + 1)) ∧ (wr (x4 + 1)) < (Ls : Nat)) ∧
  (0 ≤ (wr (x4 + 2)) ∧ (wr (x4 + 2)) < (Ls : Nat)) ∧
  m_Call i_M_meeting [.inr (.inr 98), .inl (I 1 (Int.toNat (wr (x4 + 1)))), .inl (I 1 (Int.toNat (wr (x4 + 2))))] (144, sh0 Ls, RR, I, L) (fun v M' =>
    m_Wp i_L_law 468 kc ks [(0, .inr (.inr 1)), (1, .inr (.inr 2)), (2, .inr (.inr 98)), (3, .inr (.inr 143)), (4, .inl x4)] (v ++ [.inl y0]) M' Q)) :
    m_Wp i_L_law 452 kc ks [(0, .inr (.inr 1)), (1, .inr (.inr 2)), (2, .inr (.inr 98)), (3, .inr (.inr 143)), (4, .inl x4)] [.inl y0] (144, sh0 Ls, RR, I, L) Q := m_wp_of 12 [1497] h
set_option maxHeartbeats 4000000 in
set_option maxRecDepth 20000 in
theorem LW_468 {Ls kc ks : Nat} {RR : Nat → Nat → Nat} {I L : Nat → Nat → Int} {x4 y0 y1 : Int} {Q : List mV → mM → Prop}
    (h : ((y0 = y1 →
    m_Wp i_L_law 1497 kc ks [(0, .inr (.inr 1)), (1, .inr (.inr 2)), (2, .inr (.inr 98)), (3, .inr (.inr 143)), (4, .inl x4)] [] (144, sh0 Ls, RR, I, L) Q) ∧
   (¬ (y0 = y1) →
    ((0 : Int) = 0 ∨ (0 : Int) = 1) ∧
    Q [.inl 0] (144, sh0 Ls, RR, I, L)))) :
    m_Wp i_L_law 468 kc ks [(0, .inr (.inr 1)), (1, .inr (.inr 2)), (2, .inr (.inr 98)), (3, .inr (.inr 143)), (4, .inl x4)] [.inl y1, .inl y0] (144, sh0 Ls, RR, I, L) Q := m_wp_of 3 [1497] h
set_option maxHeartbeats 4000000 in
set_option maxRecDepth 20000 in
theorem LW_473 {Ls kc ks : Nat} {RR : Nat → Nat → Nat} {I L : Nat → Nat → Int} {x4 : Int} {Q : List mV → mM → Prop}
    (h : (0 ≤ (wr (x4 + 1)) ∧ (wr (x4 + 1)) < (Ls : Nat)) ∧
  m_Call i_C_shows [.inr (.inr 2), .inl (I 1 (Int.toNat (wr (x4 + 1))))] (144, sh0 Ls, RR, I, L) (fun v M' =>
    m_Wp i_L_law 483 kc ks [(0, .inr (.inr 1)), (1, .inr (.inr 2)), (2, .inr (.inr 98)), (3, .inr (.inr 143)), (4, .inl x4)] (v ++ []) M' Q)) :
    m_Wp i_L_law 473 kc ks [(0, .inr (.inr 1)), (1, .inr (.inr 2)), (2, .inr (.inr 98)), (3, .inr (.inr 143)), (4, .inl x4)] [] (144, sh0 Ls, RR, I, L) Q := m_wp_of 7 [1497] h
set_option maxHeartbeats 4000000 in
set_option maxRecDepth 20000 in
theorem LW_483 {Ls kc ks : Nat} {RR : Nat → Nat → Nat} {I L : Nat → Nat → Int} {x4 y0 : Int} {Q : List mV → mM → Prop}
    (h : (0 ≤ (wr (x4 + 1)) ∧ (wr (x4 + 1)) < (Ls : Nat)) ∧
  m_Call i_M_shows [.inr (.inr 98), .inl (I 1 (Int.toNat (wr (x4 + 1))))] (144, sh0 Ls, RR, I, L) (fun v M' =>
    m_Wp i_L_law 493 kc ks [(0, .inr (.inr 1)), (1, .inr (.inr 2)), (2, .inr (.inr 98)), (3, .inr (.inr 143)), (4, .inl x4)] (v ++ [.inl y0]) M' Q)) :
    m_Wp i_L_law 483 kc ks [(0, .inr (.inr 1)), (1, .inr (.inr 2)), (2, .inr (.inr 98)), (3, .inr (.inr 143)), (4, .inl x4)] [.inl y0] (144, sh0 Ls, RR, I, L) Q := m_wp_of 7 [1497] h
set_option maxHeartbeats 4000000 in
set_option maxRecDepth 20000 in
theorem LW_493 {Ls kc ks : Nat} {RR : Nat → Nat → Nat} {I L : Nat → Nat → Int} {x4 y0 y1 : Int} {Q : List mV → mM → Prop}
    (h : ((y0 = y1 →
    m_Wp i_L_law 1497 kc ks [(0, .inr (.inr 1)), (1, .inr (.inr 2)), (2, .inr (.inr 98)), (3, .inr (.inr 143)), (4, .inl x4)] [] (144, sh0 Ls, RR, I, L) Q) ∧
   (¬ (y0 = y1) →
    ((0 : Int) = 0 ∨ (0 : Int) = 1) ∧
    Q [.inl 0] (144, sh0 Ls, RR, I, L)))) :
    m_Wp i_L_law 493 kc ks [(0, .inr (.inr 1)), (1, .inr (.inr 2)), (2, .inr (.inr 98)), (3, .inr (.inr 143)), (4, .inl x4)] [.inl y1, .inl y0] (144, sh0 Ls, RR, I, L) Q := m_wp_of 3 [1497] h
set_option maxHeartbeats 4000000 in
set_option maxRecDepth 20000 in
theorem LW_498 {Ls kc ks : Nat} {RR : Nat → Nat → Nat} {I L : Nat → Nat → Int} {x4 : Int} {Q : List mV → mM → Prop}
    (h : (0 ≤ (wr (x4 + 1)) ∧ (wr (x4 + 1)) < (Ls : Nat)) ∧
  (0 ≤ (wr (x4 + 2)) ∧ (wr (x4 + 2)) < (Ls : Nat)) ∧
  m_Call i_C_law [.inr (.inr 2), .inl (I 1 (Int.toNat (wr (x4 + 1)))), .inl (I 1 (Int.toNat (wr (x4 + 2))))] (144, sh0 Ls, RR, I, L) (fun v M' =>
    m_Wp i_L_law 514 kc ks [(0, .inr (.inr 1)), (1, .inr (.inr 2)), (2, .inr (.inr 98)), (3, .inr (.inr 143)), (4, .inl x4)] (v ++ []) M' Q)) :
    m_Wp i_L_law 498 kc ks [(0, .inr (.inr 1)), (1, .inr (.inr 2)), (2, .inr (.inr 98)), (3, .inr (.inr 143)), (4, .inl x4)] [] (144, sh0 Ls, RR, I, L) Q := m_wp_of 12 [1497] h
set_option maxHeartbeats 4000000 in
set_option maxRecDepth 20000 in
theorem LW_514 {Ls kc ks : Nat} {RR : Nat → Nat → Nat} {I L : Nat → Nat → Int} {x4 y0 : Int} {Q : List mV → mM → Prop}
    (h : (0 ≤ (wr (x4 + 1)) ∧ (wr (x4 + 1)) < (Ls : Nat)) ∧
  (0 ≤ (wr (x4 + 2)) ∧ (wr (x4 + 2)) < (Ls : Nat)) ∧
  m_Call i_M_law [.inr (.inr 98), .inl (I 1 (Int.toNat (wr (x4 + 1)))), .inl (I 1 (Int.toNat (wr (x4 + 2))))] (144, sh0 Ls, RR, I, L) (fun v M' =>
    m_Wp i_L_law 530 kc ks [(0, .inr (.inr 1)), (1, .inr (.inr 2)), (2, .inr (.inr 98)), (3, .inr (.inr 143)), (4, .inl x4)] (v ++ [.inr (.inl y0)]) M' Q)) :
    m_Wp i_L_law 514 kc ks [(0, .inr (.inr 1)), (1, .inr (.inr 2)), (2, .inr (.inr 98)), (3, .inr (.inr 143)), (4, .inl x4)] [.inr (.inl y0)] (144, sh0 Ls, RR, I, L) Q := m_wp_of 12 [1497] h
set_option maxHeartbeats 4000000 in
set_option maxRecDepth 20000 in
theorem LW_530 {Ls kc ks : Nat} {RR : Nat → Nat → Nat} {I L : Nat → Nat → Int} {x4 y0 y1 : Int} {Q : List mV → mM → Prop}
    (h : (((m_lcmp y0 y1) = (0 : Int) →
    m_Wp i_L_law 1497 kc ks [(0, .inr (.inr 1)), (1, .inr (.inr 2)), (2, .inr (.inr 98)), (3, .inr (.inr 143)), (4, .inl x4)] [] (144, sh0 Ls, RR, I, L) Q) ∧
   (¬ ((m_lcmp y0 y1) = (0 : Int)) →
    ((0 : Int) = 0 ∨ (0 : Int) = 1) ∧
    Q [.inl 0] (144, sh0 Ls, RR, I, L)))) :
    m_Wp i_L_law 530 kc ks [(0, .inr (.inr 1)), (1, .inr (.inr 2)), (2, .inr (.inr 98)), (3, .inr (.inr 143)), (4, .inl x4)] [.inr (.inl y1), .inr (.inl y0)] (144, sh0 Ls, RR, I, L) Q := m_wp_of 4 [1497] h
set_option maxHeartbeats 4000000 in
set_option maxRecDepth 20000 in
theorem LW_536 {Ls kc ks : Nat} {RR : Nat → Nat → Nat} {I L : Nat → Nat → Int} {x4 : Int} {Q : List mV → mM → Prop}
    (h : (0 ≤ (wr (x4 + 1)) ∧ (wr (x4 + 1)) < (Ls : Nat)) ∧
  m_Call i_C_ring [.inr (.inr 2), .inl (I 1 (Int.toNat (wr (x4 + 1))))] (144, sh0 Ls, RR, I, L) (fun v M' =>
    m_Wp i_L_law 546 kc ks [(0, .inr (.inr 1)), (1, .inr (.inr 2)), (2, .inr (.inr 98)), (3, .inr (.inr 143)), (4, .inl x4)] (v ++ []) M' Q)) :
    m_Wp i_L_law 536 kc ks [(0, .inr (.inr 1)), (1, .inr (.inr 2)), (2, .inr (.inr 98)), (3, .inr (.inr 143)), (4, .inl x4)] [] (144, sh0 Ls, RR, I, L) Q := m_wp_of 7 [1497] h
set_option maxHeartbeats 4000000 in
set_option maxRecDepth 20000 in
theorem LW_546 {Ls kc ks : Nat} {RR : Nat → Nat → Nat} {I L : Nat → Nat → Int} {x4 y0 : Int} {Q : List mV → mM → Prop}
    (h : (0 ≤ (wr (x4 + 1)) ∧ (wr (x4 + 1)) < (Ls : Nat)) ∧
  m_Call i_M_ring [.inr (.inr 98), .inl (I 1 (Int.toNat (wr (x4 + 1))))] (144, sh0 Ls, RR, I, L) (fun v M' =>
    m_Wp i_L_law 556 kc ks [(0, .inr (.inr 1)), (1, .inr (.inr 2)), (2, .inr (.inr 98)), (3, .inr (.inr 143)), (4, .inl x4)] (v ++ [.inl y0]) M' Q)) :
    m_Wp i_L_law 546 kc ks [(0, .inr (.inr 1)), (1, .inr (.inr 2)), (2, .inr (.inr 98)), (3, .inr (.inr 143)), (4, .inl x4)] [.inl y0] (144, sh0 Ls, RR, I, L) Q := m_wp_of 7 [1497] h
set_option maxHeartbeats 4000000 in
set_option maxRecDepth 20000 in
theorem LW_556 {Ls kc ks : Nat} {RR : Nat → Nat → Nat} {I L : Nat → Nat → Int} {x4 y0 y1 : Int} {Q : List mV → mM → Prop}
    (h : ((y0 = y1 →
    m_Wp i_L_law 1497 kc ks [(0, .inr (.inr 1)), (1, .inr (.inr 2)), (2, .inr (.inr 98)), (3, .inr (.inr 143)), (4, .inl x4)] [] (144, sh0 Ls, RR, I, L) Q) ∧
   (¬ (y0 = y1) →
    ((0 : Int) = 0 ∨ (0 : Int) = 1) ∧
    Q [.inl 0] (144, sh0 Ls, RR, I, L)))) :
    m_Wp i_L_law 556 kc ks [(0, .inr (.inr 1)), (1, .inr (.inr 2)), (2, .inr (.inr 98)), (3, .inr (.inr 143)), (4, .inl x4)] [.inl y1, .inl y0] (144, sh0 Ls, RR, I, L) Q := m_wp_of 3 [1497] h
set_option maxHeartbeats 4000000 in
set_option maxRecDepth 20000 in
theorem LW_561 {Ls kc ks : Nat} {RR : Nat → Nat → Nat} {I L : Nat → Nat → Int} {x4 : Int} {Q : List mV → mM → Prop}
    (h : (0 ≤ (wr (x4 + 1)) ∧ (wr (x4 + 1)) < (Ls : Nat)) ∧
  m_Call i_C_hangUp [.inr (.inr 2), .inl (I 1 (Int.toNat (wr (x4 + 1))))] (144, sh0 Ls, RR, I, L) (fun v M' =>
    m_Wp i_L_law 571 kc ks [(0, .inr (.inr 1)), (1, .inr (.inr 2)), (2, .inr (.inr 98)), (3, .inr (.inr 143)), (4, .inl x4)] (v ++ []) M' Q)) :
    m_Wp i_L_law 561 kc ks [(0, .inr (.inr 1)), (1, .inr (.inr 2)), (2, .inr (.inr 98)), (3, .inr (.inr 143)), (4, .inl x4)] [] (144, sh0 Ls, RR, I, L) Q := m_wp_of 7 [1497] h
set_option maxHeartbeats 4000000 in
set_option maxRecDepth 20000 in
theorem LW_571 {Ls kc ks : Nat} {RR : Nat → Nat → Nat} {I L : Nat → Nat → Int} {x4 y0 : Int} {Q : List mV → mM → Prop}
    (h : (0 ≤ (wr (x4 + 1)) ∧ (wr (x4 + 1)) < (Ls : Nat)) ∧
  m_Call i_M_hangUp [.inr (.inr 98), .inl (I 1 (Int.toNat (wr (x4 + 1))))] (144, sh0 Ls, RR, I, L) (fun v M' =>
    m_Wp i_L_law 581 kc ks [(0, .inr (.inr 1)), (1, .inr (.inr 2)), (2, .inr (.inr 98)), (3, .inr (.inr 143)), (4, .inl x4)] (v ++ [.inl y0]) M' Q)) :
    m_Wp i_L_law 571 kc ks [(0, .inr (.inr 1)), (1, .inr (.inr 2)), (2, .inr (.inr 98)), (3, .inr (.inr 143)), (4, .inl x4)] [.inl y0] (144, sh0 Ls, RR, I, L) Q := m_wp_of 7 [1497] h
set_option maxHeartbeats 4000000 in
set_option maxRecDepth 20000 in
theorem LW_581 {Ls kc ks : Nat} {RR : Nat → Nat → Nat} {I L : Nat → Nat → Int} {x4 y0 y1 : Int} {Q : List mV → mM → Prop}
    (h : ((y0 = y1 →
    m_Wp i_L_law 1497 kc ks [(0, .inr (.inr 1)), (1, .inr (.inr 2)), (2, .inr (.inr 98)), (3, .inr (.inr 143)), (4, .inl x4)] [] (144, sh0 Ls, RR, I, L) Q) ∧
   (¬ (y0 = y1) →
    ((0 : Int) = 0 ∨ (0 : Int) = 1) ∧
    Q [.inl 0] (144, sh0 Ls, RR, I, L)))) :
    m_Wp i_L_law 581 kc ks [(0, .inr (.inr 1)), (1, .inr (.inr 2)), (2, .inr (.inr 98)), (3, .inr (.inr 143)), (4, .inl x4)] [.inl y1, .inl y0] (144, sh0 Ls, RR, I, L) Q := m_wp_of 3 [1497] h
set_option maxHeartbeats 4000000 in
set_option maxRecDepth 20000 in
theorem LW_586 {Ls kc ks : Nat} {RR : Nat → Nat → Nat} {I L : Nat → Nat → Int} {x4 : Int} {Q : List mV → mM → Prop}
    (h : (0 ≤ (wr (x4 + 1)) ∧ (wr (x4 + 1)) < (Ls : Nat)) ∧
  (0 ≤ (wr (x4 + 2)) ∧ (wr (x4 + 2)) < (Ls : Nat)) ∧
  m_Call i_C_set [.inr (.inr 2), .inl (I 1 (Int.toNat (wr (x4 + 1)))), .inl (I 1 (Int.toNat (wr (x4 + 2))))] (144, sh0 Ls, RR, I, L) (fun v M' =>
    m_Wp i_L_law 602 kc ks [(0, .inr (.inr 1)), (1, .inr (.inr 2)), (2, .inr (.inr 98)), (3, .inr (.inr 143)), (4, .inl x4)] (v ++ []) M' Q)) :
    m_Wp i_L_law 586 kc ks [(0, .inr (.inr 1)), (1, .inr (.inr 2)), (2, .inr (.inr 98)), (3, .inr (.inr 143)), (4, .inl x4)] [] (144, sh0 Ls, RR, I, L) Q := m_wp_of 12 [1497] h
set_option maxHeartbeats 4000000 in
set_option maxRecDepth 20000 in
theorem LW_602 {Ls kc ks : Nat} {RR : Nat → Nat → Nat} {I L : Nat → Nat → Int} {x4 y0 : Int} {Q : List mV → mM → Prop}
    (h : (0 ≤ (wr (x4 + 1)) ∧ (wr (x4 + 1)) < (Ls : Nat)) ∧
  (0 ≤ (wr (x4 + 2)) ∧ (wr (x4 + 2)) < (Ls : Nat)) ∧
  m_Call i_M_set [.inr (.inr 98), .inl (I 1 (Int.toNat (wr (x4 + 1)))), .inl (I 1 (Int.toNat (wr (x4 + 2))))] (144, sh0 Ls, RR, I, L) (fun v M' =>
    m_Wp i_L_law 618 kc ks [(0, .inr (.inr 1)), (1, .inr (.inr 2)), (2, .inr (.inr 98)), (3, .inr (.inr 143)), (4, .inl x4)] (v ++ [.inl y0]) M' Q)) :
    m_Wp i_L_law 602 kc ks [(0, .inr (.inr 1)), (1, .inr (.inr 2)), (2, .inr (.inr 98)), (3, .inr (.inr 143)), (4, .inl x4)] [.inl y0] (144, sh0 Ls, RR, I, L) Q := m_wp_of 12 [1497] h
set_option maxHeartbeats 4000000 in
set_option maxRecDepth 20000 in
theorem LW_618 {Ls kc ks : Nat} {RR : Nat → Nat → Nat} {I L : Nat → Nat → Int} {x4 y0 y1 : Int} {Q : List mV → mM → Prop}
    (h : ((y0 = y1 →
    m_Wp i_L_law 1497 kc ks [(0, .inr (.inr 1)), (1, .inr (.inr 2)), (2, .inr (.inr 98)), (3, .inr (.inr 143)), (4, .inl x4)] [] (144, sh0 Ls, RR, I, L) Q) ∧
   (¬ (y0 = y1) →
    ((0 : Int) = 0 ∨ (0 : Int) = 1) ∧
    Q [.inl 0] (144, sh0 Ls, RR, I, L)))) :
    m_Wp i_L_law 618 kc ks [(0, .inr (.inr 1)), (1, .inr (.inr 2)), (2, .inr (.inr 98)), (3, .inr (.inr 143)), (4, .inl x4)] [.inl y1, .inl y0] (144, sh0 Ls, RR, I, L) Q := m_wp_of 3 [1497] h
set_option maxHeartbeats 4000000 in
set_option maxRecDepth 20000 in
theorem LW_623 {Ls kc ks : Nat} {RR : Nat → Nat → Nat} {I L : Nat → Nat → Int} {x4 : Int} {Q : List mV → mM → Prop}
    (h : (0 ≤ (wr (x4 + 1)) ∧ (wr (x4 + 1)) < (Ls : Nat)) ∧
  (0 ≤ (wr (x4 + 2)) ∧ (wr (x4 + 2)) < (Ls : Nat)) ∧
  m_Call i_C_putOff [.inr (.inr 2), .inl (I 1 (Int.toNat (wr (x4 + 1)))), .inl (I 1 (Int.toNat (wr (x4 + 2))))] (144, sh0 Ls, RR, I, L) (fun v M' =>
    m_Wp i_L_law 639 kc ks [(0, .inr (.inr 1)), (1, .inr (.inr 2)), (2, .inr (.inr 98)), (3, .inr (.inr 143)), (4, .inl x4)] (v ++ []) M' Q)) :
    m_Wp i_L_law 623 kc ks [(0, .inr (.inr 1)), (1, .inr (.inr 2)), (2, .inr (.inr 98)), (3, .inr (.inr 143)), (4, .inl x4)] [] (144, sh0 Ls, RR, I, L) Q := m_wp_of 12 [1497] h
set_option maxHeartbeats 4000000 in
set_option maxRecDepth 20000 in
theorem LW_639 {Ls kc ks : Nat} {RR : Nat → Nat → Nat} {I L : Nat → Nat → Int} {x4 y0 : Int} {Q : List mV → mM → Prop}
    (h : (0 ≤ (wr (x4 + 1)) ∧ (wr (x4 + 1)) < (Ls : Nat)) ∧
  (0 ≤ (wr (x4 + 2)) ∧ (wr (x4 + 2)) < (Ls : Nat)) ∧
  m_Call i_M_putOff [.inr (.inr 98), .inl (I 1 (Int.toNat (wr (x4 + 1)))), .inl (I 1 (Int.toNat (wr (x4 + 2))))] (144, sh0 Ls, RR, I, L) (fun v M' =>
    m_Wp i_L_law 655 kc ks [(0, .inr (.inr 1)), (1, .inr (.inr 2)), (2, .inr (.inr 98)), (3, .inr (.inr 143)), (4, .inl x4)] (v ++ [.inl y0]) M' Q)) :
    m_Wp i_L_law 639 kc ks [(0, .inr (.inr 1)), (1, .inr (.inr 2)), (2, .inr (.inr 98)), (3, .inr (.inr 143)), (4, .inl x4)] [.inl y0] (144, sh0 Ls, RR, I, L) Q := m_wp_of 12 [1497] h
set_option maxHeartbeats 4000000 in
set_option maxRecDepth 20000 in
theorem LW_655 {Ls kc ks : Nat} {RR : Nat → Nat → Nat} {I L : Nat → Nat → Int} {x4 y0 y1 : Int} {Q : List mV → mM → Prop}
    (h : ((y0 = y1 →
    m_Wp i_L_law 1497 kc ks [(0, .inr (.inr 1)), (1, .inr (.inr 2)), (2, .inr (.inr 98)), (3, .inr (.inr 143)), (4, .inl x4)] [] (144, sh0 Ls, RR, I, L) Q) ∧
   (¬ (y0 = y1) →
    ((0 : Int) = 0 ∨ (0 : Int) = 1) ∧
    Q [.inl 0] (144, sh0 Ls, RR, I, L)))) :
    m_Wp i_L_law 655 kc ks [(0, .inr (.inr 1)), (1, .inr (.inr 2)), (2, .inr (.inr 98)), (3, .inr (.inr 143)), (4, .inl x4)] [.inl y1, .inl y0] (144, sh0 Ls, RR, I, L) Q := m_wp_of 3 [1497] h
set_option maxHeartbeats 4000000 in
set_option maxRecDepth 20000 in
theorem LW_660 {Ls kc ks : Nat} {RR : Nat → Nat → Nat} {I L : Nat → Nat → Int} {x4 : Int} {Q : List mV → mM → Prop}
    (h : (0 ≤ (wr (x4 + 1)) ∧ (wr (x4 + 1)) < (Ls : Nat)) ∧
  m_Call i_C_go [.inr (.inr 2), .inl (I 1 (Int.toNat (wr (x4 + 1))))] (144, sh0 Ls, RR, I, L) (fun v M' =>
    m_Wp i_L_law 670 kc ks [(0, .inr (.inr 1)), (1, .inr (.inr 2)), (2, .inr (.inr 98)), (3, .inr (.inr 143)), (4, .inl x4)] (v ++ []) M' Q)) :
    m_Wp i_L_law 660 kc ks [(0, .inr (.inr 1)), (1, .inr (.inr 2)), (2, .inr (.inr 98)), (3, .inr (.inr 143)), (4, .inl x4)] [] (144, sh0 Ls, RR, I, L) Q := m_wp_of 7 [1497] h
set_option maxHeartbeats 4000000 in
set_option maxRecDepth 20000 in
theorem LW_670 {Ls kc ks : Nat} {RR : Nat → Nat → Nat} {I L : Nat → Nat → Int} {x4 y0 : Int} {Q : List mV → mM → Prop}
    (h : (0 ≤ (wr (x4 + 1)) ∧ (wr (x4 + 1)) < (Ls : Nat)) ∧
  m_Call i_M_go [.inr (.inr 98), .inl (I 1 (Int.toNat (wr (x4 + 1))))] (144, sh0 Ls, RR, I, L) (fun v M' =>
    m_Wp i_L_law 680 kc ks [(0, .inr (.inr 1)), (1, .inr (.inr 2)), (2, .inr (.inr 98)), (3, .inr (.inr 143)), (4, .inl x4)] (v ++ [.inl y0]) M' Q)) :
    m_Wp i_L_law 670 kc ks [(0, .inr (.inr 1)), (1, .inr (.inr 2)), (2, .inr (.inr 98)), (3, .inr (.inr 143)), (4, .inl x4)] [.inl y0] (144, sh0 Ls, RR, I, L) Q := m_wp_of 7 [1497] h
set_option maxHeartbeats 4000000 in
set_option maxRecDepth 20000 in
theorem LW_680 {Ls kc ks : Nat} {RR : Nat → Nat → Nat} {I L : Nat → Nat → Int} {x4 y0 y1 : Int} {Q : List mV → mM → Prop}
    (h : ((y0 = y1 →
    m_Wp i_L_law 1497 kc ks [(0, .inr (.inr 1)), (1, .inr (.inr 2)), (2, .inr (.inr 98)), (3, .inr (.inr 143)), (4, .inl x4)] [] (144, sh0 Ls, RR, I, L) Q) ∧
   (¬ (y0 = y1) →
    ((0 : Int) = 0 ∨ (0 : Int) = 1) ∧
    Q [.inl 0] (144, sh0 Ls, RR, I, L)))) :
    m_Wp i_L_law 680 kc ks [(0, .inr (.inr 1)), (1, .inr (.inr 2)), (2, .inr (.inr 98)), (3, .inr (.inr 143)), (4, .inl x4)] [.inl y1, .inl y0] (144, sh0 Ls, RR, I, L) Q := m_wp_of 3 [1497] h
set_option maxHeartbeats 4000000 in
set_option maxRecDepth 20000 in
theorem LW_685 {Ls kc ks : Nat} {RR : Nat → Nat → Nat} {I L : Nat → Nat → Int} {x4 : Int} {Q : List mV → mM → Prop}
    (h : (0 ≤ (wr (x4 + 1)) ∧ (wr (x4 + 1)) < (Ls : Nat)) ∧
  (0 ≤ (wr (x4 + 2)) ∧ (wr (x4 + 2)) < (Ls : Nat)) ∧
  (0 ≤ (wr (x4 + 3)) ∧ (wr (x4 + 3)) < (Ls : Nat)) ∧
  m_Call i_C_ahead [.inr (.inr 2), .inl (I 1 (Int.toNat (wr (x4 + 1)))), .inl (I 1 (Int.toNat (wr (x4 + 2)))), .inl (I 1 (Int.toNat (wr (x4 + 3))))] (144, sh0 Ls, RR, I, L) (fun v M' =>
    m_Wp i_L_law 707 kc ks [(0, .inr (.inr 1)), (1, .inr (.inr 2)), (2, .inr (.inr 98)), (3, .inr (.inr 143)), (4, .inl x4)] (v ++ []) M' Q)) :
    m_Wp i_L_law 685 kc ks [(0, .inr (.inr 1)), (1, .inr (.inr 2)), (2, .inr (.inr 98)), (3, .inr (.inr 143)), (4, .inl x4)] [] (144, sh0 Ls, RR, I, L) Q := m_wp_of 17 [1497] h
set_option maxHeartbeats 4000000 in
set_option maxRecDepth 20000 in
theorem LW_707 {Ls kc ks : Nat} {RR : Nat → Nat → Nat} {I L : Nat → Nat → Int} {x4 y0 : Int} {Q : List mV → mM → Prop}
    (h : (0 ≤ (wr (x4 + 1)) ∧ (wr (x4 + 1)) < (Ls : Nat)) ∧
  (0 ≤ (wr (x4 + 2)) ∧ (wr (x4 + 2)) < (Ls : Nat)) ∧
  (0 ≤ (wr (x4 + 3)) ∧ (wr (x4 + 3)) < (Ls : Nat)) ∧
  m_Call i_M_ahead [.inr (.inr 98), .inl (I 1 (Int.toNat (wr (x4 + 1)))), .inl (I 1 (Int.toNat (wr (x4 + 2)))), .inl (I 1 (Int.toNat (wr (x4 + 3))))] (144, sh0 Ls, RR, I, L) (fun v M' =>
    m_Wp i_L_law 729 kc ks [(0, .inr (.inr 1)), (1, .inr (.inr 2)), (2, .inr (.inr 98)), (3, .inr (.inr 143)), (4, .inl x4)] (v ++ [.inl y0]) M' Q)) :
    m_Wp i_L_law 707 kc ks [(0, .inr (.inr 1)), (1, .inr (.inr 2)), (2, .inr (.inr 98)), (3, .inr (.inr 143)), (4, .inl x4)] [.inl y0] (144, sh0 Ls, RR, I, L) Q := m_wp_of 17 [1497] h
set_option maxHeartbeats 4000000 in
set_option maxRecDepth 20000 in
theorem LW_729 {Ls kc ks : Nat} {RR : Nat → Nat → Nat} {I L : Nat → Nat → Int} {x4 y0 y1 : Int} {Q : List mV → mM → Prop}
    (h : ((y0 = y1 →
    m_Wp i_L_law 1497 kc ks [(0, .inr (.inr 1)), (1, .inr (.inr 2)), (2, .inr (.inr 98)), (3, .inr (.inr 143)), (4, .inl x4)] [] (144, sh0 Ls, RR, I, L) Q) ∧
   (¬ (y0 = y1) →
    ((0 : Int) = 0 ∨ (0 : Int) = 1) ∧
    Q [.inl 0] (144, sh0 Ls, RR, I, L)))) :
    m_Wp i_L_law 729 kc ks [(0, .inr (.inr 1)), (1, .inr (.inr 2)), (2, .inr (.inr 98)), (3, .inr (.inr 143)), (4, .inl x4)] [.inl y1, .inl y0] (144, sh0 Ls, RR, I, L) Q := m_wp_of 3 [1497] h
set_option maxHeartbeats 4000000 in
set_option maxRecDepth 20000 in
theorem LW_734 {Ls kc ks : Nat} {RR : Nat → Nat → Nat} {I L : Nat → Nat → Int} {x4 : Int} {Q : List mV → mM → Prop}
    (h : (0 ≤ (wr (x4 + 1)) ∧ (wr (x4 + 1)) < (Ls : Nat)) ∧
  m_Call i_C_delay [.inr (.inr 2), .inl (I 1 (Int.toNat (wr (x4 + 1))))] (144, sh0 Ls, RR, I, L) (fun v M' =>
    m_Wp i_L_law 744 kc ks [(0, .inr (.inr 1)), (1, .inr (.inr 2)), (2, .inr (.inr 98)), (3, .inr (.inr 143)), (4, .inl x4)] (v ++ []) M' Q)) :
    m_Wp i_L_law 734 kc ks [(0, .inr (.inr 1)), (1, .inr (.inr 2)), (2, .inr (.inr 98)), (3, .inr (.inr 143)), (4, .inl x4)] [] (144, sh0 Ls, RR, I, L) Q := m_wp_of 7 [1497] h
set_option maxHeartbeats 4000000 in
set_option maxRecDepth 20000 in
theorem LW_744 {Ls kc ks : Nat} {RR : Nat → Nat → Nat} {I L : Nat → Nat → Int} {x4 y0 : Int} {Q : List mV → mM → Prop}
    (h : (0 ≤ (wr (x4 + 1)) ∧ (wr (x4 + 1)) < (Ls : Nat)) ∧
  m_Call i_M_delay [.inr (.inr 98), .inl (I 1 (Int.toNat (wr (x4 + 1))))] (144, sh0 Ls, RR, I, L) (fun v M' =>
    m_Wp i_L_law 754 kc ks [(0, .inr (.inr 1)), (1, .inr (.inr 2)), (2, .inr (.inr 98)), (3, .inr (.inr 143)), (4, .inl x4)] (v ++ [.inl y0]) M' Q)) :
    m_Wp i_L_law 744 kc ks [(0, .inr (.inr 1)), (1, .inr (.inr 2)), (2, .inr (.inr 98)), (3, .inr (.inr 143)), (4, .inl x4)] [.inl y0] (144, sh0 Ls, RR, I, L) Q := m_wp_of 7 [1497] h
set_option maxHeartbeats 4000000 in
set_option maxRecDepth 20000 in
theorem LW_754 {Ls kc ks : Nat} {RR : Nat → Nat → Nat} {I L : Nat → Nat → Int} {x4 y0 y1 : Int} {Q : List mV → mM → Prop}
    (h : ((y0 = y1 →
    m_Wp i_L_law 1497 kc ks [(0, .inr (.inr 1)), (1, .inr (.inr 2)), (2, .inr (.inr 98)), (3, .inr (.inr 143)), (4, .inl x4)] [] (144, sh0 Ls, RR, I, L) Q) ∧
   (¬ (y0 = y1) →
    ((0 : Int) = 0 ∨ (0 : Int) = 1) ∧
    Q [.inl 0] (144, sh0 Ls, RR, I, L)))) :
    m_Wp i_L_law 754 kc ks [(0, .inr (.inr 1)), (1, .inr (.inr 2)), (2, .inr (.inr 98)), (3, .inr (.inr 143)), (4, .inl x4)] [.inl y1, .inl y0] (144, sh0 Ls, RR, I, L) Q := m_wp_of 3 [1497] h
set_option maxHeartbeats 4000000 in
set_option maxRecDepth 20000 in
theorem LW_759 {Ls kc ks : Nat} {RR : Nat → Nat → Nat} {I L : Nat → Nat → Int} {x4 : Int} {Q : List mV → mM → Prop}
    (h : (0 ≤ (wr (x4 + 1)) ∧ (wr (x4 + 1)) < (Ls : Nat)) ∧
  (0 ≤ (wr (x4 + 2)) ∧ (wr (x4 + 2)) < (Ls : Nat)) ∧
  (0 ≤ (wr (x4 + 3)) ∧ (wr (x4 + 3)) < (Ls : Nat)) ∧
  m_Call i_C_bestRing [.inr (.inr 2), .inl (I 1 (Int.toNat (wr (x4 + 1)))), .inl (I 1 (Int.toNat (wr (x4 + 2)))), .inl (I 1 (Int.toNat (wr (x4 + 3))))] (144, sh0 Ls, RR, I, L) (fun v M' =>
    m_Wp i_L_law 781 kc ks [(0, .inr (.inr 1)), (1, .inr (.inr 2)), (2, .inr (.inr 98)), (3, .inr (.inr 143)), (4, .inl x4)] (v ++ []) M' Q)) :
    m_Wp i_L_law 759 kc ks [(0, .inr (.inr 1)), (1, .inr (.inr 2)), (2, .inr (.inr 98)), (3, .inr (.inr 143)), (4, .inl x4)] [] (144, sh0 Ls, RR, I, L) Q := m_wp_of 17 [1497] h
set_option maxHeartbeats 4000000 in
set_option maxRecDepth 20000 in
theorem LW_781 {Ls kc ks : Nat} {RR : Nat → Nat → Nat} {I L : Nat → Nat → Int} {x4 y0 : Int} {Q : List mV → mM → Prop}
    (h : (0 ≤ (wr (x4 + 1)) ∧ (wr (x4 + 1)) < (Ls : Nat)) ∧
  (0 ≤ (wr (x4 + 2)) ∧ (wr (x4 + 2)) < (Ls : Nat)) ∧
  (0 ≤ (wr (x4 + 3)) ∧ (wr (x4 + 3)) < (Ls : Nat)) ∧
  m_Call i_M_bestRing [.inr (.inr 98), .inl (I 1 (Int.toNat (wr (x4 + 1)))), .inl (I 1 (Int.toNat (wr (x4 + 2)))), .inl (I 1 (Int.toNat (wr (x4 + 3))))] (144, sh0 Ls, RR, I, L) (fun v M' =>
    m_Wp i_L_law 803 kc ks [(0, .inr (.inr 1)), (1, .inr (.inr 2)), (2, .inr (.inr 98)), (3, .inr (.inr 143)), (4, .inl x4)] (v ++ [.inl y0]) M' Q)) :
    m_Wp i_L_law 781 kc ks [(0, .inr (.inr 1)), (1, .inr (.inr 2)), (2, .inr (.inr 98)), (3, .inr (.inr 143)), (4, .inl x4)] [.inl y0] (144, sh0 Ls, RR, I, L) Q := m_wp_of 17 [1497] h
set_option maxHeartbeats 4000000 in
set_option maxRecDepth 20000 in
theorem LW_803 {Ls kc ks : Nat} {RR : Nat → Nat → Nat} {I L : Nat → Nat → Int} {x4 y0 y1 : Int} {Q : List mV → mM → Prop}
    (h : ((y0 = y1 →
    m_Wp i_L_law 1497 kc ks [(0, .inr (.inr 1)), (1, .inr (.inr 2)), (2, .inr (.inr 98)), (3, .inr (.inr 143)), (4, .inl x4)] [] (144, sh0 Ls, RR, I, L) Q) ∧
   (¬ (y0 = y1) →
    ((0 : Int) = 0 ∨ (0 : Int) = 1) ∧
    Q [.inl 0] (144, sh0 Ls, RR, I, L)))) :
    m_Wp i_L_law 803 kc ks [(0, .inr (.inr 1)), (1, .inr (.inr 2)), (2, .inr (.inr 98)), (3, .inr (.inr 143)), (4, .inl x4)] [.inl y1, .inl y0] (144, sh0 Ls, RR, I, L) Q := m_wp_of 3 [1497] h
set_option maxHeartbeats 4000000 in
set_option maxRecDepth 20000 in
theorem LW_808 {Ls kc ks : Nat} {RR : Nat → Nat → Nat} {I L : Nat → Nat → Int} {x4 : Int} {Q : List mV → mM → Prop}
    (h : (0 ≤ (wr (x4 + 1)) ∧ (wr (x4 + 1)) < (Ls : Nat)) ∧
  m_Call i_C_near [.inr (.inr 2), .inl (I 1 (Int.toNat (wr (x4 + 1))))] (144, sh0 Ls, RR, I, L) (fun v M' =>
    m_Wp i_L_law 818 kc ks [(0, .inr (.inr 1)), (1, .inr (.inr 2)), (2, .inr (.inr 98)), (3, .inr (.inr 143)), (4, .inl x4)] (v ++ []) M' Q)) :
    m_Wp i_L_law 808 kc ks [(0, .inr (.inr 1)), (1, .inr (.inr 2)), (2, .inr (.inr 98)), (3, .inr (.inr 143)), (4, .inl x4)] [] (144, sh0 Ls, RR, I, L) Q := m_wp_of 7 [1497] h
set_option maxHeartbeats 4000000 in
set_option maxRecDepth 20000 in
theorem LW_818 {Ls kc ks : Nat} {RR : Nat → Nat → Nat} {I L : Nat → Nat → Int} {x4 y0 : Int} {Q : List mV → mM → Prop}
    (h : (0 ≤ (wr (x4 + 1)) ∧ (wr (x4 + 1)) < (Ls : Nat)) ∧
  m_Call i_M_near [.inr (.inr 98), .inl (I 1 (Int.toNat (wr (x4 + 1))))] (144, sh0 Ls, RR, I, L) (fun v M' =>
    m_Wp i_L_law 828 kc ks [(0, .inr (.inr 1)), (1, .inr (.inr 2)), (2, .inr (.inr 98)), (3, .inr (.inr 143)), (4, .inl x4)] (v ++ [.inl y0]) M' Q)) :
    m_Wp i_L_law 818 kc ks [(0, .inr (.inr 1)), (1, .inr (.inr 2)), (2, .inr (.inr 98)), (3, .inr (.inr 143)), (4, .inl x4)] [.inl y0] (144, sh0 Ls, RR, I, L) Q := m_wp_of 7 [1497] h
set_option maxHeartbeats 4000000 in
set_option maxRecDepth 20000 in
theorem LW_828 {Ls kc ks : Nat} {RR : Nat → Nat → Nat} {I L : Nat → Nat → Int} {x4 y0 y1 : Int} {Q : List mV → mM → Prop}
    (h : ((y0 = y1 →
    m_Wp i_L_law 1497 kc ks [(0, .inr (.inr 1)), (1, .inr (.inr 2)), (2, .inr (.inr 98)), (3, .inr (.inr 143)), (4, .inl x4)] [] (144, sh0 Ls, RR, I, L) Q) ∧
   (¬ (y0 = y1) →
    ((0 : Int) = 0 ∨ (0 : Int) = 1) ∧
    Q [.inl 0] (144, sh0 Ls, RR, I, L)))) :
    m_Wp i_L_law 828 kc ks [(0, .inr (.inr 1)), (1, .inr (.inr 2)), (2, .inr (.inr 98)), (3, .inr (.inr 143)), (4, .inl x4)] [.inl y1, .inl y0] (144, sh0 Ls, RR, I, L) Q := m_wp_of 3 [1497] h
set_option maxHeartbeats 4000000 in
set_option maxRecDepth 20000 in
theorem LW_833 {Ls kc ks : Nat} {RR : Nat → Nat → Nat} {I L : Nat → Nat → Int} {x4 : Int} {Q : List mV → mM → Prop}
    (h : (0 ≤ (wr (x4 + 1)) ∧ (wr (x4 + 1)) < (Ls : Nat)) ∧
  m_Call i_C_liars [.inr (.inr 2), .inl (I 1 (Int.toNat (wr (x4 + 1))))] (144, sh0 Ls, RR, I, L) (fun v M' =>
    m_Wp i_L_law 843 kc ks [(0, .inr (.inr 1)), (1, .inr (.inr 2)), (2, .inr (.inr 98)), (3, .inr (.inr 143)), (4, .inl x4)] (v ++ []) M' Q)) :
    m_Wp i_L_law 833 kc ks [(0, .inr (.inr 1)), (1, .inr (.inr 2)), (2, .inr (.inr 98)), (3, .inr (.inr 143)), (4, .inl x4)] [] (144, sh0 Ls, RR, I, L) Q := m_wp_of 7 [1497] h
set_option maxHeartbeats 4000000 in
set_option maxRecDepth 20000 in
theorem LW_843 {Ls kc ks : Nat} {RR : Nat → Nat → Nat} {I L : Nat → Nat → Int} {x4 y0 : Int} {Q : List mV → mM → Prop}
    (h : (0 ≤ (wr (x4 + 1)) ∧ (wr (x4 + 1)) < (Ls : Nat)) ∧
  m_Call i_M_liars [.inr (.inr 98), .inl (I 1 (Int.toNat (wr (x4 + 1))))] (144, sh0 Ls, RR, I, L) (fun v M' =>
    m_Wp i_L_law 853 kc ks [(0, .inr (.inr 1)), (1, .inr (.inr 2)), (2, .inr (.inr 98)), (3, .inr (.inr 143)), (4, .inl x4)] (v ++ [.inl y0]) M' Q)) :
    m_Wp i_L_law 843 kc ks [(0, .inr (.inr 1)), (1, .inr (.inr 2)), (2, .inr (.inr 98)), (3, .inr (.inr 143)), (4, .inl x4)] [.inl y0] (144, sh0 Ls, RR, I, L) Q := m_wp_of 7 [1497] h
set_option maxHeartbeats 4000000 in
set_option maxRecDepth 20000 in
theorem LW_853 {Ls kc ks : Nat} {RR : Nat → Nat → Nat} {I L : Nat → Nat → Int} {x4 y0 y1 : Int} {Q : List mV → mM → Prop}
    (h : ((y0 = y1 →
    m_Wp i_L_law 1497 kc ks [(0, .inr (.inr 1)), (1, .inr (.inr 2)), (2, .inr (.inr 98)), (3, .inr (.inr 143)), (4, .inl x4)] [] (144, sh0 Ls, RR, I, L) Q) ∧
   (¬ (y0 = y1) →
    ((0 : Int) = 0 ∨ (0 : Int) = 1) ∧
    Q [.inl 0] (144, sh0 Ls, RR, I, L)))) :
    m_Wp i_L_law 853 kc ks [(0, .inr (.inr 1)), (1, .inr (.inr 2)), (2, .inr (.inr 98)), (3, .inr (.inr 143)), (4, .inl x4)] [.inl y1, .inl y0] (144, sh0 Ls, RR, I, L) Q := m_wp_of 3 [1497] h
set_option maxHeartbeats 4000000 in
set_option maxRecDepth 20000 in
theorem LW_858 {Ls kc ks : Nat} {RR : Nat → Nat → Nat} {I L : Nat → Nat → Int} {x4 : Int} {Q : List mV → mM → Prop}
    (h : m_Call i_C_median [.inr (.inr 2)] (144, sh0 Ls, RR, I, L) (fun v M' =>
    m_Wp i_L_law 862 kc ks [(0, .inr (.inr 1)), (1, .inr (.inr 2)), (2, .inr (.inr 98)), (3, .inr (.inr 143)), (4, .inl x4)] (v ++ []) M' Q)) :
    m_Wp i_L_law 858 kc ks [(0, .inr (.inr 1)), (1, .inr (.inr 2)), (2, .inr (.inr 98)), (3, .inr (.inr 143)), (4, .inl x4)] [] (144, sh0 Ls, RR, I, L) Q := m_wp_of 2 [1497] h
set_option maxHeartbeats 4000000 in
set_option maxRecDepth 20000 in
theorem LW_862 {Ls kc ks : Nat} {RR : Nat → Nat → Nat} {I L : Nat → Nat → Int} {x4 y0 : Int} {Q : List mV → mM → Prop}
    (h : m_Call i_M_median [.inr (.inr 98)] (144, sh0 Ls, RR, I, L) (fun v M' =>
    m_Wp i_L_law 866 kc ks [(0, .inr (.inr 1)), (1, .inr (.inr 2)), (2, .inr (.inr 98)), (3, .inr (.inr 143)), (4, .inl x4)] (v ++ [.inl y0]) M' Q)) :
    m_Wp i_L_law 862 kc ks [(0, .inr (.inr 1)), (1, .inr (.inr 2)), (2, .inr (.inr 98)), (3, .inr (.inr 143)), (4, .inl x4)] [.inl y0] (144, sh0 Ls, RR, I, L) Q := m_wp_of 2 [1497] h
set_option maxHeartbeats 4000000 in
set_option maxRecDepth 20000 in
theorem LW_866 {Ls kc ks : Nat} {RR : Nat → Nat → Nat} {I L : Nat → Nat → Int} {x4 y0 y1 : Int} {Q : List mV → mM → Prop}
    (h : ((y0 = y1 →
    m_Wp i_L_law 1497 kc ks [(0, .inr (.inr 1)), (1, .inr (.inr 2)), (2, .inr (.inr 98)), (3, .inr (.inr 143)), (4, .inl x4)] [] (144, sh0 Ls, RR, I, L) Q) ∧
   (¬ (y0 = y1) →
    ((0 : Int) = 0 ∨ (0 : Int) = 1) ∧
    Q [.inl 0] (144, sh0 Ls, RR, I, L)))) :
    m_Wp i_L_law 866 kc ks [(0, .inr (.inr 1)), (1, .inr (.inr 2)), (2, .inr (.inr 98)), (3, .inr (.inr 143)), (4, .inl x4)] [.inl y1, .inl y0] (144, sh0 Ls, RR, I, L) Q := m_wp_of 3 [1497] h
set_option maxHeartbeats 4000000 in
set_option maxRecDepth 20000 in
theorem LW_871 {Ls kc ks : Nat} {RR : Nat → Nat → Nat} {I L : Nat → Nat → Int} {x4 : Int} {Q : List mV → mM → Prop}
    (h : (0 ≤ (wr (x4 + 1)) ∧ (wr (x4 + 1)) < (Ls : Nat)) ∧
  m_Call i_C_agree [.inr (.inr 2), .inl (I 1 (Int.toNat (wr (x4 + 1))))] (144, sh0 Ls, RR, I, L) (fun v M' =>
    m_Wp i_L_law 881 kc ks [(0, .inr (.inr 1)), (1, .inr (.inr 2)), (2, .inr (.inr 98)), (3, .inr (.inr 143)), (4, .inl x4)] (v ++ []) M' Q)) :
    m_Wp i_L_law 871 kc ks [(0, .inr (.inr 1)), (1, .inr (.inr 2)), (2, .inr (.inr 98)), (3, .inr (.inr 143)), (4, .inl x4)] [] (144, sh0 Ls, RR, I, L) Q := m_wp_of 7 [1497] h
set_option maxHeartbeats 4000000 in
set_option maxRecDepth 20000 in
theorem LW_881 {Ls kc ks : Nat} {RR : Nat → Nat → Nat} {I L : Nat → Nat → Int} {x4 y0 : Int} {Q : List mV → mM → Prop}
    (h : (0 ≤ (wr (x4 + 1)) ∧ (wr (x4 + 1)) < (Ls : Nat)) ∧
  m_Call i_M_agree [.inr (.inr 98), .inl (I 1 (Int.toNat (wr (x4 + 1))))] (144, sh0 Ls, RR, I, L) (fun v M' =>
    m_Wp i_L_law 891 kc ks [(0, .inr (.inr 1)), (1, .inr (.inr 2)), (2, .inr (.inr 98)), (3, .inr (.inr 143)), (4, .inl x4)] (v ++ [.inl y0]) M' Q)) :
    m_Wp i_L_law 881 kc ks [(0, .inr (.inr 1)), (1, .inr (.inr 2)), (2, .inr (.inr 98)), (3, .inr (.inr 143)), (4, .inl x4)] [.inl y0] (144, sh0 Ls, RR, I, L) Q := m_wp_of 7 [1497] h
set_option maxHeartbeats 4000000 in
set_option maxRecDepth 20000 in
theorem LW_891 {Ls kc ks : Nat} {RR : Nat → Nat → Nat} {I L : Nat → Nat → Int} {x4 y0 y1 : Int} {Q : List mV → mM → Prop}
    (h : ((y0 = y1 →
    m_Wp i_L_law 1497 kc ks [(0, .inr (.inr 1)), (1, .inr (.inr 2)), (2, .inr (.inr 98)), (3, .inr (.inr 143)), (4, .inl x4)] [] (144, sh0 Ls, RR, I, L) Q) ∧
   (¬ (y0 = y1) →
    ((0 : Int) = 0 ∨ (0 : Int) = 1) ∧
    Q [.inl 0] (144, sh0 Ls, RR, I, L)))) :
    m_Wp i_L_law 891 kc ks [(0, .inr (.inr 1)), (1, .inr (.inr 2)), (2, .inr (.inr 98)), (3, .inr (.inr 143)), (4, .inl x4)] [.inl y1, .inl y0] (144, sh0 Ls, RR, I, L) Q := m_wp_of 3 [1497] h
set_option maxHeartbeats 4000000 in
set_option maxRecDepth 20000 in
theorem LW_896 {Ls kc ks : Nat} {RR : Nat → Nat → Nat} {I L : Nat → Nat → Int} {x4 : Int} {Q : List mV → mM → Prop}
    (h : (0 ≤ (wr (x4 + 1)) ∧ (wr (x4 + 1)) < (Ls : Nat)) ∧
  m_Call i_C_needs [.inr (.inr 2), .inl (I 1 (Int.toNat (wr (x4 + 1))))] (144, sh0 Ls, RR, I, L) (fun v M' =>
    m_Wp i_L_law 906 kc ks [(0, .inr (.inr 1)), (1, .inr (.inr 2)), (2, .inr (.inr 98)), (3, .inr (.inr 143)), (4, .inl x4)] (v ++ []) M' Q)) :
    m_Wp i_L_law 896 kc ks [(0, .inr (.inr 1)), (1, .inr (.inr 2)), (2, .inr (.inr 98)), (3, .inr (.inr 143)), (4, .inl x4)] [] (144, sh0 Ls, RR, I, L) Q := m_wp_of 7 [1497] h
set_option maxHeartbeats 4000000 in
set_option maxRecDepth 20000 in
theorem LW_906 {Ls kc ks : Nat} {RR : Nat → Nat → Nat} {I L : Nat → Nat → Int} {x4 y0 : Int} {Q : List mV → mM → Prop}
    (h : (0 ≤ (wr (x4 + 1)) ∧ (wr (x4 + 1)) < (Ls : Nat)) ∧
  m_Call i_M_needs [.inr (.inr 98), .inl (I 1 (Int.toNat (wr (x4 + 1))))] (144, sh0 Ls, RR, I, L) (fun v M' =>
    m_Wp i_L_law 916 kc ks [(0, .inr (.inr 1)), (1, .inr (.inr 2)), (2, .inr (.inr 98)), (3, .inr (.inr 143)), (4, .inl x4)] (v ++ [.inl y0]) M' Q)) :
    m_Wp i_L_law 906 kc ks [(0, .inr (.inr 1)), (1, .inr (.inr 2)), (2, .inr (.inr 98)), (3, .inr (.inr 143)), (4, .inl x4)] [.inl y0] (144, sh0 Ls, RR, I, L) Q := m_wp_of 7 [1497] h
set_option maxHeartbeats 4000000 in
set_option maxRecDepth 20000 in
theorem LW_916 {Ls kc ks : Nat} {RR : Nat → Nat → Nat} {I L : Nat → Nat → Int} {x4 y0 y1 : Int} {Q : List mV → mM → Prop}
    (h : ((y0 = y1 →
    m_Wp i_L_law 1497 kc ks [(0, .inr (.inr 1)), (1, .inr (.inr 2)), (2, .inr (.inr 98)), (3, .inr (.inr 143)), (4, .inl x4)] [] (144, sh0 Ls, RR, I, L) Q) ∧
   (¬ (y0 = y1) →
    ((0 : Int) = 0 ∨ (0 : Int) = 1) ∧
    Q [.inl 0] (144, sh0 Ls, RR, I, L)))) :
    m_Wp i_L_law 916 kc ks [(0, .inr (.inr 1)), (1, .inr (.inr 2)), (2, .inr (.inr 98)), (3, .inr (.inr 143)), (4, .inl x4)] [.inl y1, .inl y0] (144, sh0 Ls, RR, I, L) Q := m_wp_of 3 [1497] h
set_option maxHeartbeats 4000000 in
set_option maxRecDepth 20000 in
theorem LW_921 {Ls kc ks : Nat} {RR : Nat → Nat → Nat} {I L : Nat → Nat → Int} {x4 : Int} {Q : List mV → mM → Prop}
    (h : m_Call i_C_certain [.inr (.inr 2)] (144, sh0 Ls, RR, I, L) (fun v M' =>
    m_Wp i_L_law 925 kc ks [(0, .inr (.inr 1)), (1, .inr (.inr 2)), (2, .inr (.inr 98)), (3, .inr (.inr 143)), (4, .inl x4)] (v ++ []) M' Q)) :
    m_Wp i_L_law 921 kc ks [(0, .inr (.inr 1)), (1, .inr (.inr 2)), (2, .inr (.inr 98)), (3, .inr (.inr 143)), (4, .inl x4)] [] (144, sh0 Ls, RR, I, L) Q := m_wp_of 2 [1497] h
set_option maxHeartbeats 4000000 in
set_option maxRecDepth 20000 in
theorem LW_925 {Ls kc ks : Nat} {RR : Nat → Nat → Nat} {I L : Nat → Nat → Int} {x4 y0 : Int} {Q : List mV → mM → Prop}
    (h : m_Call i_M_certain [.inr (.inr 98)] (144, sh0 Ls, RR, I, L) (fun v M' =>
    m_Wp i_L_law 929 kc ks [(0, .inr (.inr 1)), (1, .inr (.inr 2)), (2, .inr (.inr 98)), (3, .inr (.inr 143)), (4, .inl x4)] (v ++ [.inl y0]) M' Q)) :
    m_Wp i_L_law 925 kc ks [(0, .inr (.inr 1)), (1, .inr (.inr 2)), (2, .inr (.inr 98)), (3, .inr (.inr 143)), (4, .inl x4)] [.inl y0] (144, sh0 Ls, RR, I, L) Q := m_wp_of 2 [1497] h
set_option maxHeartbeats 4000000 in
set_option maxRecDepth 20000 in
theorem LW_929 {Ls kc ks : Nat} {RR : Nat → Nat → Nat} {I L : Nat → Nat → Int} {x4 y0 y1 : Int} {Q : List mV → mM → Prop}
    (h : ((y0 = y1 →
    m_Wp i_L_law 1497 kc ks [(0, .inr (.inr 1)), (1, .inr (.inr 2)), (2, .inr (.inr 98)), (3, .inr (.inr 143)), (4, .inl x4)] [] (144, sh0 Ls, RR, I, L) Q) ∧
   (¬ (y0 = y1) →
    ((0 : Int) = 0 ∨ (0 : Int) = 1) ∧
    Q [.inl 0] (144, sh0 Ls, RR, I, L)))) :
    m_Wp i_L_law 929 kc ks [(0, .inr (.inr 1)), (1, .inr (.inr 2)), (2, .inr (.inr 98)), (3, .inr (.inr 143)), (4, .inl x4)] [.inl y1, .inl y0] (144, sh0 Ls, RR, I, L) Q := m_wp_of 3 [1497] h
set_option maxHeartbeats 4000000 in
set_option maxRecDepth 20000 in
theorem LW_934 {Ls kc ks : Nat} {RR : Nat → Nat → Nat} {I L : Nat → Nat → Int} {x4 : Int} {Q : List mV → mM → Prop}
    (h : m_Call i_C_latest [.inr (.inr 2)] (144, sh0 Ls, RR, I, L) (fun v M' =>
    m_Wp i_L_law 938 kc ks [(0, .inr (.inr 1)), (1, .inr (.inr 2)), (2, .inr (.inr 98)), (3, .inr (.inr 143)), (4, .inl x4)] (v ++ []) M' Q)) :
    m_Wp i_L_law 934 kc ks [(0, .inr (.inr 1)), (1, .inr (.inr 2)), (2, .inr (.inr 98)), (3, .inr (.inr 143)), (4, .inl x4)] [] (144, sh0 Ls, RR, I, L) Q := m_wp_of 2 [1497] h
set_option maxHeartbeats 4000000 in
set_option maxRecDepth 20000 in
theorem LW_938 {Ls kc ks : Nat} {RR : Nat → Nat → Nat} {I L : Nat → Nat → Int} {x4 y0 : Int} {Q : List mV → mM → Prop}
    (h : m_Call i_M_latest [.inr (.inr 98)] (144, sh0 Ls, RR, I, L) (fun v M' =>
    m_Wp i_L_law 942 kc ks [(0, .inr (.inr 1)), (1, .inr (.inr 2)), (2, .inr (.inr 98)), (3, .inr (.inr 143)), (4, .inl x4)] (v ++ [.inl y0]) M' Q)) :
    m_Wp i_L_law 938 kc ks [(0, .inr (.inr 1)), (1, .inr (.inr 2)), (2, .inr (.inr 98)), (3, .inr (.inr 143)), (4, .inl x4)] [.inl y0] (144, sh0 Ls, RR, I, L) Q := m_wp_of 2 [1497] h
set_option maxHeartbeats 4000000 in
set_option maxRecDepth 20000 in
theorem LW_942 {Ls kc ks : Nat} {RR : Nat → Nat → Nat} {I L : Nat → Nat → Int} {x4 y0 y1 : Int} {Q : List mV → mM → Prop}
    (h : ((y0 = y1 →
    m_Wp i_L_law 1497 kc ks [(0, .inr (.inr 1)), (1, .inr (.inr 2)), (2, .inr (.inr 98)), (3, .inr (.inr 143)), (4, .inl x4)] [] (144, sh0 Ls, RR, I, L) Q) ∧
   (¬ (y0 = y1) →
    ((0 : Int) = 0 ∨ (0 : Int) = 1) ∧
    Q [.inl 0] (144, sh0 Ls, RR, I, L)))) :
    m_Wp i_L_law 942 kc ks [(0, .inr (.inr 1)), (1, .inr (.inr 2)), (2, .inr (.inr 98)), (3, .inr (.inr 143)), (4, .inl x4)] [.inl y1, .inl y0] (144, sh0 Ls, RR, I, L) Q := m_wp_of 3 [1497] h
set_option maxHeartbeats 4000000 in
set_option maxRecDepth 20000 in
theorem LW_947 {Ls kc ks : Nat} {RR : Nat → Nat → Nat} {I L : Nat → Nat → Int} {x4 : Int} {Q : List mV → mM → Prop}
    (h : (0 ≤ (wr (x4 + 1)) ∧ (wr (x4 + 1)) < (Ls : Nat)) ∧
  (0 ≤ (wr (x4 + 2)) ∧ (wr (x4 + 2)) < (Ls : Nat)) ∧
  m_Call i_C_rests [.inr (.inr 2), .inl (I 1 (Int.toNat (wr (x4 + 1)))), .inl (I 1 (Int.toNat (wr (x4 + 2))))] (144, sh0 Ls, RR, I, L) (fun v M' =>
    m_Wp i_L_law 963 kc ks [(0, .inr (.inr 1)), (1, .inr (.inr 2)), (2, .inr (.inr 98)), (3, .inr (.inr 143)), (4, .inl x4)] (v ++ []) M' Q)) :
    m_Wp i_L_law 947 kc ks [(0, .inr (.inr 1)), (1, .inr (.inr 2)), (2, .inr (.inr 98)), (3, .inr (.inr 143)), (4, .inl x4)] [] (144, sh0 Ls, RR, I, L) Q := m_wp_of 12 [1497] h
set_option maxHeartbeats 4000000 in
set_option maxRecDepth 20000 in
theorem LW_963 {Ls kc ks : Nat} {RR : Nat → Nat → Nat} {I L : Nat → Nat → Int} {x4 y0 : Int} {Q : List mV → mM → Prop}
    (h : (0 ≤ (wr (x4 + 1)) ∧ (wr (x4 + 1)) < (Ls : Nat)) ∧
  (0 ≤ (wr (x4 + 2)) ∧ (wr (x4 + 2)) < (Ls : Nat)) ∧
  m_Call i_M_rests [.inr (.inr 98), .inl (I 1 (Int.toNat (wr (x4 + 1)))), .inl (I 1 (Int.toNat (wr (x4 + 2))))] (144, sh0 Ls, RR, I, L) (fun v M' =>
    m_Wp i_L_law 979 kc ks [(0, .inr (.inr 1)), (1, .inr (.inr 2)), (2, .inr (.inr 98)), (3, .inr (.inr 143)), (4, .inl x4)] (v ++ [.inl y0]) M' Q)) :
    m_Wp i_L_law 963 kc ks [(0, .inr (.inr 1)), (1, .inr (.inr 2)), (2, .inr (.inr 98)), (3, .inr (.inr 143)), (4, .inl x4)] [.inl y0] (144, sh0 Ls, RR, I, L) Q := m_wp_of 12 [1497] h
set_option maxHeartbeats 4000000 in
set_option maxRecDepth 20000 in
theorem LW_979 {Ls kc ks : Nat} {RR : Nat → Nat → Nat} {I L : Nat → Nat → Int} {x4 y0 y1 : Int} {Q : List mV → mM → Prop}
    (h : ((y0 = y1 →
    m_Wp i_L_law 1497 kc ks [(0, .inr (.inr 1)), (1, .inr (.inr 2)), (2, .inr (.inr 98)), (3, .inr (.inr 143)), (4, .inl x4)] [] (144, sh0 Ls, RR, I, L) Q) ∧
   (¬ (y0 = y1) →
    ((0 : Int) = 0 ∨ (0 : Int) = 1) ∧
    Q [.inl 0] (144, sh0 Ls, RR, I, L)))) :
    m_Wp i_L_law 979 kc ks [(0, .inr (.inr 1)), (1, .inr (.inr 2)), (2, .inr (.inr 98)), (3, .inr (.inr 143)), (4, .inl x4)] [.inl y1, .inl y0] (144, sh0 Ls, RR, I, L) Q := m_wp_of 3 [1497] h
set_option maxHeartbeats 4000000 in
set_option maxRecDepth 20000 in
theorem LW_984 {Ls kc ks : Nat} {RR : Nat → Nat → Nat} {I L : Nat → Nat → Int} {x4 : Int} {Q : List mV → mM → Prop}
    (h : (0 ≤ (wr (x4 + 1)) ∧ (wr (x4 + 1)) < (Ls : Nat)) ∧
  (0 ≤ (wr (x4 + 2)) ∧ (wr (x4 + 2)) < (Ls : Nat)) ∧
  (0 ≤ (wr (x4 + 3)) ∧ (wr (x4 + 3)) < (Ls : Nat)) ∧
  m_Call i_C_rest [.inr (.inr 2), .inl (I 1 (Int.toNat (wr (x4 + 1)))), .inl (I 1 (Int.toNat (wr (x4 + 2)))), .inl (I 1 (Int.toNat (wr (x4 + 3))))] (144, sh0 Ls, RR, I, L) (fun v M' =>
    m_Wp i_L_law 1006 kc ks [(0, .inr (.inr 1)), (1, .inr (.inr 2)), (2, .inr (.inr 98)), (3, .inr (.inr 143)), (4, .inl x4)] (v ++ []) M' Q)) :
    m_Wp i_L_law 984 kc ks [(0, .inr (.inr 1)), (1, .inr (.inr 2)), (2, .inr (.inr 98)), (3, .inr (.inr 143)), (4, .inl x4)] [] (144, sh0 Ls, RR, I, L) Q := m_wp_of 17 [1497] h
set_option maxHeartbeats 4000000 in
set_option maxRecDepth 20000 in
theorem LW_1006 {Ls kc ks : Nat} {RR : Nat → Nat → Nat} {I L : Nat → Nat → Int} {x4 y0 : Int} {Q : List mV → mM → Prop}
    (h : (0 ≤ (wr (x4 + 1)) ∧ (wr (x4 + 1)) < (Ls : Nat)) ∧
  (0 ≤ (wr (x4 + 2)) ∧ (wr (x4 + 2)) < (Ls : Nat)) ∧
  (0 ≤ (wr (x4 + 3)) ∧ (wr (x4 + 3)) < (Ls : Nat)) ∧
  m_Call i_M_rest [.inr (.inr 98), .inl (I 1 (Int.toNat (wr (x4 + 1)))), .inl (I 1 (Int.toNat (wr (x4 + 2)))), .inl (I 1 (Int.toNat (wr (x4 + 3))))] (144, sh0 Ls, RR, I, L) (fun v M' =>
    m_Wp i_L_law 1028 kc ks [(0, .inr (.inr 1)), (1, .inr (.inr 2)), (2, .inr (.inr 98)), (3, .inr (.inr 143)), (4, .inl x4)] (v ++ [.inl y0]) M' Q)) :
    m_Wp i_L_law 1006 kc ks [(0, .inr (.inr 1)), (1, .inr (.inr 2)), (2, .inr (.inr 98)), (3, .inr (.inr 143)), (4, .inl x4)] [.inl y0] (144, sh0 Ls, RR, I, L) Q := m_wp_of 17 [1497] h
set_option maxHeartbeats 4000000 in
set_option maxRecDepth 20000 in
theorem LW_1028 {Ls kc ks : Nat} {RR : Nat → Nat → Nat} {I L : Nat → Nat → Int} {x4 y0 y1 : Int} {Q : List mV → mM → Prop}
    (h : ((y0 = y1 →
    m_Wp i_L_law 1497 kc ks [(0, .inr (.inr 1)), (1, .inr (.inr 2)), (2, .inr (.inr 98)), (3, .inr (.inr 143)), (4, .inl x4)] [] (144, sh0 Ls, RR, I, L) Q) ∧
   (¬ (y0 = y1) →
    ((0 : Int) = 0 ∨ (0 : Int) = 1) ∧
    Q [.inl 0] (144, sh0 Ls, RR, I, L)))) :
    m_Wp i_L_law 1028 kc ks [(0, .inr (.inr 1)), (1, .inr (.inr 2)), (2, .inr (.inr 98)), (3, .inr (.inr 143)), (4, .inl x4)] [.inl y1, .inl y0] (144, sh0 Ls, RR, I, L) Q := m_wp_of 3 [1497] h
set_option maxHeartbeats 4000000 in
set_option maxRecDepth 20000 in
theorem LW_1033 {Ls kc ks : Nat} {RR : Nat → Nat → Nat} {I L : Nat → Nat → Int} {x4 : Int} {Q : List mV → mM → Prop}
    (h : (0 ≤ (wr (x4 + 1)) ∧ (wr (x4 + 1)) < (Ls : Nat)) ∧
  (0 ≤ (wr (x4 + 2)) ∧ (wr (x4 + 2)) < (Ls : Nat)) ∧
  m_Call i_C_apart [.inr (.inr 2), .inl (I 1 (Int.toNat (wr (x4 + 1)))), .inl (I 1 (Int.toNat (wr (x4 + 2))))] (144, sh0 Ls, RR, I, L) (fun v M' =>
    m_Wp i_L_law 1049 kc ks [(0, .inr (.inr 1)), (1, .inr (.inr 2)), (2, .inr (.inr 98)), (3, .inr (.inr 143)), (4, .inl x4)] (v ++ []) M' Q)) :
    m_Wp i_L_law 1033 kc ks [(0, .inr (.inr 1)), (1, .inr (.inr 2)), (2, .inr (.inr 98)), (3, .inr (.inr 143)), (4, .inl x4)] [] (144, sh0 Ls, RR, I, L) Q := m_wp_of 12 [1497] h
set_option maxHeartbeats 4000000 in
set_option maxRecDepth 20000 in
theorem LW_1049 {Ls kc ks : Nat} {RR : Nat → Nat → Nat} {I L : Nat → Nat → Int} {x4 y0 : Int} {Q : List mV → mM → Prop}
    (h : (0 ≤ (wr (x4 + 1)) ∧ (wr (x4 + 1)) < (Ls : Nat)) ∧
  (0 ≤ (wr (x4 + 2)) ∧ (wr (x4 + 2)) < (Ls : Nat)) ∧
  m_Call i_M_apart [.inr (.inr 98), .inl (I 1 (Int.toNat (wr (x4 + 1)))), .inl (I 1 (Int.toNat (wr (x4 + 2))))] (144, sh0 Ls, RR, I, L) (fun v M' =>
    m_Wp i_L_law 1065 kc ks [(0, .inr (.inr 1)), (1, .inr (.inr 2)), (2, .inr (.inr 98)), (3, .inr (.inr 143)), (4, .inl x4)] (v ++ [.inl y0]) M' Q)) :
    m_Wp i_L_law 1049 kc ks [(0, .inr (.inr 1)), (1, .inr (.inr 2)), (2, .inr (.inr 98)), (3, .inr (.inr 143)), (4, .inl x4)] [.inl y0] (144, sh0 Ls, RR, I, L) Q := m_wp_of 12 [1497] h
set_option maxHeartbeats 4000000 in
set_option maxRecDepth 20000 in
theorem LW_1065 {Ls kc ks : Nat} {RR : Nat → Nat → Nat} {I L : Nat → Nat → Int} {x4 y0 y1 : Int} {Q : List mV → mM → Prop}
    (h : ((y0 = y1 →
    m_Wp i_L_law 1497 kc ks [(0, .inr (.inr 1)), (1, .inr (.inr 2)), (2, .inr (.inr 98)), (3, .inr (.inr 143)), (4, .inl x4)] [] (144, sh0 Ls, RR, I, L) Q) ∧
   (¬ (y0 = y1) →
    ((0 : Int) = 0 ∨ (0 : Int) = 1) ∧
    Q [.inl 0] (144, sh0 Ls, RR, I, L)))) :
    m_Wp i_L_law 1065 kc ks [(0, .inr (.inr 1)), (1, .inr (.inr 2)), (2, .inr (.inr 98)), (3, .inr (.inr 143)), (4, .inl x4)] [.inl y1, .inl y0] (144, sh0 Ls, RR, I, L) Q := m_wp_of 3 [1497] h
set_option maxHeartbeats 4000000 in
set_option maxRecDepth 20000 in
theorem LW_1070 {Ls kc ks : Nat} {RR : Nat → Nat → Nat} {I L : Nat → Nat → Int} {x4 : Int} {Q : List mV → mM → Prop}
    (h : m_Call i_C_quiet [.inr (.inr 2)] (144, sh0 Ls, RR, I, L) (fun v M' =>
    m_Wp i_L_law 1074 kc ks [(0, .inr (.inr 1)), (1, .inr (.inr 2)), (2, .inr (.inr 98)), (3, .inr (.inr 143)), (4, .inl x4)] (v ++ []) M' Q)) :
    m_Wp i_L_law 1070 kc ks [(0, .inr (.inr 1)), (1, .inr (.inr 2)), (2, .inr (.inr 98)), (3, .inr (.inr 143)), (4, .inl x4)] [] (144, sh0 Ls, RR, I, L) Q := m_wp_of 2 [1497] h
set_option maxHeartbeats 4000000 in
set_option maxRecDepth 20000 in
theorem LW_1074 {Ls kc ks : Nat} {RR : Nat → Nat → Nat} {I L : Nat → Nat → Int} {x4 y0 : Int} {Q : List mV → mM → Prop}
    (h : m_Call i_M_quiet [.inr (.inr 98)] (144, sh0 Ls, RR, I, L) (fun v M' =>
    m_Wp i_L_law 1078 kc ks [(0, .inr (.inr 1)), (1, .inr (.inr 2)), (2, .inr (.inr 98)), (3, .inr (.inr 143)), (4, .inl x4)] (v ++ [.inl y0]) M' Q)) :
    m_Wp i_L_law 1074 kc ks [(0, .inr (.inr 1)), (1, .inr (.inr 2)), (2, .inr (.inr 98)), (3, .inr (.inr 143)), (4, .inl x4)] [.inl y0] (144, sh0 Ls, RR, I, L) Q := m_wp_of 2 [1497] h
set_option maxHeartbeats 4000000 in
set_option maxRecDepth 20000 in
theorem LW_1078 {Ls kc ks : Nat} {RR : Nat → Nat → Nat} {I L : Nat → Nat → Int} {x4 y0 y1 : Int} {Q : List mV → mM → Prop}
    (h : ((y0 = y1 →
    m_Wp i_L_law 1497 kc ks [(0, .inr (.inr 1)), (1, .inr (.inr 2)), (2, .inr (.inr 98)), (3, .inr (.inr 143)), (4, .inl x4)] [] (144, sh0 Ls, RR, I, L) Q) ∧
   (¬ (y0 = y1) →
    ((0 : Int) = 0 ∨ (0 : Int) = 1) ∧
    Q [.inl 0] (144, sh0 Ls, RR, I, L)))) :
    m_Wp i_L_law 1078 kc ks [(0, .inr (.inr 1)), (1, .inr (.inr 2)), (2, .inr (.inr 98)), (3, .inr (.inr 143)), (4, .inl x4)] [.inl y1, .inl y0] (144, sh0 Ls, RR, I, L) Q := m_wp_of 3 [1497] h
set_option maxHeartbeats 4000000 in
set_option maxRecDepth 20000 in
theorem LW_1083 {Ls kc ks : Nat} {RR : Nat → Nat → Nat} {I L : Nat → Nat → Int} {x4 : Int} {Q : List mV → mM → Prop}
    (h : (0 ≤ (wr (x4 + 1)) ∧ (wr (x4 + 1)) < (Ls : Nat)) ∧
  m_Call i_C_firstMissed [.inr (.inr 2), .inl (I 1 (Int.toNat (wr (x4 + 1))))] (144, sh0 Ls, RR, I, L) (fun v M' =>
    m_Wp i_L_law 1093 kc ks [(0, .inr (.inr 1)), (1, .inr (.inr 2)), (2, .inr (.inr 98)), (3, .inr (.inr 143)), (4, .inl x4)] (v ++ []) M' Q)) :
    m_Wp i_L_law 1083 kc ks [(0, .inr (.inr 1)), (1, .inr (.inr 2)), (2, .inr (.inr 98)), (3, .inr (.inr 143)), (4, .inl x4)] [] (144, sh0 Ls, RR, I, L) Q := m_wp_of 7 [1497] h
set_option maxHeartbeats 4000000 in
set_option maxRecDepth 20000 in
theorem LW_1093 {Ls kc ks : Nat} {RR : Nat → Nat → Nat} {I L : Nat → Nat → Int} {x4 y0 : Int} {Q : List mV → mM → Prop}
    (h : (0 ≤ (wr (x4 + 1)) ∧ (wr (x4 + 1)) < (Ls : Nat)) ∧
  m_Call i_M_firstMissed [.inr (.inr 98), .inl (I 1 (Int.toNat (wr (x4 + 1))))] (144, sh0 Ls, RR, I, L) (fun v M' =>
    m_Wp i_L_law 1103 kc ks [(0, .inr (.inr 1)), (1, .inr (.inr 2)), (2, .inr (.inr 98)), (3, .inr (.inr 143)), (4, .inl x4)] (v ++ [.inl y0]) M' Q)) :
    m_Wp i_L_law 1093 kc ks [(0, .inr (.inr 1)), (1, .inr (.inr 2)), (2, .inr (.inr 98)), (3, .inr (.inr 143)), (4, .inl x4)] [.inl y0] (144, sh0 Ls, RR, I, L) Q := m_wp_of 7 [1497] h
set_option maxHeartbeats 4000000 in
set_option maxRecDepth 20000 in
theorem LW_1103 {Ls kc ks : Nat} {RR : Nat → Nat → Nat} {I L : Nat → Nat → Int} {x4 y0 y1 : Int} {Q : List mV → mM → Prop}
    (h : ((y0 = y1 →
    m_Wp i_L_law 1497 kc ks [(0, .inr (.inr 1)), (1, .inr (.inr 2)), (2, .inr (.inr 98)), (3, .inr (.inr 143)), (4, .inl x4)] [] (144, sh0 Ls, RR, I, L) Q) ∧
   (¬ (y0 = y1) →
    ((0 : Int) = 0 ∨ (0 : Int) = 1) ∧
    Q [.inl 0] (144, sh0 Ls, RR, I, L)))) :
    m_Wp i_L_law 1103 kc ks [(0, .inr (.inr 1)), (1, .inr (.inr 2)), (2, .inr (.inr 98)), (3, .inr (.inr 143)), (4, .inl x4)] [.inl y1, .inl y0] (144, sh0 Ls, RR, I, L) Q := m_wp_of 3 [1497] h
set_option maxHeartbeats 4000000 in
set_option maxRecDepth 20000 in
theorem LW_1108 {Ls kc ks : Nat} {RR : Nat → Nat → Nat} {I L : Nat → Nat → Int} {x4 : Int} {Q : List mV → mM → Prop}
    (h : (0 ≤ (wr (x4 + 1)) ∧ (wr (x4 + 1)) < (Ls : Nat)) ∧
  m_Call i_C_longest [.inr (.inr 2), .inl (I 1 (Int.toNat (wr (x4 + 1))))] (144, sh0 Ls, RR, I, L) (fun v M' =>
    m_Wp i_L_law 1118 kc ks [(0, .inr (.inr 1)), (1, .inr (.inr 2)), (2, .inr (.inr 98)), (3, .inr (.inr 143)), (4, .inl x4)] (v ++ []) M' Q)) :
    m_Wp i_L_law 1108 kc ks [(0, .inr (.inr 1)), (1, .inr (.inr 2)), (2, .inr (.inr 98)), (3, .inr (.inr 143)), (4, .inl x4)] [] (144, sh0 Ls, RR, I, L) Q := m_wp_of 7 [1497] h
set_option maxHeartbeats 4000000 in
set_option maxRecDepth 20000 in
theorem LW_1118 {Ls kc ks : Nat} {RR : Nat → Nat → Nat} {I L : Nat → Nat → Int} {x4 y0 : Int} {Q : List mV → mM → Prop}
    (h : (0 ≤ (wr (x4 + 1)) ∧ (wr (x4 + 1)) < (Ls : Nat)) ∧
  m_Call i_M_longest [.inr (.inr 98), .inl (I 1 (Int.toNat (wr (x4 + 1))))] (144, sh0 Ls, RR, I, L) (fun v M' =>
    m_Wp i_L_law 1128 kc ks [(0, .inr (.inr 1)), (1, .inr (.inr 2)), (2, .inr (.inr 98)), (3, .inr (.inr 143)), (4, .inl x4)] (v ++ [.inl y0]) M' Q)) :
    m_Wp i_L_law 1118 kc ks [(0, .inr (.inr 1)), (1, .inr (.inr 2)), (2, .inr (.inr 98)), (3, .inr (.inr 143)), (4, .inl x4)] [.inl y0] (144, sh0 Ls, RR, I, L) Q := m_wp_of 7 [1497] h
set_option maxHeartbeats 4000000 in
set_option maxRecDepth 20000 in
theorem LW_1128 {Ls kc ks : Nat} {RR : Nat → Nat → Nat} {I L : Nat → Nat → Int} {x4 y0 y1 : Int} {Q : List mV → mM → Prop}
    (h : ((y0 = y1 →
    m_Wp i_L_law 1497 kc ks [(0, .inr (.inr 1)), (1, .inr (.inr 2)), (2, .inr (.inr 98)), (3, .inr (.inr 143)), (4, .inl x4)] [] (144, sh0 Ls, RR, I, L) Q) ∧
   (¬ (y0 = y1) →
    ((0 : Int) = 0 ∨ (0 : Int) = 1) ∧
    Q [.inl 0] (144, sh0 Ls, RR, I, L)))) :
    m_Wp i_L_law 1128 kc ks [(0, .inr (.inr 1)), (1, .inr (.inr 2)), (2, .inr (.inr 98)), (3, .inr (.inr 143)), (4, .inl x4)] [.inl y1, .inl y0] (144, sh0 Ls, RR, I, L) Q := m_wp_of 3 [1497] h
set_option maxHeartbeats 4000000 in
set_option maxRecDepth 20000 in
theorem LW_1133 {Ls kc ks : Nat} {RR : Nat → Nat → Nat} {I L : Nat → Nat → Int} {x4 : Int} {Q : List mV → mM → Prop}
    (h : (0 ≤ (wr (x4 + 1)) ∧ (wr (x4 + 1)) < (Ls : Nat)) ∧
  m_Call i_C_queue [.inr (.inr 2), .inl (I 1 (Int.toNat (wr (x4 + 1))))] (144, sh0 Ls, RR, I, L) (fun v M' =>
    m_Wp i_L_law 1143 kc ks [(0, .inr (.inr 1)), (1, .inr (.inr 2)), (2, .inr (.inr 98)), (3, .inr (.inr 143)), (4, .inl x4)] (v ++ []) M' Q)) :
    m_Wp i_L_law 1133 kc ks [(0, .inr (.inr 1)), (1, .inr (.inr 2)), (2, .inr (.inr 98)), (3, .inr (.inr 143)), (4, .inl x4)] [] (144, sh0 Ls, RR, I, L) Q := m_wp_of 7 [1497] h
set_option maxHeartbeats 4000000 in
set_option maxRecDepth 20000 in
theorem LW_1143 {Ls kc ks : Nat} {RR : Nat → Nat → Nat} {I L : Nat → Nat → Int} {x4 y0 : Int} {Q : List mV → mM → Prop}
    (h : (0 ≤ (wr (x4 + 1)) ∧ (wr (x4 + 1)) < (Ls : Nat)) ∧
  m_Call i_M_queue [.inr (.inr 98), .inl (I 1 (Int.toNat (wr (x4 + 1))))] (144, sh0 Ls, RR, I, L) (fun v M' =>
    m_Wp i_L_law 1153 kc ks [(0, .inr (.inr 1)), (1, .inr (.inr 2)), (2, .inr (.inr 98)), (3, .inr (.inr 143)), (4, .inl x4)] (v ++ [.inl y0]) M' Q)) :
    m_Wp i_L_law 1143 kc ks [(0, .inr (.inr 1)), (1, .inr (.inr 2)), (2, .inr (.inr 98)), (3, .inr (.inr 143)), (4, .inl x4)] [.inl y0] (144, sh0 Ls, RR, I, L) Q := m_wp_of 7 [1497] h
set_option maxHeartbeats 4000000 in
set_option maxRecDepth 20000 in
theorem LW_1153 {Ls kc ks : Nat} {RR : Nat → Nat → Nat} {I L : Nat → Nat → Int} {x4 y0 y1 : Int} {Q : List mV → mM → Prop}
    (h : ((y0 = y1 →
    m_Wp i_L_law 1497 kc ks [(0, .inr (.inr 1)), (1, .inr (.inr 2)), (2, .inr (.inr 98)), (3, .inr (.inr 143)), (4, .inl x4)] [] (144, sh0 Ls, RR, I, L) Q) ∧
   (¬ (y0 = y1) →
    ((0 : Int) = 0 ∨ (0 : Int) = 1) ∧
    Q [.inl 0] (144, sh0 Ls, RR, I, L)))) :
    m_Wp i_L_law 1153 kc ks [(0, .inr (.inr 1)), (1, .inr (.inr 2)), (2, .inr (.inr 98)), (3, .inr (.inr 143)), (4, .inl x4)] [.inl y1, .inl y0] (144, sh0 Ls, RR, I, L) Q := m_wp_of 3 [1497] h
set_option maxHeartbeats 4000000 in
set_option maxRecDepth 20000 in
theorem LW_1158 {Ls kc ks : Nat} {RR : Nat → Nat → Nat} {I L : Nat → Nat → Int} {x4 : Int} {Q : List mV → mM → Prop}
    (h : (0 ≤ (wr (x4 + 1)) ∧ (wr (x4 + 1)) < (Ls : Nat)) ∧
  m_Call i_C_there [.inr (.inr 2), .inl (I 1 (Int.toNat (wr (x4 + 1))))] (144, sh0 Ls, RR, I, L) (fun v M' =>
    m_Wp i_L_law 1168 kc ks [(0, .inr (.inr 1)), (1, .inr (.inr 2)), (2, .inr (.inr 98)), (3, .inr (.inr 143)), (4, .inl x4)] (v ++ []) M' Q)) :
    m_Wp i_L_law 1158 kc ks [(0, .inr (.inr 1)), (1, .inr (.inr 2)), (2, .inr (.inr 98)), (3, .inr (.inr 143)), (4, .inl x4)] [] (144, sh0 Ls, RR, I, L) Q := m_wp_of 7 [1497] h
set_option maxHeartbeats 4000000 in
set_option maxRecDepth 20000 in
theorem LW_1168 {Ls kc ks : Nat} {RR : Nat → Nat → Nat} {I L : Nat → Nat → Int} {x4 y0 : Int} {Q : List mV → mM → Prop}
    (h : (0 ≤ (wr (x4 + 1)) ∧ (wr (x4 + 1)) < (Ls : Nat)) ∧
  m_Call i_M_there [.inr (.inr 98), .inl (I 1 (Int.toNat (wr (x4 + 1))))] (144, sh0 Ls, RR, I, L) (fun v M' =>
    m_Wp i_L_law 1178 kc ks [(0, .inr (.inr 1)), (1, .inr (.inr 2)), (2, .inr (.inr 98)), (3, .inr (.inr 143)), (4, .inl x4)] (v ++ [.inl y0]) M' Q)) :
    m_Wp i_L_law 1168 kc ks [(0, .inr (.inr 1)), (1, .inr (.inr 2)), (2, .inr (.inr 98)), (3, .inr (.inr 143)), (4, .inl x4)] [.inl y0] (144, sh0 Ls, RR, I, L) Q := m_wp_of 7 [1497] h
set_option maxHeartbeats 4000000 in
set_option maxRecDepth 20000 in
theorem LW_1178 {Ls kc ks : Nat} {RR : Nat → Nat → Nat} {I L : Nat → Nat → Int} {x4 y0 y1 : Int} {Q : List mV → mM → Prop}
    (h : ((y0 = y1 →
    m_Wp i_L_law 1497 kc ks [(0, .inr (.inr 1)), (1, .inr (.inr 2)), (2, .inr (.inr 98)), (3, .inr (.inr 143)), (4, .inl x4)] [] (144, sh0 Ls, RR, I, L) Q) ∧
   (¬ (y0 = y1) →
    ((0 : Int) = 0 ∨ (0 : Int) = 1) ∧
    Q [.inl 0] (144, sh0 Ls, RR, I, L)))) :
    m_Wp i_L_law 1178 kc ks [(0, .inr (.inr 1)), (1, .inr (.inr 2)), (2, .inr (.inr 98)), (3, .inr (.inr 143)), (4, .inl x4)] [.inl y1, .inl y0] (144, sh0 Ls, RR, I, L) Q := m_wp_of 3 [1497] h
set_option maxHeartbeats 4000000 in
set_option maxRecDepth 20000 in
theorem LW_1183 {Ls kc ks : Nat} {RR : Nat → Nat → Nat} {I L : Nat → Nat → Int} {x4 : Int} {Q : List mV → mM → Prop}
    (h : (0 ≤ (wr (x4 + 1)) ∧ (wr (x4 + 1)) < (Ls : Nat)) ∧
  (0 ≤ (wr (x4 + 2)) ∧ (wr (x4 + 2)) < (Ls : Nat)) ∧
  (0 ≤ (wr (x4 + 3)) ∧ (wr (x4 + 3)) < (Ls : Nat)) ∧
  (0 ≤ (wr (x4 + 4)) ∧ (wr (x4 + 4)) < (Ls : Nat)) ∧
  (((I 1 (Int.toNat (wr (x4 + 4)))) = (0 : Int) →
    m_Call i_C_see [.inr (.inr 2), .inl (I 1 (Int.toNat (wr (x4 + 1)))), .inl (I 1 (Int.toNat (wr (x4 + 2)))), .inl (I 1 (Int.toNat (wr (x4 + 3)))), .inl 0] (144, sh0 Ls, RR, I, L) (fun v M' =>
      m_Wp i_L_law 1219 kc ks [(0, .inr (.inr 1)), (1, .inr (.inr 2)), (2, .inr (.inr 98)), (3, .inr (.inr 143)), (4, .inl x4)] (v ++ []) M' Q)) ∧
   (¬ ((I 1 (Int.toNat (wr (x4 + 4)))) = (0 : Int)) →
    m_Call i_C_see [.inr (.inr 2), .inl (I 1 (Int.toNat (wr (x4 + 1)))), .inl (I 1 (Int.toNat (wr (x4 + 2)))), .inl (I 1 (Int.toNat (wr (x4 + 3)))), .inl 1] (144, sh0 Ls, RR, I, L) (fun v M' =>
      m_Wp i_L_law 1219 kc ks [(0, .inr (.inr 1)), (1, .inr (.inr 2)), (2, .inr (.inr 98)), (3, .inr (.inr 143)), (4, .inl x4)] (v ++ []) M' Q)))) :
    m_Wp i_L_law 1183 kc ks [(0, .inr (.inr 1)), (1, .inr (.inr 2)), (2, .inr (.inr 98)), (3, .inr (.inr 143)), (4, .inl x4)] [] (144, sh0 Ls, RR, I, L) Q := m_wp_of 26 [1497] h
set_option maxHeartbeats 4000000 in
set_option maxRecDepth 20000 in
theorem LW_1219 {Ls kc ks : Nat} {RR : Nat → Nat → Nat} {I L : Nat → Nat → Int} {x4 y0 : Int} {Q : List mV → mM → Prop}
    (h : (0 ≤ (wr (x4 + 1)) ∧ (wr (x4 + 1)) < (Ls : Nat)) ∧
  (0 ≤ (wr (x4 + 2)) ∧ (wr (x4 + 2)) < (Ls : Nat)) ∧
  (0 ≤ (wr (x4 + 3)) ∧ (wr (x4 + 3)) < (Ls : Nat)) ∧
  (0 ≤ (wr (x4 + 4)) ∧ (wr (x4 + 4)) < (Ls : Nat)) ∧
  (((I 1 (Int.toNat (wr (x4 + 4)))) = (0 : Int) →
    m_Call i_M_see [.inr (.inr 98), .inl (I 1 (Int.toNat (wr (x4 + 1)))), .inl (I 1 (Int.toNat (wr (x4 + 2)))), .inl (I 1 (Int.toNat (wr (x4 + 3)))), .inl 0] (144, sh0 Ls, RR, I, L) (fun v M' =>
      m_Wp i_L_law 1255 kc ks [(0, .inr (.inr 1)), (1, .inr (.inr 2)), (2, .inr (.inr 98)), (3, .inr (.inr 143)), (4, .inl x4)] (v ++ [.inl y0]) M' Q)) ∧
   (¬ ((I 1 (Int.toNat (wr (x4 + 4)))) = (0 : Int)) →
    m_Call i_M_see [.inr (.inr 98), .inl (I 1 (Int.toNat (wr (x4 + 1)))), .inl (I 1 (Int.toNat (wr (x4 + 2)))), .inl (I 1 (Int.toNat (wr (x4 + 3)))), .inl 1] (144, sh0 Ls, RR, I, L) (fun v M' =>
      m_Wp i_L_law 1255 kc ks [(0, .inr (.inr 1)), (1, .inr (.inr 2)), (2, .inr (.inr 98)), (3, .inr (.inr 143)), (4, .inl x4)] (v ++ [.inl y0]) M' Q)))) :
    m_Wp i_L_law 1219 kc ks [(0, .inr (.inr 1)), (1, .inr (.inr 2)), (2, .inr (.inr 98)), (3, .inr (.inr 143)), (4, .inl x4)] [.inl y0] (144, sh0 Ls, RR, I, L) Q := m_wp_of 26 [1497] h
set_option maxHeartbeats 4000000 in
set_option maxRecDepth 20000 in
theorem LW_1255 {Ls kc ks : Nat} {RR : Nat → Nat → Nat} {I L : Nat → Nat → Int} {x4 y0 y1 : Int} {Q : List mV → mM → Prop}
    (h : ((y0 = y1 →
    m_Wp i_L_law 1497 kc ks [(0, .inr (.inr 1)), (1, .inr (.inr 2)), (2, .inr (.inr 98)), (3, .inr (.inr 143)), (4, .inl x4)] [] (144, sh0 Ls, RR, I, L) Q) ∧
   (¬ (y0 = y1) →
    ((0 : Int) = 0 ∨ (0 : Int) = 1) ∧
    Q [.inl 0] (144, sh0 Ls, RR, I, L)))) :
    m_Wp i_L_law 1255 kc ks [(0, .inr (.inr 1)), (1, .inr (.inr 2)), (2, .inr (.inr 98)), (3, .inr (.inr 143)), (4, .inl x4)] [.inl y1, .inl y0] (144, sh0 Ls, RR, I, L) Q := m_wp_of 3 [1497] h
set_option maxHeartbeats 4000000 in
set_option maxRecDepth 20000 in
theorem LW_1260 {Ls kc ks : Nat} {RR : Nat → Nat → Nat} {I L : Nat → Nat → Int} {x4 : Int} {Q : List mV → mM → Prop}
    (h : (0 ≤ (wr (x4 + 1)) ∧ (wr (x4 + 1)) < (Ls : Nat)) ∧
  m_Call i_C_strike [.inr (.inr 2), .inl (I 1 (Int.toNat (wr (x4 + 1))))] (144, sh0 Ls, RR, I, L) (fun v M' =>
    m_Wp i_L_law 1270 kc ks [(0, .inr (.inr 1)), (1, .inr (.inr 2)), (2, .inr (.inr 98)), (3, .inr (.inr 143)), (4, .inl x4)] (v ++ []) M' Q)) :
    m_Wp i_L_law 1260 kc ks [(0, .inr (.inr 1)), (1, .inr (.inr 2)), (2, .inr (.inr 98)), (3, .inr (.inr 143)), (4, .inl x4)] [] (144, sh0 Ls, RR, I, L) Q := m_wp_of 7 [1497] h
set_option maxHeartbeats 4000000 in
set_option maxRecDepth 20000 in
theorem LW_1270 {Ls kc ks : Nat} {RR : Nat → Nat → Nat} {I L : Nat → Nat → Int} {x4 y0 : Int} {Q : List mV → mM → Prop}
    (h : (0 ≤ (wr (x4 + 1)) ∧ (wr (x4 + 1)) < (Ls : Nat)) ∧
  m_Call i_M_strike [.inr (.inr 98), .inl (I 1 (Int.toNat (wr (x4 + 1))))] (144, sh0 Ls, RR, I, L) (fun v M' =>
    m_Wp i_L_law 1280 kc ks [(0, .inr (.inr 1)), (1, .inr (.inr 2)), (2, .inr (.inr 98)), (3, .inr (.inr 143)), (4, .inl x4)] (v ++ [.inl y0]) M' Q)) :
    m_Wp i_L_law 1270 kc ks [(0, .inr (.inr 1)), (1, .inr (.inr 2)), (2, .inr (.inr 98)), (3, .inr (.inr 143)), (4, .inl x4)] [.inl y0] (144, sh0 Ls, RR, I, L) Q := m_wp_of 7 [1497] h
set_option maxHeartbeats 4000000 in
set_option maxRecDepth 20000 in
theorem LW_1280 {Ls kc ks : Nat} {RR : Nat → Nat → Nat} {I L : Nat → Nat → Int} {x4 y0 y1 : Int} {Q : List mV → mM → Prop}
    (h : ((y0 = y1 →
    m_Wp i_L_law 1497 kc ks [(0, .inr (.inr 1)), (1, .inr (.inr 2)), (2, .inr (.inr 98)), (3, .inr (.inr 143)), (4, .inl x4)] [] (144, sh0 Ls, RR, I, L) Q) ∧
   (¬ (y0 = y1) →
    ((0 : Int) = 0 ∨ (0 : Int) = 1) ∧
    Q [.inl 0] (144, sh0 Ls, RR, I, L)))) :
    m_Wp i_L_law 1280 kc ks [(0, .inr (.inr 1)), (1, .inr (.inr 2)), (2, .inr (.inr 98)), (3, .inr (.inr 143)), (4, .inl x4)] [.inl y1, .inl y0] (144, sh0 Ls, RR, I, L) Q := m_wp_of 3 [1497] h
set_option maxHeartbeats 4000000 in
set_option maxRecDepth 20000 in
theorem LW_1285 {Ls kc ks : Nat} {RR : Nat → Nat → Nat} {I L : Nat → Nat → Int} {x4 : Int} {Q : List mV → mM → Prop}
    (h : (0 ≤ (wr (x4 + 1)) ∧ (wr (x4 + 1)) < (Ls : Nat)) ∧
  m_Call i_C_known [.inr (.inr 2), .inl (I 1 (Int.toNat (wr (x4 + 1))))] (144, sh0 Ls, RR, I, L) (fun v M' =>
    m_Wp i_L_law 1295 kc ks [(0, .inr (.inr 1)), (1, .inr (.inr 2)), (2, .inr (.inr 98)), (3, .inr (.inr 143)), (4, .inl x4)] (v ++ []) M' Q)) :
    m_Wp i_L_law 1285 kc ks [(0, .inr (.inr 1)), (1, .inr (.inr 2)), (2, .inr (.inr 98)), (3, .inr (.inr 143)), (4, .inl x4)] [] (144, sh0 Ls, RR, I, L) Q := m_wp_of 7 [1497] h
set_option maxHeartbeats 4000000 in
set_option maxRecDepth 20000 in
theorem LW_1295 {Ls kc ks : Nat} {RR : Nat → Nat → Nat} {I L : Nat → Nat → Int} {x4 y0 : Int} {Q : List mV → mM → Prop}
    (h : (0 ≤ (wr (x4 + 1)) ∧ (wr (x4 + 1)) < (Ls : Nat)) ∧
  m_Call i_M_known [.inr (.inr 98), .inl (I 1 (Int.toNat (wr (x4 + 1))))] (144, sh0 Ls, RR, I, L) (fun v M' =>
    m_Wp i_L_law 1305 kc ks [(0, .inr (.inr 1)), (1, .inr (.inr 2)), (2, .inr (.inr 98)), (3, .inr (.inr 143)), (4, .inl x4)] (v ++ [.inl y0]) M' Q)) :
    m_Wp i_L_law 1295 kc ks [(0, .inr (.inr 1)), (1, .inr (.inr 2)), (2, .inr (.inr 98)), (3, .inr (.inr 143)), (4, .inl x4)] [.inl y0] (144, sh0 Ls, RR, I, L) Q := m_wp_of 7 [1497] h
set_option maxHeartbeats 4000000 in
set_option maxRecDepth 20000 in
theorem LW_1305 {Ls kc ks : Nat} {RR : Nat → Nat → Nat} {I L : Nat → Nat → Int} {x4 y0 y1 : Int} {Q : List mV → mM → Prop}
    (h : ((y0 = y1 →
    m_Wp i_L_law 1497 kc ks [(0, .inr (.inr 1)), (1, .inr (.inr 2)), (2, .inr (.inr 98)), (3, .inr (.inr 143)), (4, .inl x4)] [] (144, sh0 Ls, RR, I, L) Q) ∧
   (¬ (y0 = y1) →
    ((0 : Int) = 0 ∨ (0 : Int) = 1) ∧
    Q [.inl 0] (144, sh0 Ls, RR, I, L)))) :
    m_Wp i_L_law 1305 kc ks [(0, .inr (.inr 1)), (1, .inr (.inr 2)), (2, .inr (.inr 98)), (3, .inr (.inr 143)), (4, .inl x4)] [.inl y1, .inl y0] (144, sh0 Ls, RR, I, L) Q := m_wp_of 3 [1497] h
set_option maxHeartbeats 4000000 in
set_option maxRecDepth 20000 in
theorem LW_1310 {Ls kc ks : Nat} {RR : Nat → Nat → Nat} {I L : Nat → Nat → Int} {x4 : Int} {Q : List mV → mM → Prop}
    (h : (0 ≤ (wr (x4 + 1)) ∧ (wr (x4 + 1)) < (Ls : Nat)) ∧
  m_Call i_C_rates [.inr (.inr 2), .inl (I 1 (Int.toNat (wr (x4 + 1))))] (144, sh0 Ls, RR, I, L) (fun v M' =>
    m_Wp i_L_law 1320 kc ks [(0, .inr (.inr 1)), (1, .inr (.inr 2)), (2, .inr (.inr 98)), (3, .inr (.inr 143)), (4, .inl x4)] (v ++ []) M' Q)) :
    m_Wp i_L_law 1310 kc ks [(0, .inr (.inr 1)), (1, .inr (.inr 2)), (2, .inr (.inr 98)), (3, .inr (.inr 143)), (4, .inl x4)] [] (144, sh0 Ls, RR, I, L) Q := m_wp_of 7 [1497] h
set_option maxHeartbeats 4000000 in
set_option maxRecDepth 20000 in
theorem LW_1320 {Ls kc ks : Nat} {RR : Nat → Nat → Nat} {I L : Nat → Nat → Int} {x4 y0 : Int} {Q : List mV → mM → Prop}
    (h : (0 ≤ (wr (x4 + 1)) ∧ (wr (x4 + 1)) < (Ls : Nat)) ∧
  m_Call i_M_rates [.inr (.inr 98), .inl (I 1 (Int.toNat (wr (x4 + 1))))] (144, sh0 Ls, RR, I, L) (fun v M' =>
    m_Wp i_L_law 1330 kc ks [(0, .inr (.inr 1)), (1, .inr (.inr 2)), (2, .inr (.inr 98)), (3, .inr (.inr 143)), (4, .inl x4)] (v ++ [.inl y0]) M' Q)) :
    m_Wp i_L_law 1320 kc ks [(0, .inr (.inr 1)), (1, .inr (.inr 2)), (2, .inr (.inr 98)), (3, .inr (.inr 143)), (4, .inl x4)] [.inl y0] (144, sh0 Ls, RR, I, L) Q := m_wp_of 7 [1497] h
set_option maxHeartbeats 4000000 in
set_option maxRecDepth 20000 in
theorem LW_1330 {Ls kc ks : Nat} {RR : Nat → Nat → Nat} {I L : Nat → Nat → Int} {x4 y0 y1 : Int} {Q : List mV → mM → Prop}
    (h : ((y0 = y1 →
    m_Wp i_L_law 1497 kc ks [(0, .inr (.inr 1)), (1, .inr (.inr 2)), (2, .inr (.inr 98)), (3, .inr (.inr 143)), (4, .inl x4)] [] (144, sh0 Ls, RR, I, L) Q) ∧
   (¬ (y0 = y1) →
    ((0 : Int) = 0 ∨ (0 : Int) = 1) ∧
    Q [.inl 0] (144, sh0 Ls, RR, I, L)))) :
    m_Wp i_L_law 1330 kc ks [(0, .inr (.inr 1)), (1, .inr (.inr 2)), (2, .inr (.inr 98)), (3, .inr (.inr 143)), (4, .inl x4)] [.inl y1, .inl y0] (144, sh0 Ls, RR, I, L) Q := m_wp_of 3 [1497] h
set_option maxHeartbeats 4000000 in
set_option maxRecDepth 20000 in
theorem LW_1335 {Ls kc ks : Nat} {RR : Nat → Nat → Nat} {I L : Nat → Nat → Int} {x4 : Int} {Q : List mV → mM → Prop}
    (h : (0 ≤ (wr (x4 + 1)) ∧ (wr (x4 + 1)) < (Ls : Nat)) ∧
  (0 ≤ (wr (x4 + 2)) ∧ (wr (x4 + 2)) < (Ls : Nat)) ∧
  (0 ≤ (wr (x4 + 3)) ∧ (wr (x4 + 3)) < (Ls : Nat)) ∧
  m_Call i_C_chance [.inr (.inr 2), .inl (I 1 (Int.toNat (wr (x4 + 1)))), .inl (I 1 (Int.toNat (wr (x4 + 2)))), .inl (I 1 (Int.toNat (wr (x4 + 3))))] (144, sh0 Ls, RR, I, L) (fun v M' =>
    m_Wp i_L_law 1357 kc ks [(0, .inr (.inr 1)), (1, .inr (.inr 2)), (2, .inr (.inr 98)), (3, .inr (.inr 143)), (4, .inl x4)] (v ++ []) M' Q)) :
    m_Wp i_L_law 1335 kc ks [(0, .inr (.inr 1)), (1, .inr (.inr 2)), (2, .inr (.inr 98)), (3, .inr (.inr 143)), (4, .inl x4)] [] (144, sh0 Ls, RR, I, L) Q := m_wp_of 17 [1497] h
set_option maxHeartbeats 4000000 in
set_option maxRecDepth 20000 in
theorem LW_1357 {Ls kc ks : Nat} {RR : Nat → Nat → Nat} {I L : Nat → Nat → Int} {x4 y0 : Int} {Q : List mV → mM → Prop}
    (h : (0 ≤ (wr (x4 + 1)) ∧ (wr (x4 + 1)) < (Ls : Nat)) ∧
  (0 ≤ (wr (x4 + 2)) ∧ (wr (x4 + 2)) < (Ls : Nat)) ∧
  (0 ≤ (wr (x4 + 3)) ∧ (wr (x4 + 3)) < (Ls : Nat)) ∧
  m_Call i_M_chance [.inr (.inr 98), .inl (I 1 (Int.toNat (wr (x4 + 1)))), .inl (I 1 (Int.toNat (wr (x4 + 2)))), .inl (I 1 (Int.toNat (wr (x4 + 3))))] (144, sh0 Ls, RR, I, L) (fun v M' =>
    m_Wp i_L_law 1379 kc ks [(0, .inr (.inr 1)), (1, .inr (.inr 2)), (2, .inr (.inr 98)), (3, .inr (.inr 143)), (4, .inl x4)] (v ++ [.inl y0]) M' Q)) :
    m_Wp i_L_law 1357 kc ks [(0, .inr (.inr 1)), (1, .inr (.inr 2)), (2, .inr (.inr 98)), (3, .inr (.inr 143)), (4, .inl x4)] [.inl y0] (144, sh0 Ls, RR, I, L) Q := m_wp_of 17 [1497] h
set_option maxHeartbeats 4000000 in
set_option maxRecDepth 20000 in
theorem LW_1379 {Ls kc ks : Nat} {RR : Nat → Nat → Nat} {I L : Nat → Nat → Int} {x4 y0 y1 : Int} {Q : List mV → mM → Prop}
    (h : ((y0 = y1 →
    m_Wp i_L_law 1497 kc ks [(0, .inr (.inr 1)), (1, .inr (.inr 2)), (2, .inr (.inr 98)), (3, .inr (.inr 143)), (4, .inl x4)] [] (144, sh0 Ls, RR, I, L) Q) ∧
   (¬ (y0 = y1) →
    ((0 : Int) = 0 ∨ (0 : Int) = 1) ∧
    Q [.inl 0] (144, sh0 Ls, RR, I, L)))) :
    m_Wp i_L_law 1379 kc ks [(0, .inr (.inr 1)), (1, .inr (.inr 2)), (2, .inr (.inr 98)), (3, .inr (.inr 143)), (4, .inl x4)] [.inl y1, .inl y0] (144, sh0 Ls, RR, I, L) Q := m_wp_of 3 [1497] h
set_option maxHeartbeats 4000000 in
set_option maxRecDepth 20000 in
theorem LW_1384 {Ls kc ks : Nat} {RR : Nat → Nat → Nat} {I L : Nat → Nat → Int} {x4 : Int} {Q : List mV → mM → Prop}
    (h : (0 ≤ (wr (x4 + 1)) ∧ (wr (x4 + 1)) < (Ls : Nat)) ∧
  (0 ≤ (wr (x4 + 2)) ∧ (wr (x4 + 2)) < (Ls : Nat)) ∧
  (0 ≤ (wr (x4 + 3)) ∧ (wr (x4 + 3)) < (Ls : Nat)) ∧
  m_Call i_C_tried [.inr (.inr 2), .inl (I 1 (Int.toNat (wr (x4 + 1)))), .inl (I 1 (Int.toNat (wr (x4 + 2)))), .inl (I 1 (Int.toNat (wr (x4 + 3))))] (144, sh0 Ls, RR, I, L) (fun v M' =>
    m_Wp i_L_law 1406 kc ks [(0, .inr (.inr 1)), (1, .inr (.inr 2)), (2, .inr (.inr 98)), (3, .inr (.inr 143)), (4, .inl x4)] (v ++ []) M' Q)) :
    m_Wp i_L_law 1384 kc ks [(0, .inr (.inr 1)), (1, .inr (.inr 2)), (2, .inr (.inr 98)), (3, .inr (.inr 143)), (4, .inl x4)] [] (144, sh0 Ls, RR, I, L) Q := m_wp_of 17 [1497] h
set_option maxHeartbeats 4000000 in
set_option maxRecDepth 20000 in
theorem LW_1406 {Ls kc ks : Nat} {RR : Nat → Nat → Nat} {I L : Nat → Nat → Int} {x4 y0 : Int} {Q : List mV → mM → Prop}
    (h : (0 ≤ (wr (x4 + 1)) ∧ (wr (x4 + 1)) < (Ls : Nat)) ∧
  (0 ≤ (wr (x4 + 2)) ∧ (wr (x4 + 2)) < (Ls : Nat)) ∧
  (0 ≤ (wr (x4 + 3)) ∧ (wr (x4 + 3)) < (Ls : Nat)) ∧
  m_Call i_M_tried [.inr (.inr 98), .inl (I 1 (Int.toNat (wr (x4 + 1)))), .inl (I 1 (Int.toNat (wr (x4 + 2)))), .inl (I 1 (Int.toNat (wr (x4 + 3))))] (144, sh0 Ls, RR, I, L) (fun v M' =>
    m_Wp i_L_law 1428 kc ks [(0, .inr (.inr 1)), (1, .inr (.inr 2)), (2, .inr (.inr 98)), (3, .inr (.inr 143)), (4, .inl x4)] (v ++ [.inl y0]) M' Q)) :
    m_Wp i_L_law 1406 kc ks [(0, .inr (.inr 1)), (1, .inr (.inr 2)), (2, .inr (.inr 98)), (3, .inr (.inr 143)), (4, .inl x4)] [.inl y0] (144, sh0 Ls, RR, I, L) Q := m_wp_of 17 [1497] h
set_option maxHeartbeats 4000000 in
set_option maxRecDepth 20000 in
theorem LW_1428 {Ls kc ks : Nat} {RR : Nat → Nat → Nat} {I L : Nat → Nat → Int} {x4 y0 y1 : Int} {Q : List mV → mM → Prop}
    (h : ((y0 = y1 →
    m_Wp i_L_law 1497 kc ks [(0, .inr (.inr 1)), (1, .inr (.inr 2)), (2, .inr (.inr 98)), (3, .inr (.inr 143)), (4, .inl x4)] [] (144, sh0 Ls, RR, I, L) Q) ∧
   (¬ (y0 = y1) →
    ((0 : Int) = 0 ∨ (0 : Int) = 1) ∧
    Q [.inl 0] (144, sh0 Ls, RR, I, L)))) :
    m_Wp i_L_law 1428 kc ks [(0, .inr (.inr 1)), (1, .inr (.inr 2)), (2, .inr (.inr 98)), (3, .inr (.inr 143)), (4, .inl x4)] [.inl y1, .inl y0] (144, sh0 Ls, RR, I, L) Q := m_wp_of 3 [1497] h
set_option maxHeartbeats 4000000 in
set_option maxRecDepth 20000 in
theorem LW_1433 {Ls kc ks : Nat} {RR : Nat → Nat → Nat} {I L : Nat → Nat → Int} {x4 : Int} {Q : List mV → mM → Prop}
    (h : m_Call i_C_undo [.inr (.inr 2)] (144, sh0 Ls, RR, I, L) (fun v M' =>
    m_Wp i_L_law 1437 kc ks [(0, .inr (.inr 1)), (1, .inr (.inr 2)), (2, .inr (.inr 98)), (3, .inr (.inr 143)), (4, .inl x4)] (v ++ []) M' Q)) :
    m_Wp i_L_law 1433 kc ks [(0, .inr (.inr 1)), (1, .inr (.inr 2)), (2, .inr (.inr 98)), (3, .inr (.inr 143)), (4, .inl x4)] [] (144, sh0 Ls, RR, I, L) Q := m_wp_of 2 [1497] h
set_option maxHeartbeats 4000000 in
set_option maxRecDepth 20000 in
theorem LW_1437 {Ls kc ks : Nat} {RR : Nat → Nat → Nat} {I L : Nat → Nat → Int} {x4 y0 : Int} {Q : List mV → mM → Prop}
    (h : m_Call i_M_undo [.inr (.inr 98)] (144, sh0 Ls, RR, I, L) (fun v M' =>
    m_Wp i_L_law 1441 kc ks [(0, .inr (.inr 1)), (1, .inr (.inr 2)), (2, .inr (.inr 98)), (3, .inr (.inr 143)), (4, .inl x4)] (v ++ [.inl y0]) M' Q)) :
    m_Wp i_L_law 1437 kc ks [(0, .inr (.inr 1)), (1, .inr (.inr 2)), (2, .inr (.inr 98)), (3, .inr (.inr 143)), (4, .inl x4)] [.inl y0] (144, sh0 Ls, RR, I, L) Q := m_wp_of 2 [1497] h
set_option maxHeartbeats 4000000 in
set_option maxRecDepth 20000 in
theorem LW_1441 {Ls kc ks : Nat} {RR : Nat → Nat → Nat} {I L : Nat → Nat → Int} {x4 y0 y1 : Int} {Q : List mV → mM → Prop}
    (h : ((y0 = y1 →
    m_Wp i_L_law 1497 kc ks [(0, .inr (.inr 1)), (1, .inr (.inr 2)), (2, .inr (.inr 98)), (3, .inr (.inr 143)), (4, .inl x4)] [] (144, sh0 Ls, RR, I, L) Q) ∧
   (¬ (y0 = y1) →
    ((0 : Int) = 0 ∨ (0 : Int) = 1) ∧
    Q [.inl 0] (144, sh0 Ls, RR, I, L)))) :
    m_Wp i_L_law 1441 kc ks [(0, .inr (.inr 1)), (1, .inr (.inr 2)), (2, .inr (.inr 98)), (3, .inr (.inr 143)), (4, .inl x4)] [.inl y1, .inl y0] (144, sh0 Ls, RR, I, L) Q := m_wp_of 3 [1497] h
set_option maxHeartbeats 4000000 in
set_option maxRecDepth 20000 in
theorem LW_1446 {Ls kc ks : Nat} {RR : Nat → Nat → Nat} {I L : Nat → Nat → Int} {x4 : Int} {Q : List mV → mM → Prop}
    (h : m_Call i_C_keep [.inr (.inr 2)] (144, sh0 Ls, RR, I, L) (fun v M' =>
    m_Wp i_L_law 1450 kc ks [(0, .inr (.inr 1)), (1, .inr (.inr 2)), (2, .inr (.inr 98)), (3, .inr (.inr 143)), (4, .inl x4)] (v ++ []) M' Q)) :
    m_Wp i_L_law 1446 kc ks [(0, .inr (.inr 1)), (1, .inr (.inr 2)), (2, .inr (.inr 98)), (3, .inr (.inr 143)), (4, .inl x4)] [] (144, sh0 Ls, RR, I, L) Q := m_wp_of 2 [1497] h
set_option maxHeartbeats 4000000 in
set_option maxRecDepth 20000 in
theorem LW_1450 {Ls kc ks : Nat} {RR : Nat → Nat → Nat} {I L : Nat → Nat → Int} {x4 y0 : Int} {Q : List mV → mM → Prop}
    (h : m_Call i_M_keep [.inr (.inr 98)] (144, sh0 Ls, RR, I, L) (fun v M' =>
    m_Wp i_L_law 1454 kc ks [(0, .inr (.inr 1)), (1, .inr (.inr 2)), (2, .inr (.inr 98)), (3, .inr (.inr 143)), (4, .inl x4)] (v ++ [.inl y0]) M' Q)) :
    m_Wp i_L_law 1450 kc ks [(0, .inr (.inr 1)), (1, .inr (.inr 2)), (2, .inr (.inr 98)), (3, .inr (.inr 143)), (4, .inl x4)] [.inl y0] (144, sh0 Ls, RR, I, L) Q := m_wp_of 2 [1497] h
set_option maxHeartbeats 4000000 in
set_option maxRecDepth 20000 in
theorem LW_1454 {Ls kc ks : Nat} {RR : Nat → Nat → Nat} {I L : Nat → Nat → Int} {x4 y0 y1 : Int} {Q : List mV → mM → Prop}
    (h : ((y0 = y1 →
    m_Wp i_L_law 1497 kc ks [(0, .inr (.inr 1)), (1, .inr (.inr 2)), (2, .inr (.inr 98)), (3, .inr (.inr 143)), (4, .inl x4)] [] (144, sh0 Ls, RR, I, L) Q) ∧
   (¬ (y0 = y1) →
    ((0 : Int) = 0 ∨ (0 : Int) = 1) ∧
    Q [.inl 0] (144, sh0 Ls, RR, I, L)))) :
    m_Wp i_L_law 1454 kc ks [(0, .inr (.inr 1)), (1, .inr (.inr 2)), (2, .inr (.inr 98)), (3, .inr (.inr 143)), (4, .inl x4)] [.inl y1, .inl y0] (144, sh0 Ls, RR, I, L) Q := m_wp_of 3 [1497] h
set_option maxHeartbeats 4000000 in
set_option maxRecDepth 20000 in
theorem LW_1459 {Ls kc ks : Nat} {RR : Nat → Nat → Nat} {I L : Nat → Nat → Int} {x4 : Int} {Q : List mV → mM → Prop}
    (h : m_Call i_C_back [.inr (.inr 2)] (144, sh0 Ls, RR, I, L) (fun v M' =>
    m_Wp i_L_law 1463 kc ks [(0, .inr (.inr 1)), (1, .inr (.inr 2)), (2, .inr (.inr 98)), (3, .inr (.inr 143)), (4, .inl x4)] (v ++ []) M' Q)) :
    m_Wp i_L_law 1459 kc ks [(0, .inr (.inr 1)), (1, .inr (.inr 2)), (2, .inr (.inr 98)), (3, .inr (.inr 143)), (4, .inl x4)] [] (144, sh0 Ls, RR, I, L) Q := m_wp_of 2 [1497] h
set_option maxHeartbeats 4000000 in
set_option maxRecDepth 20000 in
theorem LW_1463 {Ls kc ks : Nat} {RR : Nat → Nat → Nat} {I L : Nat → Nat → Int} {x4 y0 : Int} {Q : List mV → mM → Prop}
    (h : m_Call i_M_back [.inr (.inr 98)] (144, sh0 Ls, RR, I, L) (fun v M' =>
    m_Wp i_L_law 1467 kc ks [(0, .inr (.inr 1)), (1, .inr (.inr 2)), (2, .inr (.inr 98)), (3, .inr (.inr 143)), (4, .inl x4)] (v ++ [.inl y0]) M' Q)) :
    m_Wp i_L_law 1463 kc ks [(0, .inr (.inr 1)), (1, .inr (.inr 2)), (2, .inr (.inr 98)), (3, .inr (.inr 143)), (4, .inl x4)] [.inl y0] (144, sh0 Ls, RR, I, L) Q := m_wp_of 2 [1497] h
set_option maxHeartbeats 4000000 in
set_option maxRecDepth 20000 in
theorem LW_1467 {Ls kc ks : Nat} {RR : Nat → Nat → Nat} {I L : Nat → Nat → Int} {x4 y0 y1 : Int} {Q : List mV → mM → Prop}
    (h : ((y0 = y1 →
    m_Wp i_L_law 1497 kc ks [(0, .inr (.inr 1)), (1, .inr (.inr 2)), (2, .inr (.inr 98)), (3, .inr (.inr 143)), (4, .inl x4)] [] (144, sh0 Ls, RR, I, L) Q) ∧
   (¬ (y0 = y1) →
    ((0 : Int) = 0 ∨ (0 : Int) = 1) ∧
    Q [.inl 0] (144, sh0 Ls, RR, I, L)))) :
    m_Wp i_L_law 1467 kc ks [(0, .inr (.inr 1)), (1, .inr (.inr 2)), (2, .inr (.inr 98)), (3, .inr (.inr 143)), (4, .inl x4)] [.inl y1, .inl y0] (144, sh0 Ls, RR, I, L) Q := m_wp_of 3 [1497] h
set_option maxHeartbeats 4000000 in
set_option maxRecDepth 20000 in
theorem LW_1472 {Ls kc ks : Nat} {RR : Nat → Nat → Nat} {I L : Nat → Nat → Int} {x4 : Int} {Q : List mV → mM → Prop}
    (h : (0 ≤ (wr (x4 + 1)) ∧ (wr (x4 + 1)) < (Ls : Nat)) ∧
  m_Call i_C_count [.inr (.inr 2), .inl (I 1 (Int.toNat (wr (x4 + 1))))] (144, sh0 Ls, RR, I, L) (fun v M' =>
    m_Wp i_L_law 1482 kc ks [(0, .inr (.inr 1)), (1, .inr (.inr 2)), (2, .inr (.inr 98)), (3, .inr (.inr 143)), (4, .inl x4)] (v ++ []) M' Q)) :
    m_Wp i_L_law 1472 kc ks [(0, .inr (.inr 1)), (1, .inr (.inr 2)), (2, .inr (.inr 98)), (3, .inr (.inr 143)), (4, .inl x4)] [] (144, sh0 Ls, RR, I, L) Q := m_wp_of 7 [1497] h
set_option maxHeartbeats 4000000 in
set_option maxRecDepth 20000 in
theorem LW_1482 {Ls kc ks : Nat} {RR : Nat → Nat → Nat} {I L : Nat → Nat → Int} {x4 y0 : Int} {Q : List mV → mM → Prop}
    (h : (0 ≤ (wr (x4 + 1)) ∧ (wr (x4 + 1)) < (Ls : Nat)) ∧
  m_Call i_M_count [.inr (.inr 98), .inl (I 1 (Int.toNat (wr (x4 + 1))))] (144, sh0 Ls, RR, I, L) (fun v M' =>
    m_Wp i_L_law 1492 kc ks [(0, .inr (.inr 1)), (1, .inr (.inr 2)), (2, .inr (.inr 98)), (3, .inr (.inr 143)), (4, .inl x4)] (v ++ [.inl y0]) M' Q)) :
    m_Wp i_L_law 1482 kc ks [(0, .inr (.inr 1)), (1, .inr (.inr 2)), (2, .inr (.inr 98)), (3, .inr (.inr 143)), (4, .inl x4)] [.inl y0] (144, sh0 Ls, RR, I, L) Q := m_wp_of 7 [1497] h
set_option maxHeartbeats 4000000 in
set_option maxRecDepth 20000 in
theorem LW_1492 {Ls kc ks : Nat} {RR : Nat → Nat → Nat} {I L : Nat → Nat → Int} {x4 y0 y1 : Int} {Q : List mV → mM → Prop}
    (h : ((y0 = y1 →
    m_Wp i_L_law 1497 kc ks [(0, .inr (.inr 1)), (1, .inr (.inr 2)), (2, .inr (.inr 98)), (3, .inr (.inr 143)), (4, .inl x4)] [] (144, sh0 Ls, RR, I, L) Q) ∧
   (¬ (y0 = y1) →
    ((0 : Int) = 0 ∨ (0 : Int) = 1) ∧
    Q [.inl 0] (144, sh0 Ls, RR, I, L)))) :
    m_Wp i_L_law 1492 kc ks [(0, .inr (.inr 1)), (1, .inr (.inr 2)), (2, .inr (.inr 98)), (3, .inr (.inr 143)), (4, .inl x4)] [.inl y1, .inl y0] (144, sh0 Ls, RR, I, L) Q := m_wp_of 3 [1497] h
set_option maxHeartbeats 4000000 in
set_option maxRecDepth 20000 in
theorem LW_1497 {Ls kc ks : Nat} {RR : Nat → Nat → Nat} {I L : Nat → Nat → Int} {x4 : Int} {Q : List mV → mM → Prop}
    (h : m_Wp i_L_law 23 kc ks [(0, .inr (.inr 1)), (1, .inr (.inr 2)), (2, .inr (.inr 98)), (3, .inr (.inr 143)), (4, .inl (wr (x4 + 6)))] [] (144, sh0 Ls, RR, I, L) Q) :
    m_Wp i_L_law 1497 kc ks [(0, .inr (.inr 1)), (1, .inr (.inr 2)), (2, .inr (.inr 98)), (3, .inr (.inr 143)), (4, .inl x4)] [] (144, sh0 Ls, RR, I, L) Q := m_wp_of 4 [23] h
set_option maxHeartbeats 4000000 in
set_option maxRecDepth 20000 in
theorem LW_23 {Ls kc ks : Nat} {RR : Nat → Nat → Nat} {I L : Nat → Nat → Int} {x4 : Int} {Q : List mV → mM → Prop}
    (h : m_Wp i_L_law 26 kc ks [(0, .inr (.inr 1)), (1, .inr (.inr 2)), (2, .inr (.inr 98)), (3, .inr (.inr 143)), (4, .inl x4)] [.inr (.inr 1), .inl x4] (144, sh0 Ls, RR, I, L) Q) :
    m_Wp i_L_law 23 kc ks [(0, .inr (.inr 1)), (1, .inr (.inr 2)), (2, .inr (.inr 98)), (3, .inr (.inr 143)), (4, .inl x4)] [] (144, sh0 Ls, RR, I, L) Q := m_wp_of 3 [] h
theorem m_Wr_step0 {m kc ks : Nat} {e : mE} {r : List mE} {lv : List (Nat × mV)} {st st' : List mV} {M : mM} {Q : List mV → mM → Prop} (h : m_step m e r kc ks lv st M = mgo r kc ks lv st' M) (k : m_Wr m (r, kc, ks, lv, st', M) Q) : m_Wr m (e :: r, kc, ks, lv, st, M) Q := by
  obtain ⟨n, q, h1, h2⟩ := k
  exact ⟨n + 1, q, by rw [exec_disp, h]; exact h1, h2⟩
theorem LW_26 {Ls kc ks : Nat} {RR : Nat → Nat → Nat} {I L : Nat → Nat → Int} {x4 : Int} {Q : List mV → mM → Prop} (hL : Ls ≤ 3072)
    (h : m_Wp i_L_law 27 kc ks [(0, .inr (.inr 1)), (1, .inr (.inr 2)), (2, .inr (.inr 98)), (3, .inr (.inr 143)), (4, .inl x4)] [.inl (Ls : Nat), .inl x4] (144, sh0 Ls, RR, I, L) Q) :
    m_Wp i_L_law 26 kc ks [(0, .inr (.inr 1)), (1, .inr (.inr 2)), (2, .inr (.inr 98)), (3, .inr (.inr 143)), (4, .inl x4)] [.inr (.inr 1), .inl x4] (144, sh0 Ls, RR, I, L) Q := by
  have hb : Nat.blt Ls 2147483648 = true := Nat.ble_eq_true_of_le (by omega)
  show m_Wr 259 ((26, .arraylength, 1, 0, 0, 0, 0) :: m_seek (mcd 259) 27, kc, ks, _, _, _) Q
  refine m_Wr_step0 (st' := [.inl (Ls : Nat), .inl x4]) ?_ h
  show (bif Nat.blt Ls 2147483648 then _ else _) = _
  rw [hb]
  rfl
set_option maxHeartbeats 4000000 in
set_option maxRecDepth 20000 in
theorem LW_27 {Ls kc ks : Nat} {RR : Nat → Nat → Nat} {I L : Nat → Nat → Int} {x4 : Int} {Q : List mV → mM → Prop}
    (h : ((wr ((Ls : Nat) - 6) < x4 → ((1 : Int) = 0 ∨ (1 : Int) = 1) ∧ Q [.inl 1] (144, sh0 Ls, RR, I, L)) ∧ (¬ (wr ((Ls : Nat) - 6) < x4) → (0 ≤ x4 ∧ x4 < (Ls : Nat)) ∧ m_swp (fun t => m_Wp i_L_law t kc ks [(0, .inr (.inr 1)), (1, .inr (.inr 2)), (2, .inr (.inr 98)), (3, .inr (.inr 143)), (4, .inl x4)] [] (144, sh0 Ls, RR, I, L) Q) (mSw 17) (m_and (I 1 (Int.toNat x4)) 63) 1497))) :
    m_Wp i_L_law 27 kc ks [(0, .inr (.inr 1)), (1, .inr (.inr 2)), (2, .inr (.inr 98)), (3, .inr (.inr 143)), (4, .inl x4)] [.inl (Ls : Nat), .inl x4] (144, sh0 Ls, RR, I, L) Q := m_wp_of 9 [] h
