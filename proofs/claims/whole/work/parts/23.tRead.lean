/-! ===== segments of the code (by program: wip/whole/gen_all.py) ===== -/
set_option maxHeartbeats 4000000 in
set_option maxRecDepth 20000 in
theorem E_Tokens_isLetter {Ls p : Nat}  {I L : Nat → Nat → Int} {a0 : Int} {Q : List mV → mM → Prop}
    (h : (0 ≤ a0 ∧ a0 < 700) ∧
  (((I 6 (Int.toNat a0)) < (97 : Int) →
    ((0 : Int) = 0 ∨ (0 : Int) = 1) ∧
    Q [.inl 0] (mem Ls p I L)) ∧
   (¬ ((I 6 (Int.toNat a0)) < (97 : Int)) →
    (0 ≤ a0 ∧ a0 < 700) ∧
    (((122 : Int) < (I 6 (Int.toNat a0)) →
      ((0 : Int) = 0 ∨ (0 : Int) = 1) ∧
      Q [.inl 0] (mem Ls p I L)) ∧
     (¬ ((122 : Int) < (I 6 (Int.toNat a0))) →
      ((1 : Int) = 0 ∨ (1 : Int) = 1) ∧
      Q [.inl 1] (mem Ls p I L)))))) :
    m_Call i_Tokens_isLetter [.inr (.inr 5), .inl a0] (mem Ls p I L) Q := by
  have he : m_ent 0 ([.inr (.inr 5), .inl a0] : List mV) = [(0, .inr (.inr 5)), (1, .inl a0)] := rfl
  skip <;> exact m_call_at 16 [] he h
set_option maxHeartbeats 4000000 in
set_option maxRecDepth 20000 in
theorem E_Tokens_wordKind {Ls p : Nat}  {I L : Nat → Nat → Int} {Q : List mV → mM → Prop}
    (h : m_Wp i_Tokens_wordKind 2 0 0 [(0, .inr (.inr 5)), (1, .inl 0)] [] (mem Ls p I L) Q) :
    m_Call i_Tokens_wordKind [.inr (.inr 5)] (mem Ls p I L) Q := by
  have he : m_ent 0 ([.inr (.inr 5)] : List mV) = [(0, .inr (.inr 5))] := rfl
  skip <;> exact m_call_at 3 [2] he h
set_option maxHeartbeats 4000000 in
set_option maxRecDepth 20000 in
theorem T_Tokens_wordKind_2 {Ls p kc ks : Nat}  {I L : Nat → Nat → Int} {x1 : Int} {Q : List mV → mM → Prop}
    (h : (((20 : Int) ≤ x1 →
    Q [.inl 3] (mem Ls p I L)) ∧
   (¬ ((20 : Int) ≤ x1) →
    (0 ≤ x1 ∧ x1 < 20) ∧
    ((¬ (I 7 (Int.toNat x1)) = (I 5 7) →
      m_Wp i_Tokens_wordKind 2 kc ks [(0, .inr (.inr 5)), (1, .inl (wr (x1 + 1)))] [] (mem Ls p I L) Q) ∧
     (¬ (¬ (I 7 (Int.toNat x1)) = (I 5 7)) →
      Q [.inl (wr (17 + x1))] (mem Ls p I L)))))) :
    m_Wp i_Tokens_wordKind 2 kc ks [(0, .inr (.inr 5)), (1, .inl x1)] [] (mem Ls p I L) Q := by
  skip <;> exact m_wp_of 15 [2] h
set_option maxHeartbeats 4000000 in
set_option maxRecDepth 20000 in
theorem E_Tokens_readWord {Ls p : Nat}  {I L : Nat → Nat → Int} {Q : List mV → mM → Prop}
    (h : m_Wp i_Tokens_readWord 5 0 0 [(0, .inr (.inr 5))] [] (mem Ls p (mup I 5 7 0) L) Q) :
    m_Call i_Tokens_readWord [.inr (.inr 5)] (mem Ls p I L) Q := by
  have he : m_ent 0 ([.inr (.inr 5)] : List mV) = [(0, .inr (.inr 5))] := rfl
  skip <;> exact m_call_at 4 [5] he h
set_option maxHeartbeats 4000000 in
set_option maxRecDepth 20000 in
theorem T_Tokens_readWord_5 {Ls p kc ks : Nat}  {I L : Nat → Nat → Int} {Q : List mV → mM → Prop}
    (h : (((I 5 2) ≤ (I 5 3) →
    (((wr ((I 5 3) - (I 5 5))) ≤ (6 : Int) →
      m_Call i_Tokens_wordKind [.inr (.inr 5)] (mem Ls p (mup I 5 7 (m_shl (I 5 7) (wr (5 * (wr (6 - (wr ((I 5 3) - (I 5 5))))))))) L) (fun v M' =>
        m_Wp i_Tokens_readWord 109 kc ks [(0, .inr (.inr 5)), (1, .inl (wr ((I 5 3) - (I 5 5))))] (v ++ [.inr (.inr 5)]) M' Q)) ∧
     (¬ ((wr ((I 5 3) - (I 5 5))) ≤ (6 : Int)) →
      Q [] (mem Ls p (mup I 5 4 1) L)))) ∧
   (¬ ((I 5 2) ≤ (I 5 3)) →
    m_Call i_Tokens_isLetter [.inr (.inr 5), .inl (I 5 3)] (mem Ls p I L) (fun v M' =>
      m_Wp i_Tokens_readWord 24 kc ks [(0, .inr (.inr 5))] (v ++ []) M' Q)))) :
    m_Wp i_Tokens_readWord 5 kc ks [(0, .inr (.inr 5))] [] (mem Ls p I L) Q := by
  skip <;> exact m_wp_of 29 [5] h
set_option maxHeartbeats 4000000 in
set_option maxRecDepth 20000 in
theorem T_Tokens_readWord_109 {Ls p kc ks : Nat}  {I L : Nat → Nat → Int} {x1 y1 : Int} {Q : List mV → mM → Prop}
    (h : Q [] (mem Ls p (mup I 5 4 y1) L)) :
    m_Wp i_Tokens_readWord 109 kc ks [(0, .inr (.inr 5)), (1, .inl x1)] [.inl y1, .inr (.inr 5)] (mem Ls p I L) Q := by
  skip <;> exact m_wp_of 3 [5] h
set_option maxHeartbeats 4000000 in
set_option maxRecDepth 20000 in
theorem T_Tokens_readWord_24 {Ls p kc ks : Nat}  {I L : Nat → Nat → Int} {y0 : Int} {Q : List mV → mM → Prop}
    (h : ((y0 = (0 : Int) →
    (((wr ((I 5 3) - (I 5 5))) ≤ (6 : Int) →
      m_Call i_Tokens_wordKind [.inr (.inr 5)] (mem Ls p (mup I 5 7 (m_shl (I 5 7) (wr (5 * (wr (6 - (wr ((I 5 3) - (I 5 5))))))))) L) (fun v M' =>
        m_Wp i_Tokens_readWord 109 kc ks [(0, .inr (.inr 5)), (1, .inl (wr ((I 5 3) - (I 5 5))))] (v ++ [.inr (.inr 5)]) M' Q)) ∧
     (¬ ((wr ((I 5 3) - (I 5 5))) ≤ (6 : Int)) →
      Q [] (mem Ls p (mup I 5 4 1) L)))) ∧
   (¬ (y0 = (0 : Int)) →
    (0 ≤ (I 5 3) ∧ (I 5 3) < 700) ∧
    m_Wp i_Tokens_readWord 5 kc ks [(0, .inr (.inr 5))] [] (mem Ls p (mup (mup I 5 7 (m_or (m_shl (I 5 7) 5) (wr ((wr ((I 6 (Int.toNat (I 5 3))) - 97)) + 1)))) 5 3 (wr ((I 5 3) + 1))) L) Q))) :
    m_Wp i_Tokens_readWord 24 kc ks [(0, .inr (.inr 5))] [.inl y0] (mem Ls p I L) Q := by
  skip <;> exact m_wp_of 25 [5] h
set_option maxHeartbeats 4000000 in
set_option maxRecDepth 20000 in
theorem E_Tokens_isDigit {Ls p : Nat}  {I L : Nat → Nat → Int} {a0 : Int} {Q : List mV → mM → Prop}
    (h : (0 ≤ a0 ∧ a0 < 700) ∧
  (((I 6 (Int.toNat a0)) < (48 : Int) →
    ((0 : Int) = 0 ∨ (0 : Int) = 1) ∧
    Q [.inl 0] (mem Ls p I L)) ∧
   (¬ ((I 6 (Int.toNat a0)) < (48 : Int)) →
    (0 ≤ a0 ∧ a0 < 700) ∧
    (((57 : Int) < (I 6 (Int.toNat a0)) →
      ((0 : Int) = 0 ∨ (0 : Int) = 1) ∧
      Q [.inl 0] (mem Ls p I L)) ∧
     (¬ ((57 : Int) < (I 6 (Int.toNat a0))) →
      ((1 : Int) = 0 ∨ (1 : Int) = 1) ∧
      Q [.inl 1] (mem Ls p I L)))))) :
    m_Call i_Tokens_isDigit [.inr (.inr 5), .inl a0] (mem Ls p I L) Q := by
  have he : m_ent 0 ([.inr (.inr 5), .inl a0] : List mV) = [(0, .inr (.inr 5)), (1, .inl a0)] := rfl
  skip <;> exact m_call_at 16 [] he h
set_option maxHeartbeats 4000000 in
set_option maxRecDepth 20000 in
theorem E_Tokens_readNumber {Ls p : Nat}  {I L : Nat → Nat → Int} {Q : List mV → mM → Prop}
    (h : m_Wp i_Tokens_readNumber 5 0 0 [(0, .inr (.inr 5))] [] (mem Ls p (mup I 5 6 0) L) Q) :
    m_Call i_Tokens_readNumber [.inr (.inr 5)] (mem Ls p I L) Q := by
  have he : m_ent 0 ([.inr (.inr 5)] : List mV) = [(0, .inr (.inr 5))] := rfl
  skip <;> exact m_call_at 4 [5] he h
set_option maxHeartbeats 4000000 in
set_option maxRecDepth 20000 in
theorem T_Tokens_readNumber_5 {Ls p kc ks : Nat}  {I L : Nat → Nat → Int} {Q : List mV → mM → Prop}
    (h : (((I 5 2) ≤ (I 5 3) →
    Q [] (mem Ls p (mup I 5 4 2) L)) ∧
   (¬ ((I 5 2) ≤ (I 5 3)) →
    m_Call i_Tokens_isDigit [.inr (.inr 5), .inl (I 5 3)] (mem Ls p I L) (fun v M' =>
      m_Wp i_Tokens_readNumber 24 kc ks [(0, .inr (.inr 5))] (v ++ []) M' Q)))) :
    m_Wp i_Tokens_readNumber 5 kc ks [(0, .inr (.inr 5))] [] (mem Ls p I L) Q := by
  skip <;> exact m_wp_of 11 [5] h
set_option maxHeartbeats 4000000 in
set_option maxRecDepth 20000 in
theorem T_Tokens_readNumber_24 {Ls p kc ks : Nat}  {I L : Nat → Nat → Int} {y0 : Int} {Q : List mV → mM → Prop}
    (h : ((y0 = (0 : Int) →
    Q [] (mem Ls p (mup I 5 4 2) L)) ∧
   (¬ (y0 = (0 : Int)) →
    (0 ≤ (I 5 3) ∧ (I 5 3) < 700) ∧
    m_Wp i_Tokens_readNumber 5 kc ks [(0, .inr (.inr 5))] [] (mem Ls p (mup (mup I 5 6 (m_min 1000000 (wr ((wr ((wr ((I 5 6) * 10)) + (I 6 (Int.toNat (I 5 3))))) - 48)))) 5 3 (wr ((I 5 3) + 1))) L) Q))) :
    m_Wp i_Tokens_readNumber 24 kc ks [(0, .inr (.inr 5))] [.inl y0] (mem Ls p I L) Q := by
  skip <;> exact m_wp_of 25 [5] h
set_option maxHeartbeats 4000000 in
set_option maxRecDepth 20000 in
theorem E_Tokens_signKind {Ls p : Nat}  {I L : Nat → Nat → Int} {a0 : Int} {Q : List mV → mM → Prop}
    (h : ((a0 = (40 : Int) →
    Q [.inl 5] (mem Ls p I L)) ∧
   (¬ a0 = (40 : Int) →
    ((a0 = (41 : Int) →
    Q [.inl 6] (mem Ls p I L)) ∧
   (¬ a0 = (41 : Int) →
    ((a0 = (42 : Int) →
    Q [.inl 9] (mem Ls p I L)) ∧
   (¬ a0 = (42 : Int) →
    ((a0 = (43 : Int) →
    Q [.inl 7] (mem Ls p I L)) ∧
   (¬ a0 = (43 : Int) →
    ((a0 = (45 : Int) →
    Q [.inl 8] (mem Ls p I L)) ∧
   (¬ a0 = (45 : Int) →
    ((a0 = (47 : Int) →
    Q [.inl 10] (mem Ls p I L)) ∧
   (¬ a0 = (47 : Int) →
    ((a0 = (59 : Int) →
    Q [.inl 4] (mem Ls p I L)) ∧
   (¬ a0 = (59 : Int) →
    ((a0 = (60 : Int) →
    Q [.inl 11] (mem Ls p I L)) ∧
   (¬ a0 = (60 : Int) →
    ((a0 = (61 : Int) →
    Q [.inl 13] (mem Ls p I L)) ∧
   (¬ a0 = (61 : Int) →
    ((a0 = (62 : Int) →
    Q [.inl 16] (mem Ls p I L)) ∧
   (¬ a0 = (62 : Int) →
    Q [.inl 1] (mem Ls p I L)))))))))))))))))))))) :
    m_Call i_Tokens_signKind [.inl a0] (mem Ls p I L) Q := by
  have he : m_ent 0 ([.inl a0] : List mV) = [(0, .inl a0)] := rfl
  skip <;> exact m_call_at 4 [] he h
set_option maxHeartbeats 4000000 in
set_option maxRecDepth 20000 in
theorem E_Tokens_lengthenSign {Ls p : Nat}  {I L : Nat → Nat → Int} {Q : List mV → mM → Prop}
    (h : (((I 5 3) < (I 5 2) →
    ((¬ (I 5 4) = (11 : Int) →
      m_Wp i_Tokens_lengthenSign 46 0 0 [(0, .inr (.inr 5)), (1, .inl (I 5 4))] [] (mem Ls p I L) Q) ∧
     (¬ (¬ (I 5 4) = (11 : Int)) →
      (0 ≤ (I 5 3) ∧ (I 5 3) < 700) ∧
      ((¬ (I 6 (Int.toNat (I 5 3))) = (61 : Int) →
        m_Wp i_Tokens_lengthenSign 46 0 0 [(0, .inr (.inr 5)), (1, .inl (I 5 4))] [] (mem Ls p I L) Q) ∧
       (¬ (¬ (I 6 (Int.toNat (I 5 3))) = (61 : Int)) →
        m_Wp i_Tokens_lengthenSign 101 0 0 [(0, .inr (.inr 5)), (1, .inl 12)] [] (mem Ls p I L) Q))))) ∧
   (¬ ((I 5 3) < (I 5 2)) →
    Q [] (mem Ls p I L)))) :
    m_Call i_Tokens_lengthenSign [.inr (.inr 5)] (mem Ls p I L) Q := by
  have he : m_ent 0 ([.inr (.inr 5)] : List mV) = [(0, .inr (.inr 5))] := rfl
  skip <;> exact m_call_at 23 [46, 75, 101, 124] he h
set_option maxHeartbeats 4000000 in
set_option maxRecDepth 20000 in
theorem T_Tokens_lengthenSign_46 {Ls p kc ks : Nat}  {I L : Nat → Nat → Int} {x1 : Int} {Q : List mV → mM → Prop}
    (h : ((¬ (I 5 4) = (11 : Int) →
    m_Wp i_Tokens_lengthenSign 75 kc ks [(0, .inr (.inr 5)), (1, .inl x1)] [] (mem Ls p I L) Q) ∧
   (¬ (¬ (I 5 4) = (11 : Int)) →
    (0 ≤ (I 5 3) ∧ (I 5 3) < 700) ∧
    ((¬ (I 6 (Int.toNat (I 5 3))) = (62 : Int) →
      m_Wp i_Tokens_lengthenSign 75 kc ks [(0, .inr (.inr 5)), (1, .inl x1)] [] (mem Ls p I L) Q) ∧
     (¬ (¬ (I 6 (Int.toNat (I 5 3))) = (62 : Int)) →
      m_Wp i_Tokens_lengthenSign 101 kc ks [(0, .inr (.inr 5)), (1, .inl 14)] [] (mem Ls p I L) Q))))) :
    m_Wp i_Tokens_lengthenSign 46 kc ks [(0, .inr (.inr 5)), (1, .inl x1)] [] (mem Ls p I L) Q := by
  skip <;> exact m_wp_of 16 [46, 75, 101, 124] h
set_option maxHeartbeats 4000000 in
set_option maxRecDepth 20000 in
theorem T_Tokens_lengthenSign_101 {Ls p kc ks : Nat}  {I L : Nat → Nat → Int} {x1 : Int} {Q : List mV → mM → Prop}
    (h : ((x1 = (I 5 4) →
    m_Wp i_Tokens_lengthenSign 124 kc ks [] [] (mem Ls p I L) Q) ∧
   (¬ (x1 = (I 5 4)) →
    m_Wp i_Tokens_lengthenSign 124 kc ks [] [] (mem Ls p (mup (mup I 5 4 x1) 5 3 (wr ((I 5 3) + 1))) L) Q))) :
    m_Wp i_Tokens_lengthenSign 101 kc ks [(0, .inr (.inr 5)), (1, .inl x1)] [] (mem Ls p I L) Q := by
  skip <;> exact m_wp_of 15 [46, 75, 101, 124] h
set_option maxHeartbeats 4000000 in
set_option maxRecDepth 20000 in
theorem T_Tokens_lengthenSign_75 {Ls p kc ks : Nat}  {I L : Nat → Nat → Int} {x1 : Int} {Q : List mV → mM → Prop}
    (h : ((¬ (I 5 4) = (16 : Int) →
    m_Wp i_Tokens_lengthenSign 101 kc ks [(0, .inr (.inr 5)), (1, .inl x1)] [] (mem Ls p I L) Q) ∧
   (¬ (¬ (I 5 4) = (16 : Int)) →
    (0 ≤ (I 5 3) ∧ (I 5 3) < 700) ∧
    ((¬ (I 6 (Int.toNat (I 5 3))) = (61 : Int) →
      m_Wp i_Tokens_lengthenSign 101 kc ks [(0, .inr (.inr 5)), (1, .inl x1)] [] (mem Ls p I L) Q) ∧
     (¬ (¬ (I 6 (Int.toNat (I 5 3))) = (61 : Int)) →
      m_Wp i_Tokens_lengthenSign 101 kc ks [(0, .inr (.inr 5)), (1, .inl 15)] [] (mem Ls p I L) Q))))) :
    m_Wp i_Tokens_lengthenSign 75 kc ks [(0, .inr (.inr 5)), (1, .inl x1)] [] (mem Ls p I L) Q := by
  skip <;> exact m_wp_of 15 [46, 75, 101, 124] h
set_option maxHeartbeats 4000000 in
set_option maxRecDepth 20000 in
theorem T_Tokens_lengthenSign_124 {Ls p kc ks : Nat}  {I L : Nat → Nat → Int} {Q : List mV → mM → Prop}
    (h : Q [] (mem Ls p I L)) :
    m_Wp i_Tokens_lengthenSign 124 kc ks [] [] (mem Ls p I L) Q := by
  skip <;> exact m_wp_of 2 [46, 75, 101, 124] h
set_option maxHeartbeats 4000000 in
set_option maxRecDepth 20000 in
theorem E_Tokens_advance {Ls p : Nat}  {I L : Nat → Nat → Int} {Q : List mV → mM → Prop}
    (h : (((I 5 2) ≤ (I 5 3) →
    (((I 5 3) < (I 5 2) →
      m_Call i_Tokens_isLetter [.inr (.inr 5), .inl (I 5 3)] (mem Ls p (mup I 5 5 (I 5 3)) L) (fun v M' =>
        m_Wp i_Tokens_advance 87 0 0 [(0, .inr (.inr 5))] (v ++ []) M' Q)) ∧
     (¬ ((I 5 3) < (I 5 2)) →
      Q [] (mem Ls p (mup (mup I 5 5 (I 5 3)) 5 4 0) L)))) ∧
   (¬ ((I 5 2) ≤ (I 5 3)) →
    (0 ≤ (I 5 3) ∧ (I 5 3) < 700) ∧
    (((I 6 (Int.toNat (I 5 3))) = (10 : Int) →
      m_Wp i_Tokens_advance 0 0 0 [(0, .inr (.inr 5))] [] (mem Ls p (mup I 5 3 (wr ((I 5 3) + 1))) L) Q) ∧
     (¬ ((I 6 (Int.toNat (I 5 3))) = (10 : Int)) →
      (0 ≤ (I 5 3) ∧ (I 5 3) < 700) ∧
      ((¬ (I 6 (Int.toNat (I 5 3))) = (32 : Int) →
        (((I 5 3) < (I 5 2) →
          m_Call i_Tokens_isLetter [.inr (.inr 5), .inl (I 5 3)] (mem Ls p (mup I 5 5 (I 5 3)) L) (fun v M' =>
            m_Wp i_Tokens_advance 87 0 0 [(0, .inr (.inr 5))] (v ++ []) M' Q)) ∧
         (¬ ((I 5 3) < (I 5 2)) →
          Q [] (mem Ls p (mup (mup I 5 5 (I 5 3)) 5 4 0) L)))) ∧
       (¬ (¬ (I 6 (Int.toNat (I 5 3))) = (32 : Int)) →
        m_Wp i_Tokens_advance 0 0 0 [(0, .inr (.inr 5))] [] (mem Ls p (mup I 5 3 (wr ((I 5 3) + 1))) L) Q))))))) :
    m_Call i_Tokens_advance [.inr (.inr 5)] (mem Ls p I L) Q := by
  have he : m_ent 0 ([.inr (.inr 5)] : List mV) = [(0, .inr (.inr 5))] := rfl
  skip <;> exact m_call_at 36 [0] he h
set_option maxHeartbeats 4000000 in
set_option maxRecDepth 20000 in
theorem T_Tokens_advance_87 {Ls p kc ks : Nat}  {I L : Nat → Nat → Int} {y0 : Int} {Q : List mV → mM → Prop}
    (h : ((y0 = (0 : Int) →
    m_Call i_Tokens_isDigit [.inr (.inr 5), .inl (I 5 3)] (mem Ls p I L) (fun v M' =>
      m_Wp i_Tokens_advance 105 kc ks [(0, .inr (.inr 5))] (v ++ []) M' Q)) ∧
   (¬ (y0 = (0 : Int)) →
    m_Call i_Tokens_readWord [.inr (.inr 5)] (mem Ls p I L) (fun v M' =>
      m_Wp i_Tokens_advance 94 kc ks [(0, .inr (.inr 5))] (v ++ []) M' Q)))) :
    m_Wp i_Tokens_advance 87 kc ks [(0, .inr (.inr 5))] [.inl y0] (mem Ls p I L) Q := by
  skip <;> exact m_wp_of 5 [0] h
set_option maxHeartbeats 4000000 in
set_option maxRecDepth 20000 in
theorem T_Tokens_advance_0 {Ls p kc ks : Nat}  {I L : Nat → Nat → Int} {Q : List mV → mM → Prop}
    (h : (((I 5 2) ≤ (I 5 3) →
    (((I 5 3) < (I 5 2) →
      m_Call i_Tokens_isLetter [.inr (.inr 5), .inl (I 5 3)] (mem Ls p (mup I 5 5 (I 5 3)) L) (fun v M' =>
        m_Wp i_Tokens_advance 87 kc ks [(0, .inr (.inr 5))] (v ++ []) M' Q)) ∧
     (¬ ((I 5 3) < (I 5 2)) →
      Q [] (mem Ls p (mup (mup I 5 5 (I 5 3)) 5 4 0) L)))) ∧
   (¬ ((I 5 2) ≤ (I 5 3)) →
    (0 ≤ (I 5 3) ∧ (I 5 3) < 700) ∧
    (((I 6 (Int.toNat (I 5 3))) = (10 : Int) →
      m_Wp i_Tokens_advance 0 kc ks [(0, .inr (.inr 5))] [] (mem Ls p (mup I 5 3 (wr ((I 5 3) + 1))) L) Q) ∧
     (¬ ((I 6 (Int.toNat (I 5 3))) = (10 : Int)) →
      (0 ≤ (I 5 3) ∧ (I 5 3) < 700) ∧
      ((¬ (I 6 (Int.toNat (I 5 3))) = (32 : Int) →
        (((I 5 3) < (I 5 2) →
          m_Call i_Tokens_isLetter [.inr (.inr 5), .inl (I 5 3)] (mem Ls p (mup I 5 5 (I 5 3)) L) (fun v M' =>
            m_Wp i_Tokens_advance 87 kc ks [(0, .inr (.inr 5))] (v ++ []) M' Q)) ∧
         (¬ ((I 5 3) < (I 5 2)) →
          Q [] (mem Ls p (mup (mup I 5 5 (I 5 3)) 5 4 0) L)))) ∧
       (¬ (¬ (I 6 (Int.toNat (I 5 3))) = (32 : Int)) →
        m_Wp i_Tokens_advance 0 kc ks [(0, .inr (.inr 5))] [] (mem Ls p (mup I 5 3 (wr ((I 5 3) + 1))) L) Q))))))) :
    m_Wp i_Tokens_advance 0 kc ks [(0, .inr (.inr 5))] [] (mem Ls p I L) Q := by
  skip <;> exact m_wp_of 36 [0] h
set_option maxHeartbeats 4000000 in
set_option maxRecDepth 20000 in
theorem T_Tokens_advance_105 {Ls p kc ks : Nat}  {I L : Nat → Nat → Int} {y0 : Int} {Q : List mV → mM → Prop}
    (h : ((y0 = (0 : Int) →
    (0 ≤ (I 5 3) ∧ (I 5 3) < 700) ∧
    m_Call i_Tokens_signKind [.inl (I 6 (Int.toNat (I 5 3)))] (mem Ls p I L) (fun v M' =>
      m_Wp i_Tokens_advance 128 kc ks [(0, .inr (.inr 5))] (v ++ [.inr (.inr 5)]) M' Q)) ∧
   (¬ (y0 = (0 : Int)) →
    m_Call i_Tokens_readNumber [.inr (.inr 5)] (mem Ls p I L) (fun v M' =>
      m_Wp i_Tokens_advance 112 kc ks [(0, .inr (.inr 5))] (v ++ []) M' Q)))) :
    m_Wp i_Tokens_advance 105 kc ks [(0, .inr (.inr 5))] [.inl y0] (mem Ls p I L) Q := by
  skip <;> exact m_wp_of 8 [0] h
set_option maxHeartbeats 4000000 in
set_option maxRecDepth 20000 in
theorem T_Tokens_advance_94 {Ls p kc ks : Nat}  {I L : Nat → Nat → Int} {Q : List mV → mM → Prop}
    (h : Q [] (mem Ls p I L)) :
    m_Wp i_Tokens_advance 94 kc ks [(0, .inr (.inr 5))] [] (mem Ls p I L) Q := by
  skip <;> exact m_wp_of 3 [0] h
set_option maxHeartbeats 4000000 in
set_option maxRecDepth 20000 in
theorem T_Tokens_advance_128 {Ls p kc ks : Nat}  {I L : Nat → Nat → Int} {y1 : Int} {Q : List mV → mM → Prop}
    (h : m_Call i_Tokens_lengthenSign [.inr (.inr 5)] (mem Ls p (mup (mup I 5 4 y1) 5 3 (wr ((I 5 3) + 1))) L) (fun v M' =>
    m_Wp i_Tokens_advance 145 kc ks [(0, .inr (.inr 5))] (v ++ []) M' Q)) :
    m_Wp i_Tokens_advance 128 kc ks [(0, .inr (.inr 5))] [.inl y1, .inr (.inr 5)] (mem Ls p I L) Q := by
  skip <;> exact m_wp_of 9 [0] h
set_option maxHeartbeats 4000000 in
set_option maxRecDepth 20000 in
theorem T_Tokens_advance_112 {Ls p kc ks : Nat}  {I L : Nat → Nat → Int} {Q : List mV → mM → Prop}
    (h : Q [] (mem Ls p I L)) :
    m_Wp i_Tokens_advance 112 kc ks [(0, .inr (.inr 5))] [] (mem Ls p I L) Q := by
  skip <;> exact m_wp_of 3 [0] h
set_option maxHeartbeats 4000000 in
set_option maxRecDepth 20000 in
theorem T_Tokens_advance_145 {Ls p kc ks : Nat}  {I L : Nat → Nat → Int} {Q : List mV → mM → Prop}
    (h : Q [] (mem Ls p I L)) :
    m_Wp i_Tokens_advance 145 kc ks [(0, .inr (.inr 5))] [] (mem Ls p I L) Q := by
  skip <;> exact m_wp_of 2 [0] h
set_option maxHeartbeats 4000000 in
set_option maxRecDepth 20000 in
theorem E_Tokens_begin {Ls p : Nat}  {I L : Nat → Nat → Int} {a0 : Int} {Q : List mV → mM → Prop}
    (h : m_Call i_Tokens_advance [.inr (.inr 5)] (mem Ls p (mup (mup I 5 2 (m_min a0 700)) 5 3 0) L) (fun v M' =>
    m_Wp i_Tokens_begin 20 0 0 [(0, .inr (.inr 5)), (1, .inl a0)] (v ++ []) M' Q)) :
    m_Call i_Tokens_begin [.inr (.inr 5), .inl a0] (mem Ls p I L) Q := by
  have he : m_ent 0 ([.inr (.inr 5), .inl a0] : List mV) = [(0, .inr (.inr 5)), (1, .inl a0)] := rfl
  skip <;> exact m_call_at 10 [] he h
set_option maxHeartbeats 4000000 in
set_option maxRecDepth 20000 in
theorem T_Tokens_begin_20 {Ls p kc ks : Nat}  {I L : Nat → Nat → Int} {x1 : Int} {Q : List mV → mM → Prop}
    (h : Q [] (mem Ls p I L)) :
    m_Wp i_Tokens_begin 20 kc ks [(0, .inr (.inr 5)), (1, .inl x1)] [] (mem Ls p I L) Q := by
  skip <;> exact m_wp_of 1 [] h
set_option maxHeartbeats 4000000 in
set_option maxRecDepth 20000 in
theorem E_LineReader_fails {Ls p : Nat}  {I L : Nat → Nat → Int} {a0 : Int} {Q : List mV → mM → Prop}
    (h : ((0 : Int) = 0 ∨ (0 : Int) = 1) ∧
  Q [.inl 0] (mem Ls p (mup (mup I 3 4 a0) 3 5 (I 5 5)) L)) :
    m_Call i_LineReader_fails [.inr (.inr 3), .inl a0] (mem Ls p I L) Q := by
  have he : m_ent 0 ([.inr (.inr 3), .inl a0] : List mV) = [(0, .inr (.inr 3)), (1, .inl a0)] := rfl
  skip <;> exact m_call_at 10 [] he h
set_option maxHeartbeats 4000000 in
set_option maxRecDepth 20000 in
theorem E_LineReader_readsNumber {Ls p : Nat}  {I L : Nat → Nat → Int} {a0 a1 : Int} {Q : List mV → mM → Prop}
    (h : (((I 5 4) = (2 : Int) →
    (((I 5 6) < a0 →
      m_Call i_LineReader_fails [.inr (.inr 3), .inl 2] (mem Ls p I L) (fun v M' =>
        m_Wp i_LineReader_readsNumber 44 0 0 [(0, .inr (.inr 3))] (v ++ []) M' Q)) ∧
     (¬ ((I 5 6) < a0) →
      (((I 5 6) ≤ a1 →
        m_Call i_Tokens_advance [.inr (.inr 5)] (mem Ls p (mup I 3 6 (I 5 6)) L) (fun v M' =>
          m_Wp i_LineReader_readsNumber 63 0 0 [(0, .inr (.inr 3)), (1, .inl a0), (2, .inl a1)] (v ++ []) M' Q)) ∧
       (¬ ((I 5 6) ≤ a1) →
        m_Call i_LineReader_fails [.inr (.inr 3), .inl 2] (mem Ls p I L) (fun v M' =>
          m_Wp i_LineReader_readsNumber 44 0 0 [(0, .inr (.inr 3))] (v ++ []) M' Q)))))) ∧
   (¬ ((I 5 4) = (2 : Int)) →
    m_Call i_LineReader_fails [.inr (.inr 3), .inl 1] (mem Ls p I L) (fun v M' =>
      m_Wp i_LineReader_readsNumber 16 0 0 [(0, .inr (.inr 3)), (1, .inl a0), (2, .inl a1)] (v ++ []) M' Q)))) :
    m_Call i_LineReader_readsNumber [.inr (.inr 3), .inl a0, .inl a1] (mem Ls p I L) Q := by
  have he : m_ent 0 ([.inr (.inr 3), .inl a0, .inl a1] : List mV) = [(0, .inr (.inr 3)), (1, .inl a0), (2, .inl a1)] := rfl
  skip <;> exact m_call_at 23 [] he h
set_option maxHeartbeats 4000000 in
set_option maxRecDepth 20000 in
theorem T_LineReader_readsNumber_44 {Ls p kc ks : Nat}  {I L : Nat → Nat → Int} {y0 : Int} {Q : List mV → mM → Prop}
    (h : (y0 = 0 ∨ y0 = 1) ∧
  Q [.inl y0] (mem Ls p I L)) :
    m_Wp i_LineReader_readsNumber 44 kc ks [(0, .inr (.inr 3))] [.inl y0] (mem Ls p I L) Q := by
  skip <;> exact m_wp_of 1 [] h
set_option maxHeartbeats 4000000 in
set_option maxRecDepth 20000 in
theorem T_LineReader_readsNumber_63 {Ls p kc ks : Nat}  {I L : Nat → Nat → Int} {x1 x2 : Int} {Q : List mV → mM → Prop}
    (h : ((1 : Int) = 0 ∨ (1 : Int) = 1) ∧
  Q [.inl 1] (mem Ls p I L)) :
    m_Wp i_LineReader_readsNumber 63 kc ks [(0, .inr (.inr 3)), (1, .inl x1), (2, .inl x2)] [] (mem Ls p I L) Q := by
  skip <;> exact m_wp_of 2 [] h
set_option maxHeartbeats 4000000 in
set_option maxRecDepth 20000 in
theorem T_LineReader_readsNumber_16 {Ls p kc ks : Nat}  {I L : Nat → Nat → Int} {x1 x2 y0 : Int} {Q : List mV → mM → Prop}
    (h : (y0 = 0 ∨ y0 = 1) ∧
  Q [.inl y0] (mem Ls p I L)) :
    m_Wp i_LineReader_readsNumber 16 kc ks [(0, .inr (.inr 3)), (1, .inl x1), (2, .inl x2)] [.inl y0] (mem Ls p I L) Q := by
  skip <;> exact m_wp_of 1 [] h
set_option maxHeartbeats 4000000 in
set_option maxRecDepth 20000 in
theorem E_LineReader_skipsMinus {Ls p : Nat}  {I L : Nat → Nat → Int} {Q : List mV → mM → Prop}
    (h : (((I 5 4) = (8 : Int) →
    m_Call i_Tokens_advance [.inr (.inr 5)] (mem Ls p I L) (fun v M' =>
      m_Wp i_LineReader_skipsMinus 21 0 0 [(0, .inr (.inr 3))] (v ++ []) M' Q)) ∧
   (¬ ((I 5 4) = (8 : Int)) →
    ((0 : Int) = 0 ∨ (0 : Int) = 1) ∧
    Q [.inl 0] (mem Ls p I L)))) :
    m_Call i_LineReader_skipsMinus [.inr (.inr 3)] (mem Ls p I L) Q := by
  have he : m_ent 0 ([.inr (.inr 3)] : List mV) = [(0, .inr (.inr 3))] := rfl
  skip <;> exact m_call_at 8 [] he h
set_option maxHeartbeats 4000000 in
set_option maxRecDepth 20000 in
theorem T_LineReader_skipsMinus_21 {Ls p kc ks : Nat}  {I L : Nat → Nat → Int} {Q : List mV → mM → Prop}
    (h : ((1 : Int) = 0 ∨ (1 : Int) = 1) ∧
  Q [.inl 1] (mem Ls p I L)) :
    m_Wp i_LineReader_skipsMinus 21 kc ks [(0, .inr (.inr 3))] [] (mem Ls p I L) Q := by
  skip <;> exact m_wp_of 2 [] h
set_option maxHeartbeats 4000000 in
set_option maxRecDepth 20000 in
theorem E_LineReader_readsMan {Ls p o : Nat} (hp : (p = 68 ∧ o = 9) ∨ (p = 9 ∧ o = 68)) {I L : Nat → Nat → Int} {Q : List mV → mM → Prop}
    (h : (((I o 13) < (6 : Int) →
    m_Call i_Tokens_advance [.inr (.inr 5)] (mem Ls p I L) (fun v M' =>
      m_Wp i_LineReader_readsMan 27 0 0 [(0, .inr (.inr 3)), (1, .inl (I o 13))] (v ++ []) M' Q)) ∧
   (¬ ((I o 13) < (6 : Int)) →
    m_Call i_LineReader_fails [.inr (.inr 3), .inl 2] (mem Ls p I L) (fun v M' =>
      m_Wp i_LineReader_readsMan 19 0 0 [(0, .inr (.inr 3)), (1, .inl (I o 13))] (v ++ []) M' Q)))) :
    m_Call i_LineReader_readsMan [.inr (.inr 3)] (mem Ls p I L) Q := by
  have he : m_ent 0 ([.inr (.inr 3)] : List mV) = [(0, .inr (.inr 3))] := rfl
  rcases hp with ⟨rfl, rfl⟩ | ⟨rfl, rfl⟩ <;> exact m_call_at 10 [] he h
set_option maxHeartbeats 4000000 in
set_option maxRecDepth 20000 in
theorem T_LineReader_readsMan_27 {Ls p o kc ks : Nat} (hp : (p = 68 ∧ o = 9) ∨ (p = 9 ∧ o = 68)) {I L : Nat → Nat → Int} {x1 : Int} {Q : List mV → mM → Prop}
    (h : (((I 5 4) = (3 : Int) →
    m_Call i_Plan_numberOf [.inr (.inr o), .inl (I 5 7)] (mem Ls p I L) (fun v M' =>
      m_Wp i_LineReader_readsMan 58 kc ks [(0, .inr (.inr 3)), (1, .inl x1)] (v ++ []) M' Q)) ∧
   (¬ ((I 5 4) = (3 : Int)) →
    m_Call i_LineReader_fails [.inr (.inr 3), .inl 1] (mem Ls p I L) (fun v M' =>
      m_Wp i_LineReader_readsMan 43 kc ks [(0, .inr (.inr 3)), (1, .inl x1)] (v ++ []) M' Q)))) :
    m_Wp i_LineReader_readsMan 27 kc ks [(0, .inr (.inr 3)), (1, .inl x1)] [] (mem Ls p I L) Q := by
  rcases hp with ⟨rfl, rfl⟩ | ⟨rfl, rfl⟩ <;> exact m_wp_of 11 [] h
set_option maxHeartbeats 4000000 in
set_option maxRecDepth 20000 in
theorem T_LineReader_readsMan_19 {Ls p kc ks : Nat}  {I L : Nat → Nat → Int} {x1 y0 : Int} {Q : List mV → mM → Prop}
    (h : (y0 = 0 ∨ y0 = 1) ∧
  Q [.inl y0] (mem Ls p I L)) :
    m_Wp i_LineReader_readsMan 19 kc ks [(0, .inr (.inr 3)), (1, .inl x1)] [.inl y0] (mem Ls p I L) Q := by
  skip <;> exact m_wp_of 1 [] h
set_option maxHeartbeats 4000000 in
set_option maxRecDepth 20000 in
theorem T_LineReader_readsMan_58 {Ls p o kc ks : Nat} (hp : (p = 68 ∧ o = 9) ∨ (p = 9 ∧ o = 68)) {I L : Nat → Nat → Int} {x1 y0 : Int} {Q : List mV → mM → Prop}
    (h : ((y0 = (-1) →
    (0 ≤ x1 ∧ x1 < 6) ∧
    m_Call i_Tokens_advance [.inr (.inr 5)] (mem Ls p (mup I (o + 1) (Int.toNat x1) (I 5 7)) L) (fun v M' =>
      m_Wp i_LineReader_readsMan 91 kc ks [(0, .inr (.inr 3)), (1, .inl x1)] (v ++ []) M' Q)) ∧
   (¬ (y0 = (-1)) →
    m_Call i_LineReader_fails [.inr (.inr 3), .inl 3] (mem Ls p I L) (fun v M' =>
      m_Wp i_LineReader_readsMan 67 kc ks [(0, .inr (.inr 3)), (1, .inl x1)] (v ++ []) M' Q)))) :
    m_Wp i_LineReader_readsMan 58 kc ks [(0, .inr (.inr 3)), (1, .inl x1)] [.inl y0] (mem Ls p I L) Q := by
  rcases hp with ⟨rfl, rfl⟩ | ⟨rfl, rfl⟩ <;> exact m_wp_of 13 [] h
set_option maxHeartbeats 4000000 in
set_option maxRecDepth 20000 in
theorem T_LineReader_readsMan_43 {Ls p kc ks : Nat}  {I L : Nat → Nat → Int} {x1 y0 : Int} {Q : List mV → mM → Prop}
    (h : (y0 = 0 ∨ y0 = 1) ∧
  Q [.inl y0] (mem Ls p I L)) :
    m_Wp i_LineReader_readsMan 43 kc ks [(0, .inr (.inr 3)), (1, .inl x1)] [.inl y0] (mem Ls p I L) Q := by
  skip <;> exact m_wp_of 1 [] h
set_option maxHeartbeats 4000000 in
set_option maxRecDepth 20000 in
theorem T_LineReader_readsMan_91 {Ls p kc ks : Nat}  {I L : Nat → Nat → Int} {x1 : Int} {Q : List mV → mM → Prop}
    (h : m_Call i_LineReader_readsNumber [.inr (.inr 3), .inl 1, .inl 9] (mem Ls p I L) (fun v M' =>
    m_Wp i_LineReader_readsMan 98 kc ks [(0, .inr (.inr 3)), (1, .inl x1)] (v ++ []) M' Q)) :
    m_Wp i_LineReader_readsMan 91 kc ks [(0, .inr (.inr 3)), (1, .inl x1)] [] (mem Ls p I L) Q := by
  skip <;> exact m_wp_of 4 [] h
set_option maxHeartbeats 4000000 in
set_option maxRecDepth 20000 in
theorem T_LineReader_readsMan_67 {Ls p kc ks : Nat}  {I L : Nat → Nat → Int} {x1 y0 : Int} {Q : List mV → mM → Prop}
    (h : (y0 = 0 ∨ y0 = 1) ∧
  Q [.inl y0] (mem Ls p I L)) :
    m_Wp i_LineReader_readsMan 67 kc ks [(0, .inr (.inr 3)), (1, .inl x1)] [.inl y0] (mem Ls p I L) Q := by
  skip <;> exact m_wp_of 1 [] h
set_option maxHeartbeats 4000000 in
set_option maxRecDepth 20000 in
theorem T_LineReader_readsMan_98 {Ls p o kc ks : Nat} (hp : (p = 68 ∧ o = 9) ∨ (p = 9 ∧ o = 68)) {I L : Nat → Nat → Int} {x1 y0 : Int} {Q : List mV → mM → Prop}
    (h : ((¬ y0 = (0 : Int) →
    (0 ≤ x1 ∧ x1 < 6) ∧
    m_Call i_LineReader_readsNumber [.inr (.inr 3), .inl 0, .inl 30] (mem Ls p (mup I (o + 2) (Int.toNat x1) (I 3 6)) L) (fun v M' =>
      m_Wp i_LineReader_readsMan 123 kc ks [(0, .inr (.inr 3)), (1, .inl x1)] (v ++ []) M' Q)) ∧
   (¬ (¬ y0 = (0 : Int)) →
    ((0 : Int) = 0 ∨ (0 : Int) = 1) ∧
    Q [.inl 0] (mem Ls p I L)))) :
    m_Wp i_LineReader_readsMan 98 kc ks [(0, .inr (.inr 3)), (1, .inl x1)] [.inl y0] (mem Ls p I L) Q := by
  rcases hp with ⟨rfl, rfl⟩ | ⟨rfl, rfl⟩ <;> exact m_wp_of 12 [] h
set_option maxHeartbeats 4000000 in
set_option maxRecDepth 20000 in
theorem T_LineReader_readsMan_123 {Ls p o kc ks : Nat} (hp : (p = 68 ∧ o = 9) ∨ (p = 9 ∧ o = 68)) {I L : Nat → Nat → Int} {x1 y0 : Int} {Q : List mV → mM → Prop}
    (h : ((¬ y0 = (0 : Int) →
    (0 ≤ x1 ∧ x1 < 6) ∧
    m_Call i_LineReader_skipsMinus [.inr (.inr 3)] (mem Ls p (mup I (o + 3) (Int.toNat x1) (I 3 6)) L) (fun v M' =>
      m_Wp i_LineReader_readsMan 145 kc ks [(0, .inr (.inr 3)), (1, .inl x1)] (v ++ []) M' Q)) ∧
   (¬ (¬ y0 = (0 : Int)) →
    ((0 : Int) = 0 ∨ (0 : Int) = 1) ∧
    Q [.inl 0] (mem Ls p I L)))) :
    m_Wp i_LineReader_readsMan 123 kc ks [(0, .inr (.inr 3)), (1, .inl x1)] [.inl y0] (mem Ls p I L) Q := by
  rcases hp with ⟨rfl, rfl⟩ | ⟨rfl, rfl⟩ <;> exact m_wp_of 10 [] h
set_option maxHeartbeats 4000000 in
set_option maxRecDepth 20000 in
theorem T_LineReader_readsMan_145 {Ls p kc ks : Nat}  {I L : Nat → Nat → Int} {x1 y0 : Int} {Q : List mV → mM → Prop}
    (h : m_Call i_LineReader_readsNumber [.inr (.inr 3), .inl 0, .inl 30] (mem Ls p I L) (fun v M' =>
    m_Wp i_LineReader_readsMan 153 kc ks [(0, .inr (.inr 3)), (1, .inl x1), (2, .inl y0)] (v ++ []) M' Q)) :
    m_Wp i_LineReader_readsMan 145 kc ks [(0, .inr (.inr 3)), (1, .inl x1)] [.inl y0] (mem Ls p I L) Q := by
  skip <;> exact m_wp_of 5 [] h
set_option maxHeartbeats 4000000 in
set_option maxRecDepth 20000 in
theorem T_LineReader_readsMan_153 {Ls p o kc ks : Nat} (hp : (p = 68 ∧ o = 9) ∨ (p = 9 ∧ o = 68)) {I L : Nat → Nat → Int} {x1 x2 y0 : Int} {Q : List mV → mM → Prop}
    (h : ((¬ y0 = (0 : Int) →
    ((x2 = (0 : Int) →
      (0 ≤ x1 ∧ x1 < 6) ∧
      m_Call i_LineReader_skipsMinus [.inr (.inr 3)] (mem Ls p (mup I (o + 4) (Int.toNat x1) (I 3 6)) L) (fun v M' =>
        m_Wp i_LineReader_readsMan 187 kc ks [(0, .inr (.inr 3)), (1, .inl x1)] (v ++ []) M' Q)) ∧
     (¬ (x2 = (0 : Int)) →
      (0 ≤ x1 ∧ x1 < 6) ∧
      m_Call i_LineReader_skipsMinus [.inr (.inr 3)] (mem Ls p (mup I (o + 4) (Int.toNat x1) (wr (-(I 3 6)))) L) (fun v M' =>
        m_Wp i_LineReader_readsMan 187 kc ks [(0, .inr (.inr 3)), (1, .inl x1)] (v ++ []) M' Q)))) ∧
   (¬ (¬ y0 = (0 : Int)) →
    ((0 : Int) = 0 ∨ (0 : Int) = 1) ∧
    Q [.inl 0] (mem Ls p I L)))) :
    m_Wp i_LineReader_readsMan 153 kc ks [(0, .inr (.inr 3)), (1, .inl x1), (2, .inl x2)] [.inl y0] (mem Ls p I L) Q := by
  rcases hp with ⟨rfl, rfl⟩ | ⟨rfl, rfl⟩ <;> exact m_wp_of 15 [] h
set_option maxHeartbeats 4000000 in
set_option maxRecDepth 20000 in
theorem T_LineReader_readsMan_187 {Ls p kc ks : Nat}  {I L : Nat → Nat → Int} {x1 y0 : Int} {Q : List mV → mM → Prop}
    (h : m_Call i_LineReader_readsNumber [.inr (.inr 3), .inl 0, .inl 9] (mem Ls p I L) (fun v M' =>
    m_Wp i_LineReader_readsMan 195 kc ks [(0, .inr (.inr 3)), (1, .inl x1), (3, .inl y0)] (v ++ []) M' Q)) :
    m_Wp i_LineReader_readsMan 187 kc ks [(0, .inr (.inr 3)), (1, .inl x1)] [.inl y0] (mem Ls p I L) Q := by
  skip <;> exact m_wp_of 5 [] h
set_option maxHeartbeats 4000000 in
set_option maxRecDepth 20000 in
theorem T_LineReader_readsMan_195 {Ls p o kc ks : Nat} (hp : (p = 68 ∧ o = 9) ∨ (p = 9 ∧ o = 68)) {I L : Nat → Nat → Int} {x1 x3 y0 : Int} {Q : List mV → mM → Prop}
    (h : ((¬ y0 = (0 : Int) →
    ((x3 = (0 : Int) →
      (0 ≤ x1 ∧ x1 < 6) ∧
      ((1 : Int) = 0 ∨ (1 : Int) = 1) ∧
      Q [.inl 1] (mem Ls p (mup (mup I (o + 5) (Int.toNat x1) (I 3 6)) o 13 (wr ((I o 13) + 1))) L)) ∧
     (¬ (x3 = (0 : Int)) →
      (0 ≤ x1 ∧ x1 < 6) ∧
      ((1 : Int) = 0 ∨ (1 : Int) = 1) ∧
      Q [.inl 1] (mem Ls p (mup (mup I (o + 5) (Int.toNat x1) (wr (-(I 3 6)))) o 13 (wr ((I o 13) + 1))) L)))) ∧
   (¬ (¬ y0 = (0 : Int)) →
    ((0 : Int) = 0 ∨ (0 : Int) = 1) ∧
    Q [.inl 0] (mem Ls p I L)))) :
    m_Wp i_LineReader_readsMan 195 kc ks [(0, .inr (.inr 3)), (1, .inl x1), (3, .inl x3)] [.inl y0] (mem Ls p I L) Q := by
  rcases hp with ⟨rfl, rfl⟩ | ⟨rfl, rfl⟩ <;> exact m_wp_of 22 [] h
set_option maxHeartbeats 4000000 in
set_option maxRecDepth 20000 in
theorem E_LineReader_readsEnd {Ls p : Nat}  {I L : Nat → Nat → Int} {Q : List mV → mM → Prop}
    (h : (((I 5 4) = (4 : Int) →
    m_Call i_Tokens_advance [.inr (.inr 5)] (mem Ls p I L) (fun v M' =>
      m_Wp i_LineReader_readsEnd 24 0 0 [(0, .inr (.inr 3))] (v ++ []) M' Q)) ∧
   (¬ ((I 5 4) = (4 : Int)) →
    m_Call i_LineReader_fails [.inr (.inr 3), .inl 1] (mem Ls p I L) (fun v M' =>
      m_Wp i_LineReader_readsEnd 16 0 0 [(0, .inr (.inr 3))] (v ++ []) M' Q)))) :
    m_Call i_LineReader_readsEnd [.inr (.inr 3)] (mem Ls p I L) Q := by
  have he : m_ent 0 ([.inr (.inr 3)] : List mV) = [(0, .inr (.inr 3))] := rfl
  skip <;> exact m_call_at 8 [] he h
set_option maxHeartbeats 4000000 in
set_option maxRecDepth 20000 in
theorem T_LineReader_readsEnd_24 {Ls p kc ks : Nat}  {I L : Nat → Nat → Int} {Q : List mV → mM → Prop}
    (h : ((1 : Int) = 0 ∨ (1 : Int) = 1) ∧
  Q [.inl 1] (mem Ls p I L)) :
    m_Wp i_LineReader_readsEnd 24 kc ks [(0, .inr (.inr 3))] [] (mem Ls p I L) Q := by
  skip <;> exact m_wp_of 2 [] h
set_option maxHeartbeats 4000000 in
set_option maxRecDepth 20000 in
theorem T_LineReader_readsEnd_16 {Ls p kc ks : Nat}  {I L : Nat → Nat → Int} {y0 : Int} {Q : List mV → mM → Prop}
    (h : (y0 = 0 ∨ y0 = 1) ∧
  Q [.inl y0] (mem Ls p I L)) :
    m_Wp i_LineReader_readsEnd 16 kc ks [(0, .inr (.inr 3))] [.inl y0] (mem Ls p I L) Q := by
  skip <;> exact m_wp_of 1 [] h
set_option maxHeartbeats 4000000 in
set_option maxRecDepth 20000 in
theorem E_LineReader_readsPerson {Ls p o : Nat} (hp : (p = 68 ∧ o = 9) ∨ (p = 9 ∧ o = 68)) {I L : Nat → Nat → Int} {Q : List mV → mM → Prop}
    (h : (((I 5 4) = (3 : Int) →
    m_Call i_Plan_numberOf [.inr (.inr o), .inl (I 5 7)] (mem Ls p I L) (fun v M' =>
      m_Wp i_LineReader_readsPerson 32 0 0 [(0, .inr (.inr 3))] (v ++ [.inr (.inr 3)]) M' Q)) ∧
   (¬ ((I 5 4) = (3 : Int)) →
    m_Call i_LineReader_fails [.inr (.inr 3), .inl 1] (mem Ls p I L) (fun v M' =>
      m_Wp i_LineReader_readsPerson 16 0 0 [(0, .inr (.inr 3))] (v ++ []) M' Q)))) :
    m_Call i_LineReader_readsPerson [.inr (.inr 3)] (mem Ls p I L) Q := by
  have he : m_ent 0 ([.inr (.inr 3)] : List mV) = [(0, .inr (.inr 3))] := rfl
  rcases hp with ⟨rfl, rfl⟩ | ⟨rfl, rfl⟩ <;> exact m_call_at 12 [] he h
set_option maxHeartbeats 4000000 in
set_option maxRecDepth 20000 in
theorem T_LineReader_readsPerson_32 {Ls p kc ks : Nat}  {I L : Nat → Nat → Int} {y1 : Int} {Q : List mV → mM → Prop}
    (h : ((¬ y1 = (-1) →
    m_Call i_Tokens_advance [.inr (.inr 5)] (mem Ls p (mup I 3 6 y1) L) (fun v M' =>
      m_Wp i_LineReader_readsPerson 56 kc ks [(0, .inr (.inr 3))] (v ++ []) M' Q)) ∧
   (¬ (¬ y1 = (-1)) →
    m_Call i_LineReader_fails [.inr (.inr 3), .inl 4] (mem Ls p (mup I 3 6 y1) L) (fun v M' =>
      m_Wp i_LineReader_readsPerson 48 kc ks [(0, .inr (.inr 3))] (v ++ []) M' Q)))) :
    m_Wp i_LineReader_readsPerson 32 kc ks [(0, .inr (.inr 3))] [.inl y1, .inr (.inr 3)] (mem Ls p I L) Q := by
  skip <;> exact m_wp_of 8 [] h
set_option maxHeartbeats 4000000 in
set_option maxRecDepth 20000 in
theorem T_LineReader_readsPerson_16 {Ls p kc ks : Nat}  {I L : Nat → Nat → Int} {y0 : Int} {Q : List mV → mM → Prop}
    (h : (y0 = 0 ∨ y0 = 1) ∧
  Q [.inl y0] (mem Ls p I L)) :
    m_Wp i_LineReader_readsPerson 16 kc ks [(0, .inr (.inr 3))] [.inl y0] (mem Ls p I L) Q := by
  skip <;> exact m_wp_of 1 [] h
set_option maxHeartbeats 4000000 in
set_option maxRecDepth 20000 in
theorem T_LineReader_readsPerson_56 {Ls p kc ks : Nat}  {I L : Nat → Nat → Int} {Q : List mV → mM → Prop}
    (h : ((1 : Int) = 0 ∨ (1 : Int) = 1) ∧
  Q [.inl 1] (mem Ls p I L)) :
    m_Wp i_LineReader_readsPerson 56 kc ks [(0, .inr (.inr 3))] [] (mem Ls p I L) Q := by
  skip <;> exact m_wp_of 2 [] h
set_option maxHeartbeats 4000000 in
set_option maxRecDepth 20000 in
theorem T_LineReader_readsPerson_48 {Ls p kc ks : Nat}  {I L : Nat → Nat → Int} {y0 : Int} {Q : List mV → mM → Prop}
    (h : (y0 = 0 ∨ y0 = 1) ∧
  Q [.inl y0] (mem Ls p I L)) :
    m_Wp i_LineReader_readsPerson 48 kc ks [(0, .inr (.inr 3))] [.inl y0] (mem Ls p I L) Q := by
  skip <;> exact m_wp_of 1 [] h
set_option maxHeartbeats 4000000 in
set_option maxRecDepth 20000 in
theorem E_LineReader_readsRing {Ls p o : Nat} (hp : (p = 68 ∧ o = 9) ∨ (p = 9 ∧ o = 68)) {I L : Nat → Nat → Int} {Q : List mV → mM → Prop}
    (h : (((I o 14) < (10 : Int) →
    m_Call i_Tokens_advance [.inr (.inr 5)] (mem Ls p I L) (fun v M' =>
      m_Wp i_LineReader_readsRing 27 0 0 [(0, .inr (.inr 3)), (1, .inl (I o 14))] (v ++ []) M' Q)) ∧
   (¬ ((I o 14) < (10 : Int)) →
    m_Call i_LineReader_fails [.inr (.inr 3), .inl 2] (mem Ls p I L) (fun v M' =>
      m_Wp i_LineReader_readsRing 19 0 0 [(0, .inr (.inr 3)), (1, .inl (I o 14))] (v ++ []) M' Q)))) :
    m_Call i_LineReader_readsRing [.inr (.inr 3)] (mem Ls p I L) Q := by
  have he : m_ent 0 ([.inr (.inr 3)] : List mV) = [(0, .inr (.inr 3))] := rfl
  rcases hp with ⟨rfl, rfl⟩ | ⟨rfl, rfl⟩ <;> exact m_call_at 10 [] he h
set_option maxHeartbeats 4000000 in
set_option maxRecDepth 20000 in
theorem T_LineReader_readsRing_27 {Ls p kc ks : Nat}  {I L : Nat → Nat → Int} {x1 : Int} {Q : List mV → mM → Prop}
    (h : m_Call i_LineReader_readsPerson [.inr (.inr 3)] (mem Ls p I L) (fun v M' =>
    m_Wp i_LineReader_readsRing 31 kc ks [(0, .inr (.inr 3)), (1, .inl x1)] (v ++ []) M' Q)) :
    m_Wp i_LineReader_readsRing 27 kc ks [(0, .inr (.inr 3)), (1, .inl x1)] [] (mem Ls p I L) Q := by
  skip <;> exact m_wp_of 2 [] h
set_option maxHeartbeats 4000000 in
set_option maxRecDepth 20000 in
theorem T_LineReader_readsRing_19 {Ls p kc ks : Nat}  {I L : Nat → Nat → Int} {x1 y0 : Int} {Q : List mV → mM → Prop}
    (h : (y0 = 0 ∨ y0 = 1) ∧
  Q [.inl y0] (mem Ls p I L)) :
    m_Wp i_LineReader_readsRing 19 kc ks [(0, .inr (.inr 3)), (1, .inl x1)] [.inl y0] (mem Ls p I L) Q := by
  skip <;> exact m_wp_of 1 [] h
set_option maxHeartbeats 4000000 in
set_option maxRecDepth 20000 in
theorem T_LineReader_readsRing_31 {Ls p o kc ks : Nat} (hp : (p = 68 ∧ o = 9) ∨ (p = 9 ∧ o = 68)) {I L : Nat → Nat → Int} {x1 y0 : Int} {Q : List mV → mM → Prop}
    (h : ((¬ y0 = (0 : Int) →
    (0 ≤ x1 ∧ x1 < 10) ∧
    m_Call i_LineReader_readsNumber [.inr (.inr 3), .inl 0, .inl 200] (mem Ls p (mup I (o + 6) (Int.toNat x1) (I 3 6)) L) (fun v M' =>
      m_Wp i_LineReader_readsRing 57 kc ks [(0, .inr (.inr 3)), (1, .inl x1)] (v ++ []) M' Q)) ∧
   (¬ (¬ y0 = (0 : Int)) →
    ((0 : Int) = 0 ∨ (0 : Int) = 1) ∧
    Q [.inl 0] (mem Ls p I L)))) :
    m_Wp i_LineReader_readsRing 31 kc ks [(0, .inr (.inr 3)), (1, .inl x1)] [.inl y0] (mem Ls p I L) Q := by
  rcases hp with ⟨rfl, rfl⟩ | ⟨rfl, rfl⟩ <;> exact m_wp_of 12 [] h
set_option maxHeartbeats 4000000 in
set_option maxRecDepth 20000 in
theorem T_LineReader_readsRing_57 {Ls p o kc ks : Nat} (hp : (p = 68 ∧ o = 9) ∨ (p = 9 ∧ o = 68)) {I L : Nat → Nat → Int} {x1 y0 : Int} {Q : List mV → mM → Prop}
    (h : ((¬ y0 = (0 : Int) →
    (0 ≤ x1 ∧ x1 < 10) ∧
    ((1 : Int) = 0 ∨ (1 : Int) = 1) ∧
    Q [.inl 1] (mem Ls p (mup (mup I (o + 7) (Int.toNat x1) (I 3 6)) o 14 (wr ((I o 14) + 1))) L)) ∧
   (¬ (¬ y0 = (0 : Int)) →
    ((0 : Int) = 0 ∨ (0 : Int) = 1) ∧
    Q [.inl 0] (mem Ls p I L)))) :
    m_Wp i_LineReader_readsRing 57 kc ks [(0, .inr (.inr 3)), (1, .inl x1)] [.inl y0] (mem Ls p I L) Q := by
  rcases hp with ⟨rfl, rfl⟩ | ⟨rfl, rfl⟩ <;> exact m_wp_of 17 [] h
set_option maxHeartbeats 4000000 in
set_option maxRecDepth 20000 in
theorem E_LineReader_readsMeet {Ls p o : Nat} (hp : (p = 68 ∧ o = 9) ∨ (p = 9 ∧ o = 68)) {I L : Nat → Nat → Int} {Q : List mV → mM → Prop}
    (h : (((I o 15) < (6 : Int) →
    m_Call i_Tokens_advance [.inr (.inr 5)] (mem Ls p I L) (fun v M' =>
      m_Wp i_LineReader_readsMeet 27 0 0 [(0, .inr (.inr 3)), (1, .inl (I o 15))] (v ++ []) M' Q)) ∧
   (¬ ((I o 15) < (6 : Int)) →
    m_Call i_LineReader_fails [.inr (.inr 3), .inl 2] (mem Ls p I L) (fun v M' =>
      m_Wp i_LineReader_readsMeet 19 0 0 [(0, .inr (.inr 3)), (1, .inl (I o 15))] (v ++ []) M' Q)))) :
    m_Call i_LineReader_readsMeet [.inr (.inr 3)] (mem Ls p I L) Q := by
  have he : m_ent 0 ([.inr (.inr 3)] : List mV) = [(0, .inr (.inr 3))] := rfl
  rcases hp with ⟨rfl, rfl⟩ | ⟨rfl, rfl⟩ <;> exact m_call_at 10 [] he h
set_option maxHeartbeats 4000000 in
set_option maxRecDepth 20000 in
theorem T_LineReader_readsMeet_27 {Ls p kc ks : Nat}  {I L : Nat → Nat → Int} {x1 : Int} {Q : List mV → mM → Prop}
    (h : m_Call i_LineReader_readsPerson [.inr (.inr 3)] (mem Ls p I L) (fun v M' =>
    m_Wp i_LineReader_readsMeet 31 kc ks [(0, .inr (.inr 3)), (1, .inl x1)] (v ++ []) M' Q)) :
    m_Wp i_LineReader_readsMeet 27 kc ks [(0, .inr (.inr 3)), (1, .inl x1)] [] (mem Ls p I L) Q := by
  skip <;> exact m_wp_of 2 [] h
set_option maxHeartbeats 4000000 in
set_option maxRecDepth 20000 in
theorem T_LineReader_readsMeet_19 {Ls p kc ks : Nat}  {I L : Nat → Nat → Int} {x1 y0 : Int} {Q : List mV → mM → Prop}
    (h : (y0 = 0 ∨ y0 = 1) ∧
  Q [.inl y0] (mem Ls p I L)) :
    m_Wp i_LineReader_readsMeet 19 kc ks [(0, .inr (.inr 3)), (1, .inl x1)] [.inl y0] (mem Ls p I L) Q := by
  skip <;> exact m_wp_of 1 [] h
set_option maxHeartbeats 4000000 in
set_option maxRecDepth 20000 in
theorem T_LineReader_readsMeet_31 {Ls p o kc ks : Nat} (hp : (p = 68 ∧ o = 9) ∨ (p = 9 ∧ o = 68)) {I L : Nat → Nat → Int} {x1 y0 : Int} {Q : List mV → mM → Prop}
    (h : ((¬ y0 = (0 : Int) →
    (0 ≤ x1 ∧ x1 < 6) ∧
    ((¬ (I 5 4) = (3 : Int) →
      m_Call i_LineReader_readsPerson [.inr (.inr 3)] (mem Ls p (mup I (o + 8) (Int.toNat x1) (I 3 6)) L) (fun v M' =>
        m_Wp i_LineReader_readsMeet 91 kc ks [(0, .inr (.inr 3)), (1, .inl x1)] (v ++ []) M' Q)) ∧
     (¬ (¬ (I 5 4) = (3 : Int)) →
      m_Call i_Plan_numberOf [.inr (.inr o), .inl (I 5 7)] (mem Ls p (mup I (o + 8) (Int.toNat x1) (I 3 6)) L) (fun v M' =>
        m_Wp i_LineReader_readsMeet 74 kc ks [(0, .inr (.inr 3)), (1, .inl x1)] (v ++ []) M' Q)))) ∧
   (¬ (¬ y0 = (0 : Int)) →
    ((0 : Int) = 0 ∨ (0 : Int) = 1) ∧
    Q [.inl 0] (mem Ls p I L)))) :
    m_Wp i_LineReader_readsMeet 31 kc ks [(0, .inr (.inr 3)), (1, .inl x1)] [.inl y0] (mem Ls p I L) Q := by
  rcases hp with ⟨rfl, rfl⟩ | ⟨rfl, rfl⟩ <;> exact m_wp_of 19 [] h
set_option maxHeartbeats 4000000 in
set_option maxRecDepth 20000 in
theorem T_LineReader_readsMeet_91 {Ls p o kc ks : Nat} (hp : (p = 68 ∧ o = 9) ∨ (p = 9 ∧ o = 68)) {I L : Nat → Nat → Int} {x1 y0 : Int} {Q : List mV → mM → Prop}
    (h : ((¬ y0 = (0 : Int) →
    (0 ≤ x1 ∧ x1 < 6) ∧
    m_Call i_LineReader_readsNumber [.inr (.inr 3), .inl 0, .inl 300] (mem Ls p (mup I (o + 9) (Int.toNat x1) (I 3 6)) L) (fun v M' =>
      m_Wp i_LineReader_readsMeet 117 kc ks [(0, .inr (.inr 3)), (1, .inl x1)] (v ++ []) M' Q)) ∧
   (¬ (¬ y0 = (0 : Int)) →
    ((0 : Int) = 0 ∨ (0 : Int) = 1) ∧
    Q [.inl 0] (mem Ls p I L)))) :
    m_Wp i_LineReader_readsMeet 91 kc ks [(0, .inr (.inr 3)), (1, .inl x1)] [.inl y0] (mem Ls p I L) Q := by
  rcases hp with ⟨rfl, rfl⟩ | ⟨rfl, rfl⟩ <;> exact m_wp_of 12 [] h
set_option maxHeartbeats 4000000 in
set_option maxRecDepth 20000 in
theorem T_LineReader_readsMeet_74 {Ls p kc ks : Nat}  {I L : Nat → Nat → Int} {x1 y0 : Int} {Q : List mV → mM → Prop}
    (h : ((¬ y0 = (I 3 6) →
    m_Call i_LineReader_readsPerson [.inr (.inr 3)] (mem Ls p I L) (fun v M' =>
      m_Wp i_LineReader_readsMeet 91 kc ks [(0, .inr (.inr 3)), (1, .inl x1)] (v ++ []) M' Q)) ∧
   (¬ (¬ y0 = (I 3 6)) →
    m_Call i_LineReader_fails [.inr (.inr 3), .inl 5] (mem Ls p I L) (fun v M' =>
      m_Wp i_LineReader_readsMeet 86 kc ks [(0, .inr (.inr 3)), (1, .inl x1)] (v ++ []) M' Q)))) :
    m_Wp i_LineReader_readsMeet 74 kc ks [(0, .inr (.inr 3)), (1, .inl x1)] [.inl y0] (mem Ls p I L) Q := by
  skip <;> exact m_wp_of 6 [] h
set_option maxHeartbeats 4000000 in
set_option maxRecDepth 20000 in
theorem T_LineReader_readsMeet_117 {Ls p o kc ks : Nat} (hp : (p = 68 ∧ o = 9) ∨ (p = 9 ∧ o = 68)) {I L : Nat → Nat → Int} {x1 y0 : Int} {Q : List mV → mM → Prop}
    (h : ((¬ y0 = (0 : Int) →
    (0 ≤ x1 ∧ x1 < 6) ∧
    ((1 : Int) = 0 ∨ (1 : Int) = 1) ∧
    Q [.inl 1] (mem Ls p (mup (mup I (o + 10) (Int.toNat x1) (I 3 6)) o 15 (wr ((I o 15) + 1))) L)) ∧
   (¬ (¬ y0 = (0 : Int)) →
    ((0 : Int) = 0 ∨ (0 : Int) = 1) ∧
    Q [.inl 0] (mem Ls p I L)))) :
    m_Wp i_LineReader_readsMeet 117 kc ks [(0, .inr (.inr 3)), (1, .inl x1)] [.inl y0] (mem Ls p I L) Q := by
  rcases hp with ⟨rfl, rfl⟩ | ⟨rfl, rfl⟩ <;> exact m_wp_of 17 [] h
set_option maxHeartbeats 4000000 in
set_option maxRecDepth 20000 in
theorem T_LineReader_readsMeet_86 {Ls p kc ks : Nat}  {I L : Nat → Nat → Int} {x1 y0 : Int} {Q : List mV → mM → Prop}
    (h : (y0 = 0 ∨ y0 = 1) ∧
  Q [.inl y0] (mem Ls p I L)) :
    m_Wp i_LineReader_readsMeet 86 kc ks [(0, .inr (.inr 3)), (1, .inl x1)] [.inl y0] (mem Ls p I L) Q := by
  skip <;> exact m_wp_of 1 [] h
set_option maxHeartbeats 4000000 in
set_option maxRecDepth 20000 in
theorem E_LineReader_readsCold {Ls p o : Nat} (hp : (p = 68 ∧ o = 9) ∨ (p = 9 ∧ o = 68)) {I L : Nat → Nat → Int} {Q : List mV → mM → Prop}
    (h : (((I o 16) < (3 : Int) →
    m_Call i_Tokens_advance [.inr (.inr 5)] (mem Ls p I L) (fun v M' =>
      m_Wp i_LineReader_readsCold 26 0 0 [(0, .inr (.inr 3)), (1, .inl (I o 16))] (v ++ []) M' Q)) ∧
   (¬ ((I o 16) < (3 : Int)) →
    m_Call i_LineReader_fails [.inr (.inr 3), .inl 2] (mem Ls p I L) (fun v M' =>
      m_Wp i_LineReader_readsCold 18 0 0 [(0, .inr (.inr 3)), (1, .inl (I o 16))] (v ++ []) M' Q)))) :
    m_Call i_LineReader_readsCold [.inr (.inr 3)] (mem Ls p I L) Q := by
  have he : m_ent 0 ([.inr (.inr 3)] : List mV) = [(0, .inr (.inr 3))] := rfl
  rcases hp with ⟨rfl, rfl⟩ | ⟨rfl, rfl⟩ <;> exact m_call_at 10 [] he h
set_option maxHeartbeats 4000000 in
set_option maxRecDepth 20000 in
theorem T_LineReader_readsCold_26 {Ls p kc ks : Nat}  {I L : Nat → Nat → Int} {x1 : Int} {Q : List mV → mM → Prop}
    (h : m_Call i_LineReader_readsNumber [.inr (.inr 3), .inl 0, .inl 200] (mem Ls p I L) (fun v M' =>
    m_Wp i_LineReader_readsCold 34 kc ks [(0, .inr (.inr 3)), (1, .inl x1)] (v ++ []) M' Q)) :
    m_Wp i_LineReader_readsCold 26 kc ks [(0, .inr (.inr 3)), (1, .inl x1)] [] (mem Ls p I L) Q := by
  skip <;> exact m_wp_of 4 [] h
set_option maxHeartbeats 4000000 in
set_option maxRecDepth 20000 in
theorem T_LineReader_readsCold_18 {Ls p kc ks : Nat}  {I L : Nat → Nat → Int} {x1 y0 : Int} {Q : List mV → mM → Prop}
    (h : (y0 = 0 ∨ y0 = 1) ∧
  Q [.inl y0] (mem Ls p I L)) :
    m_Wp i_LineReader_readsCold 18 kc ks [(0, .inr (.inr 3)), (1, .inl x1)] [.inl y0] (mem Ls p I L) Q := by
  skip <;> exact m_wp_of 1 [] h
set_option maxHeartbeats 4000000 in
set_option maxRecDepth 20000 in
theorem T_LineReader_readsCold_34 {Ls p o kc ks : Nat} (hp : (p = 68 ∧ o = 9) ∨ (p = 9 ∧ o = 68)) {I L : Nat → Nat → Int} {x1 y0 : Int} {Q : List mV → mM → Prop}
    (h : ((¬ y0 = (0 : Int) →
    (0 ≤ x1 ∧ x1 < 3) ∧
    m_Call i_LineReader_readsNumber [.inr (.inr 3), .inl (I 3 6), .inl 200] (mem Ls p (mup I (o + 11) (Int.toNat x1) (I 3 6)) L) (fun v M' =>
      m_Wp i_LineReader_readsCold 63 kc ks [(0, .inr (.inr 3)), (1, .inl x1)] (v ++ []) M' Q)) ∧
   (¬ (¬ y0 = (0 : Int)) →
    ((0 : Int) = 0 ∨ (0 : Int) = 1) ∧
    Q [.inl 0] (mem Ls p I L)))) :
    m_Wp i_LineReader_readsCold 34 kc ks [(0, .inr (.inr 3)), (1, .inl x1)] [.inl y0] (mem Ls p I L) Q := by
  rcases hp with ⟨rfl, rfl⟩ | ⟨rfl, rfl⟩ <;> exact m_wp_of 13 [] h
set_option maxHeartbeats 4000000 in
set_option maxRecDepth 20000 in
theorem T_LineReader_readsCold_63 {Ls p o kc ks : Nat} (hp : (p = 68 ∧ o = 9) ∨ (p = 9 ∧ o = 68)) {I L : Nat → Nat → Int} {x1 y0 : Int} {Q : List mV → mM → Prop}
    (h : ((¬ y0 = (0 : Int) →
    (0 ≤ x1 ∧ x1 < 3) ∧
    ((1 : Int) = 0 ∨ (1 : Int) = 1) ∧
    Q [.inl 1] (mem Ls p (mup (mup I (o + 12) (Int.toNat x1) (I 3 6)) o 16 (wr ((I o 16) + 1))) L)) ∧
   (¬ (¬ y0 = (0 : Int)) →
    ((0 : Int) = 0 ∨ (0 : Int) = 1) ∧
    Q [.inl 0] (mem Ls p I L)))) :
    m_Wp i_LineReader_readsCold 63 kc ks [(0, .inr (.inr 3)), (1, .inl x1)] [.inl y0] (mem Ls p I L) Q := by
  rcases hp with ⟨rfl, rfl⟩ | ⟨rfl, rfl⟩ <;> exact m_wp_of 17 [] h
set_option maxHeartbeats 4000000 in
set_option maxRecDepth 20000 in
theorem E_LineReader_readsCrowd {Ls p : Nat}  {I L : Nat → Nat → Int} {Q : List mV → mM → Prop}
    (h : (((I 3 7) = (0 : Int) →
    ((1 : Int) = (0 : Int) ∨ (1 : Int) = (1 : Int)) ∧
    m_Call i_Tokens_advance [.inr (.inr 5)] (mem Ls p (mup I 3 7 1) L) (fun v M' =>
      m_Wp i_LineReader_readsCrowd 25 0 0 [(0, .inr (.inr 3))] (v ++ []) M' Q)) ∧
   (¬ ((I 3 7) = (0 : Int)) →
    m_Call i_LineReader_fails [.inr (.inr 3), .inl 3] (mem Ls p I L) (fun v M' =>
      m_Wp i_LineReader_readsCrowd 12 0 0 [(0, .inr (.inr 3))] (v ++ []) M' Q)))) :
    m_Call i_LineReader_readsCrowd [.inr (.inr 3)] (mem Ls p I L) Q := by
  have he : m_ent 0 ([.inr (.inr 3)] : List mV) = [(0, .inr (.inr 3))] := rfl
  skip <;> exact m_call_at 9 [] he h
set_option maxHeartbeats 4000000 in
set_option maxRecDepth 20000 in
theorem T_LineReader_readsCrowd_25 {Ls p kc ks : Nat}  {I L : Nat → Nat → Int} {Q : List mV → mM → Prop}
    (h : m_Call i_LineReader_readsNumber [.inr (.inr 3), .inl 0, .inl 100] (mem Ls p I L) (fun v M' =>
    m_Wp i_LineReader_readsCrowd 32 kc ks [(0, .inr (.inr 3))] (v ++ []) M' Q)) :
    m_Wp i_LineReader_readsCrowd 25 kc ks [(0, .inr (.inr 3))] [] (mem Ls p I L) Q := by
  skip <;> exact m_wp_of 4 [] h
set_option maxHeartbeats 4000000 in
set_option maxRecDepth 20000 in
theorem T_LineReader_readsCrowd_12 {Ls p kc ks : Nat}  {I L : Nat → Nat → Int} {y0 : Int} {Q : List mV → mM → Prop}
    (h : (y0 = 0 ∨ y0 = 1) ∧
  Q [.inl y0] (mem Ls p I L)) :
    m_Wp i_LineReader_readsCrowd 12 kc ks [(0, .inr (.inr 3))] [.inl y0] (mem Ls p I L) Q := by
  skip <;> exact m_wp_of 1 [] h
set_option maxHeartbeats 4000000 in
set_option maxRecDepth 20000 in
theorem T_LineReader_readsCrowd_32 {Ls p o kc ks : Nat} (hp : (p = 68 ∧ o = 9) ∨ (p = 9 ∧ o = 68)) {I L : Nat → Nat → Int} {y0 : Int} {Q : List mV → mM → Prop}
    (h : ((¬ y0 = (0 : Int) →
    ((1 : Int) = 0 ∨ (1 : Int) = 1) ∧
    Q [.inl 1] (mem Ls p (mup I o 17 (I 3 6)) L)) ∧
   (¬ (¬ y0 = (0 : Int)) →
    ((0 : Int) = 0 ∨ (0 : Int) = 1) ∧
    Q [.inl 0] (mem Ls p I L)))) :
    m_Wp i_LineReader_readsCrowd 32 kc ks [(0, .inr (.inr 3))] [.inl y0] (mem Ls p I L) Q := by
  rcases hp with ⟨rfl, rfl⟩ | ⟨rfl, rfl⟩ <;> exact m_wp_of 8 [] h
set_option maxHeartbeats 4000000 in
set_option maxRecDepth 20000 in
theorem E_LineReader_readsSeed {Ls p : Nat}  {I L : Nat → Nat → Int} {Q : List mV → mM → Prop}
    (h : (((I 3 8) = (0 : Int) →
    ((1 : Int) = (0 : Int) ∨ (1 : Int) = (1 : Int)) ∧
    m_Call i_Tokens_advance [.inr (.inr 5)] (mem Ls p (mup I 3 8 1) L) (fun v M' =>
      m_Wp i_LineReader_readsSeed 25 0 0 [(0, .inr (.inr 3))] (v ++ []) M' Q)) ∧
   (¬ ((I 3 8) = (0 : Int)) →
    m_Call i_LineReader_fails [.inr (.inr 3), .inl 3] (mem Ls p I L) (fun v M' =>
      m_Wp i_LineReader_readsSeed 12 0 0 [(0, .inr (.inr 3))] (v ++ []) M' Q)))) :
    m_Call i_LineReader_readsSeed [.inr (.inr 3)] (mem Ls p I L) Q := by
  have he : m_ent 0 ([.inr (.inr 3)] : List mV) = [(0, .inr (.inr 3))] := rfl
  skip <;> exact m_call_at 9 [] he h
set_option maxHeartbeats 4000000 in
set_option maxRecDepth 20000 in
theorem T_LineReader_readsSeed_25 {Ls p kc ks : Nat}  {I L : Nat → Nat → Int} {Q : List mV → mM → Prop}
    (h : m_Call i_LineReader_readsNumber [.inr (.inr 3), .inl 0, .inl 99999] (mem Ls p I L) (fun v M' =>
    m_Wp i_LineReader_readsSeed 32 kc ks [(0, .inr (.inr 3))] (v ++ []) M' Q)) :
    m_Wp i_LineReader_readsSeed 25 kc ks [(0, .inr (.inr 3))] [] (mem Ls p I L) Q := by
  skip <;> exact m_wp_of 4 [] h
set_option maxHeartbeats 4000000 in
set_option maxRecDepth 20000 in
theorem T_LineReader_readsSeed_12 {Ls p kc ks : Nat}  {I L : Nat → Nat → Int} {y0 : Int} {Q : List mV → mM → Prop}
    (h : (y0 = 0 ∨ y0 = 1) ∧
  Q [.inl y0] (mem Ls p I L)) :
    m_Wp i_LineReader_readsSeed 12 kc ks [(0, .inr (.inr 3))] [.inl y0] (mem Ls p I L) Q := by
  skip <;> exact m_wp_of 1 [] h
set_option maxHeartbeats 4000000 in
set_option maxRecDepth 20000 in
theorem T_LineReader_readsSeed_32 {Ls p o kc ks : Nat} (hp : (p = 68 ∧ o = 9) ∨ (p = 9 ∧ o = 68)) {I L : Nat → Nat → Int} {y0 : Int} {Q : List mV → mM → Prop}
    (h : ((¬ y0 = (0 : Int) →
    ((1 : Int) = 0 ∨ (1 : Int) = 1) ∧
    Q [.inl 1] (mem Ls p (mup I o 18 (I 3 6)) L)) ∧
   (¬ (¬ y0 = (0 : Int)) →
    ((0 : Int) = 0 ∨ (0 : Int) = 1) ∧
    Q [.inl 0] (mem Ls p I L)))) :
    m_Wp i_LineReader_readsSeed 32 kc ks [(0, .inr (.inr 3))] [.inl y0] (mem Ls p I L) Q := by
  rcases hp with ⟨rfl, rfl⟩ | ⟨rfl, rfl⟩ <;> exact m_wp_of 8 [] h
set_option maxHeartbeats 4000000 in
set_option maxRecDepth 20000 in
theorem E_LawReader_levelOf {Ls p : Nat}  {I L : Nat → Nat → Int} {a0 : Int} {Q : List mV → mM → Prop}
    (h : ((a0 = (7 : Int) →
    Q [.inl 5] (mem Ls p I L)) ∧
   (¬ a0 = (7 : Int) →
    ((a0 = (8 : Int) →
    Q [.inl 5] (mem Ls p I L)) ∧
   (¬ a0 = (8 : Int) →
    ((a0 = (9 : Int) →
    Q [.inl 6] (mem Ls p I L)) ∧
   (¬ a0 = (9 : Int) →
    ((a0 = (10 : Int) →
    Q [.inl 6] (mem Ls p I L)) ∧
   (¬ a0 = (10 : Int) →
    ((a0 = (11 : Int) →
    Q [.inl 4] (mem Ls p I L)) ∧
   (¬ a0 = (11 : Int) →
    ((a0 = (12 : Int) →
    Q [.inl 4] (mem Ls p I L)) ∧
   (¬ a0 = (12 : Int) →
    ((a0 = (13 : Int) →
    Q [.inl 4] (mem Ls p I L)) ∧
   (¬ a0 = (13 : Int) →
    ((a0 = (14 : Int) →
    Q [.inl 4] (mem Ls p I L)) ∧
   (¬ a0 = (14 : Int) →
    ((a0 = (15 : Int) →
    Q [.inl 4] (mem Ls p I L)) ∧
   (¬ a0 = (15 : Int) →
    ((a0 = (16 : Int) →
    Q [.inl 4] (mem Ls p I L)) ∧
   (¬ a0 = (16 : Int) →
    ((a0 = (27 : Int) →
    Q [.inl 1] (mem Ls p I L)) ∧
   (¬ a0 = (27 : Int) →
    ((a0 = (28 : Int) →
    Q [.inl 2] (mem Ls p I L)) ∧
   (¬ a0 = (28 : Int) →
    ((a0 = (29 : Int) →
    Q [.inl 3] (mem Ls p I L)) ∧
   (¬ a0 = (29 : Int) →
    Q [.inl 0] (mem Ls p I L)))))))))))))))))))))))))))) :
    m_Call i_LawReader_levelOf [.inl a0] (mem Ls p I L) Q := by
  have he : m_ent 0 ([.inl a0] : List mV) = [(0, .inl a0)] := rfl
  skip <;> exact m_call_at 4 [] he h
set_option maxHeartbeats 4000000 in
set_option maxRecDepth 20000 in
theorem E_LawReader_unpile {Ls p w : Nat} (hw : w = 22 ∨ w = 81) {I L : Nat → Nat → Int} {a1 : Int} {Q : List mV → mM → Prop}
    (h : (((I 4 2) ≤ (0 : Int) →
    Q [] (mem Ls p I L)) ∧
   (¬ ((I 4 2) ≤ (0 : Int)) →
    (0 ≤ (wr ((I 4 2) - 1)) ∧ (wr ((I 4 2) - 1)) < 72) ∧
    m_Call i_LawReader_levelOf [.inl (I 8 (Int.toNat (wr ((I 4 2) - 1))))] (mem Ls p I L) (fun v M' =>
      m_Wp i_LawReader_unpile 21 0 0 [(0, .inr (.inr 4)), (1, .inr (.inr w)), (2, .inl a1)] (v ++ []) M' Q)))) :
    m_Call i_LawReader_unpile [.inr (.inr 4), .inr (.inr w), .inl a1] (mem Ls p I L) Q := by
  have he : m_ent 0 ([.inr (.inr 4), .inr (.inr w), .inl a1] : List mV) = [(0, .inr (.inr 4)), (1, .inr (.inr w)), (2, .inl a1)] := rfl
  skip <;> rcases hw with rfl | rfl <;> exact m_call_at 12 [0] he h
set_option maxHeartbeats 4000000 in
set_option maxRecDepth 20000 in
theorem T_LawReader_unpile_21 {Ls p w kc ks : Nat} (hw : w = 22 ∨ w = 81) {I L : Nat → Nat → Int} {x2 y0 : Int} {Q : List mV → mM → Prop}
    (h : ((y0 < x2 →
    Q [] (mem Ls p I L)) ∧
   (¬ (y0 < x2) →
    (0 ≤ (wr ((I 4 2) - 1)) ∧ (wr ((I 4 2) - 1)) < 72) ∧
    m_Call i_Laws_add [.inr (.inr w), .inl (I 8 (Int.toNat (wr ((I 4 2) - 1)))), .inl 0] (mem Ls p (mup I 4 2 (wr ((I 4 2) - 1))) L) (fun v M' =>
      m_Wp i_LawReader_unpile 49 kc ks [(0, .inr (.inr 4)), (1, .inr (.inr w)), (2, .inl x2)] (v ++ []) M' Q)))) :
    m_Wp i_LawReader_unpile 21 kc ks [(0, .inr (.inr 4)), (1, .inr (.inr w)), (2, .inl x2)] [.inl y0] (mem Ls p I L) Q := by
  skip <;> rcases hw with rfl | rfl <;> exact m_wp_of 16 [0] h
set_option maxHeartbeats 4000000 in
set_option maxRecDepth 20000 in
theorem T_LawReader_unpile_49 {Ls p w kc ks : Nat} (hw : w = 22 ∨ w = 81) {I L : Nat → Nat → Int} {x2 : Int} {Q : List mV → mM → Prop}
    (h : m_Wp i_LawReader_unpile 0 kc ks [(0, .inr (.inr 4)), (1, .inr (.inr w)), (2, .inl x2)] [] (mem Ls p I L) Q) :
    m_Wp i_LawReader_unpile 49 kc ks [(0, .inr (.inr 4)), (1, .inr (.inr w)), (2, .inl x2)] [] (mem Ls p I L) Q := by
  skip <;> rcases hw with rfl | rfl <;> exact m_wp_of 2 [0] h
set_option maxHeartbeats 4000000 in
set_option maxRecDepth 20000 in
theorem T_LawReader_unpile_0 {Ls p w kc ks : Nat} (hw : w = 22 ∨ w = 81) {I L : Nat → Nat → Int} {x2 : Int} {Q : List mV → mM → Prop}
    (h : (((I 4 2) ≤ (0 : Int) →
    Q [] (mem Ls p I L)) ∧
   (¬ ((I 4 2) ≤ (0 : Int)) →
    (0 ≤ (wr ((I 4 2) - 1)) ∧ (wr ((I 4 2) - 1)) < 72) ∧
    m_Call i_LawReader_levelOf [.inl (I 8 (Int.toNat (wr ((I 4 2) - 1))))] (mem Ls p I L) (fun v M' =>
      m_Wp i_LawReader_unpile 21 kc ks [(0, .inr (.inr 4)), (1, .inr (.inr w)), (2, .inl x2)] (v ++ []) M' Q)))) :
    m_Wp i_LawReader_unpile 0 kc ks [(0, .inr (.inr 4)), (1, .inr (.inr w)), (2, .inl x2)] [] (mem Ls p I L) Q := by
  skip <;> rcases hw with rfl | rfl <;> exact m_wp_of 12 [0] h
set_option maxHeartbeats 4000000 in
set_option maxRecDepth 20000 in
theorem E_LawReader_pileUp {Ls p : Nat}  {I L : Nat → Nat → Int} {a0 : Int} {Q : List mV → mM → Prop}
    (h : (((72 : Int) ≤ (I 4 2) →
    Q [] (mem Ls p I L)) ∧
   (¬ ((72 : Int) ≤ (I 4 2)) →
    (0 ≤ (I 4 2) ∧ (I 4 2) < 72) ∧
    Q [] (mem Ls p (mup (mup I 8 (Int.toNat (I 4 2)) a0) 4 2 (wr ((I 4 2) + 1))) L)))) :
    m_Call i_LawReader_pileUp [.inr (.inr 4), .inl a0] (mem Ls p I L) Q := by
  have he : m_ent 0 ([.inr (.inr 4), .inl a0] : List mV) = [(0, .inr (.inr 4)), (1, .inl a0)] := rfl
  skip <;> exact m_call_at 20 [] he h
set_option maxHeartbeats 4000000 in
set_option maxRecDepth 20000 in
theorem E_LawReader_topLevel {Ls p : Nat}  {I L : Nat → Nat → Int} {Q : List mV → mM → Prop}
    (h : (((I 4 2) ≤ (0 : Int) →
    Q [.inl 0] (mem Ls p I L)) ∧
   (¬ ((I 4 2) ≤ (0 : Int)) →
    (0 ≤ (wr ((I 4 2) - 1)) ∧ (wr ((I 4 2) - 1)) < 72) ∧
    m_Call i_LawReader_levelOf [.inl (I 8 (Int.toNat (wr ((I 4 2) - 1))))] (mem Ls p I L) (fun v M' =>
      m_Wp i_LawReader_topLevel 21 0 0 [(0, .inr (.inr 4))] (v ++ []) M' Q)))) :
    m_Call i_LawReader_topLevel [.inr (.inr 4)] (mem Ls p I L) Q := by
  have he : m_ent 0 ([.inr (.inr 4)] : List mV) = [(0, .inr (.inr 4))] := rfl
  skip <;> exact m_call_at 11 [] he h
set_option maxHeartbeats 4000000 in
set_option maxRecDepth 20000 in
theorem T_LawReader_topLevel_21 {Ls p kc ks : Nat}  {I L : Nat → Nat → Int} {y0 : Int} {Q : List mV → mM → Prop}
    (h : Q [.inl y0] (mem Ls p I L)) :
    m_Wp i_LawReader_topLevel 21 kc ks [(0, .inr (.inr 4))] [.inl y0] (mem Ls p I L) Q := by
  skip <;> exact m_wp_of 3 [] h
set_option maxHeartbeats 4000000 in
set_option maxRecDepth 20000 in
theorem E_LawReader_pilesKnot {Ls p w : Nat} (hw : w = 22 ∨ w = 81) {I L : Nat → Nat → Int} {a1 : Int} {Q : List mV → mM → Prop}
    (h : (((I w 6) < (64 : Int) →
    m_Call i_LawReader_pileUp [.inr (.inr 4), .inl a1] (mem Ls p (mup I w 6 (wr ((I w 6) + 1))) L) (fun v M' =>
      m_Wp i_LawReader_pilesKnot 26 0 0 [(0, .inr (.inr 4)), (1, .inr (.inr w)), (2, .inl a1)] (v ++ []) M' Q)) ∧
   (¬ ((I w 6) < (64 : Int)) →
    Q [.inl 2] (mem Ls p I L)))) :
    m_Call i_LawReader_pilesKnot [.inr (.inr 4), .inr (.inr w), .inl a1] (mem Ls p I L) Q := by
  have he : m_ent 0 ([.inr (.inr 4), .inr (.inr w), .inl a1] : List mV) = [(0, .inr (.inr 4)), (1, .inr (.inr w)), (2, .inl a1)] := rfl
  skip <;> rcases hw with rfl | rfl <;> exact m_call_at 13 [] he h
set_option maxHeartbeats 4000000 in
set_option maxRecDepth 20000 in
theorem T_LawReader_pilesKnot_26 {Ls p w kc ks : Nat} (hw : w = 22 ∨ w = 81) {I L : Nat → Nat → Int} {x2 : Int} {Q : List mV → mM → Prop}
    (h : Q [.inl 0] (mem Ls p I L)) :
    m_Wp i_LawReader_pilesKnot 26 kc ks [(0, .inr (.inr 4)), (1, .inr (.inr w)), (2, .inl x2)] [] (mem Ls p I L) Q := by
  skip <;> rcases hw with rfl | rfl <;> exact m_wp_of 2 [] h
set_option maxHeartbeats 4000000 in
set_option maxRecDepth 20000 in
theorem E_LawReader_takesValue {Ls p w : Nat} (hw : w = 22 ∨ w = 81) {I L : Nat → Nat → Int} {Q : List mV → mM → Prop}
    (h : ((¬ (I 5 4) = (5 : Int) →
    ((¬ (I 5 4) = (29 : Int) →
      (((I 5 4) = (2 : Int) →
        (((64 : Int) ≤ (I w 6) →
          Q [.inl 2] (mem Ls p I L)) ∧
         (¬ ((64 : Int) ≤ (I w 6)) →
          ((¬ (I 5 4) = (2 : Int) →
            m_Call i_Laws_add [.inr (.inr w), .inl (I 5 4), .inl (I 5 6)] (mem Ls p (mup I w 6 (wr ((I w 6) + 1))) L) (fun v M' =>
              m_Wp i_LawReader_takesValue 131 0 0 [(0, .inr (.inr 4)), (1, .inr (.inr w)), (2, .inl (I 5 4))] (v ++ []) M' Q)) ∧
           (¬ (¬ (I 5 4) = (2 : Int)) →
            (((I 5 6) ≤ (9999 : Int) →
              m_Call i_Laws_add [.inr (.inr w), .inl (I 5 4), .inl (I 5 6)] (mem Ls p (mup I w 6 (wr ((I w 6) + 1))) L) (fun v M' =>
                m_Wp i_LawReader_takesValue 131 0 0 [(0, .inr (.inr 4)), (1, .inr (.inr w)), (2, .inl (I 5 4))] (v ++ []) M' Q)) ∧
             (¬ ((I 5 6) ≤ (9999 : Int)) →
              Q [.inl 2] (mem Ls p I L)))))))) ∧
       (¬ ((I 5 4) = (2 : Int)) →
        (((30 : Int) ≤ (I 5 4) →
          (((64 : Int) ≤ (I w 6) →
            Q [.inl 2] (mem Ls p I L)) ∧
           (¬ ((64 : Int) ≤ (I w 6)) →
            ((¬ (I 5 4) = (2 : Int) →
              m_Call i_Laws_add [.inr (.inr w), .inl (I 5 4), .inl (I 5 6)] (mem Ls p (mup I w 6 (wr ((I w 6) + 1))) L) (fun v M' =>
                m_Wp i_LawReader_takesValue 131 0 0 [(0, .inr (.inr 4)), (1, .inr (.inr w)), (2, .inl (I 5 4))] (v ++ []) M' Q)) ∧
             (¬ (¬ (I 5 4) = (2 : Int)) →
              (((I 5 6) ≤ (9999 : Int) →
                m_Call i_Laws_add [.inr (.inr w), .inl (I 5 4), .inl (I 5 6)] (mem Ls p (mup I w 6 (wr ((I w 6) + 1))) L) (fun v M' =>
                  m_Wp i_LawReader_takesValue 131 0 0 [(0, .inr (.inr 4)), (1, .inr (.inr w)), (2, .inl (I 5 4))] (v ++ []) M' Q)) ∧
               (¬ ((I 5 6) ≤ (9999 : Int)) →
                Q [.inl 2] (mem Ls p I L)))))))) ∧
         (¬ ((30 : Int) ≤ (I 5 4)) →
          Q [.inl 1] (mem Ls p I L)))))) ∧
     (¬ (¬ (I 5 4) = (29 : Int)) →
      m_Call i_LawReader_topLevel [.inr (.inr 4)] (mem Ls p I L) (fun v M' =>
        m_Wp i_LawReader_takesValue 51 0 0 [(0, .inr (.inr 4)), (1, .inr (.inr w)), (2, .inl (I 5 4))] (v ++ []) M' Q)))) ∧
   (¬ (¬ (I 5 4) = (5 : Int)) →
    (((I 4 3) < (8 : Int) →
      m_Call i_LawReader_pileUp [.inr (.inr 4), .inl 5] (mem Ls p (mup I 4 3 (wr ((I 4 3) + 1))) L) (fun v M' =>
        m_Wp i_LawReader_takesValue 39 0 0 [(0, .inr (.inr 4)), (1, .inr (.inr w)), (2, .inl (I 5 4))] (v ++ []) M' Q)) ∧
     (¬ ((I 4 3) < (8 : Int)) →
      Q [.inl 2] (mem Ls p I L)))))) :
    m_Call i_LawReader_takesValue [.inr (.inr 4), .inr (.inr w)] (mem Ls p I L) Q := by
  have he : m_ent 0 ([.inr (.inr 4), .inr (.inr w)] : List mV) = [(0, .inr (.inr 4)), (1, .inr (.inr w))] := rfl
  skip <;> rcases hw with rfl | rfl <;> exact m_call_at 42 [] he h
set_option maxHeartbeats 4000000 in
set_option maxRecDepth 20000 in
theorem T_LawReader_takesValue_131 {Ls p w kc ks : Nat} (hw : w = 22 ∨ w = 81) {I L : Nat → Nat → Int} {x2 : Int} {Q : List mV → mM → Prop}
    (h : ((0 : Int) = (0 : Int) ∨ (0 : Int) = (1 : Int)) ∧
  Q [.inl 0] (mem Ls p (mup I 4 4 0) L)) :
    m_Wp i_LawReader_takesValue 131 kc ks [(0, .inr (.inr 4)), (1, .inr (.inr w)), (2, .inl x2)] [] (mem Ls p I L) Q := by
  skip <;> rcases hw with rfl | rfl <;> exact m_wp_of 5 [] h
set_option maxHeartbeats 4000000 in
set_option maxRecDepth 20000 in
theorem T_LawReader_takesValue_51 {Ls p w kc ks : Nat} (hw : w = 22 ∨ w = 81) {I L : Nat → Nat → Int} {x2 y0 : Int} {Q : List mV → mM → Prop}
    (h : ((y0 ≤ (3 : Int) →
    m_Call i_LawReader_pilesKnot [.inr (.inr 4), .inr (.inr w), .inl 29] (mem Ls p I L) (fun v M' =>
      m_Wp i_LawReader_takesValue 66 kc ks [(0, .inr (.inr 4)), (1, .inr (.inr w)), (2, .inl x2)] (v ++ []) M' Q)) ∧
   (¬ (y0 ≤ (3 : Int)) →
    Q [.inl 1] (mem Ls p I L)))) :
    m_Wp i_LawReader_takesValue 51 kc ks [(0, .inr (.inr 4)), (1, .inr (.inr w)), (2, .inl x2)] [.inl y0] (mem Ls p I L) Q := by
  skip <;> rcases hw with rfl | rfl <;> exact m_wp_of 6 [] h
set_option maxHeartbeats 4000000 in
set_option maxRecDepth 20000 in
theorem T_LawReader_takesValue_39 {Ls p w kc ks : Nat} (hw : w = 22 ∨ w = 81) {I L : Nat → Nat → Int} {x2 : Int} {Q : List mV → mM → Prop}
    (h : Q [.inl 0] (mem Ls p I L)) :
    m_Wp i_LawReader_takesValue 39 kc ks [(0, .inr (.inr 4)), (1, .inr (.inr w)), (2, .inl x2)] [] (mem Ls p I L) Q := by
  skip <;> rcases hw with rfl | rfl <;> exact m_wp_of 2 [] h
set_option maxHeartbeats 4000000 in
set_option maxRecDepth 20000 in
theorem T_LawReader_takesValue_66 {Ls p w kc ks : Nat} (hw : w = 22 ∨ w = 81) {I L : Nat → Nat → Int} {x2 y0 : Int} {Q : List mV → mM → Prop}
    (h : Q [.inl y0] (mem Ls p I L)) :
    m_Wp i_LawReader_takesValue 66 kc ks [(0, .inr (.inr 4)), (1, .inr (.inr w)), (2, .inl x2)] [.inl y0] (mem Ls p I L) Q := by
  skip <;> rcases hw with rfl | rfl <;> exact m_wp_of 2 [] h
set_option maxHeartbeats 4000000 in
set_option maxRecDepth 20000 in
theorem E_LawReader_takesSign {Ls p w : Nat} (hw : w = 22 ∨ w = 81) {I L : Nat → Nat → Int} {Q : List mV → mM → Prop}
    (h : ((¬ (I 5 4) = (6 : Int) →
    m_Call i_LawReader_levelOf [.inl (I 5 4)] (mem Ls p I L) (fun v M' =>
      m_Wp i_LawReader_takesSign 55 0 0 [(0, .inr (.inr 4)), (1, .inr (.inr w)), (2, .inl (I 5 4))] (v ++ []) M' Q)) ∧
   (¬ (¬ (I 5 4) = (6 : Int)) →
    (((0 : Int) < (I 4 3) →
      m_Call i_LawReader_unpile [.inr (.inr 4), .inr (.inr w), .inl 1] (mem Ls p I L) (fun v M' =>
        m_Wp i_LawReader_takesSign 29 0 0 [(0, .inr (.inr 4)), (1, .inr (.inr w)), (2, .inl (I 5 4))] (v ++ []) M' Q)) ∧
     (¬ ((0 : Int) < (I 4 3)) →
      Q [.inl 1] (mem Ls p I L)))))) :
    m_Call i_LawReader_takesSign [.inr (.inr 4), .inr (.inr w)] (mem Ls p I L) Q := by
  have he : m_ent 0 ([.inr (.inr 4), .inr (.inr w)] : List mV) = [(0, .inr (.inr 4)), (1, .inr (.inr w))] := rfl
  skip <;> rcases hw with rfl | rfl <;> exact m_call_at 14 [] he h
set_option maxHeartbeats 4000000 in
set_option maxRecDepth 20000 in
theorem T_LawReader_takesSign_55 {Ls p w kc ks : Nat} (hw : w = 22 ∨ w = 81) {I L : Nat → Nat → Int} {x2 y0 : Int} {Q : List mV → mM → Prop}
    (h : ((y0 = (0 : Int) →
    Q [.inl 1] (mem Ls p I L)) ∧
   (¬ (y0 = (0 : Int)) →
    ((¬ y0 = (3 : Int) →
      ((¬ y0 = (4 : Int) →
        m_Call i_LawReader_unpile [.inr (.inr 4), .inr (.inr w), .inl y0] (mem Ls p I L) (fun v M' =>
          m_Wp i_LawReader_takesSign 96 kc ks [(0, .inr (.inr 4)), (1, .inr (.inr w)), (2, .inl x2), (3, .inl y0)] (v ++ []) M' Q)) ∧
       (¬ (¬ y0 = (4 : Int)) →
        m_Call i_LawReader_unpile [.inr (.inr 4), .inr (.inr w), .inl (wr (y0 + 1))] (mem Ls p I L) (fun v M' =>
          m_Wp i_LawReader_takesSign 80 kc ks [(0, .inr (.inr 4)), (1, .inr (.inr w)), (2, .inl x2), (3, .inl y0)] (v ++ []) M' Q)))) ∧
     (¬ (¬ y0 = (3 : Int)) →
      Q [.inl 1] (mem Ls p I L)))))) :
    m_Wp i_LawReader_takesSign 55 kc ks [(0, .inr (.inr 4)), (1, .inr (.inr w)), (2, .inl x2)] [.inl y0] (mem Ls p I L) Q := by
  skip <;> rcases hw with rfl | rfl <;> exact m_wp_of 15 [] h
set_option maxHeartbeats 4000000 in
set_option maxRecDepth 20000 in
theorem T_LawReader_takesSign_29 {Ls p w kc ks : Nat} (hw : w = 22 ∨ w = 81) {I L : Nat → Nat → Int} {x2 : Int} {Q : List mV → mM → Prop}
    (h : Q [.inl 0] (mem Ls p (mup (mup I 4 2 (wr ((I 4 2) - 1))) 4 3 (wr ((I 4 3) - 1))) L)) :
    m_Wp i_LawReader_takesSign 29 kc ks [(0, .inr (.inr 4)), (1, .inr (.inr w)), (2, .inl x2)] [] (mem Ls p I L) Q := by
  skip <;> rcases hw with rfl | rfl <;> exact m_wp_of 14 [] h
set_option maxHeartbeats 4000000 in
set_option maxRecDepth 20000 in
theorem T_LawReader_takesSign_96 {Ls p w kc ks : Nat} (hw : w = 22 ∨ w = 81) {I L : Nat → Nat → Int} {x2 x3 : Int} {Q : List mV → mM → Prop}
    (h : ((1 : Int) = (0 : Int) ∨ (1 : Int) = (1 : Int)) ∧
  m_Call i_LawReader_pilesKnot [.inr (.inr 4), .inr (.inr w), .inl x2] (mem Ls p (mup I 4 4 1) L) (fun v M' =>
    m_Wp i_LawReader_takesSign 107 kc ks [(0, .inr (.inr 4)), (1, .inr (.inr w)), (2, .inl x2), (3, .inl x3)] (v ++ []) M' Q)) :
    m_Wp i_LawReader_takesSign 96 kc ks [(0, .inr (.inr 4)), (1, .inr (.inr w)), (2, .inl x2), (3, .inl x3)] [] (mem Ls p I L) Q := by
  skip <;> rcases hw with rfl | rfl <;> exact m_wp_of 7 [] h
set_option maxHeartbeats 4000000 in
set_option maxRecDepth 20000 in
theorem T_LawReader_takesSign_80 {Ls p w kc ks : Nat} (hw : w = 22 ∨ w = 81) {I L : Nat → Nat → Int} {x2 x3 : Int} {Q : List mV → mM → Prop}
    (h : m_Call i_LawReader_topLevel [.inr (.inr 4)] (mem Ls p I L) (fun v M' =>
    m_Wp i_LawReader_takesSign 84 kc ks [(0, .inr (.inr 4)), (1, .inr (.inr w)), (2, .inl x2), (3, .inl x3)] (v ++ []) M' Q)) :
    m_Wp i_LawReader_takesSign 80 kc ks [(0, .inr (.inr 4)), (1, .inr (.inr w)), (2, .inl x2), (3, .inl x3)] [] (mem Ls p I L) Q := by
  skip <;> rcases hw with rfl | rfl <;> exact m_wp_of 2 [] h
set_option maxHeartbeats 4000000 in
set_option maxRecDepth 20000 in
theorem T_LawReader_takesSign_107 {Ls p w kc ks : Nat} (hw : w = 22 ∨ w = 81) {I L : Nat → Nat → Int} {x2 x3 y0 : Int} {Q : List mV → mM → Prop}
    (h : Q [.inl y0] (mem Ls p I L)) :
    m_Wp i_LawReader_takesSign 107 kc ks [(0, .inr (.inr 4)), (1, .inr (.inr w)), (2, .inl x2), (3, .inl x3)] [.inl y0] (mem Ls p I L) Q := by
  skip <;> rcases hw with rfl | rfl <;> exact m_wp_of 1 [] h
set_option maxHeartbeats 4000000 in
set_option maxRecDepth 20000 in
theorem T_LawReader_takesSign_84 {Ls p w kc ks : Nat} (hw : w = 22 ∨ w = 81) {I L : Nat → Nat → Int} {x2 x3 y0 : Int} {Q : List mV → mM → Prop}
    (h : ((¬ y0 = x3 →
    m_Call i_LawReader_unpile [.inr (.inr 4), .inr (.inr w), .inl x3] (mem Ls p I L) (fun v M' =>
      m_Wp i_LawReader_takesSign 96 kc ks [(0, .inr (.inr 4)), (1, .inr (.inr w)), (2, .inl x2), (3, .inl x3)] (v ++ []) M' Q)) ∧
   (¬ (¬ y0 = x3) →
    Q [.inl 1] (mem Ls p I L)))) :
    m_Wp i_LawReader_takesSign 84 kc ks [(0, .inr (.inr 4)), (1, .inr (.inr w)), (2, .inl x2), (3, .inl x3)] [.inl y0] (mem Ls p I L) Q := by
  skip <;> rcases hw with rfl | rfl <;> exact m_wp_of 7 [] h
set_option maxHeartbeats 4000000 in
set_option maxRecDepth 20000 in
theorem E_LawReader_readsLaw {Ls p w : Nat} (hw : w = 22 ∨ w = 81) {I L : Nat → Nat → Int} {a1 : Int} {Q : List mV → mM → Prop}
    (h : ((1 : Int) = (0 : Int) ∨ (1 : Int) = (1 : Int)) ∧
  m_Wp i_LawReader_readsLaw 23 0 0 [(0, .inr (.inr 4)), (1, .inr (.inr w)), (2, .inl a1), (3, .inl (I w 5)), (4, .inl 0)] [] (mem Ls p (mup (mup (mup I 4 2 0) 4 3 0) 4 4 1) L) Q) :
    m_Call i_LawReader_readsLaw [.inr (.inr 4), .inr (.inr w), .inl a1] (mem Ls p I L) Q := by
  have he : m_ent 0 ([.inr (.inr 4), .inr (.inr w), .inl a1] : List mV) = [(0, .inr (.inr 4)), (1, .inr (.inr w)), (2, .inl a1)] := rfl
  skip <;> rcases hw with rfl | rfl <;> exact m_call_at 15 [23] he h
set_option maxHeartbeats 4000000 in
set_option maxRecDepth 20000 in
theorem T_LawReader_readsLaw_23 {Ls p w kc ks : Nat} (hw : w = 22 ∨ w = 81) {I L : Nat → Nat → Int} {x2 x3 x4 : Int} {Q : List mV → mM → Prop}
    (h : (((700 : Int) < x4 →
    Q [.inl 1] (mem Ls p I L)) ∧
   (¬ ((700 : Int) < x4) →
    ((¬ (I 4 4) = (0 : Int) →
      (((I 4 4) = (0 : Int) →
        m_Call i_LawReader_takesSign [.inr (.inr 4), .inr (.inr w)] (mem Ls p I L) (fun v M' =>
          m_Wp i_LawReader_readsLaw 101 kc ks [(0, .inr (.inr 4)), (1, .inr (.inr w)), (2, .inl x2), (3, .inl x3), (4, .inl x4)] (v ++ []) M' Q)) ∧
       (¬ ((I 4 4) = (0 : Int)) →
        m_Call i_LawReader_takesValue [.inr (.inr 4), .inr (.inr w)] (mem Ls p I L) (fun v M' =>
          m_Wp i_LawReader_readsLaw 93 kc ks [(0, .inr (.inr 4)), (1, .inr (.inr w)), (2, .inl x2), (3, .inl x3), (4, .inl x4)] (v ++ []) M' Q)))) ∧
     (¬ (¬ (I 4 4) = (0 : Int)) →
      ((¬ (I 4 3) = (0 : Int) →
        (((I 4 4) = (0 : Int) →
          m_Call i_LawReader_takesSign [.inr (.inr 4), .inr (.inr w)] (mem Ls p I L) (fun v M' =>
            m_Wp i_LawReader_readsLaw 101 kc ks [(0, .inr (.inr 4)), (1, .inr (.inr w)), (2, .inl x2), (3, .inl x3), (4, .inl x4)] (v ++ []) M' Q)) ∧
         (¬ ((I 4 4) = (0 : Int)) →
          m_Call i_LawReader_takesValue [.inr (.inr 4), .inr (.inr w)] (mem Ls p I L) (fun v M' =>
            m_Wp i_LawReader_readsLaw 93 kc ks [(0, .inr (.inr 4)), (1, .inr (.inr w)), (2, .inl x2), (3, .inl x3), (4, .inl x4)] (v ++ []) M' Q)))) ∧
       (¬ (¬ (I 4 3) = (0 : Int)) →
        ((¬ (I 5 4) = (4 : Int) →
          (((I 4 4) = (0 : Int) →
            m_Call i_LawReader_takesSign [.inr (.inr 4), .inr (.inr w)] (mem Ls p I L) (fun v M' =>
              m_Wp i_LawReader_readsLaw 101 kc ks [(0, .inr (.inr 4)), (1, .inr (.inr w)), (2, .inl x2), (3, .inl x3), (4, .inl x4)] (v ++ []) M' Q)) ∧
           (¬ ((I 4 4) = (0 : Int)) →
            m_Call i_LawReader_takesValue [.inr (.inr 4), .inr (.inr w)] (mem Ls p I L) (fun v M' =>
              m_Wp i_LawReader_readsLaw 93 kc ks [(0, .inr (.inr 4)), (1, .inr (.inr w)), (2, .inl x2), (3, .inl x3), (4, .inl x4)] (v ++ []) M' Q)))) ∧
         (¬ (¬ (I 5 4) = (4 : Int)) →
          m_Call i_LawReader_unpile [.inr (.inr 4), .inr (.inr w), .inl 1] (mem Ls p I L) (fun v M' =>
            m_Wp i_LawReader_readsLaw 62 kc ks [(0, .inr (.inr 4)), (1, .inr (.inr w)), (2, .inl x2), (3, .inl x3), (4, .inl x4)] (v ++ []) M' Q)))))))))) :
    m_Wp i_LawReader_readsLaw 23 kc ks [(0, .inr (.inr 4)), (1, .inr (.inr w)), (2, .inl x2), (3, .inl x3), (4, .inl x4)] [] (mem Ls p I L) Q := by
  skip <;> rcases hw with rfl | rfl <;> exact m_wp_of 22 [23] h
set_option maxHeartbeats 4000000 in
set_option maxRecDepth 20000 in
theorem T_LawReader_readsLaw_101 {Ls p w kc ks : Nat} (hw : w = 22 ∨ w = 81) {I L : Nat → Nat → Int} {x2 x3 x4 y0 : Int} {Q : List mV → mM → Prop}
    (h : ((y0 = (0 : Int) →
    m_Call i_Tokens_advance [.inr (.inr 5)] (mem Ls p I L) (fun v M' =>
      m_Wp i_LawReader_readsLaw 118 kc ks [(0, .inr (.inr 4)), (1, .inr (.inr w)), (2, .inl x2), (3, .inl x3), (4, .inl x4), (5, .inl y0)] (v ++ []) M' Q)) ∧
   (¬ (y0 = (0 : Int)) →
    Q [.inl y0] (mem Ls p I L)))) :
    m_Wp i_LawReader_readsLaw 101 kc ks [(0, .inr (.inr 4)), (1, .inr (.inr w)), (2, .inl x2), (3, .inl x3), (4, .inl x4)] [.inl y0] (mem Ls p I L) Q := by
  skip <;> rcases hw with rfl | rfl <;> exact m_wp_of 7 [23] h
set_option maxHeartbeats 4000000 in
set_option maxRecDepth 20000 in
theorem T_LawReader_readsLaw_93 {Ls p w kc ks : Nat} (hw : w = 22 ∨ w = 81) {I L : Nat → Nat → Int} {x2 x3 x4 y0 : Int} {Q : List mV → mM → Prop}
    (h : ((y0 = (0 : Int) →
    m_Call i_Tokens_advance [.inr (.inr 5)] (mem Ls p I L) (fun v M' =>
      m_Wp i_LawReader_readsLaw 118 kc ks [(0, .inr (.inr 4)), (1, .inr (.inr w)), (2, .inl x2), (3, .inl x3), (4, .inl x4), (5, .inl y0)] (v ++ []) M' Q)) ∧
   (¬ (y0 = (0 : Int)) →
    Q [.inl y0] (mem Ls p I L)))) :
    m_Wp i_LawReader_readsLaw 93 kc ks [(0, .inr (.inr 4)), (1, .inr (.inr w)), (2, .inl x2), (3, .inl x3), (4, .inl x4)] [.inl y0] (mem Ls p I L) Q := by
  skip <;> rcases hw with rfl | rfl <;> exact m_wp_of 8 [23] h
set_option maxHeartbeats 4000000 in
set_option maxRecDepth 20000 in
theorem T_LawReader_readsLaw_62 {Ls p w kc ks : Nat} (hw : w = 22 ∨ w = 81) {I L : Nat → Nat → Int} {x2 x3 x4 : Int} {Q : List mV → mM → Prop}
    (h : (0 ≤ x2 ∧ x2 < 3) ∧
  (0 ≤ x2 ∧ x2 < 3) ∧
  Q [.inl 0] (mem Ls p (mup (mup I (w + 3) (Int.toNat x2) x3) (w + 4) (Int.toNat x2) (I w 5)) L)) :
    m_Wp i_LawReader_readsLaw 62 kc ks [(0, .inr (.inr 4)), (1, .inr (.inr w)), (2, .inl x2), (3, .inl x3), (4, .inl x4)] [] (mem Ls p I L) Q := by
  skip <;> rcases hw with rfl | rfl <;> exact m_wp_of 13 [23] h
set_option maxHeartbeats 4000000 in
set_option maxRecDepth 20000 in
theorem T_LawReader_readsLaw_118 {Ls p w kc ks : Nat} (hw : w = 22 ∨ w = 81) {I L : Nat → Nat → Int} {x2 x3 x4 x5 : Int} {Q : List mV → mM → Prop}
    (h : m_Wp i_LawReader_readsLaw 23 kc ks [(0, .inr (.inr 4)), (1, .inr (.inr w)), (2, .inl x2), (3, .inl x3), (4, .inl (wr (x4 + 1)))] [] (mem Ls p I L) Q) :
    m_Wp i_LawReader_readsLaw 118 kc ks [(0, .inr (.inr 4)), (1, .inr (.inr w)), (2, .inl x2), (3, .inl x3), (4, .inl x4), (5, .inl x5)] [] (mem Ls p I L) Q := by
  skip <;> rcases hw with rfl | rfl <;> exact m_wp_of 3 [23] h
set_option maxHeartbeats 4000000 in
set_option maxRecDepth 20000 in
theorem E_LineReader_readsLaw {Ls p : Nat}  {I L : Nat → Nat → Int} {Q : List mV → mM → Prop}
    (h : m_Call i_Tokens_advance [.inr (.inr 5)] (mem Ls p I L) (fun v M' =>
    m_Wp i_LineReader_readsLaw 7 0 0 [(0, .inr (.inr 3))] (v ++ []) M' Q)) :
    m_Call i_LineReader_readsLaw [.inr (.inr 3)] (mem Ls p I L) Q := by
  have he : m_ent 0 ([.inr (.inr 3)] : List mV) = [(0, .inr (.inr 3))] := rfl
  skip <;> exact m_call_at 3 [] he h
set_option maxHeartbeats 4000000 in
set_option maxRecDepth 20000 in
theorem T_LineReader_readsLaw_7 {Ls p o kc ks : Nat} (hp : (p = 68 ∧ o = 9) ∨ (p = 9 ∧ o = 68)) {I L : Nat → Nat → Int} {Q : List mV → mM → Prop}
    (h : (((I 5 4) < (24 : Int) →
    m_Call i_LineReader_fails [.inr (.inr 3), .inl 1] (mem Ls p I L) (fun v M' =>
      m_Wp i_LineReader_readsLaw 36 kc ks [(0, .inr (.inr 3))] (v ++ []) M' Q)) ∧
   (¬ ((I 5 4) < (24 : Int)) →
    (((I 5 4) ≤ (26 : Int) →
      m_Call i_Laws_isTold [.inr (.inr (o + 13)), .inl (wr ((I 5 4) - 24))] (mem Ls p I L) (fun v M' =>
        m_Wp i_LineReader_readsLaw 59 kc ks [(0, .inr (.inr 3)), (1, .inl (wr ((I 5 4) - 24)))] (v ++ []) M' Q)) ∧
     (¬ ((I 5 4) ≤ (26 : Int)) →
      m_Call i_LineReader_fails [.inr (.inr 3), .inl 1] (mem Ls p I L) (fun v M' =>
        m_Wp i_LineReader_readsLaw 36 kc ks [(0, .inr (.inr 3))] (v ++ []) M' Q)))))) :
    m_Wp i_LineReader_readsLaw 7 kc ks [(0, .inr (.inr 3))] [] (mem Ls p I L) Q := by
  rcases hp with ⟨rfl, rfl⟩ | ⟨rfl, rfl⟩ <;> exact m_wp_of 21 [] h
set_option maxHeartbeats 4000000 in
set_option maxRecDepth 20000 in
theorem T_LineReader_readsLaw_36 {Ls p kc ks : Nat}  {I L : Nat → Nat → Int} {y0 : Int} {Q : List mV → mM → Prop}
    (h : (y0 = 0 ∨ y0 = 1) ∧
  Q [.inl y0] (mem Ls p I L)) :
    m_Wp i_LineReader_readsLaw 36 kc ks [(0, .inr (.inr 3))] [.inl y0] (mem Ls p I L) Q := by
  skip <;> exact m_wp_of 1 [] h
set_option maxHeartbeats 4000000 in
set_option maxRecDepth 20000 in
theorem T_LineReader_readsLaw_59 {Ls p kc ks : Nat}  {I L : Nat → Nat → Int} {x1 y0 : Int} {Q : List mV → mM → Prop}
    (h : ((y0 = (0 : Int) →
    m_Call i_Tokens_advance [.inr (.inr 5)] (mem Ls p I L) (fun v M' =>
      m_Wp i_LineReader_readsLaw 75 kc ks [(0, .inr (.inr 3)), (1, .inl x1)] (v ++ []) M' Q)) ∧
   (¬ (y0 = (0 : Int)) →
    m_Call i_LineReader_fails [.inr (.inr 3), .inl 3] (mem Ls p I L) (fun v M' =>
      m_Wp i_LineReader_readsLaw 67 kc ks [(0, .inr (.inr 3)), (1, .inl x1)] (v ++ []) M' Q)))) :
    m_Wp i_LineReader_readsLaw 59 kc ks [(0, .inr (.inr 3)), (1, .inl x1)] [.inl y0] (mem Ls p I L) Q := by
  skip <;> exact m_wp_of 4 [] h
set_option maxHeartbeats 4000000 in
set_option maxRecDepth 20000 in
theorem T_LineReader_readsLaw_75 {Ls p o kc ks : Nat} (hp : (p = 68 ∧ o = 9) ∨ (p = 9 ∧ o = 68)) {I L : Nat → Nat → Int} {x1 : Int} {Q : List mV → mM → Prop}
    (h : m_Call i_LawReader_readsLaw [.inr (.inr 4), .inr (.inr (o + 13)), .inl x1] (mem Ls p I L) (fun v M' =>
    m_Wp i_LineReader_readsLaw 90 kc ks [(0, .inr (.inr 3)), (1, .inl x1)] (v ++ []) M' Q)) :
    m_Wp i_LineReader_readsLaw 75 kc ks [(0, .inr (.inr 3)), (1, .inl x1)] [] (mem Ls p I L) Q := by
  rcases hp with ⟨rfl, rfl⟩ | ⟨rfl, rfl⟩ <;> exact m_wp_of 7 [] h
set_option maxHeartbeats 4000000 in
set_option maxRecDepth 20000 in
theorem T_LineReader_readsLaw_67 {Ls p kc ks : Nat}  {I L : Nat → Nat → Int} {x1 y0 : Int} {Q : List mV → mM → Prop}
    (h : (y0 = 0 ∨ y0 = 1) ∧
  Q [.inl y0] (mem Ls p I L)) :
    m_Wp i_LineReader_readsLaw 67 kc ks [(0, .inr (.inr 3)), (1, .inl x1)] [.inl y0] (mem Ls p I L) Q := by
  skip <;> exact m_wp_of 1 [] h
set_option maxHeartbeats 4000000 in
set_option maxRecDepth 20000 in
theorem T_LineReader_readsLaw_90 {Ls p kc ks : Nat}  {I L : Nat → Nat → Int} {x1 y0 : Int} {Q : List mV → mM → Prop}
    (h : ((y0 = (0 : Int) →
    ((1 : Int) = 0 ∨ (1 : Int) = 1) ∧
    Q [.inl 1] (mem Ls p I L)) ∧
   (¬ (y0 = (0 : Int)) →
    m_Call i_LineReader_fails [.inr (.inr 3), .inl y0] (mem Ls p I L) (fun v M' =>
      m_Wp i_LineReader_readsLaw 100 kc ks [(0, .inr (.inr 3)), (1, .inl x1), (2, .inl y0)] (v ++ []) M' Q)))) :
    m_Wp i_LineReader_readsLaw 90 kc ks [(0, .inr (.inr 3)), (1, .inl x1)] [.inl y0] (mem Ls p I L) Q := by
  skip <;> exact m_wp_of 8 [] h
set_option maxHeartbeats 4000000 in
set_option maxRecDepth 20000 in
theorem T_LineReader_readsLaw_100 {Ls p kc ks : Nat}  {I L : Nat → Nat → Int} {x1 x2 y0 : Int} {Q : List mV → mM → Prop}
    (h : ((y0 = (0 : Int) →
    ((0 : Int) = 0 ∨ (0 : Int) = 1) ∧
    Q [.inl 0] (mem Ls p I L)) ∧
   (¬ (y0 = (0 : Int)) →
    ((1 : Int) = 0 ∨ (1 : Int) = 1) ∧
    Q [.inl 1] (mem Ls p I L)))) :
    m_Wp i_LineReader_readsLaw 100 kc ks [(0, .inr (.inr 3)), (1, .inl x1), (2, .inl x2)] [.inl y0] (mem Ls p I L) Q := by
  skip <;> exact m_wp_of 6 [] h
set_option maxHeartbeats 4000000 in
set_option maxRecDepth 20000 in
theorem E_LineReader_readsLine {Ls p : Nat}  {I L : Nat → Nat → Int} {Q : List mV → mM → Prop}
    (h : (((I 5 4) = (17 : Int) →
    m_Call i_LineReader_readsMan [.inr (.inr 3)] (mem Ls p I L) (fun v M' =>
      m_Wp i_LineReader_readsLine 52 0 0 [(0, .inr (.inr 3))] (v ++ []) M' Q)) ∧
   (¬ (I 5 4) = (17 : Int) →
    (((I 5 4) = (18 : Int) →
    m_Call i_LineReader_readsRing [.inr (.inr 3)] (mem Ls p I L) (fun v M' =>
      m_Wp i_LineReader_readsLine 72 0 0 [(0, .inr (.inr 3))] (v ++ []) M' Q)) ∧
   (¬ (I 5 4) = (18 : Int) →
    (((I 5 4) = (19 : Int) →
    m_Call i_LineReader_readsMeet [.inr (.inr 3)] (mem Ls p I L) (fun v M' =>
      m_Wp i_LineReader_readsLine 92 0 0 [(0, .inr (.inr 3))] (v ++ []) M' Q)) ∧
   (¬ (I 5 4) = (19 : Int) →
    (((I 5 4) = (20 : Int) →
    m_Call i_LineReader_readsCold [.inr (.inr 3)] (mem Ls p I L) (fun v M' =>
      m_Wp i_LineReader_readsLine 112 0 0 [(0, .inr (.inr 3))] (v ++ []) M' Q)) ∧
   (¬ (I 5 4) = (20 : Int) →
    (((I 5 4) = (21 : Int) →
    m_Call i_LineReader_readsCrowd [.inr (.inr 3)] (mem Ls p I L) (fun v M' =>
      m_Wp i_LineReader_readsLine 132 0 0 [(0, .inr (.inr 3))] (v ++ []) M' Q)) ∧
   (¬ (I 5 4) = (21 : Int) →
    (((I 5 4) = (22 : Int) →
    m_Call i_LineReader_readsSeed [.inr (.inr 3)] (mem Ls p I L) (fun v M' =>
      m_Wp i_LineReader_readsLine 152 0 0 [(0, .inr (.inr 3))] (v ++ []) M' Q)) ∧
   (¬ (I 5 4) = (22 : Int) →
    (((I 5 4) = (23 : Int) →
    m_Call i_LineReader_readsLaw [.inr (.inr 3)] (mem Ls p I L) (fun v M' =>
      m_Wp i_LineReader_readsLine 172 0 0 [(0, .inr (.inr 3))] (v ++ []) M' Q)) ∧
   (¬ (I 5 4) = (23 : Int) →
    m_Call i_LineReader_fails [.inr (.inr 3), .inl 1] (mem Ls p I L) (fun v M' =>
      m_Wp i_LineReader_readsLine 193 0 0 [(0, .inr (.inr 3))] (v ++ []) M' Q)))))))))))))))) :
    m_Call i_LineReader_readsLine [.inr (.inr 3)] (mem Ls p I L) Q := by
  have he : m_ent 0 ([.inr (.inr 3)] : List mV) = [(0, .inr (.inr 3))] := rfl
  skip <;> exact m_call_at 7 [] he h
set_option maxHeartbeats 4000000 in
set_option maxRecDepth 20000 in
theorem T_LineReader_readsLine_52 {Ls p kc ks : Nat}  {I L : Nat → Nat → Int} {y0 : Int} {Q : List mV → mM → Prop}
    (h : ((y0 = (0 : Int) →
    ((0 : Int) = 0 ∨ (0 : Int) = 1) ∧
    Q [.inl 0] (mem Ls p I L)) ∧
   (¬ (y0 = (0 : Int)) →
    m_Call i_LineReader_readsEnd [.inr (.inr 3)] (mem Ls p I L) (fun v M' =>
      m_Wp i_LineReader_readsLine 59 kc ks [(0, .inr (.inr 3))] (v ++ []) M' Q)))) :
    m_Wp i_LineReader_readsLine 52 kc ks [(0, .inr (.inr 3))] [.inl y0] (mem Ls p I L) Q := by
  skip <;> exact m_wp_of 5 [] h
set_option maxHeartbeats 4000000 in
set_option maxRecDepth 20000 in
theorem T_LineReader_readsLine_72 {Ls p kc ks : Nat}  {I L : Nat → Nat → Int} {y0 : Int} {Q : List mV → mM → Prop}
    (h : ((y0 = (0 : Int) →
    ((0 : Int) = 0 ∨ (0 : Int) = 1) ∧
    Q [.inl 0] (mem Ls p I L)) ∧
   (¬ (y0 = (0 : Int)) →
    m_Call i_LineReader_readsEnd [.inr (.inr 3)] (mem Ls p I L) (fun v M' =>
      m_Wp i_LineReader_readsLine 79 kc ks [(0, .inr (.inr 3))] (v ++ []) M' Q)))) :
    m_Wp i_LineReader_readsLine 72 kc ks [(0, .inr (.inr 3))] [.inl y0] (mem Ls p I L) Q := by
  skip <;> exact m_wp_of 5 [] h
set_option maxHeartbeats 4000000 in
set_option maxRecDepth 20000 in
theorem T_LineReader_readsLine_92 {Ls p kc ks : Nat}  {I L : Nat → Nat → Int} {y0 : Int} {Q : List mV → mM → Prop}
    (h : ((y0 = (0 : Int) →
    ((0 : Int) = 0 ∨ (0 : Int) = 1) ∧
    Q [.inl 0] (mem Ls p I L)) ∧
   (¬ (y0 = (0 : Int)) →
    m_Call i_LineReader_readsEnd [.inr (.inr 3)] (mem Ls p I L) (fun v M' =>
      m_Wp i_LineReader_readsLine 99 kc ks [(0, .inr (.inr 3))] (v ++ []) M' Q)))) :
    m_Wp i_LineReader_readsLine 92 kc ks [(0, .inr (.inr 3))] [.inl y0] (mem Ls p I L) Q := by
  skip <;> exact m_wp_of 5 [] h
set_option maxHeartbeats 4000000 in
set_option maxRecDepth 20000 in
theorem T_LineReader_readsLine_112 {Ls p kc ks : Nat}  {I L : Nat → Nat → Int} {y0 : Int} {Q : List mV → mM → Prop}
    (h : ((y0 = (0 : Int) →
    ((0 : Int) = 0 ∨ (0 : Int) = 1) ∧
    Q [.inl 0] (mem Ls p I L)) ∧
   (¬ (y0 = (0 : Int)) →
    m_Call i_LineReader_readsEnd [.inr (.inr 3)] (mem Ls p I L) (fun v M' =>
      m_Wp i_LineReader_readsLine 119 kc ks [(0, .inr (.inr 3))] (v ++ []) M' Q)))) :
    m_Wp i_LineReader_readsLine 112 kc ks [(0, .inr (.inr 3))] [.inl y0] (mem Ls p I L) Q := by
  skip <;> exact m_wp_of 5 [] h
set_option maxHeartbeats 4000000 in
set_option maxRecDepth 20000 in
theorem T_LineReader_readsLine_132 {Ls p kc ks : Nat}  {I L : Nat → Nat → Int} {y0 : Int} {Q : List mV → mM → Prop}
    (h : ((y0 = (0 : Int) →
    ((0 : Int) = 0 ∨ (0 : Int) = 1) ∧
    Q [.inl 0] (mem Ls p I L)) ∧
   (¬ (y0 = (0 : Int)) →
    m_Call i_LineReader_readsEnd [.inr (.inr 3)] (mem Ls p I L) (fun v M' =>
      m_Wp i_LineReader_readsLine 139 kc ks [(0, .inr (.inr 3))] (v ++ []) M' Q)))) :
    m_Wp i_LineReader_readsLine 132 kc ks [(0, .inr (.inr 3))] [.inl y0] (mem Ls p I L) Q := by
  skip <;> exact m_wp_of 5 [] h
set_option maxHeartbeats 4000000 in
set_option maxRecDepth 20000 in
theorem T_LineReader_readsLine_152 {Ls p kc ks : Nat}  {I L : Nat → Nat → Int} {y0 : Int} {Q : List mV → mM → Prop}
    (h : ((y0 = (0 : Int) →
    ((0 : Int) = 0 ∨ (0 : Int) = 1) ∧
    Q [.inl 0] (mem Ls p I L)) ∧
   (¬ (y0 = (0 : Int)) →
    m_Call i_LineReader_readsEnd [.inr (.inr 3)] (mem Ls p I L) (fun v M' =>
      m_Wp i_LineReader_readsLine 159 kc ks [(0, .inr (.inr 3))] (v ++ []) M' Q)))) :
    m_Wp i_LineReader_readsLine 152 kc ks [(0, .inr (.inr 3))] [.inl y0] (mem Ls p I L) Q := by
  skip <;> exact m_wp_of 5 [] h
set_option maxHeartbeats 4000000 in
set_option maxRecDepth 20000 in
theorem T_LineReader_readsLine_172 {Ls p kc ks : Nat}  {I L : Nat → Nat → Int} {y0 : Int} {Q : List mV → mM → Prop}
    (h : ((y0 = (0 : Int) →
    ((0 : Int) = 0 ∨ (0 : Int) = 1) ∧
    Q [.inl 0] (mem Ls p I L)) ∧
   (¬ (y0 = (0 : Int)) →
    m_Call i_LineReader_readsEnd [.inr (.inr 3)] (mem Ls p I L) (fun v M' =>
      m_Wp i_LineReader_readsLine 179 kc ks [(0, .inr (.inr 3))] (v ++ []) M' Q)))) :
    m_Wp i_LineReader_readsLine 172 kc ks [(0, .inr (.inr 3))] [.inl y0] (mem Ls p I L) Q := by
  skip <;> exact m_wp_of 5 [] h
set_option maxHeartbeats 4000000 in
set_option maxRecDepth 20000 in
theorem T_LineReader_readsLine_193 {Ls p kc ks : Nat}  {I L : Nat → Nat → Int} {y0 : Int} {Q : List mV → mM → Prop}
    (h : (y0 = 0 ∨ y0 = 1) ∧
  Q [.inl y0] (mem Ls p I L)) :
    m_Wp i_LineReader_readsLine 193 kc ks [(0, .inr (.inr 3))] [.inl y0] (mem Ls p I L) Q := by
  skip <;> exact m_wp_of 1 [] h
set_option maxHeartbeats 4000000 in
set_option maxRecDepth 20000 in
theorem T_LineReader_readsLine_59 {Ls p kc ks : Nat}  {I L : Nat → Nat → Int} {y0 : Int} {Q : List mV → mM → Prop}
    (h : ((y0 = (0 : Int) →
    ((0 : Int) = 0 ∨ (0 : Int) = 1) ∧
    Q [.inl 0] (mem Ls p I L)) ∧
   (¬ (y0 = (0 : Int)) →
    ((1 : Int) = 0 ∨ (1 : Int) = 1) ∧
    Q [.inl 1] (mem Ls p I L)))) :
    m_Wp i_LineReader_readsLine 59 kc ks [(0, .inr (.inr 3))] [.inl y0] (mem Ls p I L) Q := by
  skip <;> exact m_wp_of 5 [] h
set_option maxHeartbeats 4000000 in
set_option maxRecDepth 20000 in
theorem T_LineReader_readsLine_79 {Ls p kc ks : Nat}  {I L : Nat → Nat → Int} {y0 : Int} {Q : List mV → mM → Prop}
    (h : ((y0 = (0 : Int) →
    ((0 : Int) = 0 ∨ (0 : Int) = 1) ∧
    Q [.inl 0] (mem Ls p I L)) ∧
   (¬ (y0 = (0 : Int)) →
    ((1 : Int) = 0 ∨ (1 : Int) = 1) ∧
    Q [.inl 1] (mem Ls p I L)))) :
    m_Wp i_LineReader_readsLine 79 kc ks [(0, .inr (.inr 3))] [.inl y0] (mem Ls p I L) Q := by
  skip <;> exact m_wp_of 5 [] h
set_option maxHeartbeats 4000000 in
set_option maxRecDepth 20000 in
theorem T_LineReader_readsLine_99 {Ls p kc ks : Nat}  {I L : Nat → Nat → Int} {y0 : Int} {Q : List mV → mM → Prop}
    (h : ((y0 = (0 : Int) →
    ((0 : Int) = 0 ∨ (0 : Int) = 1) ∧
    Q [.inl 0] (mem Ls p I L)) ∧
   (¬ (y0 = (0 : Int)) →
    ((1 : Int) = 0 ∨ (1 : Int) = 1) ∧
    Q [.inl 1] (mem Ls p I L)))) :
    m_Wp i_LineReader_readsLine 99 kc ks [(0, .inr (.inr 3))] [.inl y0] (mem Ls p I L) Q := by
  skip <;> exact m_wp_of 5 [] h
set_option maxHeartbeats 4000000 in
set_option maxRecDepth 20000 in
theorem T_LineReader_readsLine_119 {Ls p kc ks : Nat}  {I L : Nat → Nat → Int} {y0 : Int} {Q : List mV → mM → Prop}
    (h : ((y0 = (0 : Int) →
    ((0 : Int) = 0 ∨ (0 : Int) = 1) ∧
    Q [.inl 0] (mem Ls p I L)) ∧
   (¬ (y0 = (0 : Int)) →
    ((1 : Int) = 0 ∨ (1 : Int) = 1) ∧
    Q [.inl 1] (mem Ls p I L)))) :
    m_Wp i_LineReader_readsLine 119 kc ks [(0, .inr (.inr 3))] [.inl y0] (mem Ls p I L) Q := by
  skip <;> exact m_wp_of 5 [] h
set_option maxHeartbeats 4000000 in
set_option maxRecDepth 20000 in
theorem T_LineReader_readsLine_139 {Ls p kc ks : Nat}  {I L : Nat → Nat → Int} {y0 : Int} {Q : List mV → mM → Prop}
    (h : ((y0 = (0 : Int) →
    ((0 : Int) = 0 ∨ (0 : Int) = 1) ∧
    Q [.inl 0] (mem Ls p I L)) ∧
   (¬ (y0 = (0 : Int)) →
    ((1 : Int) = 0 ∨ (1 : Int) = 1) ∧
    Q [.inl 1] (mem Ls p I L)))) :
    m_Wp i_LineReader_readsLine 139 kc ks [(0, .inr (.inr 3))] [.inl y0] (mem Ls p I L) Q := by
  skip <;> exact m_wp_of 5 [] h
set_option maxHeartbeats 4000000 in
set_option maxRecDepth 20000 in
theorem T_LineReader_readsLine_159 {Ls p kc ks : Nat}  {I L : Nat → Nat → Int} {y0 : Int} {Q : List mV → mM → Prop}
    (h : ((y0 = (0 : Int) →
    ((0 : Int) = 0 ∨ (0 : Int) = 1) ∧
    Q [.inl 0] (mem Ls p I L)) ∧
   (¬ (y0 = (0 : Int)) →
    ((1 : Int) = 0 ∨ (1 : Int) = 1) ∧
    Q [.inl 1] (mem Ls p I L)))) :
    m_Wp i_LineReader_readsLine 159 kc ks [(0, .inr (.inr 3))] [.inl y0] (mem Ls p I L) Q := by
  skip <;> exact m_wp_of 5 [] h
set_option maxHeartbeats 4000000 in
set_option maxRecDepth 20000 in
theorem T_LineReader_readsLine_179 {Ls p kc ks : Nat}  {I L : Nat → Nat → Int} {y0 : Int} {Q : List mV → mM → Prop}
    (h : ((y0 = (0 : Int) →
    ((0 : Int) = 0 ∨ (0 : Int) = 1) ∧
    Q [.inl 0] (mem Ls p I L)) ∧
   (¬ (y0 = (0 : Int)) →
    ((1 : Int) = 0 ∨ (1 : Int) = 1) ∧
    Q [.inl 1] (mem Ls p I L)))) :
    m_Wp i_LineReader_readsLine 179 kc ks [(0, .inr (.inr 3))] [.inl y0] (mem Ls p I L) Q := by
  skip <;> exact m_wp_of 5 [] h
set_option maxHeartbeats 4000000 in
set_option maxRecDepth 20000 in
theorem E_LineReader_readsAll {Ls p o : Nat} (hp : (p = 68 ∧ o = 9) ∨ (p = 9 ∧ o = 68)) {I L : Nat → Nat → Int} {a0 : Int} {Q : List mV → mM → Prop}
    (h : m_Call i_Plan_clear [.inr (.inr o)] (mem Ls p I L) (fun v M' =>
    m_Wp i_LineReader_readsAll 7 0 0 [(0, .inr (.inr 3)), (1, .inl a0)] (v ++ []) M' Q)) :
    m_Call i_LineReader_readsAll [.inr (.inr 3), .inl a0] (mem Ls p I L) Q := by
  have he : m_ent 0 ([.inr (.inr 3), .inl a0] : List mV) = [(0, .inr (.inr 3)), (1, .inl a0)] := rfl
  rcases hp with ⟨rfl, rfl⟩ | ⟨rfl, rfl⟩ <;> exact m_call_at 3 [42] he h
set_option maxHeartbeats 4000000 in
set_option maxRecDepth 20000 in
theorem T_LineReader_readsAll_7 {Ls p kc ks : Nat}  {I L : Nat → Nat → Int} {x1 : Int} {Q : List mV → mM → Prop}
    (h : ((0 : Int) = (0 : Int) ∨ (0 : Int) = (1 : Int)) ∧
  ((0 : Int) = (0 : Int) ∨ (0 : Int) = (1 : Int)) ∧
  m_Call i_Tokens_begin [.inr (.inr 5), .inl x1] (mem Ls p (mup (mup (mup (mup (mup I 3 3 0) 3 4 0) 3 5 (-1)) 3 7 0) 3 8 0) L) (fun v M' =>
    m_Wp i_LineReader_readsAll 40 kc ks [(0, .inr (.inr 3)), (1, .inl x1)] (v ++ []) M' Q)) :
    m_Wp i_LineReader_readsAll 7 kc ks [(0, .inr (.inr 3)), (1, .inl x1)] [] (mem Ls p I L) Q := by
  skip <;> exact m_wp_of 19 [42] h
set_option maxHeartbeats 4000000 in
set_option maxRecDepth 20000 in
theorem T_LineReader_readsAll_40 {Ls p kc ks : Nat}  {I L : Nat → Nat → Int} {x1 : Int} {Q : List mV → mM → Prop}
    (h : m_Wp i_LineReader_readsAll 42 kc ks [(0, .inr (.inr 3)), (2, .inl 0)] [] (mem Ls p I L) Q) :
    m_Wp i_LineReader_readsAll 40 kc ks [(0, .inr (.inr 3)), (1, .inl x1)] [] (mem Ls p I L) Q := by
  skip <;> exact m_wp_of 3 [42] h
set_option maxHeartbeats 4000000 in
set_option maxRecDepth 20000 in
theorem T_LineReader_readsAll_42 {Ls p kc ks : Nat}  {I L : Nat → Nat → Int} {x2 : Int} {Q : List mV → mM → Prop}
    (h : (((700 : Int) < x2 →
    ((1 : Int) = 0 ∨ (1 : Int) = 1) ∧
    Q [.inl 1] (mem Ls p I L)) ∧
   (¬ ((700 : Int) < x2) →
    (((I 5 4) = (0 : Int) →
      ((1 : Int) = 0 ∨ (1 : Int) = 1) ∧
      Q [.inl 1] (mem Ls p I L)) ∧
     (¬ ((I 5 4) = (0 : Int)) →
      m_Call i_LineReader_readsLine [.inr (.inr 3)] (mem Ls p I L) (fun v M' =>
        m_Wp i_LineReader_readsAll 63 kc ks [(0, .inr (.inr 3)), (2, .inl x2)] (v ++ []) M' Q)))))) :
    m_Wp i_LineReader_readsAll 42 kc ks [(0, .inr (.inr 3)), (2, .inl x2)] [] (mem Ls p I L) Q := by
  skip <;> exact m_wp_of 11 [42] h
set_option maxHeartbeats 4000000 in
set_option maxRecDepth 20000 in
theorem T_LineReader_readsAll_63 {Ls p kc ks : Nat}  {I L : Nat → Nat → Int} {x2 y0 : Int} {Q : List mV → mM → Prop}
    (h : ((¬ y0 = (0 : Int) →
    m_Wp i_LineReader_readsAll 42 kc ks [(0, .inr (.inr 3)), (2, .inl (wr (x2 + 1)))] [] (mem Ls p (mup I 3 3 (wr ((I 3 3) + 1))) L) Q) ∧
   (¬ (¬ y0 = (0 : Int)) →
    ((0 : Int) = 0 ∨ (0 : Int) = 1) ∧
    Q [.inl 0] (mem Ls p I L)))) :
    m_Wp i_LineReader_readsAll 63 kc ks [(0, .inr (.inr 3)), (2, .inl x2)] [.inl y0] (mem Ls p I L) Q := by
  skip <;> exact m_wp_of 10 [42] h
