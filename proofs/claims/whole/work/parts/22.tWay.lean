/-! ===== segments of the code (by program: wip/whole/gen_all.py) ===== -/
set_option maxHeartbeats 4000000 in
set_option maxRecDepth 20000 in
theorem E_Way_follow {Ls p : Nat} (hp : p = 68 ∨ p = 9) {I L : Nat → Nat → Int} {a0 : Int} {Q : List mV → mM → Prop}
    (h : (a0 = (0 : Int) ∨ a0 = (1 : Int)) ∧
  ((1 : Int) = (0 : Int) ∨ (1 : Int) = (1 : Int)) ∧
  ((0 ≤ (6 : Int) ∧ (6 : Int) ≤ 6) ∧ ((6 : Int) ≤ 6 ∧ ((Int.natAbs 0 : Nat) : Int) + ((Int.natAbs 0 : Nat) : Int) = 0)) ∧
  ((0 ≤ (6 : Int) ∧ (6 : Int) ≤ 6) ∧ ((6 : Int) ≤ 6 ∧ ((Int.natAbs 0 : Nat) : Int) + ((Int.natAbs 0 : Nat) : Int) = 0)) ∧
  Q [] (mem Ls p (mcpy (mcpy (mup (mup (mup (mup (mup I 64 8 a0) 64 4 (I p 17)) 64 5 (I p 16)) 64 6 (-1)) 64 7 1) (p + 3) 65 (Int.toNat 6)) (p + 5) 66 (Int.toNat 6)) L)) :
    m_Call i_Way_follow [.inr (.inr 64), .inl a0] (mem Ls p I L) Q := by
  have he : m_ent 0 ([.inr (.inr 64), .inl a0] : List mV) = [(0, .inr (.inr 64)), (1, .inl a0)] := rfl
  rcases hp with rfl | rfl <;> exact m_call_at 38 [] he h
set_option maxHeartbeats 4000000 in
set_option maxRecDepth 20000 in
theorem E_Way_lawOf {Ls p d : Nat} (hp : p = 68 ∨ p = 9) (hd : d = 28 ∨ d = 37 ∨ d = 46 ∨ d = 55) {I L : Nat → Nat → Int} {a1 a2 a3 : Int} {Q : List mV → mM → Prop}
    (h : (0 ≤ a2 ∧ a2 < 6) ∧
  (0 ≤ (0 : Int) ∧ (0 : Int) < 7) ∧
  (0 ≤ a2 ∧ a2 < 6) ∧
  (0 ≤ (1 : Int) ∧ (1 : Int) < 7) ∧
  (0 ≤ a2 ∧ a2 < 6) ∧
  (0 ≤ (2 : Int) ∧ (2 : Int) < 7) ∧
  (0 ≤ a2 ∧ a2 < 6) ∧
  (0 ≤ (3 : Int) ∧ (3 : Int) < 7) ∧
  (0 ≤ (4 : Int) ∧ (4 : Int) < 7) ∧
  (0 ≤ a2 ∧ a2 < 6) ∧
  (0 ≤ (5 : Int) ∧ (5 : Int) < 7) ∧
  (0 ≤ (6 : Int) ∧ (6 : Int) < 7) ∧
  m_Call i_Laws_valueOf [.inr (.inr (p + 13)), .inl a1, .inr (.inr 67)] (mem Ls p I (mup (mup (mup (mup (mup (mup (mup L 67 0 (I (p + 2) (Int.toNat a2))) 67 1 (I 65 (Int.toNat a2))) 67 2 (I (d + 1) (Int.toNat a2))) 67 3 (I 66 (Int.toNat a2))) 67 4 a3) 67 5 (I (d + 3) (Int.toNat a2))) 67 6 (I d 10))) (fun v M' =>
    m_Wp i_Way_lawOf 104 0 0 [(0, .inr (.inr 64)), (1, .inr (.inr d)), (2, .inl a1), (3, .inl a2), (4, .inl a3)] (v ++ []) M' Q)) :
    m_Call i_Way_lawOf [.inr (.inr 64), .inr (.inr d), .inl a1, .inl a2, .inl a3] (mem Ls p I L) Q := by
  have he : m_ent 0 ([.inr (.inr 64), .inr (.inr d), .inl a1, .inl a2, .inl a3] : List mV) = [(0, .inr (.inr 64)), (1, .inr (.inr d)), (2, .inl a1), (3, .inl a2), (4, .inl a3)] := rfl
  rcases hp with rfl | rfl <;> rcases hd with rfl | rfl | rfl | rfl <;> exact m_call_at 66 [] he h
set_option maxHeartbeats 4000000 in
set_option maxRecDepth 20000 in
theorem T_Way_lawOf_104 {Ls p d kc ks : Nat} (hd : d = 28 ∨ d = 37 ∨ d = 46 ∨ d = 55) {I L : Nat → Nat → Int} {x2 x3 x4 y0 : Int} {Q : List mV → mM → Prop}
    (h : Q [.inr (.inl y0)] (mem Ls p I L)) :
    m_Wp i_Way_lawOf 104 kc ks [(0, .inr (.inr 64)), (1, .inr (.inr d)), (2, .inl x2), (3, .inl x3), (4, .inl x4)] [.inr (.inl y0)] (mem Ls p I L) Q := by
  skip <;> rcases hd with rfl | rfl | rfl | rfl <;> exact m_wp_of 1 [] h
set_option maxHeartbeats 4000000 in
set_option maxRecDepth 20000 in
theorem E_Way_takeRings {Ls p d : Nat} (hd : d = 28 ∨ d = 37 ∨ d = 46 ∨ d = 55) {I L : Nat → Nat → Int} {Q : List mV → mM → Prop}
    (h : m_Wp i_Way_takeRings 2 0 0 [(0, .inr (.inr 64)), (1, .inr (.inr d)), (2, .inl 0)] [] (mem Ls p I L) Q) :
    m_Call i_Way_takeRings [.inr (.inr 64), .inr (.inr d)] (mem Ls p I L) Q := by
  have he : m_ent 0 ([.inr (.inr 64), .inr (.inr d)] : List mV) = [(0, .inr (.inr 64)), (1, .inr (.inr d))] := rfl
  skip <;> rcases hd with rfl | rfl | rfl | rfl <;> exact m_call_at 3 [2] he h
set_option maxHeartbeats 4000000 in
set_option maxRecDepth 20000 in
theorem T_Way_takeRings_2 {Ls p d kc ks : Nat} (hp : p = 68 ∨ p = 9) (hd : d = 28 ∨ d = 37 ∨ d = 46 ∨ d = 55) {I L : Nat → Nat → Int} {x2 : Int} {Q : List mV → mM → Prop}
    (h : (((I p 14) ≤ x2 →
    Q [] (mem Ls p I L)) ∧
   (¬ ((I p 14) ≤ x2) →
    (0 ≤ x2 ∧ x2 < 10) ∧
    ((¬ (I (p + 7) (Int.toNat x2)) = (I d 10) →
      m_Wp i_Way_takeRings 2 kc ks [(0, .inr (.inr 64)), (1, .inr (.inr d)), (2, .inl (wr (x2 + 1)))] [] (mem Ls p I L) Q) ∧
     (¬ (¬ (I (p + 7) (Int.toNat x2)) = (I d 10)) →
      (0 ≤ x2 ∧ x2 < 10) ∧
      (((I (p + 6) (Int.toNat x2)) = (I 64 6) →
        m_Wp i_Way_takeRings 2 kc ks [(0, .inr (.inr 64)), (1, .inr (.inr d)), (2, .inl (wr (x2 + 1)))] [] (mem Ls p I L) Q) ∧
       (¬ ((I (p + 6) (Int.toNat x2)) = (I 64 6)) →
        (0 ≤ x2 ∧ x2 < 10) ∧
        m_Call i_Day_takesIn [.inr (.inr d), .inl (I (p + 6) (Int.toNat x2))] (mem Ls p I L) (fun v M' =>
          m_Wp i_Way_takeRings 58 kc ks [(0, .inr (.inr 64)), (1, .inr (.inr d)), (2, .inl x2)] (v ++ []) M' Q)))))))) :
    m_Wp i_Way_takeRings 2 kc ks [(0, .inr (.inr 64)), (1, .inr (.inr d)), (2, .inl x2)] [] (mem Ls p I L) Q := by
  rcases hp with rfl | rfl <;> rcases hd with rfl | rfl | rfl | rfl <;> exact m_wp_of 29 [2] h
set_option maxHeartbeats 4000000 in
set_option maxRecDepth 20000 in
theorem T_Way_takeRings_58 {Ls p d kc ks : Nat} (hd : d = 28 ∨ d = 37 ∨ d = 46 ∨ d = 55) {I L : Nat → Nat → Int} {x2 y0 : Int} {Q : List mV → mM → Prop}
    (h : m_Wp i_Way_takeRings 2 kc ks [(0, .inr (.inr 64)), (1, .inr (.inr d)), (2, .inl (wr (x2 + 1)))] [] (mem Ls p I L) Q) :
    m_Wp i_Way_takeRings 58 kc ks [(0, .inr (.inr 64)), (1, .inr (.inr d)), (2, .inl x2)] [.inl y0] (mem Ls p I L) Q := by
  skip <;> rcases hd with rfl | rfl | rfl | rfl <;> exact m_wp_of 5 [2] h
set_option maxHeartbeats 4000000 in
set_option maxRecDepth 20000 in
theorem E_Way_isStrangerRinging {Ls p d : Nat} (hd : d = 28 ∨ d = 37 ∨ d = 46 ∨ d = 55) {I L : Nat → Nat → Int} {Q : List mV → mM → Prop}
    (h : ((¬ (I 64 8) = (0 : Int) →
    (((I 64 4) = (0 : Int) →
      ((¬ (I 64 4) = (100 : Int) →
        ((0 : Int) = 0 ∨ (0 : Int) = 1) ∧
        Q [.inl 0] (mem Ls p I L)) ∧
       (¬ (¬ (I 64 4) = (100 : Int)) →
        ((1 : Int) = 0 ∨ (1 : Int) = 1) ∧
        Q [.inl 1] (mem Ls p I L)))) ∧
     (¬ ((I 64 4) = (0 : Int)) →
      ((¬ (I 64 4) = (100 : Int) →
        m_Call i_Day_drawNumber [.inr (.inr d)] (mem Ls p I L) (fun v M' =>
          m_Wp i_Way_isStrangerRinging 57 0 0 [(0, .inr (.inr 64)), (1, .inr (.inr d))] (v ++ []) M' Q)) ∧
       (¬ (¬ (I 64 4) = (100 : Int)) →
        ((¬ (I 64 4) = (100 : Int) →
          ((0 : Int) = 0 ∨ (0 : Int) = 1) ∧
          Q [.inl 0] (mem Ls p I L)) ∧
         (¬ (¬ (I 64 4) = (100 : Int)) →
          ((1 : Int) = 0 ∨ (1 : Int) = 1) ∧
          Q [.inl 1] (mem Ls p I L)))))))) ∧
   (¬ (¬ (I 64 8) = (0 : Int)) →
    (((I 64 4) < (50 : Int) →
      ((0 : Int) = 0 ∨ (0 : Int) = 1) ∧
      Q [.inl 0] (mem Ls p I L)) ∧
     (¬ ((I 64 4) < (50 : Int)) →
      ((1 : Int) = 0 ∨ (1 : Int) = 1) ∧
      Q [.inl 1] (mem Ls p I L)))))) :
    m_Call i_Way_isStrangerRinging [.inr (.inr 64), .inr (.inr d)] (mem Ls p I L) Q := by
  have he : m_ent 0 ([.inr (.inr 64), .inr (.inr d)] : List mV) = [(0, .inr (.inr 64)), (1, .inr (.inr d))] := rfl
  skip <;> rcases hd with rfl | rfl | rfl | rfl <;> exact m_call_at 19 [] he h
set_option maxHeartbeats 4000000 in
set_option maxRecDepth 20000 in
theorem T_Way_isStrangerRinging_57 {Ls p d kc ks : Nat} (hd : d = 28 ∨ d = 37 ∨ d = 46 ∨ d = 55) {I L : Nat → Nat → Int} {y0 : Int} {Q : List mV → mM → Prop}
    (h : (¬ (100 : Int) = (0 : Int)) ∧
  (((I 64 4) ≤ (Int.tmod y0 100) →
    ((0 : Int) = 0 ∨ (0 : Int) = 1) ∧
    Q [.inl 0] (mem Ls p I L)) ∧
   (¬ ((I 64 4) ≤ (Int.tmod y0 100)) →
    ((1 : Int) = 0 ∨ (1 : Int) = 1) ∧
    Q [.inl 1] (mem Ls p I L)))) :
    m_Wp i_Way_isStrangerRinging 57 kc ks [(0, .inr (.inr 64)), (1, .inr (.inr d))] [.inl y0] (mem Ls p I L) Q := by
  skip <;> rcases hd with rfl | rfl | rfl | rfl <;> exact m_wp_of 9 [] h
set_option maxHeartbeats 4000000 in
set_option maxRecDepth 20000 in
theorem E_Way_isCold {Ls p : Nat}  {I L : Nat → Nat → Int} {a0 : Int} {Q : List mV → mM → Prop}
    (h : m_Wp i_Way_isCold 2 0 0 [(0, .inr (.inr 64)), (1, .inl a0), (2, .inl 0)] [] (mem Ls p I L) Q) :
    m_Call i_Way_isCold [.inr (.inr 64), .inl a0] (mem Ls p I L) Q := by
  have he : m_ent 0 ([.inr (.inr 64), .inl a0] : List mV) = [(0, .inr (.inr 64)), (1, .inl a0)] := rfl
  skip <;> exact m_call_at 3 [2] he h
set_option maxHeartbeats 4000000 in
set_option maxRecDepth 20000 in
theorem T_Way_isCold_2 {Ls p kc ks : Nat} (hp : p = 68 ∨ p = 9) {I L : Nat → Nat → Int} {x1 x2 : Int} {Q : List mV → mM → Prop}
    (h : (((I 64 5) ≤ x2 →
    ((0 : Int) = 0 ∨ (0 : Int) = 1) ∧
    Q [.inl 0] (mem Ls p I L)) ∧
   (¬ ((I 64 5) ≤ x2) →
    (0 ≤ x2 ∧ x2 < 3) ∧
    ((x1 < (I (p + 11) (Int.toNat x2)) →
      m_Wp i_Way_isCold 2 kc ks [(0, .inr (.inr 64)), (1, .inl x1), (2, .inl (wr (x2 + 1)))] [] (mem Ls p I L) Q) ∧
     (¬ (x1 < (I (p + 11) (Int.toNat x2))) →
      (0 ≤ x2 ∧ x2 < 3) ∧
      (((I (p + 12) (Int.toNat x2)) < x1 →
        m_Wp i_Way_isCold 2 kc ks [(0, .inr (.inr 64)), (1, .inl x1), (2, .inl (wr (x2 + 1)))] [] (mem Ls p I L) Q) ∧
       (¬ ((I (p + 12) (Int.toNat x2)) < x1) →
        ((1 : Int) = 0 ∨ (1 : Int) = 1) ∧
        Q [.inl 1] (mem Ls p I L)))))))) :
    m_Wp i_Way_isCold 2 kc ks [(0, .inr (.inr 64)), (1, .inl x1), (2, .inl x2)] [] (mem Ls p I L) Q := by
  rcases hp with rfl | rfl <;> exact m_wp_of 23 [2] h
set_option maxHeartbeats 4000000 in
set_option maxRecDepth 20000 in
theorem E_Way_startTalk {Ls p d : Nat} (hd : d = 28 ∨ d = 37 ∨ d = 46 ∨ d = 55) {I L : Nat → Nat → Int} {Q : List mV → mM → Prop}
    (h : (0 ≤ (0 : Int) ∧ (0 : Int) < 20) ∧
  m_Call i_Day_takeOut [.inr (.inr d), .inl 0] (mem Ls p I L) (fun v M' =>
    m_Wp i_Way_startTalk 12 0 0 [(0, .inr (.inr 64)), (1, .inr (.inr d)), (2, .inl (I (d + 4) 0))] (v ++ []) M' Q)) :
    m_Call i_Way_startTalk [.inr (.inr 64), .inr (.inr d)] (mem Ls p I L) Q := by
  have he : m_ent 0 ([.inr (.inr 64), .inr (.inr d)] : List mV) = [(0, .inr (.inr 64)), (1, .inr (.inr d))] := rfl
  skip <;> rcases hd with rfl | rfl | rfl | rfl <;> exact m_call_at 8 [] he h
set_option maxHeartbeats 4000000 in
set_option maxRecDepth 20000 in
theorem T_Way_startTalk_12 {Ls p d kc ks : Nat} (hd : d = 28 ∨ d = 37 ∨ d = 46 ∨ d = 55) {I L : Nat → Nat → Int} {x2 : Int} {Q : List mV → mM → Prop}
    (h : ((x2 = (-2) →
    m_Call i_Way_isCold [.inr (.inr 64), .inl (I d 10)] (mem Ls p I L) (fun v M' =>
      m_Wp i_Way_startTalk 75 kc ks [(0, .inr (.inr 64)), (1, .inr (.inr d)), (2, .inl x2), (3, .inr (.inl 2))] (v ++ []) M' Q)) ∧
   (¬ (x2 = (-2)) →
    m_Call i_Way_lawOf [.inr (.inr 64), .inr (.inr d), .inl 0, .inl x2, .inl (I d 11)] (mem Ls p I L) (fun v M' =>
      m_Wp i_Way_startTalk 33 kc ks [(0, .inr (.inr 64)), (1, .inr (.inr d)), (2, .inl x2), (3, .inr (.inl 2))] (v ++ []) M' Q)))) :
    m_Wp i_Way_startTalk 12 kc ks [(0, .inr (.inr 64)), (1, .inr (.inr d)), (2, .inl x2)] [] (mem Ls p I L) Q := by
  skip <;> rcases hd with rfl | rfl | rfl | rfl <;> exact m_wp_of 12 [] h
set_option maxHeartbeats 4000000 in
set_option maxRecDepth 20000 in
theorem T_Way_startTalk_75 {Ls p d kc ks : Nat} (hd : d = 28 ∨ d = 37 ∨ d = 46 ∨ d = 55) {I L : Nat → Nat → Int} {x2 x3 y0 : Int} {Q : List mV → mM → Prop}
    (h : ((y0 = (0 : Int) →
    Q [] (mem Ls p (mup (mup I d 12 x2) d 13 (wr x3)) L)) ∧
   (¬ (y0 = (0 : Int)) →
    Q [] (mem Ls p (mup (mup I d 12 x2) d 13 (wr (m_min 20 (wl (2 * x3))))) L)))) :
    m_Wp i_Way_startTalk 75 kc ks [(0, .inr (.inr 64)), (1, .inr (.inr d)), (2, .inl x2), (3, .inr (.inl x3))] [.inl y0] (mem Ls p I L) Q := by
  skip <;> rcases hd with rfl | rfl | rfl | rfl <;> exact m_wp_of 16 [] h
set_option maxHeartbeats 4000000 in
set_option maxRecDepth 20000 in
theorem T_Way_startTalk_33 {Ls p d kc ks : Nat} (hp : p = 68 ∨ p = 9) (hd : d = 28 ∨ d = 37 ∨ d = 46 ∨ d = 55) {I L : Nat → Nat → Int} {x2 x3 y0 : Int} {Q : List mV → mM → Prop}
    (h : ((¬ (m_lcmp y0 (-9223372036854775808)) = (0 : Int) →
    m_Call i_C_within [.inr (.inl y0), .inr (.inl 1), .inr (.inl 20)] (mem Ls p I L) (fun v M' =>
      m_Wp i_Way_startTalk 66 kc ks [(0, .inr (.inr 64)), (1, .inr (.inr d)), (2, .inl x2), (3, .inr (.inl x3)), (5, .inr (.inl y0))] (v ++ []) M' Q)) ∧
   (¬ (¬ (m_lcmp y0 (-9223372036854775808)) = (0 : Int)) →
    (0 ≤ x2 ∧ x2 < 6) ∧
    m_Call i_Way_isCold [.inr (.inr 64), .inl (I d 10)] (mem Ls p I L) (fun v M' =>
      m_Wp i_Way_startTalk 75 kc ks [(0, .inr (.inr 64)), (1, .inr (.inr d)), (2, .inl x2), (3, .inr (.inl (I (p + 2) (Int.toNat x2))))] (v ++ []) M' Q)))) :
    m_Wp i_Way_startTalk 33 kc ks [(0, .inr (.inr 64)), (1, .inr (.inr d)), (2, .inl x2), (3, .inr (.inl x3))] [.inr (.inl y0)] (mem Ls p I L) Q := by
  rcases hp with rfl | rfl <;> rcases hd with rfl | rfl | rfl | rfl <;> exact m_wp_of 19 [] h
set_option maxHeartbeats 4000000 in
set_option maxRecDepth 20000 in
theorem T_Way_startTalk_66 {Ls p d kc ks : Nat} (hd : d = 28 ∨ d = 37 ∨ d = 46 ∨ d = 55) {I L : Nat → Nat → Int} {x2 x3 x5 y0 : Int} {Q : List mV → mM → Prop}
    (h : m_Call i_Way_isCold [.inr (.inr 64), .inl (I d 10)] (mem Ls p I L) (fun v M' =>
    m_Wp i_Way_startTalk 75 kc ks [(0, .inr (.inr 64)), (1, .inr (.inr d)), (2, .inl x2), (3, .inr (.inl y0))] (v ++ []) M' Q)) :
    m_Wp i_Way_startTalk 66 kc ks [(0, .inr (.inr 64)), (1, .inr (.inr d)), (2, .inl x2), (3, .inr (.inl x3)), (5, .inr (.inl x5))] [.inr (.inl y0)] (mem Ls p I L) Q := by
  skip <;> rcases hd with rfl | rfl | rfl | rfl <;> exact m_wp_of 7 [] h
set_option maxHeartbeats 4000000 in
set_option maxRecDepth 20000 in
theorem E_Way_goOnTalking {Ls p d : Nat} (hd : d = 28 ∨ d = 37 ∨ d = 46 ∨ d = 55) {I L : Nat → Nat → Int} {Q : List mV → mM → Prop}
    (h : (((wr ((I d 13) - 1)) ≤ (0 : Int) →
    (((I d 12) = (-2) →
      Q [] (mem Ls p (mup (mup I d 13 (wr ((I d 13) - 1))) d 12 (-1)) L)) ∧
     (¬ ((I d 12) = (-2)) →
      (0 ≤ (I d 12) ∧ (I d 12) < 6) ∧
      m_Call i_Way_lawOf [.inr (.inr 64), .inr (.inr d), .inl 1, .inl (I d 12), .inl (I (d + 2) (Int.toNat (I d 12)))] (mem Ls p (mup (mup I d 13 (wr ((I d 13) - 1))) d 12 (-1)) L) (fun v M' =>
        m_Wp i_Way_goOnTalking 49 0 0 [(0, .inr (.inr 64)), (1, .inr (.inr d)), (2, .inl (I d 12)), (3, .inl (I (d + 2) (Int.toNat (I d 12))))] (v ++ []) M' Q)))) ∧
   (¬ ((wr ((I d 13) - 1)) ≤ (0 : Int)) →
    Q [] (mem Ls p (mup I d 13 (wr ((I d 13) - 1))) L)))) :
    m_Call i_Way_goOnTalking [.inr (.inr 64), .inr (.inr d)] (mem Ls p I L) Q := by
  have he : m_ent 0 ([.inr (.inr 64), .inr (.inr d)] : List mV) = [(0, .inr (.inr 64)), (1, .inr (.inr d))] := rfl
  skip <;> rcases hd with rfl | rfl | rfl | rfl <;> exact m_call_at 29 [] he h
set_option maxHeartbeats 4000000 in
set_option maxRecDepth 20000 in
theorem T_Way_goOnTalking_49 {Ls p d kc ks : Nat} (hd : d = 28 ∨ d = 37 ∨ d = 46 ∨ d = 55) {I L : Nat → Nat → Int} {x2 x3 y0 : Int} {Q : List mV → mM → Prop}
    (h : ((¬ (m_lcmp y0 (-9223372036854775808)) = (0 : Int) →
    m_Call i_C_within [.inr (.inl y0), .inr (.inl (-30)), .inr (.inl 30)] (mem Ls p I L) (fun v M' =>
      m_Wp i_Way_goOnTalking 82 kc ks [(1, .inr (.inr d)), (2, .inl x2)] (v ++ [.inl x2, .inr (.inr (d + 1))]) M' Q)) ∧
   (¬ (¬ (m_lcmp y0 (-9223372036854775808)) = (0 : Int)) →
    m_Call i_C_within [.inr (.inl (wr (-x3))), .inr (.inl (-30)), .inr (.inl 30)] (mem Ls p I L) (fun v M' =>
      m_Wp i_Way_goOnTalking 82 kc ks [(1, .inr (.inr d)), (2, .inl x2)] (v ++ [.inl x2, .inr (.inr (d + 1))]) M' Q)))) :
    m_Wp i_Way_goOnTalking 49 kc ks [(0, .inr (.inr 64)), (1, .inr (.inr d)), (2, .inl x2), (3, .inl x3)] [.inr (.inl y0)] (mem Ls p I L) Q := by
  skip <;> rcases hd with rfl | rfl | rfl | rfl <;> exact m_wp_of 16 [] h
set_option maxHeartbeats 4000000 in
set_option maxRecDepth 20000 in
theorem T_Way_goOnTalking_82 {Ls p d kc ks : Nat} (hd : d = 28 ∨ d = 37 ∨ d = 46 ∨ d = 55) {I L : Nat → Nat → Int} {x2 y1 y2 : Int} {Q : List mV → mM → Prop}
    (h : (0 ≤ y1 ∧ y1 < 6) ∧
  (0 ≤ x2 ∧ x2 < 6) ∧
  (0 ≤ x2 ∧ x2 < 6) ∧
  Q [] (mem Ls p (mup (mup I (d + 1) (Int.toNat y1) (wr y2)) (d + 3) (Int.toNat x2) (wr ((I (d + 3) (Int.toNat x2)) + 1))) L)) :
    m_Wp i_Way_goOnTalking 82 kc ks [(1, .inr (.inr d)), (2, .inl x2)] [.inr (.inl y2), .inl y1, .inr (.inr (d + 1))] (mem Ls p I L) Q := by
  skip <;> rcases hd with rfl | rfl | rfl | rfl <;> exact m_wp_of 12 [] h
set_option maxHeartbeats 4000000 in
set_option maxRecDepth 20000 in
theorem E_Way_driftAll {Ls p d : Nat} (hd : d = 28 ∨ d = 37 ∨ d = 46 ∨ d = 55) {I L : Nat → Nat → Int} {Q : List mV → mM → Prop}
    (h : m_Wp i_Way_driftAll 2 0 0 [(0, .inr (.inr 64)), (1, .inr (.inr d)), (2, .inl 0)] [] (mem Ls p I L) Q) :
    m_Call i_Way_driftAll [.inr (.inr 64), .inr (.inr d)] (mem Ls p I L) Q := by
  have he : m_ent 0 ([.inr (.inr 64), .inr (.inr d)] : List mV) = [(0, .inr (.inr 64)), (1, .inr (.inr d))] := rfl
  skip <;> rcases hd with rfl | rfl | rfl | rfl <;> exact m_call_at 3 [2] he h
set_option maxHeartbeats 4000000 in
set_option maxRecDepth 20000 in
theorem T_Way_driftAll_2 {Ls p d kc ks : Nat} (hp : p = 68 ∨ p = 9) (hd : d = 28 ∨ d = 37 ∨ d = 46 ∨ d = 55) {I L : Nat → Nat → Int} {x2 : Int} {Q : List mV → mM → Prop}
    (h : (((I p 13) ≤ x2 →
    Q [] (mem Ls p I L)) ∧
   (¬ ((I p 13) ≤ x2) →
    m_Call i_Way_lawOf [.inr (.inr 64), .inr (.inr d), .inl 2, .inl x2, .inl (I d 11)] (mem Ls p I L) (fun v M' =>
      m_Wp i_Way_driftAll 24 kc ks [(0, .inr (.inr 64)), (1, .inr (.inr d)), (2, .inl x2)] (v ++ []) M' Q)))) :
    m_Wp i_Way_driftAll 2 kc ks [(0, .inr (.inr 64)), (1, .inr (.inr d)), (2, .inl x2)] [] (mem Ls p I L) Q := by
  rcases hp with rfl | rfl <;> rcases hd with rfl | rfl | rfl | rfl <;> exact m_wp_of 13 [2] h
set_option maxHeartbeats 4000000 in
set_option maxRecDepth 20000 in
theorem T_Way_driftAll_24 {Ls p d kc ks : Nat} (hd : d = 28 ∨ d = 37 ∨ d = 46 ∨ d = 55) {I L : Nat → Nat → Int} {x2 y0 : Int} {Q : List mV → mM → Prop}
    (h : ((¬ (m_lcmp y0 (-9223372036854775808)) = (0 : Int) →
    m_Call i_C_within [.inr (.inl y0), .inr (.inl (-9)), .inr (.inl 9)] (mem Ls p I L) (fun v M' =>
      m_Wp i_Way_driftAll 53 kc ks [(0, .inr (.inr 64)), (1, .inr (.inr d)), (2, .inl x2), (3, .inr (.inl y0))] (v ++ []) M' Q)) ∧
   (¬ (¬ (m_lcmp y0 (-9223372036854775808)) = (0 : Int)) →
    (0 ≤ x2 ∧ x2 < 6) ∧
    (0 ≤ x2 ∧ x2 < 6) ∧
    m_Call i_C_within [.inr (.inl (wl ((I (d + 1) (Int.toNat x2)) + (I 66 (Int.toNat x2))))), .inr (.inl (-99)), .inr (.inl 99)] (mem Ls p I L) (fun v M' =>
      m_Wp i_Way_driftAll 79 kc ks [(0, .inr (.inr 64)), (1, .inr (.inr d)), (2, .inl x2), (5, .inr (.inl (I 66 (Int.toNat x2))))] (v ++ [.inl x2, .inr (.inr (d + 1))]) M' Q)))) :
    m_Wp i_Way_driftAll 24 kc ks [(0, .inr (.inr 64)), (1, .inr (.inr d)), (2, .inl x2)] [.inr (.inl y0)] (mem Ls p I L) Q := by
  skip <;> rcases hd with rfl | rfl | rfl | rfl <;> exact m_wp_of 26 [2] h
set_option maxHeartbeats 4000000 in
set_option maxRecDepth 20000 in
theorem T_Way_driftAll_53 {Ls p d kc ks : Nat} (hd : d = 28 ∨ d = 37 ∨ d = 46 ∨ d = 55) {I L : Nat → Nat → Int} {x2 x3 y0 : Int} {Q : List mV → mM → Prop}
    (h : (0 ≤ x2 ∧ x2 < 6) ∧
  m_Call i_C_within [.inr (.inl (wl ((I (d + 1) (Int.toNat x2)) + y0))), .inr (.inl (-99)), .inr (.inl 99)] (mem Ls p I L) (fun v M' =>
    m_Wp i_Way_driftAll 79 kc ks [(0, .inr (.inr 64)), (1, .inr (.inr d)), (2, .inl x2), (5, .inr (.inl y0))] (v ++ [.inl x2, .inr (.inr (d + 1))]) M' Q)) :
    m_Wp i_Way_driftAll 53 kc ks [(0, .inr (.inr 64)), (1, .inr (.inr d)), (2, .inl x2), (3, .inr (.inl x3))] [.inr (.inl y0)] (mem Ls p I L) Q := by
  skip <;> rcases hd with rfl | rfl | rfl | rfl <;> exact m_wp_of 15 [2] h
set_option maxHeartbeats 4000000 in
set_option maxRecDepth 20000 in
theorem T_Way_driftAll_79 {Ls p d kc ks : Nat} (hd : d = 28 ∨ d = 37 ∨ d = 46 ∨ d = 55) {I L : Nat → Nat → Int} {x2 x5 y1 y2 : Int} {Q : List mV → mM → Prop}
    (h : (0 ≤ y1 ∧ y1 < 6) ∧
  m_Wp i_Way_driftAll 2 kc ks [(0, .inr (.inr 64)), (1, .inr (.inr d)), (2, .inl (wr (x2 + 1)))] [] (mem Ls p (mup I (d + 1) (Int.toNat y1) (wr y2)) L) Q) :
    m_Wp i_Way_driftAll 79 kc ks [(0, .inr (.inr 64)), (1, .inr (.inr d)), (2, .inl x2), (5, .inr (.inl x5))] [.inr (.inl y2), .inl y1, .inr (.inr (d + 1))] (mem Ls p I L) Q := by
  skip <;> rcases hd with rfl | rfl | rfl | rfl <;> exact m_wp_of 5 [2] h
set_option maxHeartbeats 4000000 in
set_option maxRecDepth 20000 in
theorem E_Way_meet {Ls p d : Nat} (hp : p = 68 ∨ p = 9) (hd : d = 28 ∨ d = 37 ∨ d = 46 ∨ d = 55) {I L : Nat → Nat → Int} {a1 : Int} {Q : List mV → mM → Prop}
    (h : (0 ≤ a1 ∧ a1 < 6) ∧
  (0 ≤ a1 ∧ a1 < 6) ∧
  (0 ≤ a1 ∧ a1 < 6) ∧
  ((¬ (I (d + 6) (Int.toNat a1)) = (-1) →
    m_Wp i_Way_meet 61 0 0 [(0, .inr (.inr 64)), (1, .inr (.inr d)), (2, .inl a1), (3, .inl (I (p + 8) (Int.toNat a1))), (4, .inl (I (p + 9) (Int.toNat a1)))] [] (mem Ls p I L) Q) ∧
   (¬ (¬ (I (d + 6) (Int.toNat a1)) = (-1)) →
    (0 ≤ (I (p + 8) (Int.toNat a1)) ∧ (I (p + 8) (Int.toNat a1)) < 6) ∧
    (0 ≤ a1 ∧ a1 < 6) ∧
    (((wr ((I d 10) + (I (d + 1) (Int.toNat (I (p + 8) (Int.toNat a1)))))) < (I (d + 5) (Int.toNat a1)) →
      m_Wp i_Way_meet 61 0 0 [(0, .inr (.inr 64)), (1, .inr (.inr d)), (2, .inl a1), (3, .inl (I (p + 8) (Int.toNat a1))), (4, .inl (I (p + 9) (Int.toNat a1)))] [] (mem Ls p I L) Q) ∧
     (¬ ((wr ((I d 10) + (I (d + 1) (Int.toNat (I (p + 8) (Int.toNat a1)))))) < (I (d + 5) (Int.toNat a1))) →
      (0 ≤ a1 ∧ a1 < 6) ∧
      m_Wp i_Way_meet 61 0 0 [(0, .inr (.inr 64)), (1, .inr (.inr d)), (2, .inl a1), (3, .inl (I (p + 8) (Int.toNat a1))), (4, .inl (I (p + 9) (Int.toNat a1)))] [] (mem Ls p (mup I (d + 6) (Int.toNat a1) (I d 10)) L) Q))))) :
    m_Call i_Way_meet [.inr (.inr 64), .inr (.inr d), .inl a1] (mem Ls p I L) Q := by
  have he : m_ent 0 ([.inr (.inr 64), .inr (.inr d), .inl a1] : List mV) = [(0, .inr (.inr 64)), (1, .inr (.inr d)), (2, .inl a1)] := rfl
  rcases hp with rfl | rfl <;> rcases hd with rfl | rfl | rfl | rfl <;> exact m_call_at 37 [61, 102, 171, 172] he h
set_option maxHeartbeats 4000000 in
set_option maxRecDepth 20000 in
theorem T_Way_meet_61 {Ls p d kc ks : Nat} (hd : d = 28 ∨ d = 37 ∨ d = 46 ∨ d = 55) {I L : Nat → Nat → Int} {x2 x3 x4 : Int} {Q : List mV → mM → Prop}
    (h : (0 ≤ x2 ∧ x2 < 6) ∧
  ((¬ (I (d + 7) (Int.toNat x2)) = (-1) →
    m_Wp i_Way_meet 102 kc ks [(0, .inr (.inr 64)), (1, .inr (.inr d)), (2, .inl x2), (3, .inl x3), (4, .inl x4)] [] (mem Ls p I L) Q) ∧
   (¬ (¬ (I (d + 7) (Int.toNat x2)) = (-1)) →
    (0 ≤ x4 ∧ x4 < 6) ∧
    (0 ≤ x2 ∧ x2 < 6) ∧
    (((wr ((I d 10) + (I (d + 1) (Int.toNat x4)))) < (I (d + 5) (Int.toNat x2)) →
      m_Wp i_Way_meet 102 kc ks [(0, .inr (.inr 64)), (1, .inr (.inr d)), (2, .inl x2), (3, .inl x3), (4, .inl x4)] [] (mem Ls p I L) Q) ∧
     (¬ ((wr ((I d 10) + (I (d + 1) (Int.toNat x4)))) < (I (d + 5) (Int.toNat x2))) →
      (0 ≤ x2 ∧ x2 < 6) ∧
      m_Wp i_Way_meet 102 kc ks [(0, .inr (.inr 64)), (1, .inr (.inr d)), (2, .inl x2), (3, .inl x3), (4, .inl x4)] [] (mem Ls p (mup I (d + 7) (Int.toNat x2) (I d 10)) L) Q))))) :
    m_Wp i_Way_meet 61 kc ks [(0, .inr (.inr 64)), (1, .inr (.inr d)), (2, .inl x2), (3, .inl x3), (4, .inl x4)] [] (mem Ls p I L) Q := by
  skip <;> rcases hd with rfl | rfl | rfl | rfl <;> exact m_wp_of 26 [61, 102, 171, 172] h
set_option maxHeartbeats 4000000 in
set_option maxRecDepth 20000 in
theorem T_Way_meet_102 {Ls p d kc ks : Nat} (hd : d = 28 ∨ d = 37 ∨ d = 46 ∨ d = 55) {I L : Nat → Nat → Int} {x2 x3 x4 : Int} {Q : List mV → mM → Prop}
    (h : (0 ≤ x2 ∧ x2 < 6) ∧
  (((I (d + 6) (Int.toNat x2)) = (-1) →
    m_Wp i_Way_meet 172 kc ks [] [] (mem Ls p I L) Q) ∧
   (¬ ((I (d + 6) (Int.toNat x2)) = (-1)) →
    (0 ≤ x2 ∧ x2 < 6) ∧
    (((I (d + 7) (Int.toNat x2)) = (-1) →
      m_Wp i_Way_meet 172 kc ks [] [] (mem Ls p I L) Q) ∧
     (¬ ((I (d + 7) (Int.toNat x2)) = (-1)) →
      (0 ≤ x2 ∧ x2 < 6) ∧
      (0 ≤ x2 ∧ x2 < 6) ∧
      (0 ≤ x3 ∧ x3 < 6) ∧
      (0 ≤ x4 ∧ x4 < 6) ∧
      (((m_min (I 65 (Int.toNat x3)) (I 65 (Int.toNat x4))) < (if 0 ≤ (wr ((I (d + 6) (Int.toNat x2)) - (I (d + 7) (Int.toNat x2)))) then (wr ((I (d + 6) (Int.toNat x2)) - (I (d + 7) (Int.toNat x2)))) else wr (0 - (wr ((I (d + 6) (Int.toNat x2)) - (I (d + 7) (Int.toNat x2)))))) →
        m_Wp i_Way_meet 171 kc ks [] [.inl 2, .inl x2, .inr (.inr (d + 8))] (mem Ls p I L) Q) ∧
       (¬ ((m_min (I 65 (Int.toNat x3)) (I 65 (Int.toNat x4))) < (if 0 ≤ (wr ((I (d + 6) (Int.toNat x2)) - (I (d + 7) (Int.toNat x2)))) then (wr ((I (d + 6) (Int.toNat x2)) - (I (d + 7) (Int.toNat x2)))) else wr (0 - (wr ((I (d + 6) (Int.toNat x2)) - (I (d + 7) (Int.toNat x2))))))) →
        m_Wp i_Way_meet 171 kc ks [] [.inl 1, .inl x2, .inr (.inr (d + 8))] (mem Ls p I L) Q))))))) :
    m_Wp i_Way_meet 102 kc ks [(0, .inr (.inr 64)), (1, .inr (.inr d)), (2, .inl x2), (3, .inl x3), (4, .inl x4)] [] (mem Ls p I L) Q := by
  skip <;> rcases hd with rfl | rfl | rfl | rfl <;> exact m_wp_of 41 [61, 102, 171, 172] h
set_option maxHeartbeats 4000000 in
set_option maxRecDepth 20000 in
theorem T_Way_meet_172 {Ls p kc ks : Nat}  {I L : Nat → Nat → Int} {Q : List mV → mM → Prop}
    (h : Q [] (mem Ls p I L)) :
    m_Wp i_Way_meet 172 kc ks [] [] (mem Ls p I L) Q := by
  skip <;> exact m_wp_of 2 [61, 102, 171, 172] h
set_option maxHeartbeats 4000000 in
set_option maxRecDepth 20000 in
theorem T_Way_meet_171 {Ls p d kc ks : Nat} (hd : d = 28 ∨ d = 37 ∨ d = 46 ∨ d = 55) {I L : Nat → Nat → Int} {y1 y2 : Int} {Q : List mV → mM → Prop}
    (h : (0 ≤ y1 ∧ y1 < 6) ∧
  m_Wp i_Way_meet 172 kc ks [] [] (mem Ls p (mup I (d + 8) (Int.toNat y1) y2) L) Q) :
    m_Wp i_Way_meet 171 kc ks [] [.inl y2, .inl y1, .inr (.inr (d + 8))] (mem Ls p I L) Q := by
  skip <;> rcases hd with rfl | rfl | rfl | rfl <;> exact m_wp_of 3 [61, 102, 171, 172] h
set_option maxHeartbeats 4000000 in
set_option maxRecDepth 20000 in
theorem E_Way_passMinute {Ls p d : Nat} (hd : d = 28 ∨ d = 37 ∨ d = 46 ∨ d = 55) {I L : Nat → Nat → Int} {Q : List mV → mM → Prop}
    (h : m_Call i_Way_takeRings [.inr (.inr 64), .inr (.inr d)] (mem Ls p I L) (fun v M' =>
    m_Wp i_Way_passMinute 5 0 0 [(0, .inr (.inr 64)), (1, .inr (.inr d))] (v ++ []) M' Q)) :
    m_Call i_Way_passMinute [.inr (.inr 64), .inr (.inr d)] (mem Ls p I L) Q := by
  have he : m_ent 0 ([.inr (.inr 64), .inr (.inr d)] : List mV) = [(0, .inr (.inr 64)), (1, .inr (.inr d))] := rfl
  skip <;> rcases hd with rfl | rfl | rfl | rfl <;> exact m_call_at 3 [76] he h
set_option maxHeartbeats 4000000 in
set_option maxRecDepth 20000 in
theorem T_Way_passMinute_5 {Ls p d kc ks : Nat} (hd : d = 28 ∨ d = 37 ∨ d = 46 ∨ d = 55) {I L : Nat → Nat → Int} {Q : List mV → mM → Prop}
    (h : m_Call i_Way_isStrangerRinging [.inr (.inr 64), .inr (.inr d)] (mem Ls p I L) (fun v M' =>
    m_Wp i_Way_passMinute 10 kc ks [(0, .inr (.inr 64)), (1, .inr (.inr d))] (v ++ []) M' Q)) :
    m_Wp i_Way_passMinute 5 kc ks [(0, .inr (.inr 64)), (1, .inr (.inr d))] [] (mem Ls p I L) Q := by
  skip <;> rcases hd with rfl | rfl | rfl | rfl <;> exact m_wp_of 3 [76] h
set_option maxHeartbeats 4000000 in
set_option maxRecDepth 20000 in
theorem T_Way_passMinute_10 {Ls p d kc ks : Nat} (hd : d = 28 ∨ d = 37 ∨ d = 46 ∨ d = 55) {I L : Nat → Nat → Int} {y0 : Int} {Q : List mV → mM → Prop}
    (h : ((y0 = (0 : Int) →
    ((¬ (I d 12) = (-1) →
      (((I d 12) = (-1) →
        (((I 64 7) = (0 : Int) →
          m_Wp i_Way_passMinute 76 kc ks [(0, .inr (.inr 64)), (1, .inr (.inr d)), (2, .inl 0)] [] (mem Ls p I L) Q) ∧
         (¬ ((I 64 7) = (0 : Int)) →
          (¬ (10 : Int) = (0 : Int)) ∧
          ((¬ (Int.tmod (wr ((I d 10) + 1)) 10) = (0 : Int) →
            m_Wp i_Way_passMinute 76 kc ks [(0, .inr (.inr 64)), (1, .inr (.inr d)), (2, .inl 0)] [] (mem Ls p I L) Q) ∧
           (¬ (¬ (Int.tmod (wr ((I d 10) + 1)) 10) = (0 : Int)) →
            m_Call i_Way_driftAll [.inr (.inr 64), .inr (.inr d)] (mem Ls p I L) (fun v M' =>
              m_Wp i_Way_passMinute 74 kc ks [(0, .inr (.inr 64)), (1, .inr (.inr d))] (v ++ []) M' Q)))))) ∧
       (¬ ((I d 12) = (-1)) →
        m_Call i_Way_goOnTalking [.inr (.inr 64), .inr (.inr d)] (mem Ls p I L) (fun v M' =>
          m_Wp i_Way_passMinute 50 kc ks [(0, .inr (.inr 64)), (1, .inr (.inr d))] (v ++ []) M' Q)))) ∧
     (¬ (¬ (I d 12) = (-1)) →
      (((I d 11) ≤ (0 : Int) →
        (((I d 12) = (-1) →
          (((I 64 7) = (0 : Int) →
            m_Wp i_Way_passMinute 76 kc ks [(0, .inr (.inr 64)), (1, .inr (.inr d)), (2, .inl 0)] [] (mem Ls p I L) Q) ∧
           (¬ ((I 64 7) = (0 : Int)) →
            (¬ (10 : Int) = (0 : Int)) ∧
            ((¬ (Int.tmod (wr ((I d 10) + 1)) 10) = (0 : Int) →
              m_Wp i_Way_passMinute 76 kc ks [(0, .inr (.inr 64)), (1, .inr (.inr d)), (2, .inl 0)] [] (mem Ls p I L) Q) ∧
             (¬ (¬ (Int.tmod (wr ((I d 10) + 1)) 10) = (0 : Int)) →
              m_Call i_Way_driftAll [.inr (.inr 64), .inr (.inr d)] (mem Ls p I L) (fun v M' =>
                m_Wp i_Way_passMinute 74 kc ks [(0, .inr (.inr 64)), (1, .inr (.inr d))] (v ++ []) M' Q)))))) ∧
         (¬ ((I d 12) = (-1)) →
          m_Call i_Way_goOnTalking [.inr (.inr 64), .inr (.inr d)] (mem Ls p I L) (fun v M' =>
            m_Wp i_Way_passMinute 50 kc ks [(0, .inr (.inr 64)), (1, .inr (.inr d))] (v ++ []) M' Q)))) ∧
       (¬ ((I d 11) ≤ (0 : Int)) →
        m_Call i_Way_startTalk [.inr (.inr 64), .inr (.inr d)] (mem Ls p I L) (fun v M' =>
          m_Wp i_Way_passMinute 37 kc ks [(0, .inr (.inr 64)), (1, .inr (.inr d))] (v ++ []) M' Q)))))) ∧
   (¬ (y0 = (0 : Int)) →
    m_Call i_Day_takesStranger [.inr (.inr d)] (mem Ls p I L) (fun v M' =>
      m_Wp i_Way_passMinute 17 kc ks [(0, .inr (.inr 64)), (1, .inr (.inr d))] (v ++ []) M' Q)))) :
    m_Wp i_Way_passMinute 10 kc ks [(0, .inr (.inr 64)), (1, .inr (.inr d))] [.inl y0] (mem Ls p I L) Q := by
  skip <;> rcases hd with rfl | rfl | rfl | rfl <;> exact m_wp_of 29 [76] h
set_option maxHeartbeats 4000000 in
set_option maxRecDepth 20000 in
theorem T_Way_passMinute_76 {Ls p d kc ks : Nat} (hp : p = 68 ∨ p = 9) (hd : d = 28 ∨ d = 37 ∨ d = 46 ∨ d = 55) {I L : Nat → Nat → Int} {x2 : Int} {Q : List mV → mM → Prop}
    (h : (((I p 15) ≤ x2 →
    Q [] (mem Ls p (mup I d 10 (wr ((I d 10) + 1))) L)) ∧
   (¬ ((I p 15) ≤ x2) →
    (0 ≤ x2 ∧ x2 < 6) ∧
    ((¬ (I (d + 8) (Int.toNat x2)) = (0 : Int) →
      m_Wp i_Way_passMinute 76 kc ks [(0, .inr (.inr 64)), (1, .inr (.inr d)), (2, .inl (wr (x2 + 1)))] [] (mem Ls p I L) Q) ∧
     (¬ (¬ (I (d + 8) (Int.toNat x2)) = (0 : Int)) →
      m_Call i_Way_meet [.inr (.inr 64), .inr (.inr d), .inl x2] (mem Ls p I L) (fun v M' =>
        m_Wp i_Way_passMinute 102 kc ks [(0, .inr (.inr 64)), (1, .inr (.inr d)), (2, .inl x2)] (v ++ []) M' Q)))))) :
    m_Wp i_Way_passMinute 76 kc ks [(0, .inr (.inr 64)), (1, .inr (.inr d)), (2, .inl x2)] [] (mem Ls p I L) Q := by
  rcases hp with rfl | rfl <;> rcases hd with rfl | rfl | rfl | rfl <;> exact m_wp_of 15 [76] h
set_option maxHeartbeats 4000000 in
set_option maxRecDepth 20000 in
theorem T_Way_passMinute_74 {Ls p d kc ks : Nat} (hd : d = 28 ∨ d = 37 ∨ d = 46 ∨ d = 55) {I L : Nat → Nat → Int} {Q : List mV → mM → Prop}
    (h : m_Wp i_Way_passMinute 76 kc ks [(0, .inr (.inr 64)), (1, .inr (.inr d)), (2, .inl 0)] [] (mem Ls p I L) Q) :
    m_Wp i_Way_passMinute 74 kc ks [(0, .inr (.inr 64)), (1, .inr (.inr d))] [] (mem Ls p I L) Q := by
  skip <;> rcases hd with rfl | rfl | rfl | rfl <;> exact m_wp_of 4 [76] h
set_option maxHeartbeats 4000000 in
set_option maxRecDepth 20000 in
theorem T_Way_passMinute_50 {Ls p d kc ks : Nat} (hd : d = 28 ∨ d = 37 ∨ d = 46 ∨ d = 55) {I L : Nat → Nat → Int} {Q : List mV → mM → Prop}
    (h : (((I 64 7) = (0 : Int) →
    m_Wp i_Way_passMinute 76 kc ks [(0, .inr (.inr 64)), (1, .inr (.inr d)), (2, .inl 0)] [] (mem Ls p I L) Q) ∧
   (¬ ((I 64 7) = (0 : Int)) →
    (¬ (10 : Int) = (0 : Int)) ∧
    ((¬ (Int.tmod (wr ((I d 10) + 1)) 10) = (0 : Int) →
      m_Wp i_Way_passMinute 76 kc ks [(0, .inr (.inr 64)), (1, .inr (.inr d)), (2, .inl 0)] [] (mem Ls p I L) Q) ∧
     (¬ (¬ (Int.tmod (wr ((I d 10) + 1)) 10) = (0 : Int)) →
      m_Call i_Way_driftAll [.inr (.inr 64), .inr (.inr d)] (mem Ls p I L) (fun v M' =>
        m_Wp i_Way_passMinute 74 kc ks [(0, .inr (.inr 64)), (1, .inr (.inr d))] (v ++ []) M' Q)))))) :
    m_Wp i_Way_passMinute 50 kc ks [(0, .inr (.inr 64)), (1, .inr (.inr d))] [] (mem Ls p I L) Q := by
  skip <;> rcases hd with rfl | rfl | rfl | rfl <;> exact m_wp_of 15 [76] h
set_option maxHeartbeats 4000000 in
set_option maxRecDepth 20000 in
theorem T_Way_passMinute_37 {Ls p d kc ks : Nat} (hd : d = 28 ∨ d = 37 ∨ d = 46 ∨ d = 55) {I L : Nat → Nat → Int} {Q : List mV → mM → Prop}
    (h : (((I d 12) = (-1) →
    (((I 64 7) = (0 : Int) →
      m_Wp i_Way_passMinute 76 kc ks [(0, .inr (.inr 64)), (1, .inr (.inr d)), (2, .inl 0)] [] (mem Ls p I L) Q) ∧
     (¬ ((I 64 7) = (0 : Int)) →
      (¬ (10 : Int) = (0 : Int)) ∧
      ((¬ (Int.tmod (wr ((I d 10) + 1)) 10) = (0 : Int) →
        m_Wp i_Way_passMinute 76 kc ks [(0, .inr (.inr 64)), (1, .inr (.inr d)), (2, .inl 0)] [] (mem Ls p I L) Q) ∧
       (¬ (¬ (Int.tmod (wr ((I d 10) + 1)) 10) = (0 : Int)) →
        m_Call i_Way_driftAll [.inr (.inr 64), .inr (.inr d)] (mem Ls p I L) (fun v M' =>
          m_Wp i_Way_passMinute 74 kc ks [(0, .inr (.inr 64)), (1, .inr (.inr d))] (v ++ []) M' Q)))))) ∧
   (¬ ((I d 12) = (-1)) →
    m_Call i_Way_goOnTalking [.inr (.inr 64), .inr (.inr d)] (mem Ls p I L) (fun v M' =>
      m_Wp i_Way_passMinute 50 kc ks [(0, .inr (.inr 64)), (1, .inr (.inr d))] (v ++ []) M' Q)))) :
    m_Wp i_Way_passMinute 37 kc ks [(0, .inr (.inr 64)), (1, .inr (.inr d))] [] (mem Ls p I L) Q := by
  skip <;> rcases hd with rfl | rfl | rfl | rfl <;> exact m_wp_of 20 [76] h
set_option maxHeartbeats 4000000 in
set_option maxRecDepth 20000 in
theorem T_Way_passMinute_17 {Ls p d kc ks : Nat} (hd : d = 28 ∨ d = 37 ∨ d = 46 ∨ d = 55) {I L : Nat → Nat → Int} {Q : List mV → mM → Prop}
    (h : ((¬ (I d 12) = (-1) →
    (((I d 12) = (-1) →
      (((I 64 7) = (0 : Int) →
        m_Wp i_Way_passMinute 76 kc ks [(0, .inr (.inr 64)), (1, .inr (.inr d)), (2, .inl 0)] [] (mem Ls p I L) Q) ∧
       (¬ ((I 64 7) = (0 : Int)) →
        (¬ (10 : Int) = (0 : Int)) ∧
        ((¬ (Int.tmod (wr ((I d 10) + 1)) 10) = (0 : Int) →
          m_Wp i_Way_passMinute 76 kc ks [(0, .inr (.inr 64)), (1, .inr (.inr d)), (2, .inl 0)] [] (mem Ls p I L) Q) ∧
         (¬ (¬ (Int.tmod (wr ((I d 10) + 1)) 10) = (0 : Int)) →
          m_Call i_Way_driftAll [.inr (.inr 64), .inr (.inr d)] (mem Ls p I L) (fun v M' =>
            m_Wp i_Way_passMinute 74 kc ks [(0, .inr (.inr 64)), (1, .inr (.inr d))] (v ++ []) M' Q)))))) ∧
     (¬ ((I d 12) = (-1)) →
      m_Call i_Way_goOnTalking [.inr (.inr 64), .inr (.inr d)] (mem Ls p I L) (fun v M' =>
        m_Wp i_Way_passMinute 50 kc ks [(0, .inr (.inr 64)), (1, .inr (.inr d))] (v ++ []) M' Q)))) ∧
   (¬ (¬ (I d 12) = (-1)) →
    (((I d 11) ≤ (0 : Int) →
      (((I d 12) = (-1) →
        (((I 64 7) = (0 : Int) →
          m_Wp i_Way_passMinute 76 kc ks [(0, .inr (.inr 64)), (1, .inr (.inr d)), (2, .inl 0)] [] (mem Ls p I L) Q) ∧
         (¬ ((I 64 7) = (0 : Int)) →
          (¬ (10 : Int) = (0 : Int)) ∧
          ((¬ (Int.tmod (wr ((I d 10) + 1)) 10) = (0 : Int) →
            m_Wp i_Way_passMinute 76 kc ks [(0, .inr (.inr 64)), (1, .inr (.inr d)), (2, .inl 0)] [] (mem Ls p I L) Q) ∧
           (¬ (¬ (Int.tmod (wr ((I d 10) + 1)) 10) = (0 : Int)) →
            m_Call i_Way_driftAll [.inr (.inr 64), .inr (.inr d)] (mem Ls p I L) (fun v M' =>
              m_Wp i_Way_passMinute 74 kc ks [(0, .inr (.inr 64)), (1, .inr (.inr d))] (v ++ []) M' Q)))))) ∧
       (¬ ((I d 12) = (-1)) →
        m_Call i_Way_goOnTalking [.inr (.inr 64), .inr (.inr d)] (mem Ls p I L) (fun v M' =>
          m_Wp i_Way_passMinute 50 kc ks [(0, .inr (.inr 64)), (1, .inr (.inr d))] (v ++ []) M' Q)))) ∧
     (¬ ((I d 11) ≤ (0 : Int)) →
      m_Call i_Way_startTalk [.inr (.inr 64), .inr (.inr d)] (mem Ls p I L) (fun v M' =>
        m_Wp i_Way_passMinute 37 kc ks [(0, .inr (.inr 64)), (1, .inr (.inr d))] (v ++ []) M' Q)))))) :
    m_Wp i_Way_passMinute 17 kc ks [(0, .inr (.inr 64)), (1, .inr (.inr d))] [] (mem Ls p I L) Q := by
  skip <;> rcases hd with rfl | rfl | rfl | rfl <;> exact m_wp_of 28 [76] h
set_option maxHeartbeats 4000000 in
set_option maxRecDepth 20000 in
theorem T_Way_passMinute_102 {Ls p d kc ks : Nat} (hd : d = 28 ∨ d = 37 ∨ d = 46 ∨ d = 55) {I L : Nat → Nat → Int} {x2 : Int} {Q : List mV → mM → Prop}
    (h : m_Wp i_Way_passMinute 76 kc ks [(0, .inr (.inr 64)), (1, .inr (.inr d)), (2, .inl (wr (x2 + 1)))] [] (mem Ls p I L) Q) :
    m_Wp i_Way_passMinute 102 kc ks [(0, .inr (.inr 64)), (1, .inr (.inr d)), (2, .inl x2)] [] (mem Ls p I L) Q := by
  skip <;> rcases hd with rfl | rfl | rfl | rfl <;> exact m_wp_of 4 [76] h
set_option maxHeartbeats 4000000 in
set_option maxRecDepth 20000 in
theorem E_Way_change {Ls p : Nat}  {I L : Nat → Nat → Int} {a0 a1 : Int} {Q : List mV → mM → Prop}
    (h : ((a0 = (0 : Int) →
    Q [] (mem Ls p (mup I 64 4 0) L)) ∧
   (¬ a0 = (0 : Int) →
    ((a0 = (1 : Int) →
    Q [] (mem Ls p (mup I 64 5 0) L)) ∧
   (¬ a0 = (1 : Int) →
    ((a0 = (2 : Int) →
    Q [] (mem Ls p (mup I 64 6 a1) L)) ∧
   (¬ a0 = (2 : Int) →
    ((a0 = (3 : Int) →
    ((0 : Int) = (0 : Int) ∨ (0 : Int) = (1 : Int)) ∧
    Q [] (mem Ls p (mup I 64 7 0) L)) ∧
   (¬ a0 = (3 : Int) →
    m_Wp i_Way_change 66 0 0 [(0, .inr (.inr 64)), (3, .inl 0)] [] (mem Ls p I L) Q))))))))) :
    m_Call i_Way_change [.inr (.inr 64), .inl a0, .inl a1] (mem Ls p I L) Q := by
  have he : m_ent 0 ([.inr (.inr 64), .inl a0, .inl a1] : List mV) = [(0, .inr (.inr 64)), (1, .inl a0), (2, .inl a1)] := rfl
  skip <;> exact m_call_at 8 [66] he h
set_option maxHeartbeats 4000000 in
set_option maxRecDepth 20000 in
theorem T_Way_change_66 {Ls p kc ks : Nat}  {I L : Nat → Nat → Int} {x3 : Int} {Q : List mV → mM → Prop}
    (h : (((6 : Int) ≤ x3 →
    Q [] (mem Ls p I L)) ∧
   (¬ ((6 : Int) ≤ x3) →
    (0 ≤ x3 ∧ x3 < 6) ∧
    m_Wp i_Way_change 66 kc ks [(0, .inr (.inr 64)), (3, .inl (wr (x3 + 1)))] [] (mem Ls p (mup I 65 (Int.toNat x3) 30) L) Q))) :
    m_Wp i_Way_change 66 kc ks [(0, .inr (.inr 64)), (3, .inl x3)] [] (mem Ls p I L) Q := by
  skip <;> exact m_wp_of 12 [66] h
