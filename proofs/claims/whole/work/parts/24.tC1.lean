/-! ===== segments of the code (by program: wip/whole/gen_all.py) ===== -/
set_option maxHeartbeats 4000000 in
set_option maxRecDepth 20000 in
theorem T_C_strike_8 {Ls p kc ks : Nat}  {I L : Nat → Nat → Int} {x1 y0 : Int} {Q : List mV → mM → Prop}
    (h : Q [.inl y0] (mem Ls p I L)) :
    m_Wp i_C_strike 8 kc ks [(0, .inr (.inr 2)), (1, .inl x1)] [.inl y0] (mem Ls p I L) Q := by
  skip <;> exact m_wp_of 1 [] h
set_option maxHeartbeats 4000000 in
set_option maxRecDepth 20000 in
theorem E_C_known {Ls p : Nat}  {I L : Nat → Nat → Int} {a0 : Int} {Q : List mV → mM → Prop}
    (h : ((a0 < (-1) →
    ((0 : Int) = 0 ∨ (0 : Int) = 1) ∧
    Q [.inl 0] (mem Ls p I L)) ∧
   (¬ (a0 < (-1)) →
    ((a0 ≤ (I 87 6) →
      ((1 : Int) = 0 ∨ (1 : Int) = 1) ∧
      Q [.inl 1] (mem Ls p (mup I 87 7 a0) L)) ∧
     (¬ (a0 ≤ (I 87 6)) →
      ((0 : Int) = 0 ∨ (0 : Int) = 1) ∧
      Q [.inl 0] (mem Ls p I L)))))) :
    m_Call i_C_known [.inr (.inr 2), .inl a0] (mem Ls p I L) Q := by
  have he : m_ent 0 ([.inr (.inr 2), .inl a0] : List mV) = [(0, .inr (.inr 2)), (1, .inl a0)] := rfl
  skip <;> exact m_call_at 14 [] he h
set_option maxHeartbeats 4000000 in
set_option maxRecDepth 20000 in
theorem E_C_isAllSeenSo {Ls p : Nat} (hp : p = 68 ∨ p = 9) {I L : Nat → Nat → Int} {Q : List mV → mM → Prop}
    (h : m_Call i_Day_begin [.inr (.inr 46), .inr (.inr p)] (mem Ls p I L) (fun v M' =>
    m_Wp i_C_isAllSeenSo 11 0 0 [(0, .inr (.inr 2))] (v ++ []) M' Q)) :
    m_Call i_C_isAllSeenSo [.inr (.inr 2)] (mem Ls p I L) Q := by
  have he : m_ent 0 ([.inr (.inr 2)] : List mV) = [(0, .inr (.inr 2))] := rfl
  rcases hp with rfl | rfl <;> exact m_call_at 5 [21] he h
set_option maxHeartbeats 4000000 in
set_option maxRecDepth 20000 in
theorem T_C_isAllSeenSo_11 {Ls p kc ks : Nat}  {I L : Nat → Nat → Int} {Q : List mV → mM → Prop}
    (h : m_Call i_Seen_lastMinute [.inr (.inr 87)] (mem Ls p I L) (fun v M' =>
    m_Wp i_C_isAllSeenSo 18 kc ks [(0, .inr (.inr 2))] (v ++ []) M' Q)) :
    m_Wp i_C_isAllSeenSo 11 kc ks [(0, .inr (.inr 2))] [] (mem Ls p I L) Q := by
  skip <;> exact m_wp_of 3 [21] h
set_option maxHeartbeats 4000000 in
set_option maxRecDepth 20000 in
theorem T_C_isAllSeenSo_18 {Ls p kc ks : Nat}  {I L : Nat → Nat → Int} {y0 : Int} {Q : List mV → mM → Prop}
    (h : m_Wp i_C_isAllSeenSo 21 kc ks [(0, .inr (.inr 2)), (1, .inl y0), (2, .inl 0)] [] (mem Ls p I L) Q) :
    m_Wp i_C_isAllSeenSo 18 kc ks [(0, .inr (.inr 2))] [.inl y0] (mem Ls p I L) Q := by
  skip <;> exact m_wp_of 4 [21] h
set_option maxHeartbeats 4000000 in
set_option maxRecDepth 20000 in
theorem T_C_isAllSeenSo_21 {Ls p kc ks : Nat}  {I L : Nat → Nat → Int} {x1 x2 : Int} {Q : List mV → mM → Prop}
    (h : ((x1 ≤ x2 →
    ((1 : Int) = 0 ∨ (1 : Int) = 1) ∧
    Q [.inl 1] (mem Ls p I L)) ∧
   (¬ (x1 ≤ x2) →
    m_Call i_Way_passMinute [.inr (.inr 64), .inr (.inr 46)] (mem Ls p I L) (fun v M' =>
      m_Wp i_C_isAllSeenSo 37 kc ks [(0, .inr (.inr 2)), (1, .inl x1), (2, .inl x2)] (v ++ []) M' Q)))) :
    m_Wp i_C_isAllSeenSo 21 kc ks [(0, .inr (.inr 2)), (1, .inl x1), (2, .inl x2)] [] (mem Ls p I L) Q := by
  skip <;> exact m_wp_of 9 [21] h
set_option maxHeartbeats 4000000 in
set_option maxRecDepth 20000 in
theorem T_C_isAllSeenSo_37 {Ls p kc ks : Nat}  {I L : Nat → Nat → Int} {x1 x2 : Int} {Q : List mV → mM → Prop}
    (h : m_Call i_Seen_isSo [.inr (.inr 87), .inr (.inr 46)] (mem Ls p I L) (fun v M' =>
    m_Wp i_C_isAllSeenSo 48 kc ks [(0, .inr (.inr 2)), (1, .inl x1), (2, .inl x2)] (v ++ []) M' Q)) :
    m_Wp i_C_isAllSeenSo 37 kc ks [(0, .inr (.inr 2)), (1, .inl x1), (2, .inl x2)] [] (mem Ls p I L) Q := by
  skip <;> exact m_wp_of 5 [21] h
set_option maxHeartbeats 4000000 in
set_option maxRecDepth 20000 in
theorem T_C_isAllSeenSo_48 {Ls p kc ks : Nat}  {I L : Nat → Nat → Int} {x1 x2 y0 : Int} {Q : List mV → mM → Prop}
    (h : ((¬ y0 = (0 : Int) →
    m_Wp i_C_isAllSeenSo 21 kc ks [(0, .inr (.inr 2)), (1, .inl x1), (2, .inl (wr (x2 + 1)))] [] (mem Ls p I L) Q) ∧
   (¬ (¬ y0 = (0 : Int)) →
    ((0 : Int) = 0 ∨ (0 : Int) = 1) ∧
    Q [.inl 0] (mem Ls p I L)))) :
    m_Wp i_C_isAllSeenSo 48 kc ks [(0, .inr (.inr 2)), (1, .inl x1), (2, .inl x2)] [.inl y0] (mem Ls p I L) Q := by
  skip <;> exact m_wp_of 4 [21] h
set_option maxHeartbeats 4000000 in
set_option maxRecDepth 20000 in
theorem E_C_rates {Ls p : Nat}  {I L : Nat → Nat → Int} {a0 : Int} {Q : List mV → mM → Prop}
    (h : m_Call i_C_isPerson [.inr (.inr 2), .inl a0] (mem Ls p I L) (fun v M' =>
    m_Wp i_C_rates 5 0 0 [(0, .inr (.inr 2)), (1, .inl a0)] (v ++ []) M' Q)) :
    m_Call i_C_rates [.inr (.inr 2), .inl a0] (mem Ls p I L) Q := by
  have he : m_ent 0 ([.inr (.inr 2), .inl a0] : List mV) = [(0, .inr (.inr 2)), (1, .inl a0)] := rfl
  skip <;> exact m_call_at 3 [21] he h
set_option maxHeartbeats 4000000 in
set_option maxRecDepth 20000 in
theorem T_C_rates_5 {Ls p kc ks : Nat}  {I L : Nat → Nat → Int} {x1 y0 : Int} {Q : List mV → mM → Prop}
    (h : ((¬ y0 = (0 : Int) →
    m_Call i_Seen_judge [.inr (.inr 87)] (mem Ls p I L) (fun v M' =>
      m_Wp i_C_rates 17 kc ks [(0, .inr (.inr 2)), (1, .inl x1)] (v ++ []) M' Q)) ∧
   (¬ (¬ y0 = (0 : Int)) →
    Q [.inl (-1)] (mem Ls p I L)))) :
    m_Wp i_C_rates 5 kc ks [(0, .inr (.inr 2)), (1, .inl x1)] [.inl y0] (mem Ls p I L) Q := by
  skip <;> exact m_wp_of 4 [21] h
set_option maxHeartbeats 4000000 in
set_option maxRecDepth 20000 in
theorem T_C_rates_17 {Ls p kc ks : Nat}  {I L : Nat → Nat → Int} {x1 : Int} {Q : List mV → mM → Prop}
    (h : m_Wp i_C_rates 21 kc ks [(0, .inr (.inr 2)), (1, .inl x1), (2, .inl 0), (3, .inl 0)] [] (mem Ls p I L) Q) :
    m_Wp i_C_rates 17 kc ks [(0, .inr (.inr 2)), (1, .inl x1)] [] (mem Ls p I L) Q := by
  skip <;> exact m_wp_of 5 [21] h
set_option maxHeartbeats 4000000 in
set_option maxRecDepth 20000 in
theorem T_C_rates_21 {Ls p kc ks : Nat}  {I L : Nat → Nat → Int} {x1 x2 x3 : Int} {Q : List mV → mM → Prop}
    (h : (((10 : Int) ≤ x3 →
    Q [.inl x2] (mem Ls p I L)) ∧
   (¬ ((10 : Int) ≤ x3) →
    m_Call i_Way_follow [.inr (.inr 64), .inl 0] (mem Ls p I L) (fun v M' =>
      m_Wp i_C_rates 35 kc ks [(0, .inr (.inr 2)), (1, .inl x1), (2, .inl x2), (3, .inl x3)] (v ++ []) M' Q)))) :
    m_Wp i_C_rates 21 kc ks [(0, .inr (.inr 2)), (1, .inl x1), (2, .inl x2), (3, .inl x3)] [] (mem Ls p I L) Q := by
  skip <;> exact m_wp_of 8 [21] h
set_option maxHeartbeats 4000000 in
set_option maxRecDepth 20000 in
theorem T_C_rates_35 {Ls p kc ks : Nat}  {I L : Nat → Nat → Int} {x1 x2 x3 : Int} {Q : List mV → mM → Prop}
    (h : (0 ≤ x1 ∧ x1 < 6) ∧
  m_Call i_C_isAllSeenSo [.inr (.inr 2)] (mem Ls p (mup I 66 (Int.toNat x1) (wr ((-4) + x3))) L) (fun v M' =>
    m_Wp i_C_rates 52 kc ks [(0, .inr (.inr 2)), (1, .inl x1), (2, .inl x2), (3, .inl x3)] (v ++ []) M' Q)) :
    m_Wp i_C_rates 35 kc ks [(0, .inr (.inr 2)), (1, .inl x1), (2, .inl x2), (3, .inl x3)] [] (mem Ls p I L) Q := by
  skip <;> exact m_wp_of 10 [21] h
set_option maxHeartbeats 4000000 in
set_option maxRecDepth 20000 in
theorem T_C_rates_52 {Ls p kc ks : Nat}  {I L : Nat → Nat → Int} {x1 x2 x3 y0 : Int} {Q : List mV → mM → Prop}
    (h : ((y0 = (0 : Int) →
    m_Wp i_C_rates 21 kc ks [(0, .inr (.inr 2)), (1, .inl x1), (2, .inl x2), (3, .inl (wr (x3 + 1)))] [] (mem Ls p I L) Q) ∧
   (¬ (y0 = (0 : Int)) →
    m_Wp i_C_rates 21 kc ks [(0, .inr (.inr 2)), (1, .inl x1), (2, .inl (m_or x2 (m_shl 1 x3))), (3, .inl (wr (x3 + 1)))] [] (mem Ls p I L) Q))) :
    m_Wp i_C_rates 52 kc ks [(0, .inr (.inr 2)), (1, .inl x1), (2, .inl x2), (3, .inl x3)] [.inl y0] (mem Ls p I L) Q := by
  skip <;> exact m_wp_of 11 [21] h
set_option maxHeartbeats 4000000 in
set_option maxRecDepth 20000 in
theorem E_C_chance {Ls p : Nat}  {I L : Nat → Nat → Int} {a0 a1 a2 : Int} {Q : List mV → mM → Prop}
    (h : ((a0 < (0 : Int) →
    Q [.inl (-1)] (mem Ls p I L)) ∧
   (¬ (a0 < (0 : Int)) →
    ((a1 < (1 : Int) →
      Q [.inl (-1)] (mem Ls p I L)) ∧
     (¬ (a1 < (1 : Int)) →
      (((200 : Int) < a1 →
        Q [.inl (-1)] (mem Ls p I L)) ∧
       (¬ ((200 : Int) < a1) →
        m_Call i_C_isMeeting [.inr (.inr 2), .inl a2] (mem Ls p I L) (fun v M' =>
          m_Wp i_C_chance 21 0 0 [(0, .inr (.inr 2)), (1, .inl a0), (2, .inl a1), (3, .inl a2)] (v ++ []) M' Q)))))))) :
    m_Call i_C_chance [.inr (.inr 2), .inl a0, .inl a1, .inl a2] (mem Ls p I L) Q := by
  have he : m_ent 0 ([.inr (.inr 2), .inl a0, .inl a1, .inl a2] : List mV) = [(0, .inr (.inr 2)), (1, .inl a0), (2, .inl a1), (3, .inl a2)] := rfl
  skip <;> exact m_call_at 11 [43] he h
set_option maxHeartbeats 4000000 in
set_option maxRecDepth 20000 in
theorem T_C_chance_21 {Ls p kc ks : Nat}  {I L : Nat → Nat → Int} {x1 x2 x3 y0 : Int} {Q : List mV → mM → Prop}
    (h : ((¬ y0 = (0 : Int) →
    m_Call i_Way_follow [.inr (.inr 64), .inl 1] (mem Ls p I L) (fun v M' =>
      m_Wp i_C_chance 34 kc ks [(0, .inr (.inr 2)), (1, .inl x1), (2, .inl x2), (3, .inl x3)] (v ++ []) M' Q)) ∧
   (¬ (¬ y0 = (0 : Int)) →
    Q [.inl (-1)] (mem Ls p I L)))) :
    m_Wp i_C_chance 21 kc ks [(0, .inr (.inr 2)), (1, .inl x1), (2, .inl x2), (3, .inl x3)] [.inl y0] (mem Ls p I L) Q := by
  skip <;> exact m_wp_of 5 [43] h
set_option maxHeartbeats 4000000 in
set_option maxRecDepth 20000 in
theorem T_C_chance_34 {Ls p kc ks : Nat}  {I L : Nat → Nat → Int} {x1 x2 x3 : Int} {Q : List mV → mM → Prop}
    (h : m_Wp i_C_chance 43 kc ks [(0, .inr (.inr 2)), (2, .inl x2), (3, .inl x3), (4, .inl x1), (5, .inl 0), (6, .inl 0)] [] (mem Ls p I L) Q) :
    m_Wp i_C_chance 34 kc ks [(0, .inr (.inr 2)), (1, .inl x1), (2, .inl x2), (3, .inl x3)] [] (mem Ls p I L) Q := by
  skip <;> exact m_wp_of 7 [43] h
set_option maxHeartbeats 4000000 in
set_option maxRecDepth 20000 in
theorem T_C_chance_43 {Ls p kc ks : Nat}  {I L : Nat → Nat → Int} {x2 x3 x4 x5 x6 : Int} {Q : List mV → mM → Prop}
    (h : (((10 : Int) ≤ x6 →
    Q [.inl x5] (mem Ls p I L)) ∧
   (¬ ((10 : Int) ≤ x6) →
    m_Call i_Day_copy [.inr (.inr 46), .inr (.inr 28)] (mem Ls p I L) (fun v M' =>
      m_Wp i_C_chance 61 kc ks [(0, .inr (.inr 2)), (2, .inl x2), (3, .inl x3), (4, .inl x4), (5, .inl x5), (6, .inl x6)] (v ++ []) M' Q)))) :
    m_Wp i_C_chance 43 kc ks [(0, .inr (.inr 2)), (2, .inl x2), (3, .inl x3), (4, .inl x4), (5, .inl x5), (6, .inl x6)] [] (mem Ls p I L) Q := by
  skip <;> exact m_wp_of 9 [43] h
set_option maxHeartbeats 4000000 in
set_option maxRecDepth 20000 in
theorem T_C_chance_61 {Ls p kc ks : Nat}  {I L : Nat → Nat → Int} {x2 x3 x4 x5 x6 : Int} {Q : List mV → mM → Prop}
    (h : m_Call i_C_passTrial [.inr (.inr 2), .inl x2] (mem Ls p (mup I 46 14 x4) L) (fun v M' =>
    m_Wp i_C_chance 75 kc ks [(0, .inr (.inr 2)), (2, .inl x2), (3, .inl x3), (4, .inl x4), (5, .inl x5), (6, .inl x6)] (v ++ []) M' Q)) :
    m_Wp i_C_chance 61 kc ks [(0, .inr (.inr 2)), (2, .inl x2), (3, .inl x3), (4, .inl x4), (5, .inl x5), (6, .inl x6)] [] (mem Ls p I L) Q := by
  skip <;> exact m_wp_of 7 [43] h
set_option maxHeartbeats 4000000 in
set_option maxRecDepth 20000 in
theorem T_C_chance_75 {Ls p kc ks : Nat}  {I L : Nat → Nat → Int} {x2 x3 x4 x5 x6 : Int} {Q : List mV → mM → Prop}
    (h : (0 ≤ x3 ∧ x3 < 6) ∧
  ((¬ (I 54 (Int.toNat x3)) = (1 : Int) →
    m_Wp i_C_chance 43 kc ks [(0, .inr (.inr 2)), (2, .inl x2), (3, .inl x3), (4, .inl (I 46 14)), (5, .inl x5), (6, .inl (wr (x6 + 1)))] [] (mem Ls p I L) Q) ∧
   (¬ (¬ (I 54 (Int.toNat x3)) = (1 : Int)) →
    m_Wp i_C_chance 43 kc ks [(0, .inr (.inr 2)), (2, .inl x2), (3, .inl x3), (4, .inl (I 46 14)), (5, .inl (wr (x5 + 1))), (6, .inl (wr (x6 + 1)))] [] (mem Ls p I L) Q))) :
    m_Wp i_C_chance 75 kc ks [(0, .inr (.inr 2)), (2, .inl x2), (3, .inl x3), (4, .inl x4), (5, .inl x5), (6, .inl x6)] [] (mem Ls p I L) Q := by
  skip <;> exact m_wp_of 16 [43] h
set_option maxHeartbeats 4000000 in
set_option maxRecDepth 20000 in
theorem E_C_tried {Ls p : Nat}  {I L : Nat → Nat → Int} {a0 a1 a2 : Int} {Q : List mV → mM → Prop}
    (h : ((a0 < (0 : Int) →
    Q [.inl (-1)] (mem Ls p I L)) ∧
   (¬ (a0 < (0 : Int)) →
    (((4 : Int) < a0 →
      Q [.inl (-1)] (mem Ls p I L)) ∧
     (¬ ((4 : Int) < a0) →
      ((a2 < (0 : Int) →
        Q [.inl (-1)] (mem Ls p I L)) ∧
       (¬ (a2 < (0 : Int)) →
        ((a2 ≤ (200 : Int) →
          ((¬ a0 = (2 : Int) →
            ((a1 = (0 : Int) →
              m_Call i_C_startTrial [.inr (.inr 2)] (mem Ls p I L) (fun v M' =>
                m_Wp i_C_tried 48 0 0 [(0, .inr (.inr 2)), (1, .inl a0), (2, .inl a1), (3, .inl a2)] (v ++ []) M' Q)) ∧
             (¬ (a1 = (0 : Int)) →
              Q [.inl (-1)] (mem Ls p I L)))) ∧
           (¬ (¬ a0 = (2 : Int)) →
            m_Call i_C_isPerson [.inr (.inr 2), .inl a1] (mem Ls p I L) (fun v M' =>
              m_Wp i_C_tried 32 0 0 [(0, .inr (.inr 2)), (1, .inl a0), (2, .inl a1), (3, .inl a2)] (v ++ []) M' Q)))) ∧
         (¬ (a2 ≤ (200 : Int)) →
          Q [.inl (-1)] (mem Ls p I L)))))))))) :
    m_Call i_C_tried [.inr (.inr 2), .inl a0, .inl a1, .inl a2] (mem Ls p I L) Q := by
  have he : m_ent 0 ([.inr (.inr 2), .inl a0, .inl a1, .inl a2] : List mV) = [(0, .inr (.inr 2)), (1, .inl a0), (2, .inl a1), (3, .inl a2)] := rfl
  skip <;> exact m_call_at 18 [] he h
set_option maxHeartbeats 4000000 in
set_option maxRecDepth 20000 in
theorem T_C_tried_48 {Ls p kc ks : Nat}  {I L : Nat → Nat → Int} {x1 x2 x3 : Int} {Q : List mV → mM → Prop}
    (h : m_Call i_Way_change [.inr (.inr 64), .inl x1, .inl x2] (mem Ls p I L) (fun v M' =>
    m_Wp i_C_tried 57 kc ks [(0, .inr (.inr 2)), (1, .inl x1), (2, .inl x2), (3, .inl x3)] (v ++ []) M' Q)) :
    m_Wp i_C_tried 48 kc ks [(0, .inr (.inr 2)), (1, .inl x1), (2, .inl x2), (3, .inl x3)] [] (mem Ls p I L) Q := by
  skip <;> exact m_wp_of 5 [] h
set_option maxHeartbeats 4000000 in
set_option maxRecDepth 20000 in
theorem T_C_tried_32 {Ls p kc ks : Nat}  {I L : Nat → Nat → Int} {x1 x2 x3 y0 : Int} {Q : List mV → mM → Prop}
    (h : ((¬ y0 = (0 : Int) →
    m_Call i_C_startTrial [.inr (.inr 2)] (mem Ls p I L) (fun v M' =>
      m_Wp i_C_tried 48 kc ks [(0, .inr (.inr 2)), (1, .inl x1), (2, .inl x2), (3, .inl x3)] (v ++ []) M' Q)) ∧
   (¬ (¬ y0 = (0 : Int)) →
    Q [.inl (-1)] (mem Ls p I L)))) :
    m_Wp i_C_tried 32 kc ks [(0, .inr (.inr 2)), (1, .inl x1), (2, .inl x2), (3, .inl x3)] [.inl y0] (mem Ls p I L) Q := by
  skip <;> exact m_wp_of 5 [] h
set_option maxHeartbeats 4000000 in
set_option maxRecDepth 20000 in
theorem T_C_tried_57 {Ls p kc ks : Nat}  {I L : Nat → Nat → Int} {x1 x2 x3 : Int} {Q : List mV → mM → Prop}
    (h : m_Call i_C_passTrial [.inr (.inr 2), .inl x3] (mem Ls p I L) (fun v M' =>
    m_Wp i_C_tried 62 kc ks [(0, .inr (.inr 2)), (1, .inl x1), (2, .inl x2), (3, .inl x3)] (v ++ []) M' Q)) :
    m_Wp i_C_tried 57 kc ks [(0, .inr (.inr 2)), (1, .inl x1), (2, .inl x2), (3, .inl x3)] [] (mem Ls p I L) Q := by
  skip <;> exact m_wp_of 3 [] h
set_option maxHeartbeats 4000000 in
set_option maxRecDepth 20000 in
theorem T_C_tried_62 {Ls p kc ks : Nat}  {I L : Nat → Nat → Int} {x1 x2 x3 : Int} {Q : List mV → mM → Prop}
    (h : m_Call i_Day_howMany [.inr (.inr 46), .inl 1] (mem Ls p I L) (fun v M' =>
    m_Wp i_C_tried 70 kc ks [(0, .inr (.inr 2)), (1, .inl x1), (2, .inl x2), (3, .inl x3)] (v ++ []) M' Q)) :
    m_Wp i_C_tried 62 kc ks [(0, .inr (.inr 2)), (1, .inl x1), (2, .inl x2), (3, .inl x3)] [] (mem Ls p I L) Q := by
  skip <;> exact m_wp_of 4 [] h
set_option maxHeartbeats 4000000 in
set_option maxRecDepth 20000 in
theorem T_C_tried_70 {Ls p kc ks : Nat}  {I L : Nat → Nat → Int} {x1 x2 x3 y0 : Int} {Q : List mV → mM → Prop}
    (h : m_Call i_Day_howMany [.inr (.inr 28), .inl 1] (mem Ls p I L) (fun v M' =>
    m_Wp i_C_tried 78 kc ks [(0, .inr (.inr 2)), (1, .inl x1), (2, .inl x2), (3, .inl x3)] (v ++ [.inl y0]) M' Q)) :
    m_Wp i_C_tried 70 kc ks [(0, .inr (.inr 2)), (1, .inl x1), (2, .inl x2), (3, .inl x3)] [.inl y0] (mem Ls p I L) Q := by
  skip <;> exact m_wp_of 4 [] h
set_option maxHeartbeats 4000000 in
set_option maxRecDepth 20000 in
theorem T_C_tried_78 {Ls p kc ks : Nat}  {I L : Nat → Nat → Int} {x1 x2 x3 y0 y1 : Int} {Q : List mV → mM → Prop}
    (h : Q [.inl (wr (y0 - y1))] (mem Ls p I L)) :
    m_Wp i_C_tried 78 kc ks [(0, .inr (.inr 2)), (1, .inl x1), (2, .inl x2), (3, .inl x3)] [.inl y1, .inl y0] (mem Ls p I L) Q := by
  skip <;> exact m_wp_of 2 [] h
set_option maxHeartbeats 4000000 in
set_option maxRecDepth 20000 in
theorem E_C_undo {Ls p : Nat}  {I L : Nat → Nat → Int} {Q : List mV → mM → Prop}
    (h : (((0 : Int) < (I 94 3) →
    (0 ≤ (wr ((I 94 3) - 1)) ∧ (wr ((I 94 3) - 1)) < 20) ∧
    (0 ≤ (wr ((I 94 3) - 1)) ∧ (wr ((I 94 3) - 1)) < 20) ∧
    (0 ≤ (wr ((I 94 3) - 1)) ∧ (wr ((I 94 3) - 1)) < 20) ∧
    (((I 95 (Int.toNat (wr ((I 94 3) - 1)))) = (0 : Int) →
      m_Call i_Day_placeOf [.inr (.inr 28), .inl (I 96 (Int.toNat (wr ((I 94 3) - 1))))] (mem Ls p (mup I 94 3 (wr ((I 94 3) - 1))) L) (fun v M' =>
        m_Wp i_C_undo 116 0 0 [(0, .inr (.inr 2)), (1, .inl (I 96 (Int.toNat (wr ((I 94 3) - 1))))), (2, .inl (I 97 (Int.toNat (wr ((I 94 3) - 1)))))] (v ++ [.inr (.inr 28)]) M' Q)) ∧
     (¬ (I 95 (Int.toNat (wr ((I 94 3) - 1)))) = (0 : Int) →
      (((I 95 (Int.toNat (wr ((I 94 3) - 1)))) = (1 : Int) →
      m_Call i_Day_putIn [.inr (.inr 28), .inl (I 97 (Int.toNat (wr ((I 94 3) - 1)))), .inl (I 96 (Int.toNat (wr ((I 94 3) - 1))))] (mem Ls p (mup I 94 3 (wr ((I 94 3) - 1))) L) (fun v M' =>
        m_Wp i_C_undo 141 0 0 [(0, .inr (.inr 2)), (1, .inl (I 96 (Int.toNat (wr ((I 94 3) - 1))))), (2, .inl (I 97 (Int.toNat (wr ((I 94 3) - 1)))))] (v ++ []) M' Q)) ∧
     (¬ (I 95 (Int.toNat (wr ((I 94 3) - 1)))) = (1 : Int) →
      (((I 95 (Int.toNat (wr ((I 94 3) - 1)))) = (2 : Int) →
      Q [.inl (wr ((I 94 3) - 1))] (mem Ls p (mup (mup (mup I 94 3 (wr ((I 94 3) - 1))) 28 12 (I 96 (Int.toNat (wr ((I 94 3) - 1))))) 28 13 (I 97 (Int.toNat (wr ((I 94 3) - 1))))) L)) ∧
     (¬ (I 95 (Int.toNat (wr ((I 94 3) - 1)))) = (2 : Int) →
      (((I 95 (Int.toNat (wr ((I 94 3) - 1)))) = (3 : Int) →
      (0 ≤ (I 96 (Int.toNat (wr ((I 94 3) - 1)))) ∧ (I 96 (Int.toNat (wr ((I 94 3) - 1)))) < 6) ∧
      Q [.inl (wr ((I 94 3) - 1))] (mem Ls p (mup (mup I 94 3 (wr ((I 94 3) - 1))) 29 (Int.toNat (I 96 (Int.toNat (wr ((I 94 3) - 1))))) (I 97 (Int.toNat (wr ((I 94 3) - 1))))) L)) ∧
     (¬ (I 95 (Int.toNat (wr ((I 94 3) - 1)))) = (3 : Int) →
      (0 ≤ (I 96 (Int.toNat (wr ((I 94 3) - 1)))) ∧ (I 96 (Int.toNat (wr ((I 94 3) - 1)))) < 6) ∧
      Q [.inl (wr ((I 94 3) - 1))] (mem Ls p (mup (mup I 94 3 (wr ((I 94 3) - 1))) 33 (Int.toNat (I 96 (Int.toNat (wr ((I 94 3) - 1))))) (I 97 (Int.toNat (wr ((I 94 3) - 1))))) L)))))))))) ∧
   (¬ ((0 : Int) < (I 94 3)) →
    Q [.inl (-1)] (mem Ls p I L)))) :
    m_Call i_C_undo [.inr (.inr 2)] (mem Ls p I L) Q := by
  have he : m_ent 0 ([.inr (.inr 2)] : List mV) = [(0, .inr (.inr 2))] := rfl
  skip <;> exact m_call_at 49 [] he h
set_option maxHeartbeats 4000000 in
set_option maxRecDepth 20000 in
theorem T_C_undo_116 {Ls p kc ks : Nat}  {I L : Nat → Nat → Int} {x1 x2 y1 : Int} {Q : List mV → mM → Prop}
    (h : m_Call i_Day_takeOut [.inr (.inr 28), .inl y1] (mem Ls p I L) (fun v M' =>
    m_Wp i_C_undo 119 kc ks [(0, .inr (.inr 2)), (1, .inl x1), (2, .inl x2)] (v ++ []) M' Q)) :
    m_Wp i_C_undo 116 kc ks [(0, .inr (.inr 2)), (1, .inl x1), (2, .inl x2)] [.inl y1, .inr (.inr 28)] (mem Ls p I L) Q := by
  skip <;> exact m_wp_of 1 [] h
set_option maxHeartbeats 4000000 in
set_option maxRecDepth 20000 in
theorem T_C_undo_141 {Ls p kc ks : Nat}  {I L : Nat → Nat → Int} {x1 x2 : Int} {Q : List mV → mM → Prop}
    (h : Q [.inl (I 94 3)] (mem Ls p I L)) :
    m_Wp i_C_undo 141 kc ks [(0, .inr (.inr 2)), (1, .inl x1), (2, .inl x2)] [] (mem Ls p I L) Q := by
  skip <;> exact m_wp_of 6 [] h
set_option maxHeartbeats 4000000 in
set_option maxRecDepth 20000 in
theorem T_C_undo_119 {Ls p kc ks : Nat}  {I L : Nat → Nat → Int} {x1 x2 : Int} {Q : List mV → mM → Prop}
    (h : (0 ≤ x1 ∧ x1 < 6) ∧
  Q [.inl (I 94 3)] (mem Ls p (mup I 30 (Int.toNat x1) x2) L)) :
    m_Wp i_C_undo 119 kc ks [(0, .inr (.inr 2)), (1, .inl x1), (2, .inl x2)] [] (mem Ls p I L) Q := by
  skip <;> exact m_wp_of 12 [] h
set_option maxHeartbeats 4000000 in
set_option maxRecDepth 20000 in
theorem E_C_keep {Ls p : Nat}  {I L : Nat → Nat → Int} {Q : List mV → mM → Prop}
    (h : m_Call i_Day_copy [.inr (.inr 37), .inr (.inr 28)] (mem Ls p I L) (fun v M' =>
    m_Wp i_C_keep 11 0 0 [(0, .inr (.inr 2))] (v ++ []) M' Q)) :
    m_Call i_C_keep [.inr (.inr 2)] (mem Ls p I L) Q := by
  have he : m_ent 0 ([.inr (.inr 2)] : List mV) = [(0, .inr (.inr 2))] := rfl
  skip <;> exact m_call_at 5 [] he h
set_option maxHeartbeats 4000000 in
set_option maxRecDepth 20000 in
theorem T_C_keep_11 {Ls p kc ks : Nat}  {I L : Nat → Nat → Int} {Q : List mV → mM → Prop}
    (h : ((1 : Int) = (0 : Int) ∨ (1 : Int) = (1 : Int)) ∧
  Q [.inl (I 28 10)] (mem Ls p (mup I 2 13 1) L)) :
    m_Wp i_C_keep 11 kc ks [(0, .inr (.inr 2))] [] (mem Ls p I L) Q := by
  skip <;> exact m_wp_of 7 [] h
set_option maxHeartbeats 4000000 in
set_option maxRecDepth 20000 in
theorem E_C_back {Ls p : Nat}  {I L : Nat → Nat → Int} {Q : List mV → mM → Prop}
    (h : ((¬ (I 2 13) = (0 : Int) →
    m_Call i_Day_copy [.inr (.inr 28), .inr (.inr 37)] (mem Ls p I L) (fun v M' =>
      m_Wp i_C_back 20 0 0 [(0, .inr (.inr 2))] (v ++ []) M' Q)) ∧
   (¬ (¬ (I 2 13) = (0 : Int)) →
    Q [.inl (-1)] (mem Ls p I L)))) :
    m_Call i_C_back [.inr (.inr 2)] (mem Ls p I L) Q := by
  have he : m_ent 0 ([.inr (.inr 2)] : List mV) = [(0, .inr (.inr 2))] := rfl
  skip <;> exact m_call_at 8 [] he h
set_option maxHeartbeats 4000000 in
set_option maxRecDepth 20000 in
theorem T_C_back_20 {Ls p kc ks : Nat}  {I L : Nat → Nat → Int} {Q : List mV → mM → Prop}
    (h : Q [.inl (I 28 10)] (mem Ls p (mup I 94 3 0) L)) :
    m_Wp i_C_back 20 kc ks [(0, .inr (.inr 2))] [] (mem Ls p I L) Q := by
  skip <;> exact m_wp_of 8 [] h
set_option maxHeartbeats 4000000 in
set_option maxRecDepth 20000 in
theorem E_C_count {Ls p : Nat} (hp : p = 68 ∨ p = 9) {I L : Nat → Nat → Int} {a0 : Int} {Q : List mV → mM → Prop}
    (h : ((a0 = (0 : Int) →
    Q [.inl (I p 13)] (mem Ls p I L)) ∧
   (¬ a0 = (0 : Int) →
    ((a0 = (1 : Int) →
    Q [.inl (I p 14)] (mem Ls p I L)) ∧
   (¬ a0 = (1 : Int) →
    ((a0 = (2 : Int) →
    Q [.inl (I p 15)] (mem Ls p I L)) ∧
   (¬ a0 = (2 : Int) →
    ((a0 = (3 : Int) →
    Q [.inl (I (p + 13) 6)] (mem Ls p I L)) ∧
   (¬ a0 = (3 : Int) →
    ((a0 = (4 : Int) →
    Q [.inl (I 28 10)] (mem Ls p I L)) ∧
   (¬ a0 = (4 : Int) →
    ((a0 = (5 : Int) →
    Q [.inl (I 28 11)] (mem Ls p I L)) ∧
   (¬ a0 = (5 : Int) →
    ((a0 = (6 : Int) →
    ((¬ (I 28 12) = (-1) →
      Q [.inl 1] (mem Ls p I L)) ∧
     (¬ (¬ (I 28 12) = (-1)) →
      Q [.inl 0] (mem Ls p I L)))) ∧
   (¬ a0 = (6 : Int) →
    ((a0 = (7 : Int) →
    m_Call i_Day_toldInAll [.inr (.inr 28)] (mem Ls p I L) (fun v M' =>
      m_Wp i_C_count 147 0 0 [(0, .inr (.inr 2)), (1, .inl a0)] (v ++ []) M' Q)) ∧
   (¬ a0 = (7 : Int) →
    ((a0 = (8 : Int) →
    m_Call i_Day_howMany [.inr (.inr 28), .inl 1] (mem Ls p I L) (fun v M' =>
      m_Wp i_C_count 156 0 0 [(0, .inr (.inr 2)), (1, .inl a0)] (v ++ []) M' Q)) ∧
   (¬ a0 = (8 : Int) →
    ((a0 = (9 : Int) →
    m_Call i_Day_howMany [.inr (.inr 28), .inl 2] (mem Ls p I L) (fun v M' =>
      m_Wp i_C_count 165 0 0 [(0, .inr (.inr 2)), (1, .inl a0)] (v ++ []) M' Q)) ∧
   (¬ a0 = (9 : Int) →
    ((a0 = (10 : Int) →
    Q [.inl (I 28 15)] (mem Ls p I L)) ∧
   (¬ a0 = (10 : Int) →
    ((a0 = (11 : Int) →
    Q [.inl (I 87 6)] (mem Ls p I L)) ∧
   (¬ a0 = (11 : Int) →
    ((a0 = (12 : Int) →
    m_Call i_Seen_knownBy [.inr (.inr 87)] (mem Ls p I L) (fun v M' =>
      m_Wp i_C_count 189 0 0 [(0, .inr (.inr 2)), (1, .inl a0)] (v ++ []) M' Q)) ∧
   (¬ a0 = (12 : Int) →
    ((a0 = (13 : Int) →
    Q [.inl (I 94 3)] (mem Ls p I L)) ∧
   (¬ a0 = (13 : Int) →
    Q [.inl (-1)] (mem Ls p I L)))))))))))))))))))))))))))))) :
    m_Call i_C_count [.inr (.inr 2), .inl a0] (mem Ls p I L) Q := by
  have he : m_ent 0 ([.inr (.inr 2), .inl a0] : List mV) = [(0, .inr (.inr 2)), (1, .inl a0)] := rfl
  rcases hp with rfl | rfl <;> exact m_call_at 11 [] he h
set_option maxHeartbeats 4000000 in
set_option maxRecDepth 20000 in
theorem T_C_count_147 {Ls p kc ks : Nat}  {I L : Nat → Nat → Int} {x1 y0 : Int} {Q : List mV → mM → Prop}
    (h : Q [.inl y0] (mem Ls p I L)) :
    m_Wp i_C_count 147 kc ks [(0, .inr (.inr 2)), (1, .inl x1)] [.inl y0] (mem Ls p I L) Q := by
  skip <;> exact m_wp_of 1 [] h
set_option maxHeartbeats 4000000 in
set_option maxRecDepth 20000 in
theorem T_C_count_156 {Ls p kc ks : Nat}  {I L : Nat → Nat → Int} {x1 y0 : Int} {Q : List mV → mM → Prop}
    (h : Q [.inl y0] (mem Ls p I L)) :
    m_Wp i_C_count 156 kc ks [(0, .inr (.inr 2)), (1, .inl x1)] [.inl y0] (mem Ls p I L) Q := by
  skip <;> exact m_wp_of 1 [] h
set_option maxHeartbeats 4000000 in
set_option maxRecDepth 20000 in
theorem T_C_count_165 {Ls p kc ks : Nat}  {I L : Nat → Nat → Int} {x1 y0 : Int} {Q : List mV → mM → Prop}
    (h : Q [.inl y0] (mem Ls p I L)) :
    m_Wp i_C_count 165 kc ks [(0, .inr (.inr 2)), (1, .inl x1)] [.inl y0] (mem Ls p I L) Q := by
  skip <;> exact m_wp_of 1 [] h
set_option maxHeartbeats 4000000 in
set_option maxRecDepth 20000 in
theorem T_C_count_189 {Ls p kc ks : Nat}  {I L : Nat → Nat → Int} {x1 y0 : Int} {Q : List mV → mM → Prop}
    (h : Q [.inl y0] (mem Ls p I L)) :
    m_Wp i_C_count 189 kc ks [(0, .inr (.inr 2)), (1, .inl x1)] [.inl y0] (mem Ls p I L) Q := by
  skip <;> exact m_wp_of 1 [] h
