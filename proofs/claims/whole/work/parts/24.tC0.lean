/-! ===== segments of the code (by program: wip/whole/gen_all.py) ===== -/
set_option maxHeartbeats 4000000 in
set_option maxRecDepth 20000 in
theorem E_C_tapeFour {Ls p : Nat}  {I L : Nat → Nat → Int} {a0 : Int} {Q : List mV → mM → Prop}
    (h : m_Wp i_C_tapeFour 3 0 0 [(0, .inr (.inr 2)), (1, .inl a0), (2, .inl 24)] [] (mem Ls p I L) Q) :
    m_Call i_C_tapeFour [.inr (.inr 2), .inl a0] (mem Ls p I L) Q := by
  have he : m_ent 0 ([.inr (.inr 2), .inl a0] : List mV) = [(0, .inr (.inr 2)), (1, .inl a0)] := rfl
  skip <;> exact m_call_at 3 [3] he h
set_option maxHeartbeats 4000000 in
set_option maxRecDepth 20000 in
theorem T_C_tapeFour_3 {Ls p kc ks : Nat}  {I L : Nat → Nat → Int} {x1 x2 : Int} {Q : List mV → mM → Prop}
    (h : ((x2 < (0 : Int) →
    Q [] (mem Ls p I L)) ∧
   (¬ (x2 < (0 : Int)) →
    (((700 : Int) ≤ (I 2 10) →
      Q [] (mem Ls p I L)) ∧
     (¬ ((700 : Int) ≤ (I 2 10)) →
      ((0 ≤ (I 2 10) ∧ (I 2 10) < 700) ∧ (-128 ≤ (m_i2b (m_shr x1 x2)) ∧ (m_i2b (m_shr x1 x2)) ≤ 127)) ∧
      m_Wp i_C_tapeFour 3 kc ks [(0, .inr (.inr 2)), (1, .inl x1), (2, .inl (wr (x2 + (-8))))] [] (mem Ls p (mup (mup I 6 (Int.toNat (I 2 10)) (m_i2b (m_shr x1 x2))) 2 10 (wr ((I 2 10) + 1))) L) Q))))) :
    m_Wp i_C_tapeFour 3 kc ks [(0, .inr (.inr 2)), (1, .inl x1), (2, .inl x2)] [] (mem Ls p I L) Q := by
  skip <;> exact m_wp_of 25 [3] h
set_option maxHeartbeats 4000000 in
set_option maxRecDepth 20000 in
theorem E_C_feed {Ls p : Nat}  {I L : Nat → Nat → Int} {a0 a1 a2 a3 a4 : Int} {Q : List mV → mM → Prop}
    (h : (((wr ((I 2 10) + 20)) ≤ (700 : Int) →
    m_Call i_C_tapeFour [.inr (.inr 2), .inl a0] (mem Ls p I L) (fun v M' =>
      m_Wp i_C_feed 20 0 0 [(0, .inr (.inr 2)), (1, .inl a0), (2, .inl a1), (3, .inl a2), (4, .inl a3), (5, .inl a4)] (v ++ []) M' Q)) ∧
   (¬ ((wr ((I 2 10) + 20)) ≤ (700 : Int)) →
    Q [.inl (-1)] (mem Ls p I L)))) :
    m_Call i_C_feed [.inr (.inr 2), .inl a0, .inl a1, .inl a2, .inl a3, .inl a4] (mem Ls p I L) Q := by
  have he : m_ent 0 ([.inr (.inr 2), .inl a0, .inl a1, .inl a2, .inl a3, .inl a4] : List mV) = [(0, .inr (.inr 2)), (1, .inl a0), (2, .inl a1), (3, .inl a2), (4, .inl a3), (5, .inl a4)] := rfl
  skip <;> exact m_call_at 9 [] he h
set_option maxHeartbeats 4000000 in
set_option maxRecDepth 20000 in
theorem T_C_feed_20 {Ls p kc ks : Nat}  {I L : Nat → Nat → Int} {x1 x2 x3 x4 x5 : Int} {Q : List mV → mM → Prop}
    (h : m_Call i_C_tapeFour [.inr (.inr 2), .inl x2] (mem Ls p I L) (fun v M' =>
    m_Wp i_C_feed 25 kc ks [(0, .inr (.inr 2)), (1, .inl x1), (2, .inl x2), (3, .inl x3), (4, .inl x4), (5, .inl x5)] (v ++ []) M' Q)) :
    m_Wp i_C_feed 20 kc ks [(0, .inr (.inr 2)), (1, .inl x1), (2, .inl x2), (3, .inl x3), (4, .inl x4), (5, .inl x5)] [] (mem Ls p I L) Q := by
  skip <;> exact m_wp_of 3 [] h
set_option maxHeartbeats 4000000 in
set_option maxRecDepth 20000 in
theorem T_C_feed_25 {Ls p kc ks : Nat}  {I L : Nat → Nat → Int} {x1 x2 x3 x4 x5 : Int} {Q : List mV → mM → Prop}
    (h : m_Call i_C_tapeFour [.inr (.inr 2), .inl x3] (mem Ls p I L) (fun v M' =>
    m_Wp i_C_feed 30 kc ks [(0, .inr (.inr 2)), (1, .inl x1), (2, .inl x2), (3, .inl x3), (4, .inl x4), (5, .inl x5)] (v ++ []) M' Q)) :
    m_Wp i_C_feed 25 kc ks [(0, .inr (.inr 2)), (1, .inl x1), (2, .inl x2), (3, .inl x3), (4, .inl x4), (5, .inl x5)] [] (mem Ls p I L) Q := by
  skip <;> exact m_wp_of 3 [] h
set_option maxHeartbeats 4000000 in
set_option maxRecDepth 20000 in
theorem T_C_feed_30 {Ls p kc ks : Nat}  {I L : Nat → Nat → Int} {x1 x2 x3 x4 x5 : Int} {Q : List mV → mM → Prop}
    (h : m_Call i_C_tapeFour [.inr (.inr 2), .inl x4] (mem Ls p I L) (fun v M' =>
    m_Wp i_C_feed 36 kc ks [(0, .inr (.inr 2)), (1, .inl x1), (2, .inl x2), (3, .inl x3), (4, .inl x4), (5, .inl x5)] (v ++ []) M' Q)) :
    m_Wp i_C_feed 30 kc ks [(0, .inr (.inr 2)), (1, .inl x1), (2, .inl x2), (3, .inl x3), (4, .inl x4), (5, .inl x5)] [] (mem Ls p I L) Q := by
  skip <;> exact m_wp_of 3 [] h
set_option maxHeartbeats 4000000 in
set_option maxRecDepth 20000 in
theorem T_C_feed_36 {Ls p kc ks : Nat}  {I L : Nat → Nat → Int} {x1 x2 x3 x4 x5 : Int} {Q : List mV → mM → Prop}
    (h : m_Call i_C_tapeFour [.inr (.inr 2), .inl x5] (mem Ls p I L) (fun v M' =>
    m_Wp i_C_feed 42 kc ks [(0, .inr (.inr 2)), (1, .inl x1), (2, .inl x2), (3, .inl x3), (4, .inl x4), (5, .inl x5)] (v ++ []) M' Q)) :
    m_Wp i_C_feed 36 kc ks [(0, .inr (.inr 2)), (1, .inl x1), (2, .inl x2), (3, .inl x3), (4, .inl x4), (5, .inl x5)] [] (mem Ls p I L) Q := by
  skip <;> exact m_wp_of 3 [] h
set_option maxHeartbeats 4000000 in
set_option maxRecDepth 20000 in
theorem T_C_feed_42 {Ls p kc ks : Nat}  {I L : Nat → Nat → Int} {x1 x2 x3 x4 x5 : Int} {Q : List mV → mM → Prop}
    (h : Q [.inl (I 2 10)] (mem Ls p I L)) :
    m_Wp i_C_feed 42 kc ks [(0, .inr (.inr 2)), (1, .inl x1), (2, .inl x2), (3, .inl x3), (4, .inl x4), (5, .inl x5)] [] (mem Ls p I L) Q := by
  skip <;> exact m_wp_of 3 [] h
set_option maxHeartbeats 4000000 in
set_option maxRecDepth 20000 in
theorem E_C_text {Ls p : Nat}  {I L : Nat → Nat → Int} {a0 : Int} {Q : List mV → mM → Prop}
    (h : ((a0 < (0 : Int) →
    Q [.inl (-2)] (mem Ls p I L)) ∧
   (¬ (a0 < (0 : Int)) →
    ((a0 ≤ (I 2 10) →
      m_Call i_LineReader_readsAll [.inr (.inr 3), .inl a0] (mem Ls p (mup I 2 10 0) L) (fun v M' =>
        m_Wp i_C_text 28 0 0 [(0, .inr (.inr 2)), (1, .inl a0)] (v ++ []) M' Q)) ∧
     (¬ (a0 ≤ (I 2 10)) →
      Q [.inl (-2)] (mem Ls p I L)))))) :
    m_Call i_C_text [.inr (.inr 2), .inl a0] (mem Ls p I L) Q := by
  have he : m_ent 0 ([.inr (.inr 2), .inl a0] : List mV) = [(0, .inr (.inr 2)), (1, .inl a0)] := rfl
  skip <;> exact m_call_at 13 [] he h
set_option maxHeartbeats 4000000 in
set_option maxRecDepth 20000 in
theorem T_C_text_28 {Ls p o kc ks : Nat} (hp : (p = 68 ∧ o = 9) ∨ (p = 9 ∧ o = 68)) {I L : Nat → Nat → Int} {x1 y0 : Int} {Q : List mV → mM → Prop}
    (h : ((¬ y0 = (0 : Int) →
    m_Call i_Day_begin [.inr (.inr 28), .inr (.inr o)] (144, sh0 Ls, (mupR (mupR (mupR (R0 p) 2 9 o) 64 3 o) 3 2 p), (mup (mup I 2 11 (I 3 4)) 2 12 (I 3 5)), L) (fun v M' =>
      m_Wp i_C_text 103 kc ks [(0, .inr (.inr 2)), (1, .inl x1), (2, .inl y0), (3, .inr (.inr p))] (v ++ []) M' Q)) ∧
   (¬ (¬ y0 = (0 : Int)) →
    Q [.inl (-1)] (mem Ls p (mup (mup I 2 11 (I 3 4)) 2 12 (I 3 5)) L)))) :
    m_Wp i_C_text 28 kc ks [(0, .inr (.inr 2)), (1, .inl x1)] [.inl y0] (mem Ls p I L) Q := by
  rcases hp with ⟨rfl, rfl⟩ | ⟨rfl, rfl⟩ <;> exact m_wp_of 35 [] h
set_option maxHeartbeats 4000000 in
set_option maxRecDepth 20000 in
theorem T_C_text_103 {Ls p z kc ks : Nat}  {I L : Nat → Nat → Int} {x1 x2 : Int} {Q : List mV → mM → Prop}
    (h : m_Call i_Seen_forget [.inr (.inr 87)] (mem Ls p I L) (fun v M' =>
    m_Wp i_C_text 110 kc ks [(0, .inr (.inr 2)), (1, .inl x1), (2, .inl x2), (3, .inr (.inr z))] (v ++ []) M' Q)) :
    m_Wp i_C_text 103 kc ks [(0, .inr (.inr 2)), (1, .inl x1), (2, .inl x2), (3, .inr (.inr z))] [] (mem Ls p I L) Q := by
  skip <;> exact m_wp_of 3 [] h
set_option maxHeartbeats 4000000 in
set_option maxRecDepth 20000 in
theorem T_C_text_110 {Ls p z kc ks : Nat}  {I L : Nat → Nat → Int} {x1 x2 : Int} {Q : List mV → mM → Prop}
    (h : ((0 : Int) = (0 : Int) ∨ (0 : Int) = (1 : Int)) ∧
  Q [.inl (I 3 3)] (mem Ls p (mup (mup I 94 3 0) 2 13 0) L)) :
    m_Wp i_C_text 110 kc ks [(0, .inr (.inr 2)), (1, .inl x1), (2, .inl x2), (3, .inr (.inr z))] [] (mem Ls p I L) Q := by
  skip <;> exact m_wp_of 11 [] h
set_option maxHeartbeats 4000000 in
set_option maxRecDepth 20000 in
theorem E_C_fault {Ls p : Nat}  {I L : Nat → Nat → Int} {a0 : Int} {Q : List mV → mM → Prop}
    (h : ((¬ a0 = (0 : Int) →
    ((¬ a0 = (1 : Int) →
      Q [.inl (-1)] (mem Ls p I L)) ∧
     (¬ (¬ a0 = (1 : Int)) →
      Q [.inl (I 2 12)] (mem Ls p I L)))) ∧
   (¬ (¬ a0 = (0 : Int)) →
    Q [.inl (I 2 11)] (mem Ls p I L)))) :
    m_Call i_C_fault [.inr (.inr 2), .inl a0] (mem Ls p I L) Q := by
  have he : m_ent 0 ([.inr (.inr 2), .inl a0] : List mV) = [(0, .inr (.inr 2)), (1, .inl a0)] := rfl
  skip <;> exact m_call_at 10 [] he h
set_option maxHeartbeats 4000000 in
set_option maxRecDepth 20000 in
theorem E_C_named {Ls p : Nat} (hp : p = 68 ∨ p = 9) {I L : Nat → Nat → Int} {a0 : Int} {Q : List mV → mM → Prop}
    (h : m_Call i_Plan_numberOf [.inr (.inr p), .inl a0] (mem Ls p I L) (fun v M' =>
    m_Wp i_C_named 8 0 0 [(0, .inr (.inr 2)), (1, .inl a0)] (v ++ []) M' Q)) :
    m_Call i_C_named [.inr (.inr 2), .inl a0] (mem Ls p I L) Q := by
  have he : m_ent 0 ([.inr (.inr 2), .inl a0] : List mV) = [(0, .inr (.inr 2)), (1, .inl a0)] := rfl
  rcases hp with rfl | rfl <;> exact m_call_at 4 [] he h
set_option maxHeartbeats 4000000 in
set_option maxRecDepth 20000 in
theorem T_C_named_8 {Ls p kc ks : Nat}  {I L : Nat → Nat → Int} {x1 y0 : Int} {Q : List mV → mM → Prop}
    (h : Q [.inl y0] (mem Ls p I L)) :
    m_Wp i_C_named 8 kc ks [(0, .inr (.inr 2)), (1, .inl x1)] [.inl y0] (mem Ls p I L) Q := by
  skip <;> exact m_wp_of 1 [] h
set_option maxHeartbeats 4000000 in
set_option maxRecDepth 20000 in
theorem E_C_isPerson {Ls p : Nat} (hp : p = 68 ∨ p = 9) {I L : Nat → Nat → Int} {a0 : Int} {Q : List mV → mM → Prop}
    (h : ((a0 < (0 : Int) →
    ((0 : Int) = 0 ∨ (0 : Int) = 1) ∧
    Q [.inl 0] (mem Ls p I L)) ∧
   (¬ (a0 < (0 : Int)) →
    (((I p 13) ≤ a0 →
      ((0 : Int) = 0 ∨ (0 : Int) = 1) ∧
      Q [.inl 0] (mem Ls p I L)) ∧
     (¬ ((I p 13) ≤ a0) →
      ((1 : Int) = 0 ∨ (1 : Int) = 1) ∧
      Q [.inl 1] (mem Ls p I L)))))) :
    m_Call i_C_isPerson [.inr (.inr 2), .inl a0] (mem Ls p I L) Q := by
  have he : m_ent 0 ([.inr (.inr 2), .inl a0] : List mV) = [(0, .inr (.inr 2)), (1, .inl a0)] := rfl
  rcases hp with rfl | rfl <;> exact m_call_at 11 [] he h
set_option maxHeartbeats 4000000 in
set_option maxRecDepth 20000 in
theorem E_C_man {Ls p : Nat}  {I L : Nat → Nat → Int} {a0 a1 : Int} {Q : List mV → mM → Prop}
    (h : m_Call i_C_isPerson [.inr (.inr 2), .inl a0] (mem Ls p I L) (fun v M' =>
    m_Wp i_C_man 5 0 0 [(0, .inr (.inr 2)), (1, .inl a0), (2, .inl a1)] (v ++ []) M' Q)) :
    m_Call i_C_man [.inr (.inr 2), .inl a0, .inl a1] (mem Ls p I L) Q := by
  have he : m_ent 0 ([.inr (.inr 2), .inl a0, .inl a1] : List mV) = [(0, .inr (.inr 2)), (1, .inl a0), (2, .inl a1)] := rfl
  skip <;> exact m_call_at 3 [] he h
set_option maxHeartbeats 4000000 in
set_option maxRecDepth 20000 in
theorem T_C_man_5 {Ls p kc ks : Nat} (hp : p = 68 ∨ p = 9) {I L : Nat → Nat → Int} {x1 x2 y0 : Int} {Q : List mV → mM → Prop}
    (h : ((¬ y0 = (0 : Int) →
    ((x2 = (0 : Int) →
      (0 ≤ x1 ∧ x1 < 6) ∧
      Q [.inl (I (p + 2) (Int.toNat x1))] (mem Ls p I L)) ∧
     (¬ x2 = (0 : Int) →
      ((x2 = (1 : Int) →
      (0 ≤ x1 ∧ x1 < 6) ∧
      Q [.inl (I (p + 3) (Int.toNat x1))] (mem Ls p I L)) ∧
     (¬ x2 = (1 : Int) →
      ((x2 = (2 : Int) →
      (0 ≤ x1 ∧ x1 < 6) ∧
      Q [.inl (I 29 (Int.toNat x1))] (mem Ls p I L)) ∧
     (¬ x2 = (2 : Int) →
      ((x2 = (3 : Int) →
      (0 ≤ x1 ∧ x1 < 6) ∧
      Q [.inl (I (p + 5) (Int.toNat x1))] (mem Ls p I L)) ∧
     (¬ x2 = (3 : Int) →
      ((x2 = (4 : Int) →
      m_Call i_Day_modeOf [.inr (.inr 28), .inl x1] (mem Ls p I L) (fun v M' =>
        m_Wp i_C_man 112 kc ks [(0, .inr (.inr 2)), (1, .inl x1), (2, .inl x2)] (v ++ []) M' Q)) ∧
     (¬ x2 = (4 : Int) →
      ((x2 = (5 : Int) →
      (0 ≤ x1 ∧ x1 < 6) ∧
      Q [.inl (I 30 (Int.toNat x1))] (mem Ls p I L)) ∧
     (¬ x2 = (5 : Int) →
      ((x2 = (6 : Int) →
      (0 ≤ x1 ∧ x1 < 6) ∧
      Q [.inl (I 31 (Int.toNat x1))] (mem Ls p I L)) ∧
     (¬ x2 = (6 : Int) →
      ((x2 = (7 : Int) →
      m_Call i_Day_placeOf [.inr (.inr 28), .inl x1] (mem Ls p I L) (fun v M' =>
        m_Wp i_C_man 141 kc ks [(0, .inr (.inr 2)), (1, .inl x1), (2, .inl x2)] (v ++ []) M' Q)) ∧
     (¬ x2 = (7 : Int) →
      False))))))))))))))))) ∧
   (¬ (¬ y0 = (0 : Int)) →
    False))) :
    m_Wp i_C_man 5 kc ks [(0, .inr (.inr 2)), (1, .inl x1), (2, .inl x2)] [.inl y0] (mem Ls p I L) Q := by
  rcases hp with rfl | rfl <;> exact m_wp_of 9 [] h
set_option maxHeartbeats 4000000 in
set_option maxRecDepth 20000 in
theorem T_C_man_112 {Ls p kc ks : Nat}  {I L : Nat → Nat → Int} {x1 x2 y0 : Int} {Q : List mV → mM → Prop}
    (h : Q [.inl y0] (mem Ls p I L)) :
    m_Wp i_C_man 112 kc ks [(0, .inr (.inr 2)), (1, .inl x1), (2, .inl x2)] [.inl y0] (mem Ls p I L) Q := by
  skip <;> exact m_wp_of 1 [] h
set_option maxHeartbeats 4000000 in
set_option maxRecDepth 20000 in
theorem T_C_man_141 {Ls p kc ks : Nat}  {I L : Nat → Nat → Int} {x1 x2 y0 : Int} {Q : List mV → mM → Prop}
    (h : Q [.inl y0] (mem Ls p I L)) :
    m_Wp i_C_man 141 kc ks [(0, .inr (.inr 2)), (1, .inl x1), (2, .inl x2)] [.inl y0] (mem Ls p I L) Q := by
  skip <;> exact m_wp_of 1 [] h
set_option maxHeartbeats 4000000 in
set_option maxRecDepth 20000 in
theorem E_C_isMeeting {Ls p : Nat} (hp : p = 68 ∨ p = 9) {I L : Nat → Nat → Int} {a0 : Int} {Q : List mV → mM → Prop}
    (h : ((a0 < (0 : Int) →
    ((0 : Int) = 0 ∨ (0 : Int) = 1) ∧
    Q [.inl 0] (mem Ls p I L)) ∧
   (¬ (a0 < (0 : Int)) →
    (((I p 15) ≤ a0 →
      ((0 : Int) = 0 ∨ (0 : Int) = 1) ∧
      Q [.inl 0] (mem Ls p I L)) ∧
     (¬ ((I p 15) ≤ a0) →
      ((1 : Int) = 0 ∨ (1 : Int) = 1) ∧
      Q [.inl 1] (mem Ls p I L)))))) :
    m_Call i_C_isMeeting [.inr (.inr 2), .inl a0] (mem Ls p I L) Q := by
  have he : m_ent 0 ([.inr (.inr 2), .inl a0] : List mV) = [(0, .inr (.inr 2)), (1, .inl a0)] := rfl
  rcases hp with rfl | rfl <;> exact m_call_at 11 [] he h
set_option maxHeartbeats 4000000 in
set_option maxRecDepth 20000 in
theorem E_C_meeting {Ls p : Nat}  {I L : Nat → Nat → Int} {a0 a1 : Int} {Q : List mV → mM → Prop}
    (h : m_Call i_C_isMeeting [.inr (.inr 2), .inl a0] (mem Ls p I L) (fun v M' =>
    m_Wp i_C_meeting 5 0 0 [(0, .inr (.inr 2)), (1, .inl a0), (2, .inl a1)] (v ++ []) M' Q)) :
    m_Call i_C_meeting [.inr (.inr 2), .inl a0, .inl a1] (mem Ls p I L) Q := by
  have he : m_ent 0 ([.inr (.inr 2), .inl a0, .inl a1] : List mV) = [(0, .inr (.inr 2)), (1, .inl a0), (2, .inl a1)] := rfl
  skip <;> exact m_call_at 3 [] he h
set_option maxHeartbeats 4000000 in
set_option maxRecDepth 20000 in
theorem T_C_meeting_5 {Ls p kc ks : Nat} (hp : p = 68 ∨ p = 9) {I L : Nat → Nat → Int} {x1 x2 y0 : Int} {Q : List mV → mM → Prop}
    (h : ((¬ y0 = (0 : Int) →
    ((x2 = (0 : Int) →
      (0 ≤ x1 ∧ x1 < 6) ∧
      Q [.inl (I (p + 8) (Int.toNat x1))] (mem Ls p I L)) ∧
     (¬ x2 = (0 : Int) →
      ((x2 = (1 : Int) →
      (0 ≤ x1 ∧ x1 < 6) ∧
      Q [.inl (I (p + 9) (Int.toNat x1))] (mem Ls p I L)) ∧
     (¬ x2 = (1 : Int) →
      ((x2 = (2 : Int) →
      (0 ≤ x1 ∧ x1 < 6) ∧
      Q [.inl (I 33 (Int.toNat x1))] (mem Ls p I L)) ∧
     (¬ x2 = (2 : Int) →
      ((x2 = (3 : Int) →
      (0 ≤ x1 ∧ x1 < 6) ∧
      Q [.inl (I 36 (Int.toNat x1))] (mem Ls p I L)) ∧
     (¬ x2 = (3 : Int) →
      ((x2 = (4 : Int) →
      (0 ≤ x1 ∧ x1 < 6) ∧
      Q [.inl (I 34 (Int.toNat x1))] (mem Ls p I L)) ∧
     (¬ x2 = (4 : Int) →
      ((x2 = (5 : Int) →
      (0 ≤ x1 ∧ x1 < 6) ∧
      Q [.inl (I 35 (Int.toNat x1))] (mem Ls p I L)) ∧
     (¬ x2 = (5 : Int) →
      Q [.inl (-1)] (mem Ls p I L)))))))))))))) ∧
   (¬ (¬ y0 = (0 : Int)) →
    Q [.inl (-1)] (mem Ls p I L)))) :
    m_Wp i_C_meeting 5 kc ks [(0, .inr (.inr 2)), (1, .inl x1), (2, .inl x2)] [.inl y0] (mem Ls p I L) Q := by
  rcases hp with rfl | rfl <;> exact m_wp_of 9 [] h
set_option maxHeartbeats 4000000 in
set_option maxRecDepth 20000 in
theorem E_C_shows {Ls p : Nat}  {I L : Nat → Nat → Int} {a0 : Int} {Q : List mV → mM → Prop}
    (h : m_Call i_C_isPerson [.inr (.inr 2), .inl a0] (mem Ls p I L) (fun v M' =>
    m_Wp i_C_shows 5 0 0 [(0, .inr (.inr 2)), (1, .inl a0)] (v ++ []) M' Q)) :
    m_Call i_C_shows [.inr (.inr 2), .inl a0] (mem Ls p I L) Q := by
  have he : m_ent 0 ([.inr (.inr 2), .inl a0] : List mV) = [(0, .inr (.inr 2)), (1, .inl a0)] := rfl
  skip <;> exact m_call_at 3 [] he h
set_option maxHeartbeats 4000000 in
set_option maxRecDepth 20000 in
theorem T_C_shows_5 {Ls p kc ks : Nat}  {I L : Nat → Nat → Int} {x1 y0 : Int} {Q : List mV → mM → Prop}
    (h : ((y0 = (0 : Int) →
    Q [.inl (-2147483648)] (mem Ls p I L)) ∧
   (¬ (y0 = (0 : Int)) →
    (0 ≤ x1 ∧ x1 < 6) ∧
    Q [.inl (wr ((I 28 10) + (I 29 (Int.toNat x1))))] (mem Ls p I L)))) :
    m_Wp i_C_shows 5 kc ks [(0, .inr (.inr 2)), (1, .inl x1)] [.inl y0] (mem Ls p I L) Q := by
  skip <;> exact m_wp_of 13 [] h
set_option maxHeartbeats 4000000 in
set_option maxRecDepth 20000 in
theorem E_C_law {Ls p : Nat}  {I L : Nat → Nat → Int} {a0 a1 : Int} {Q : List mV → mM → Prop}
    (h : ((a0 < (0 : Int) →
    Q [.inr (.inl (-9223372036854775808))] (mem Ls p I L)) ∧
   (¬ (a0 < (0 : Int)) →
    (((3 : Int) ≤ a0 →
      Q [.inr (.inl (-9223372036854775808))] (mem Ls p I L)) ∧
     (¬ ((3 : Int) ≤ a0) →
      m_Call i_C_isPerson [.inr (.inr 2), .inl a1] (mem Ls p I L) (fun v M' =>
        m_Wp i_C_law 14 0 0 [(0, .inr (.inr 2)), (1, .inl a0), (2, .inl a1)] (v ++ []) M' Q)))))) :
    m_Call i_C_law [.inr (.inr 2), .inl a0, .inl a1] (mem Ls p I L) Q := by
  have he : m_ent 0 ([.inr (.inr 2), .inl a0, .inl a1] : List mV) = [(0, .inr (.inr 2)), (1, .inl a0), (2, .inl a1)] := rfl
  skip <;> exact m_call_at 8 [] he h
set_option maxHeartbeats 4000000 in
set_option maxRecDepth 20000 in
theorem T_C_law_14 {Ls p kc ks : Nat}  {I L : Nat → Nat → Int} {x1 x2 y0 : Int} {Q : List mV → mM → Prop}
    (h : ((¬ y0 = (0 : Int) →
    m_Call i_Way_follow [.inr (.inr 64), .inl 0] (mem Ls p I L) (fun v M' =>
      m_Wp i_C_law 29 kc ks [(0, .inr (.inr 2)), (1, .inl x1), (2, .inl x2)] (v ++ []) M' Q)) ∧
   (¬ (¬ y0 = (0 : Int)) →
    Q [.inr (.inl (-9223372036854775808))] (mem Ls p I L)))) :
    m_Wp i_C_law 14 kc ks [(0, .inr (.inr 2)), (1, .inl x1), (2, .inl x2)] [.inl y0] (mem Ls p I L) Q := by
  skip <;> exact m_wp_of 5 [] h
set_option maxHeartbeats 4000000 in
set_option maxRecDepth 20000 in
theorem T_C_law_29 {Ls p kc ks : Nat}  {I L : Nat → Nat → Int} {x1 x2 : Int} {Q : List mV → mM → Prop}
    (h : ((¬ x1 = (1 : Int) →
    m_Call i_Way_lawOf [.inr (.inr 64), .inr (.inr 28), .inl x1, .inl x2, .inl (I 28 11)] (mem Ls p I L) (fun v M' =>
      m_Wp i_C_law 66 kc ks [] (v ++ []) M' Q)) ∧
   (¬ (¬ x1 = (1 : Int)) →
    (0 ≤ x2 ∧ x2 < 6) ∧
    m_Call i_Way_lawOf [.inr (.inr 64), .inr (.inr 28), .inl x1, .inl x2, .inl (I 30 (Int.toNat x2))] (mem Ls p I L) (fun v M' =>
      m_Wp i_C_law 66 kc ks [] (v ++ []) M' Q)))) :
    m_Wp i_C_law 29 kc ks [(0, .inr (.inr 2)), (1, .inl x1), (2, .inl x2)] [] (mem Ls p I L) Q := by
  skip <;> exact m_wp_of 17 [] h
set_option maxHeartbeats 4000000 in
set_option maxRecDepth 20000 in
theorem T_C_law_66 {Ls p kc ks : Nat}  {I L : Nat → Nat → Int} {y0 : Int} {Q : List mV → mM → Prop}
    (h : Q [.inr (.inl y0)] (mem Ls p I L)) :
    m_Wp i_C_law 66 kc ks [] [.inr (.inl y0)] (mem Ls p I L) Q := by
  skip <;> exact m_wp_of 1 [] h
set_option maxHeartbeats 4000000 in
set_option maxRecDepth 20000 in
theorem E_C_ring {Ls p : Nat}  {I L : Nat → Nat → Int} {a0 : Int} {Q : List mV → mM → Prop}
    (h : m_Call i_C_isPerson [.inr (.inr 2), .inl a0] (mem Ls p I L) (fun v M' =>
    m_Wp i_C_ring 5 0 0 [(0, .inr (.inr 2)), (1, .inl a0)] (v ++ []) M' Q)) :
    m_Call i_C_ring [.inr (.inr 2), .inl a0] (mem Ls p I L) Q := by
  have he : m_ent 0 ([.inr (.inr 2), .inl a0] : List mV) = [(0, .inr (.inr 2)), (1, .inl a0)] := rfl
  skip <;> exact m_call_at 3 [] he h
set_option maxHeartbeats 4000000 in
set_option maxRecDepth 20000 in
theorem T_C_ring_5 {Ls p kc ks : Nat}  {I L : Nat → Nat → Int} {x1 y0 : Int} {Q : List mV → mM → Prop}
    (h : ((¬ y0 = (0 : Int) →
    (0 ≤ x1 ∧ x1 < 6) ∧
    m_Call i_Day_takesIn [.inr (.inr 28), .inl x1] (mem Ls p I L) (fun v M' =>
      m_Wp i_C_ring 28 kc ks [(0, .inr (.inr 2)), (1, .inl x1), (2, .inl (I 30 (Int.toNat x1)))] (v ++ []) M' Q)) ∧
   (¬ (¬ y0 = (0 : Int)) →
    Q [.inl (-1)] (mem Ls p I L)))) :
    m_Wp i_C_ring 5 kc ks [(0, .inr (.inr 2)), (1, .inl x1)] [.inl y0] (mem Ls p I L) Q := by
  skip <;> exact m_wp_of 11 [] h
set_option maxHeartbeats 4000000 in
set_option maxRecDepth 20000 in
theorem T_C_ring_28 {Ls p kc ks : Nat}  {I L : Nat → Nat → Int} {x1 x2 y0 : Int} {Q : List mV → mM → Prop}
    (h : ((¬ y0 = (0 : Int) →
    m_Call i_Log_note [.inr (.inr 94), .inl 0, .inl x1, .inl x2] (mem Ls p I L) (fun v M' =>
      m_Wp i_C_ring 44 kc ks [(0, .inr (.inr 2)), (1, .inl x1), (2, .inl x2)] (v ++ []) M' Q)) ∧
   (¬ (¬ y0 = (0 : Int)) →
    Q [.inl (-2)] (mem Ls p I L)))) :
    m_Wp i_C_ring 28 kc ks [(0, .inr (.inr 2)), (1, .inl x1), (2, .inl x2)] [.inl y0] (mem Ls p I L) Q := by
  skip <;> exact m_wp_of 7 [] h
set_option maxHeartbeats 4000000 in
set_option maxRecDepth 20000 in
theorem T_C_ring_44 {Ls p kc ks : Nat}  {I L : Nat → Nat → Int} {x1 x2 : Int} {Q : List mV → mM → Prop}
    (h : (0 ≤ x1 ∧ x1 < 6) ∧
  Q [.inl (I 30 (Int.toNat x1))] (mem Ls p I L)) :
    m_Wp i_C_ring 44 kc ks [(0, .inr (.inr 2)), (1, .inl x1), (2, .inl x2)] [] (mem Ls p I L) Q := by
  skip <;> exact m_wp_of 6 [] h
set_option maxHeartbeats 4000000 in
set_option maxRecDepth 20000 in
theorem E_C_hangUp {Ls p : Nat}  {I L : Nat → Nat → Int} {a0 : Int} {Q : List mV → mM → Prop}
    (h : m_Call i_C_isPerson [.inr (.inr 2), .inl a0] (mem Ls p I L) (fun v M' =>
    m_Wp i_C_hangUp 5 0 0 [(0, .inr (.inr 2)), (1, .inl a0)] (v ++ []) M' Q)) :
    m_Call i_C_hangUp [.inr (.inr 2), .inl a0] (mem Ls p I L) Q := by
  have he : m_ent 0 ([.inr (.inr 2), .inl a0] : List mV) = [(0, .inr (.inr 2)), (1, .inl a0)] := rfl
  skip <;> exact m_call_at 3 [] he h
set_option maxHeartbeats 4000000 in
set_option maxRecDepth 20000 in
theorem T_C_hangUp_5 {Ls p kc ks : Nat}  {I L : Nat → Nat → Int} {x1 y0 : Int} {Q : List mV → mM → Prop}
    (h : ((¬ y0 = (0 : Int) →
    ((¬ (I 28 12) = x1 →
      m_Call i_Day_placeOf [.inr (.inr 28), .inl x1] (mem Ls p I L) (fun v M' =>
        m_Wp i_C_hangUp 63 kc ks [(0, .inr (.inr 2)), (1, .inl x1)] (v ++ []) M' Q)) ∧
     (¬ (¬ (I 28 12) = x1) →
      m_Call i_Log_note [.inr (.inr 94), .inl 2, .inl x1, .inl (I 28 13)] (mem Ls p I L) (fun v M' =>
        m_Wp i_C_hangUp 37 kc ks [(0, .inr (.inr 2)), (1, .inl x1)] (v ++ []) M' Q)))) ∧
   (¬ (¬ y0 = (0 : Int)) →
    ((0 : Int) = 0 ∨ (0 : Int) = 1) ∧
    Q [.inl 0] (mem Ls p I L)))) :
    m_Wp i_C_hangUp 5 kc ks [(0, .inr (.inr 2)), (1, .inl x1)] [.inl y0] (mem Ls p I L) Q := by
  skip <;> exact m_wp_of 14 [] h
set_option maxHeartbeats 4000000 in
set_option maxRecDepth 20000 in
theorem T_C_hangUp_63 {Ls p kc ks : Nat}  {I L : Nat → Nat → Int} {x1 y0 : Int} {Q : List mV → mM → Prop}
    (h : ((¬ y0 = (-1) →
    m_Call i_Log_note [.inr (.inr 94), .inl 1, .inl x1, .inl y0] (mem Ls p I L) (fun v M' =>
      m_Wp i_C_hangUp 81 kc ks [(0, .inr (.inr 2)), (1, .inl x1), (2, .inl y0)] (v ++ []) M' Q)) ∧
   (¬ (¬ y0 = (-1)) →
    ((0 : Int) = 0 ∨ (0 : Int) = 1) ∧
    Q [.inl 0] (mem Ls p I L)))) :
    m_Wp i_C_hangUp 63 kc ks [(0, .inr (.inr 2)), (1, .inl x1)] [.inl y0] (mem Ls p I L) Q := by
  skip <;> exact m_wp_of 10 [] h
set_option maxHeartbeats 4000000 in
set_option maxRecDepth 20000 in
theorem T_C_hangUp_37 {Ls p kc ks : Nat}  {I L : Nat → Nat → Int} {x1 : Int} {Q : List mV → mM → Prop}
    (h : ((1 : Int) = 0 ∨ (1 : Int) = 1) ∧
  Q [.inl 1] (mem Ls p (mup (mup I 28 12 (-1)) 28 13 0) L)) :
    m_Wp i_C_hangUp 37 kc ks [(0, .inr (.inr 2)), (1, .inl x1)] [] (mem Ls p I L) Q := by
  skip <;> exact m_wp_of 10 [] h
set_option maxHeartbeats 4000000 in
set_option maxRecDepth 20000 in
theorem T_C_hangUp_81 {Ls p kc ks : Nat}  {I L : Nat → Nat → Int} {x1 x2 : Int} {Q : List mV → mM → Prop}
    (h : m_Call i_Day_takeOut [.inr (.inr 28), .inl x2] (mem Ls p I L) (fun v M' =>
    m_Wp i_C_hangUp 89 kc ks [(0, .inr (.inr 2)), (1, .inl x1), (2, .inl x2)] (v ++ []) M' Q)) :
    m_Wp i_C_hangUp 81 kc ks [(0, .inr (.inr 2)), (1, .inl x1), (2, .inl x2)] [] (mem Ls p I L) Q := by
  skip <;> exact m_wp_of 4 [] h
set_option maxHeartbeats 4000000 in
set_option maxRecDepth 20000 in
theorem T_C_hangUp_89 {Ls p kc ks : Nat}  {I L : Nat → Nat → Int} {x1 x2 : Int} {Q : List mV → mM → Prop}
    (h : ((1 : Int) = 0 ∨ (1 : Int) = 1) ∧
  Q [.inl 1] (mem Ls p I L)) :
    m_Wp i_C_hangUp 89 kc ks [(0, .inr (.inr 2)), (1, .inl x1), (2, .inl x2)] [] (mem Ls p I L) Q := by
  skip <;> exact m_wp_of 2 [] h
set_option maxHeartbeats 4000000 in
set_option maxRecDepth 20000 in
theorem E_C_set {Ls p : Nat}  {I L : Nat → Nat → Int} {a0 a1 : Int} {Q : List mV → mM → Prop}
    (h : m_Call i_C_isPerson [.inr (.inr 2), .inl a0] (mem Ls p I L) (fun v M' =>
    m_Wp i_C_set 5 0 0 [(0, .inr (.inr 2)), (1, .inl a0), (2, .inl a1)] (v ++ []) M' Q)) :
    m_Call i_C_set [.inr (.inr 2), .inl a0, .inl a1] (mem Ls p I L) Q := by
  have he : m_ent 0 ([.inr (.inr 2), .inl a0, .inl a1] : List mV) = [(0, .inr (.inr 2)), (1, .inl a0), (2, .inl a1)] := rfl
  skip <;> exact m_call_at 3 [] he h
set_option maxHeartbeats 4000000 in
set_option maxRecDepth 20000 in
theorem T_C_set_5 {Ls p kc ks : Nat}  {I L : Nat → Nat → Int} {x1 x2 y0 : Int} {Q : List mV → mM → Prop}
    (h : ((y0 = (0 : Int) →
    ((0 : Int) = 0 ∨ (0 : Int) = 1) ∧
    Q [.inl 0] (mem Ls p I L)) ∧
   (¬ (y0 = (0 : Int)) →
    ((x2 < (-99) →
      ((0 : Int) = 0 ∨ (0 : Int) = 1) ∧
      Q [.inl 0] (mem Ls p I L)) ∧
     (¬ (x2 < (-99)) →
      (((99 : Int) < x2 →
        ((0 : Int) = 0 ∨ (0 : Int) = 1) ∧
        Q [.inl 0] (mem Ls p I L)) ∧
       (¬ ((99 : Int) < x2) →
        (0 ≤ x1 ∧ x1 < 6) ∧
        ((¬ (I 29 (Int.toNat x1)) = x2 →
          (0 ≤ x1 ∧ x1 < 6) ∧
          m_Call i_Log_note [.inr (.inr 94), .inl 3, .inl x1, .inl (I 29 (Int.toNat x1))] (mem Ls p I L) (fun v M' =>
            m_Wp i_C_set 53 kc ks [(0, .inr (.inr 2)), (1, .inl x1), (2, .inl x2)] (v ++ []) M' Q)) ∧
         (¬ (¬ (I 29 (Int.toNat x1)) = x2) →
          ((0 : Int) = 0 ∨ (0 : Int) = 1) ∧
          Q [.inl 0] (mem Ls p I L)))))))))) :
    m_Wp i_C_set 5 kc ks [(0, .inr (.inr 2)), (1, .inl x1), (2, .inl x2)] [.inl y0] (mem Ls p I L) Q := by
  skip <;> exact m_wp_of 24 [] h
set_option maxHeartbeats 4000000 in
set_option maxRecDepth 20000 in
theorem T_C_set_53 {Ls p kc ks : Nat}  {I L : Nat → Nat → Int} {x1 x2 : Int} {Q : List mV → mM → Prop}
    (h : (0 ≤ x1 ∧ x1 < 6) ∧
  ((1 : Int) = 0 ∨ (1 : Int) = 1) ∧
  Q [.inl 1] (mem Ls p (mup I 29 (Int.toNat x1) x2) L)) :
    m_Wp i_C_set 53 kc ks [(0, .inr (.inr 2)), (1, .inl x1), (2, .inl x2)] [] (mem Ls p I L) Q := by
  skip <;> exact m_wp_of 8 [] h
set_option maxHeartbeats 4000000 in
set_option maxRecDepth 20000 in
theorem E_C_putOff {Ls p : Nat}  {I L : Nat → Nat → Int} {a0 a1 : Int} {Q : List mV → mM → Prop}
    (h : m_Call i_C_isMeeting [.inr (.inr 2), .inl a0] (mem Ls p I L) (fun v M' =>
    m_Wp i_C_putOff 5 0 0 [(0, .inr (.inr 2)), (1, .inl a0), (2, .inl a1)] (v ++ []) M' Q)) :
    m_Call i_C_putOff [.inr (.inr 2), .inl a0, .inl a1] (mem Ls p I L) Q := by
  have he : m_ent 0 ([.inr (.inr 2), .inl a0, .inl a1] : List mV) = [(0, .inr (.inr 2)), (1, .inl a0), (2, .inl a1)] := rfl
  skip <;> exact m_call_at 3 [] he h
set_option maxHeartbeats 4000000 in
set_option maxRecDepth 20000 in
theorem T_C_putOff_5 {Ls p kc ks : Nat}  {I L : Nat → Nat → Int} {x1 x2 y0 : Int} {Q : List mV → mM → Prop}
    (h : ((y0 = (0 : Int) →
    ((0 : Int) = 0 ∨ (0 : Int) = 1) ∧
    Q [.inl 0] (mem Ls p I L)) ∧
   (¬ (y0 = (0 : Int)) →
    ((x2 < (0 : Int) →
      ((0 : Int) = 0 ∨ (0 : Int) = 1) ∧
      Q [.inl 0] (mem Ls p I L)) ∧
     (¬ (x2 < (0 : Int)) →
      ((x2 ≤ (999 : Int) →
        m_Call i_Day_isOneThere [.inr (.inr 28), .inl x1] (mem Ls p I L) (fun v M' =>
          m_Wp i_C_putOff 29 kc ks [(0, .inr (.inr 2)), (1, .inl x1), (2, .inl x2)] (v ++ []) M' Q)) ∧
       (¬ (x2 ≤ (999 : Int)) →
        ((0 : Int) = 0 ∨ (0 : Int) = 1) ∧
        Q [.inl 0] (mem Ls p I L)))))))) :
    m_Wp i_C_putOff 5 kc ks [(0, .inr (.inr 2)), (1, .inl x1), (2, .inl x2)] [.inl y0] (mem Ls p I L) Q := by
  skip <;> exact m_wp_of 10 [] h
set_option maxHeartbeats 4000000 in
set_option maxRecDepth 20000 in
theorem T_C_putOff_29 {Ls p kc ks : Nat}  {I L : Nat → Nat → Int} {x1 x2 y0 : Int} {Q : List mV → mM → Prop}
    (h : ((¬ y0 = (0 : Int) →
    ((0 : Int) = 0 ∨ (0 : Int) = 1) ∧
    Q [.inl 0] (mem Ls p I L)) ∧
   (¬ (¬ y0 = (0 : Int)) →
    (0 ≤ x1 ∧ x1 < 6) ∧
    ((¬ (I 33 (Int.toNat x1)) = x2 →
      (0 ≤ x1 ∧ x1 < 6) ∧
      m_Call i_Log_note [.inr (.inr 94), .inl 4, .inl x1, .inl (I 33 (Int.toNat x1))] (mem Ls p I L) (fun v M' =>
        m_Wp i_C_putOff 65 kc ks [(0, .inr (.inr 2)), (1, .inl x1), (2, .inl x2)] (v ++ []) M' Q)) ∧
     (¬ (¬ (I 33 (Int.toNat x1)) = x2) →
      ((0 : Int) = 0 ∨ (0 : Int) = 1) ∧
      Q [.inl 0] (mem Ls p I L)))))) :
    m_Wp i_C_putOff 29 kc ks [(0, .inr (.inr 2)), (1, .inl x1), (2, .inl x2)] [.inl y0] (mem Ls p I L) Q := by
  skip <;> exact m_wp_of 18 [] h
set_option maxHeartbeats 4000000 in
set_option maxRecDepth 20000 in
theorem T_C_putOff_65 {Ls p kc ks : Nat}  {I L : Nat → Nat → Int} {x1 x2 : Int} {Q : List mV → mM → Prop}
    (h : (0 ≤ x1 ∧ x1 < 6) ∧
  ((1 : Int) = 0 ∨ (1 : Int) = 1) ∧
  Q [.inl 1] (mem Ls p (mup I 33 (Int.toNat x1) x2) L)) :
    m_Wp i_C_putOff 65 kc ks [(0, .inr (.inr 2)), (1, .inl x1), (2, .inl x2)] [] (mem Ls p I L) Q := by
  skip <;> exact m_wp_of 8 [] h
set_option maxHeartbeats 4000000 in
set_option maxRecDepth 20000 in
theorem E_C_within {Ls p : Nat}  {I L : Nat → Nat → Int} {a0 a1 a2 : Int} {Q : List mV → mM → Prop}
    (h : Q [.inr (.inl (m_max a1 (m_min a2 a0)))] (mem Ls p I L)) :
    m_Call i_C_within [.inr (.inl a0), .inr (.inl a1), .inr (.inl a2)] (mem Ls p I L) Q := by
  have he : m_ent 0 ([.inr (.inl a0), .inr (.inl a1), .inr (.inl a2)] : List mV) = [(0, .inr (.inl a0)), (2, .inr (.inl a1)), (4, .inr (.inl a2))] := rfl
  skip <;> exact m_call_at 6 [] he h
set_option maxHeartbeats 4000000 in
set_option maxRecDepth 20000 in
theorem E_C_go {Ls p : Nat}  {I L : Nat → Nat → Int} {a0 : Int} {Q : List mV → mM → Prop}
    (h : ((a0 < (0 : Int) →
    Q [.inl (-1)] (mem Ls p I L)) ∧
   (¬ (a0 < (0 : Int)) →
    (((200 : Int) < a0 →
      Q [.inl (-1)] (mem Ls p I L)) ∧
     (¬ ((200 : Int) < a0) →
      (((wr ((I 28 10) + a0)) ≤ (9000 : Int) →
        m_Call i_Way_follow [.inr (.inr 64), .inl 1] (mem Ls p I L) (fun v M' =>
          m_Wp i_C_go 36 0 0 [(0, .inr (.inr 2)), (1, .inl a0)] (v ++ []) M' Q)) ∧
       (¬ ((wr ((I 28 10) + a0)) ≤ (9000 : Int)) →
        Q [.inl (-1)] (mem Ls p I L)))))))) :
    m_Call i_C_go [.inr (.inr 2), .inl a0] (mem Ls p I L) Q := by
  have he : m_ent 0 ([.inr (.inr 2), .inl a0] : List mV) = [(0, .inr (.inr 2)), (1, .inl a0)] := rfl
  skip <;> exact m_call_at 16 [38] he h
set_option maxHeartbeats 4000000 in
set_option maxRecDepth 20000 in
theorem T_C_go_36 {Ls p kc ks : Nat}  {I L : Nat → Nat → Int} {x1 : Int} {Q : List mV → mM → Prop}
    (h : m_Wp i_C_go 38 kc ks [(0, .inr (.inr 2)), (1, .inl x1), (2, .inl 0)] [] (mem Ls p I L) Q) :
    m_Wp i_C_go 36 kc ks [(0, .inr (.inr 2)), (1, .inl x1)] [] (mem Ls p I L) Q := by
  skip <;> exact m_wp_of 3 [38] h
set_option maxHeartbeats 4000000 in
set_option maxRecDepth 20000 in
theorem T_C_go_38 {Ls p kc ks : Nat}  {I L : Nat → Nat → Int} {x1 x2 : Int} {Q : List mV → mM → Prop}
    (h : ((x1 ≤ x2 →
    ((x1 ≤ (0 : Int) →
      Q [.inl (I 28 10)] (mem Ls p I L)) ∧
     (¬ (x1 ≤ (0 : Int)) →
      Q [.inl (I 28 10)] (mem Ls p (mup I 94 3 0) L)))) ∧
   (¬ (x1 ≤ x2) →
    m_Call i_Way_passMinute [.inr (.inr 64), .inr (.inr 28)] (mem Ls p I L) (fun v M' =>
      m_Wp i_C_go 54 kc ks [(0, .inr (.inr 2)), (1, .inl x1), (2, .inl x2)] (v ++ []) M' Q)))) :
    m_Wp i_C_go 38 kc ks [(0, .inr (.inr 2)), (1, .inl x1), (2, .inl x2)] [] (mem Ls p I L) Q := by
  skip <;> exact m_wp_of 15 [38] h
set_option maxHeartbeats 4000000 in
set_option maxRecDepth 20000 in
theorem T_C_go_54 {Ls p kc ks : Nat}  {I L : Nat → Nat → Int} {x1 x2 : Int} {Q : List mV → mM → Prop}
    (h : m_Wp i_C_go 38 kc ks [(0, .inr (.inr 2)), (1, .inl x1), (2, .inl (wr (x2 + 1)))] [] (mem Ls p I L) Q) :
    m_Wp i_C_go 54 kc ks [(0, .inr (.inr 2)), (1, .inl x1), (2, .inl x2)] [] (mem Ls p I L) Q := by
  skip <;> exact m_wp_of 3 [38] h
set_option maxHeartbeats 4000000 in
set_option maxRecDepth 20000 in
theorem E_C_startTrial {Ls p : Nat}  {I L : Nat → Nat → Int} {Q : List mV → mM → Prop}
    (h : m_Call i_Way_follow [.inr (.inr 64), .inl 0] (mem Ls p I L) (fun v M' =>
    m_Wp i_C_startTrial 8 0 0 [(0, .inr (.inr 2))] (v ++ []) M' Q)) :
    m_Call i_C_startTrial [.inr (.inr 2)] (mem Ls p I L) Q := by
  have he : m_ent 0 ([.inr (.inr 2)] : List mV) = [(0, .inr (.inr 2))] := rfl
  skip <;> exact m_call_at 4 [] he h
set_option maxHeartbeats 4000000 in
set_option maxRecDepth 20000 in
theorem T_C_startTrial_8 {Ls p kc ks : Nat}  {I L : Nat → Nat → Int} {Q : List mV → mM → Prop}
    (h : m_Call i_Day_copy [.inr (.inr 46), .inr (.inr 28)] (mem Ls p I L) (fun v M' =>
    m_Wp i_C_startTrial 19 kc ks [(0, .inr (.inr 2))] (v ++ []) M' Q)) :
    m_Wp i_C_startTrial 8 kc ks [(0, .inr (.inr 2))] [] (mem Ls p I L) Q := by
  skip <;> exact m_wp_of 5 [] h
set_option maxHeartbeats 4000000 in
set_option maxRecDepth 20000 in
theorem T_C_startTrial_19 {Ls p kc ks : Nat}  {I L : Nat → Nat → Int} {Q : List mV → mM → Prop}
    (h : Q [] (mem Ls p I L)) :
    m_Wp i_C_startTrial 19 kc ks [(0, .inr (.inr 2))] [] (mem Ls p I L) Q := by
  skip <;> exact m_wp_of 1 [] h
set_option maxHeartbeats 4000000 in
set_option maxRecDepth 20000 in
theorem E_C_passTrial {Ls p : Nat}  {I L : Nat → Nat → Int} {a0 : Int} {Q : List mV → mM → Prop}
    (h : m_Wp i_C_passTrial 2 0 0 [(0, .inr (.inr 2)), (1, .inl a0), (2, .inl 0)] [] (mem Ls p I L) Q) :
    m_Call i_C_passTrial [.inr (.inr 2), .inl a0] (mem Ls p I L) Q := by
  have he : m_ent 0 ([.inr (.inr 2), .inl a0] : List mV) = [(0, .inr (.inr 2)), (1, .inl a0)] := rfl
  skip <;> exact m_call_at 3 [2] he h
set_option maxHeartbeats 4000000 in
set_option maxRecDepth 20000 in
theorem T_C_passTrial_2 {Ls p kc ks : Nat}  {I L : Nat → Nat → Int} {x1 x2 : Int} {Q : List mV → mM → Prop}
    (h : ((x1 ≤ x2 →
    Q [] (mem Ls p I L)) ∧
   (¬ (x1 ≤ x2) →
    m_Call i_Way_passMinute [.inr (.inr 64), .inr (.inr 46)] (mem Ls p I L) (fun v M' =>
      m_Wp i_C_passTrial 18 kc ks [(0, .inr (.inr 2)), (1, .inl x1), (2, .inl x2)] (v ++ []) M' Q)))) :
    m_Wp i_C_passTrial 2 kc ks [(0, .inr (.inr 2)), (1, .inl x1), (2, .inl x2)] [] (mem Ls p I L) Q := by
  skip <;> exact m_wp_of 9 [2] h
set_option maxHeartbeats 4000000 in
set_option maxRecDepth 20000 in
theorem T_C_passTrial_18 {Ls p kc ks : Nat}  {I L : Nat → Nat → Int} {x1 x2 : Int} {Q : List mV → mM → Prop}
    (h : m_Wp i_C_passTrial 2 kc ks [(0, .inr (.inr 2)), (1, .inl x1), (2, .inl (wr (x2 + 1)))] [] (mem Ls p I L) Q) :
    m_Wp i_C_passTrial 18 kc ks [(0, .inr (.inr 2)), (1, .inl x1), (2, .inl x2)] [] (mem Ls p I L) Q := by
  skip <;> exact m_wp_of 3 [2] h
set_option maxHeartbeats 4000000 in
set_option maxRecDepth 20000 in
theorem E_C_ahead {Ls p : Nat}  {I L : Nat → Nat → Int} {a0 a1 a2 : Int} {Q : List mV → mM → Prop}
    (h : ((a0 < (0 : Int) →
    Q [.inl (-2147483648)] (mem Ls p I L)) ∧
   (¬ (a0 < (0 : Int)) →
    (((200 : Int) < a0 →
      Q [.inl (-2147483648)] (mem Ls p I L)) ∧
     (¬ ((200 : Int) < a0) →
      ((a1 < (0 : Int) →
        Q [.inl (-2147483648)] (mem Ls p I L)) ∧
       (¬ (a1 < (0 : Int)) →
        (((3 : Int) < a1 →
          Q [.inl (-2147483648)] (mem Ls p I L)) ∧
         (¬ ((3 : Int) < a1) →
          ((¬ a1 = (2 : Int) →
            m_Call i_C_startTrial [.inr (.inr 2)] (mem Ls p I L) (fun v M' =>
              m_Wp i_C_ahead 40 0 0 [(0, .inr (.inr 2)), (1, .inl a0), (2, .inl a1), (3, .inl a2)] (v ++ []) M' Q)) ∧
           (¬ (¬ a1 = (2 : Int)) →
            m_Call i_C_isPerson [.inr (.inr 2), .inl a2] (mem Ls p I L) (fun v M' =>
              m_Wp i_C_ahead 30 0 0 [(0, .inr (.inr 2)), (1, .inl a0), (2, .inl a1), (3, .inl a2)] (v ++ []) M' Q)))))))))))) :
    m_Call i_C_ahead [.inr (.inr 2), .inl a0, .inl a1, .inl a2] (mem Ls p I L) Q := by
  have he : m_ent 0 ([.inr (.inr 2), .inl a0, .inl a1, .inl a2] : List mV) = [(0, .inr (.inr 2)), (1, .inl a0), (2, .inl a1), (3, .inl a2)] := rfl
  skip <;> exact m_call_at 16 [] he h
set_option maxHeartbeats 4000000 in
set_option maxRecDepth 20000 in
theorem T_C_ahead_40 {Ls p kc ks : Nat}  {I L : Nat → Nat → Int} {x1 x2 x3 : Int} {Q : List mV → mM → Prop}
    (h : m_Call i_C_passTrial [.inr (.inr 2), .inl x1] (mem Ls p I L) (fun v M' =>
    m_Wp i_C_ahead 45 kc ks [(0, .inr (.inr 2)), (1, .inl x1), (2, .inl x2), (3, .inl x3)] (v ++ []) M' Q)) :
    m_Wp i_C_ahead 40 kc ks [(0, .inr (.inr 2)), (1, .inl x1), (2, .inl x2), (3, .inl x3)] [] (mem Ls p I L) Q := by
  skip <;> exact m_wp_of 3 [] h
set_option maxHeartbeats 4000000 in
set_option maxRecDepth 20000 in
theorem T_C_ahead_30 {Ls p kc ks : Nat}  {I L : Nat → Nat → Int} {x1 x2 x3 y0 : Int} {Q : List mV → mM → Prop}
    (h : ((¬ y0 = (0 : Int) →
    m_Call i_C_startTrial [.inr (.inr 2)] (mem Ls p I L) (fun v M' =>
      m_Wp i_C_ahead 40 kc ks [(0, .inr (.inr 2)), (1, .inl x1), (2, .inl x2), (3, .inl x3)] (v ++ []) M' Q)) ∧
   (¬ (¬ y0 = (0 : Int)) →
    Q [.inl (-2147483648)] (mem Ls p I L)))) :
    m_Wp i_C_ahead 30 kc ks [(0, .inr (.inr 2)), (1, .inl x1), (2, .inl x2), (3, .inl x3)] [.inl y0] (mem Ls p I L) Q := by
  skip <;> exact m_wp_of 4 [] h
set_option maxHeartbeats 4000000 in
set_option maxRecDepth 20000 in
theorem T_C_ahead_45 {Ls p kc ks : Nat}  {I L : Nat → Nat → Int} {x1 x2 x3 : Int} {Q : List mV → mM → Prop}
    (h : ((x2 = (0 : Int) →
    m_Call i_Day_howMany [.inr (.inr 46), .inl 1] (mem Ls p I L) (fun v M' =>
      m_Wp i_C_ahead 80 kc ks [(0, .inr (.inr 2)), (1, .inl x1), (2, .inl x2), (3, .inl x3)] (v ++ []) M' Q)) ∧
   (¬ x2 = (0 : Int) →
    ((x2 = (1 : Int) →
    m_Call i_Day_howMany [.inr (.inr 46), .inl 2] (mem Ls p I L) (fun v M' =>
      m_Wp i_C_ahead 98 kc ks [(0, .inr (.inr 2)), (1, .inl x1), (2, .inl x2), (3, .inl x3)] (v ++ []) M' Q)) ∧
   (¬ x2 = (1 : Int) →
    ((x2 = (2 : Int) →
    (0 ≤ x3 ∧ x3 < 6) ∧
    Q [.inl (I 47 (Int.toNat x3))] (mem Ls p I L)) ∧
   (¬ x2 = (2 : Int) →
    Q [.inl (I 46 11)] (mem Ls p I L)))))))) :
    m_Wp i_C_ahead 45 kc ks [(0, .inr (.inr 2)), (1, .inl x1), (2, .inl x2), (3, .inl x3)] [] (mem Ls p I L) Q := by
  skip <;> exact m_wp_of 8 [] h
set_option maxHeartbeats 4000000 in
set_option maxRecDepth 20000 in
theorem T_C_ahead_80 {Ls p kc ks : Nat}  {I L : Nat → Nat → Int} {x1 x2 x3 y0 : Int} {Q : List mV → mM → Prop}
    (h : m_Call i_Day_howMany [.inr (.inr 28), .inl 1] (mem Ls p I L) (fun v M' =>
    m_Wp i_C_ahead 88 kc ks [(0, .inr (.inr 2)), (1, .inl x1), (2, .inl x2), (3, .inl x3)] (v ++ [.inl y0]) M' Q)) :
    m_Wp i_C_ahead 80 kc ks [(0, .inr (.inr 2)), (1, .inl x1), (2, .inl x2), (3, .inl x3)] [.inl y0] (mem Ls p I L) Q := by
  skip <;> exact m_wp_of 4 [] h
set_option maxHeartbeats 4000000 in
set_option maxRecDepth 20000 in
theorem T_C_ahead_98 {Ls p kc ks : Nat}  {I L : Nat → Nat → Int} {x1 x2 x3 y0 : Int} {Q : List mV → mM → Prop}
    (h : m_Call i_Day_howMany [.inr (.inr 28), .inl 2] (mem Ls p I L) (fun v M' =>
    m_Wp i_C_ahead 106 kc ks [(0, .inr (.inr 2)), (1, .inl x1), (2, .inl x2), (3, .inl x3)] (v ++ [.inl y0]) M' Q)) :
    m_Wp i_C_ahead 98 kc ks [(0, .inr (.inr 2)), (1, .inl x1), (2, .inl x2), (3, .inl x3)] [.inl y0] (mem Ls p I L) Q := by
  skip <;> exact m_wp_of 4 [] h
set_option maxHeartbeats 4000000 in
set_option maxRecDepth 20000 in
theorem T_C_ahead_88 {Ls p kc ks : Nat}  {I L : Nat → Nat → Int} {x1 x2 x3 y0 y1 : Int} {Q : List mV → mM → Prop}
    (h : Q [.inl (wr (y0 - y1))] (mem Ls p I L)) :
    m_Wp i_C_ahead 88 kc ks [(0, .inr (.inr 2)), (1, .inl x1), (2, .inl x2), (3, .inl x3)] [.inl y1, .inl y0] (mem Ls p I L) Q := by
  skip <;> exact m_wp_of 2 [] h
set_option maxHeartbeats 4000000 in
set_option maxRecDepth 20000 in
theorem T_C_ahead_106 {Ls p kc ks : Nat}  {I L : Nat → Nat → Int} {x1 x2 x3 y0 y1 : Int} {Q : List mV → mM → Prop}
    (h : Q [.inl (wr (y0 - y1))] (mem Ls p I L)) :
    m_Wp i_C_ahead 106 kc ks [(0, .inr (.inr 2)), (1, .inl x1), (2, .inl x2), (3, .inl x3)] [.inl y1, .inl y0] (mem Ls p I L) Q := by
  skip <;> exact m_wp_of 2 [] h
set_option maxHeartbeats 4000000 in
set_option maxRecDepth 20000 in
theorem E_C_minutesTillTold {Ls p : Nat}  {I L : Nat → Nat → Int} {a0 : Int} {Q : List mV → mM → Prop}
    (h : (0 ≤ a0 ∧ a0 < 6) ∧
  m_Wp i_C_minutesTillTold 12 0 0 [(0, .inr (.inr 2)), (1, .inl a0), (2, .inl (I 49 (Int.toNat a0))), (3, .inl 1)] [] (mem Ls p I L) Q) :
    m_Call i_C_minutesTillTold [.inr (.inr 2), .inl a0] (mem Ls p I L) Q := by
  have he : m_ent 0 ([.inr (.inr 2), .inl a0] : List mV) = [(0, .inr (.inr 2)), (1, .inl a0)] := rfl
  skip <;> exact m_call_at 9 [12] he h
set_option maxHeartbeats 4000000 in
set_option maxRecDepth 20000 in
theorem T_C_minutesTillTold_12 {Ls p kc ks : Nat}  {I L : Nat → Nat → Int} {x1 x2 x3 : Int} {Q : List mV → mM → Prop}
    (h : (((99 : Int) < x3 →
    Q [.inl (-2)] (mem Ls p I L)) ∧
   (¬ ((99 : Int) < x3) →
    m_Call i_Way_passMinute [.inr (.inr 64), .inr (.inr 46)] (mem Ls p I L) (fun v M' =>
      m_Wp i_C_minutesTillTold 29 kc ks [(0, .inr (.inr 2)), (1, .inl x1), (2, .inl x2), (3, .inl x3)] (v ++ []) M' Q)))) :
    m_Wp i_C_minutesTillTold 12 kc ks [(0, .inr (.inr 2)), (1, .inl x1), (2, .inl x2), (3, .inl x3)] [] (mem Ls p I L) Q := by
  skip <;> exact m_wp_of 9 [12] h
set_option maxHeartbeats 4000000 in
set_option maxRecDepth 20000 in
theorem T_C_minutesTillTold_29 {Ls p kc ks : Nat}  {I L : Nat → Nat → Int} {x1 x2 x3 : Int} {Q : List mV → mM → Prop}
    (h : (0 ≤ x1 ∧ x1 < 6) ∧
  (((I 49 (Int.toNat x1)) ≤ x2 →
    m_Wp i_C_minutesTillTold 12 kc ks [(0, .inr (.inr 2)), (1, .inl x1), (2, .inl x2), (3, .inl (wr (x3 + 1)))] [] (mem Ls p I L) Q) ∧
   (¬ ((I 49 (Int.toNat x1)) ≤ x2) →
    Q [.inl x3] (mem Ls p I L)))) :
    m_Wp i_C_minutesTillTold 29 kc ks [(0, .inr (.inr 2)), (1, .inl x1), (2, .inl x2), (3, .inl x3)] [] (mem Ls p I L) Q := by
  skip <;> exact m_wp_of 10 [12] h
set_option maxHeartbeats 4000000 in
set_option maxRecDepth 20000 in
theorem E_C_delay {Ls p : Nat}  {I L : Nat → Nat → Int} {a0 : Int} {Q : List mV → mM → Prop}
    (h : m_Call i_C_isPerson [.inr (.inr 2), .inl a0] (mem Ls p I L) (fun v M' =>
    m_Wp i_C_delay 5 0 0 [(0, .inr (.inr 2)), (1, .inl a0)] (v ++ []) M' Q)) :
    m_Call i_C_delay [.inr (.inr 2), .inl a0] (mem Ls p I L) Q := by
  have he : m_ent 0 ([.inr (.inr 2), .inl a0] : List mV) = [(0, .inr (.inr 2)), (1, .inl a0)] := rfl
  skip <;> exact m_call_at 3 [] he h
set_option maxHeartbeats 4000000 in
set_option maxRecDepth 20000 in
theorem T_C_delay_5 {Ls p kc ks : Nat}  {I L : Nat → Nat → Int} {x1 y0 : Int} {Q : List mV → mM → Prop}
    (h : ((¬ y0 = (0 : Int) →
    m_Call i_C_startTrial [.inr (.inr 2)] (mem Ls p I L) (fun v M' =>
      m_Wp i_C_delay 14 kc ks [(0, .inr (.inr 2)), (1, .inl x1)] (v ++ []) M' Q)) ∧
   (¬ (¬ y0 = (0 : Int)) →
    Q [.inl (-1)] (mem Ls p I L)))) :
    m_Wp i_C_delay 5 kc ks [(0, .inr (.inr 2)), (1, .inl x1)] [.inl y0] (mem Ls p I L) Q := by
  skip <;> exact m_wp_of 3 [] h
set_option maxHeartbeats 4000000 in
set_option maxRecDepth 20000 in
theorem T_C_delay_14 {Ls p kc ks : Nat}  {I L : Nat → Nat → Int} {x1 : Int} {Q : List mV → mM → Prop}
    (h : m_Call i_Day_takesIn [.inr (.inr 46), .inl x1] (mem Ls p I L) (fun v M' =>
    m_Wp i_C_delay 22 kc ks [(0, .inr (.inr 2)), (1, .inl x1)] (v ++ []) M' Q)) :
    m_Wp i_C_delay 14 kc ks [(0, .inr (.inr 2)), (1, .inl x1)] [] (mem Ls p I L) Q := by
  skip <;> exact m_wp_of 4 [] h
set_option maxHeartbeats 4000000 in
set_option maxRecDepth 20000 in
theorem T_C_delay_22 {Ls p kc ks : Nat}  {I L : Nat → Nat → Int} {x1 y0 : Int} {Q : List mV → mM → Prop}
    (h : m_Call i_C_minutesTillTold [.inr (.inr 2), .inl x1] (mem Ls p I L) (fun v M' =>
    m_Wp i_C_delay 28 kc ks [(0, .inr (.inr 2)), (1, .inl x1)] (v ++ []) M' Q)) :
    m_Wp i_C_delay 22 kc ks [(0, .inr (.inr 2)), (1, .inl x1)] [.inl y0] (mem Ls p I L) Q := by
  skip <;> exact m_wp_of 4 [] h
set_option maxHeartbeats 4000000 in
set_option maxRecDepth 20000 in
theorem T_C_delay_28 {Ls p kc ks : Nat}  {I L : Nat → Nat → Int} {x1 y0 : Int} {Q : List mV → mM → Prop}
    (h : Q [.inl y0] (mem Ls p I L)) :
    m_Wp i_C_delay 28 kc ks [(0, .inr (.inr 2)), (1, .inl x1)] [.inl y0] (mem Ls p I L) Q := by
  skip <;> exact m_wp_of 1 [] h
set_option maxHeartbeats 4000000 in
set_option maxRecDepth 20000 in
theorem E_C_bestRing {Ls p : Nat}  {I L : Nat → Nat → Int} {a0 a1 a2 : Int} {Q : List mV → mM → Prop}
    (h : m_Call i_C_isPerson [.inr (.inr 2), .inl a0] (mem Ls p I L) (fun v M' =>
    m_Wp i_C_bestRing 5 0 0 [(0, .inr (.inr 2)), (1, .inl a0), (2, .inl a1), (3, .inl a2)] (v ++ []) M' Q)) :
    m_Call i_C_bestRing [.inr (.inr 2), .inl a0, .inl a1, .inl a2] (mem Ls p I L) Q := by
  have he : m_ent 0 ([.inr (.inr 2), .inl a0, .inl a1, .inl a2] : List mV) = [(0, .inr (.inr 2)), (1, .inl a0), (2, .inl a1), (3, .inl a2)] := rfl
  skip <;> exact m_call_at 3 [59] he h
set_option maxHeartbeats 4000000 in
set_option maxRecDepth 20000 in
theorem T_C_bestRing_5 {Ls p kc ks : Nat}  {I L : Nat → Nat → Int} {x1 x2 x3 y0 : Int} {Q : List mV → mM → Prop}
    (h : ((y0 = (0 : Int) →
    Q [.inl (-1)] (mem Ls p I L)) ∧
   (¬ (y0 = (0 : Int)) →
    ((x2 < (0 : Int) →
      Q [.inl (-1)] (mem Ls p I L)) ∧
     (¬ (x2 < (0 : Int)) →
      (((60 : Int) < x2 →
        Q [.inl (-1)] (mem Ls p I L)) ∧
       (¬ ((60 : Int) < x2) →
        ((x3 < (0 : Int) →
          Q [.inl (-1)] (mem Ls p I L)) ∧
         (¬ (x3 < (0 : Int)) →
          ((x3 ≤ (1 : Int) →
            m_Call i_Way_follow [.inr (.inr 64), .inl 0] (mem Ls p I L) (fun v M' =>
              m_Wp i_C_bestRing 37 kc ks [(0, .inr (.inr 2)), (1, .inl x1), (2, .inl x2), (3, .inl x3)] (v ++ []) M' Q)) ∧
           (¬ (x3 ≤ (1 : Int)) →
            Q [.inl (-1)] (mem Ls p I L)))))))))))) :
    m_Wp i_C_bestRing 5 kc ks [(0, .inr (.inr 2)), (1, .inl x1), (2, .inl x2), (3, .inl x3)] [.inl y0] (mem Ls p I L) Q := by
  skip <;> exact m_wp_of 15 [59] h
set_option maxHeartbeats 4000000 in
set_option maxRecDepth 20000 in
theorem T_C_bestRing_37 {Ls p kc ks : Nat}  {I L : Nat → Nat → Int} {x1 x2 x3 : Int} {Q : List mV → mM → Prop}
    (h : m_Call i_Day_copy [.inr (.inr 55), .inr (.inr 28)] (mem Ls p I L) (fun v M' =>
    m_Wp i_C_bestRing 48 kc ks [(0, .inr (.inr 2)), (1, .inl x1), (2, .inl x2), (3, .inl x3)] (v ++ []) M' Q)) :
    m_Wp i_C_bestRing 37 kc ks [(0, .inr (.inr 2)), (1, .inl x1), (2, .inl x2), (3, .inl x3)] [] (mem Ls p I L) Q := by
  skip <;> exact m_wp_of 5 [59] h
set_option maxHeartbeats 4000000 in
set_option maxRecDepth 20000 in
theorem T_C_bestRing_48 {Ls p kc ks : Nat}  {I L : Nat → Nat → Int} {x1 x2 x3 : Int} {Q : List mV → mM → Prop}
    (h : m_Wp i_C_bestRing 59 kc ks [(0, .inr (.inr 2)), (1, .inl x1), (2, .inl x2), (3, .inl x3), (4, .inl (-2)), (5, .inl 100), (6, .inl 0)] [] (mem Ls p I L) Q) :
    m_Wp i_C_bestRing 48 kc ks [(0, .inr (.inr 2)), (1, .inl x1), (2, .inl x2), (3, .inl x3)] [] (mem Ls p I L) Q := by
  skip <;> exact m_wp_of 7 [59] h
set_option maxHeartbeats 4000000 in
set_option maxRecDepth 20000 in
theorem T_C_bestRing_59 {Ls p kc ks : Nat}  {I L : Nat → Nat → Int} {x1 x2 x3 x4 x5 x6 : Int} {Q : List mV → mM → Prop}
    (h : ((x2 < x6 →
    ((x3 = (0 : Int) →
      Q [.inl x4] (mem Ls p I L)) ∧
     (¬ (x3 = (0 : Int)) →
      ((¬ x4 = (-2) →
        Q [.inl x5] (mem Ls p I L)) ∧
       (¬ (¬ x4 = (-2)) →
        Q [.inl x4] (mem Ls p I L)))))) ∧
   (¬ (x2 < x6) →
    m_Call i_Day_copy [.inr (.inr 46), .inr (.inr 55)] (mem Ls p I L) (fun v M' =>
      m_Wp i_C_bestRing 76 kc ks [(0, .inr (.inr 2)), (1, .inl x1), (2, .inl x2), (3, .inl x3), (4, .inl x4), (5, .inl x5), (6, .inl x6)] (v ++ []) M' Q)))) :
    m_Wp i_C_bestRing 59 kc ks [(0, .inr (.inr 2)), (1, .inl x1), (2, .inl x2), (3, .inl x3), (4, .inl x4), (5, .inl x5), (6, .inl x6)] [] (mem Ls p I L) Q := by
  skip <;> exact m_wp_of 14 [59] h
set_option maxHeartbeats 4000000 in
set_option maxRecDepth 20000 in
theorem T_C_bestRing_76 {Ls p kc ks : Nat}  {I L : Nat → Nat → Int} {x1 x2 x3 x4 x5 x6 : Int} {Q : List mV → mM → Prop}
    (h : m_Call i_Day_takesIn [.inr (.inr 46), .inl x1] (mem Ls p I L) (fun v M' =>
    m_Wp i_C_bestRing 84 kc ks [(0, .inr (.inr 2)), (1, .inl x1), (2, .inl x2), (3, .inl x3), (4, .inl x4), (5, .inl x5), (6, .inl x6)] (v ++ []) M' Q)) :
    m_Wp i_C_bestRing 76 kc ks [(0, .inr (.inr 2)), (1, .inl x1), (2, .inl x2), (3, .inl x3), (4, .inl x4), (5, .inl x5), (6, .inl x6)] [] (mem Ls p I L) Q := by
  skip <;> exact m_wp_of 4 [59] h
set_option maxHeartbeats 4000000 in
set_option maxRecDepth 20000 in
theorem T_C_bestRing_84 {Ls p kc ks : Nat}  {I L : Nat → Nat → Int} {x1 x2 x3 x4 x5 x6 y0 : Int} {Q : List mV → mM → Prop}
    (h : ((y0 = (0 : Int) →
    m_Call i_Way_passMinute [.inr (.inr 64), .inr (.inr 55)] (mem Ls p I L) (fun v M' =>
      m_Wp i_C_bestRing 127 kc ks [(0, .inr (.inr 2)), (1, .inl x1), (2, .inl x2), (3, .inl x3), (4, .inl x4), (5, .inl x5), (6, .inl x6)] (v ++ []) M' Q)) ∧
   (¬ (y0 = (0 : Int)) →
    m_Call i_C_minutesTillTold [.inr (.inr 2), .inl x1] (mem Ls p I L) (fun v M' =>
      m_Wp i_C_bestRing 92 kc ks [(0, .inr (.inr 2)), (1, .inl x1), (2, .inl x2), (3, .inl x3), (4, .inl x4), (5, .inl x5), (6, .inl x6)] (v ++ []) M' Q)))) :
    m_Wp i_C_bestRing 84 kc ks [(0, .inr (.inr 2)), (1, .inl x1), (2, .inl x2), (3, .inl x3), (4, .inl x4), (5, .inl x5), (6, .inl x6)] [.inl y0] (mem Ls p I L) Q := by
  skip <;> exact m_wp_of 7 [59] h
set_option maxHeartbeats 4000000 in
set_option maxRecDepth 20000 in
theorem T_C_bestRing_127 {Ls p kc ks : Nat}  {I L : Nat → Nat → Int} {x1 x2 x3 x4 x5 x6 : Int} {Q : List mV → mM → Prop}
    (h : m_Wp i_C_bestRing 59 kc ks [(0, .inr (.inr 2)), (1, .inl x1), (2, .inl x2), (3, .inl x3), (4, .inl x4), (5, .inl x5), (6, .inl (wr (x6 + 1)))] [] (mem Ls p I L) Q) :
    m_Wp i_C_bestRing 127 kc ks [(0, .inr (.inr 2)), (1, .inl x1), (2, .inl x2), (3, .inl x3), (4, .inl x4), (5, .inl x5), (6, .inl x6)] [] (mem Ls p I L) Q := by
  skip <;> exact m_wp_of 3 [59] h
set_option maxHeartbeats 4000000 in
set_option maxRecDepth 20000 in
theorem T_C_bestRing_92 {Ls p kc ks : Nat}  {I L : Nat → Nat → Int} {x1 x2 x3 x4 x5 x6 y0 : Int} {Q : List mV → mM → Prop}
    (h : ((y0 = (-2) →
    m_Call i_Way_passMinute [.inr (.inr 64), .inr (.inr 55)] (mem Ls p I L) (fun v M' =>
      m_Wp i_C_bestRing 127 kc ks [(0, .inr (.inr 2)), (1, .inl x1), (2, .inl x2), (3, .inl x3), (4, .inl x4), (5, .inl x5), (6, .inl x6)] (v ++ []) M' Q)) ∧
   (¬ (y0 = (-2)) →
    ((x5 ≤ y0 →
      m_Call i_Way_passMinute [.inr (.inr 64), .inr (.inr 55)] (mem Ls p I L) (fun v M' =>
        m_Wp i_C_bestRing 127 kc ks [(0, .inr (.inr 2)), (1, .inl x1), (2, .inl x2), (3, .inl x3), (4, .inl x4), (5, .inl x5), (6, .inl x6)] (v ++ []) M' Q)) ∧
     (¬ (x5 ≤ y0) →
      m_Call i_Way_passMinute [.inr (.inr 64), .inr (.inr 55)] (mem Ls p I L) (fun v M' =>
        m_Wp i_C_bestRing 127 kc ks [(0, .inr (.inr 2)), (1, .inl x1), (2, .inl x2), (3, .inl x3), (4, .inl x6), (5, .inl y0), (6, .inl x6)] (v ++ []) M' Q)))))) :
    m_Wp i_C_bestRing 92 kc ks [(0, .inr (.inr 2)), (1, .inl x1), (2, .inl x2), (3, .inl x3), (4, .inl x4), (5, .inl x5), (6, .inl x6)] [.inl y0] (mem Ls p I L) Q := by
  skip <;> exact m_wp_of 17 [59] h
set_option maxHeartbeats 4000000 in
set_option maxRecDepth 20000 in
theorem E_C_spreadIfRinging {Ls p : Nat}  {I L : Nat → Nat → Int} {a0 : Int} {Q : List mV → mM → Prop}
    (h : m_Call i_C_startTrial [.inr (.inr 2)] (mem Ls p I L) (fun v M' =>
    m_Wp i_C_spreadIfRinging 4 0 0 [(0, .inr (.inr 2)), (1, .inl a0)] (v ++ []) M' Q)) :
    m_Call i_C_spreadIfRinging [.inr (.inr 2), .inl a0] (mem Ls p I L) Q := by
  have he : m_ent 0 ([.inr (.inr 2), .inl a0] : List mV) = [(0, .inr (.inr 2)), (1, .inl a0)] := rfl
  skip <;> exact m_call_at 2 [6, 43] he h
set_option maxHeartbeats 4000000 in
set_option maxRecDepth 20000 in
theorem T_C_spreadIfRinging_4 {Ls p kc ks : Nat}  {I L : Nat → Nat → Int} {x1 : Int} {Q : List mV → mM → Prop}
    (h : m_Wp i_C_spreadIfRinging 6 kc ks [(0, .inr (.inr 2)), (1, .inl x1), (2, .inl 0)] [] (mem Ls p I L) Q) :
    m_Wp i_C_spreadIfRinging 4 kc ks [(0, .inr (.inr 2)), (1, .inl x1)] [] (mem Ls p I L) Q := by
  skip <;> exact m_wp_of 3 [6, 43] h
set_option maxHeartbeats 4000000 in
set_option maxRecDepth 20000 in
theorem T_C_spreadIfRinging_6 {Ls p kc ks : Nat} (hp : p = 68 ∨ p = 9) {I L : Nat → Nat → Int} {x1 x2 : Int} {Q : List mV → mM → Prop}
    (h : (((I p 13) ≤ x2 →
    m_Wp i_C_spreadIfRinging 43 kc ks [(0, .inr (.inr 2)), (2, .inl 0)] [] (mem Ls p I L) Q) ∧
   (¬ ((I p 13) ≤ x2) →
    ((¬ (m_and (m_shr x1 x2) 1) = (1 : Int) →
      m_Wp i_C_spreadIfRinging 6 kc ks [(0, .inr (.inr 2)), (1, .inl x1), (2, .inl (wr (x2 + 1)))] [] (mem Ls p I L) Q) ∧
     (¬ (¬ (m_and (m_shr x1 x2) 1) = (1 : Int)) →
      m_Call i_Day_takesIn [.inr (.inr 46), .inl x2] (mem Ls p I L) (fun v M' =>
        m_Wp i_C_spreadIfRinging 34 kc ks [(0, .inr (.inr 2)), (1, .inl x1), (2, .inl x2)] (v ++ []) M' Q)))))) :
    m_Wp i_C_spreadIfRinging 6 kc ks [(0, .inr (.inr 2)), (1, .inl x1), (2, .inl x2)] [] (mem Ls p I L) Q := by
  rcases hp with rfl | rfl <;> exact m_wp_of 17 [6, 43] h
set_option maxHeartbeats 4000000 in
set_option maxRecDepth 20000 in
theorem T_C_spreadIfRinging_43 {Ls p kc ks : Nat} (hp : p = 68 ∨ p = 9) {I L : Nat → Nat → Int} {x2 : Int} {Q : List mV → mM → Prop}
    (h : (((60 : Int) ≤ x2 →
    m_Call i_Day_spread [.inr (.inr 46), .inl (wr ((m_shl 1 (I p 13)) - 1))] (mem Ls p I L) (fun v M' =>
      m_Wp i_C_spreadIfRinging 84 kc ks [(0, .inr (.inr 2)), (2, .inl x2)] (v ++ []) M' Q)) ∧
   (¬ ((60 : Int) ≤ x2) →
    m_Call i_Way_passMinute [.inr (.inr 64), .inr (.inr 46)] (mem Ls p I L) (fun v M' =>
      m_Wp i_C_spreadIfRinging 60 kc ks [(0, .inr (.inr 2)), (2, .inl x2)] (v ++ []) M' Q)))) :
    m_Wp i_C_spreadIfRinging 43 kc ks [(0, .inr (.inr 2)), (2, .inl x2)] [] (mem Ls p I L) Q := by
  rcases hp with rfl | rfl <;> exact m_wp_of 14 [6, 43] h
set_option maxHeartbeats 4000000 in
set_option maxRecDepth 20000 in
theorem T_C_spreadIfRinging_34 {Ls p kc ks : Nat}  {I L : Nat → Nat → Int} {x1 x2 y0 : Int} {Q : List mV → mM → Prop}
    (h : m_Wp i_C_spreadIfRinging 6 kc ks [(0, .inr (.inr 2)), (1, .inl x1), (2, .inl (wr (x2 + 1)))] [] (mem Ls p I L) Q) :
    m_Wp i_C_spreadIfRinging 34 kc ks [(0, .inr (.inr 2)), (1, .inl x1), (2, .inl x2)] [.inl y0] (mem Ls p I L) Q := by
  skip <;> exact m_wp_of 5 [6, 43] h
set_option maxHeartbeats 4000000 in
set_option maxRecDepth 20000 in
theorem T_C_spreadIfRinging_84 {Ls p kc ks : Nat}  {I L : Nat → Nat → Int} {x2 y0 : Int} {Q : List mV → mM → Prop}
    (h : Q [.inl y0] (mem Ls p I L)) :
    m_Wp i_C_spreadIfRinging 84 kc ks [(0, .inr (.inr 2)), (2, .inl x2)] [.inl y0] (mem Ls p I L) Q := by
  skip <;> exact m_wp_of 1 [6, 43] h
set_option maxHeartbeats 4000000 in
set_option maxRecDepth 20000 in
theorem T_C_spreadIfRinging_60 {Ls p kc ks : Nat}  {I L : Nat → Nat → Int} {x2 : Int} {Q : List mV → mM → Prop}
    (h : m_Wp i_C_spreadIfRinging 43 kc ks [(0, .inr (.inr 2)), (2, .inl (wr (x2 + 1)))] [] (mem Ls p I L) Q) :
    m_Wp i_C_spreadIfRinging 60 kc ks [(0, .inr (.inr 2)), (2, .inl x2)] [] (mem Ls p I L) Q := by
  skip <;> exact m_wp_of 3 [6, 43] h
set_option maxHeartbeats 4000000 in
set_option maxRecDepth 20000 in
theorem E_C_near {Ls p : Nat} (hp : p = 68 ∨ p = 9) {I L : Nat → Nat → Int} {a0 : Int} {Q : List mV → mM → Prop}
    (h : ((a0 < (0 : Int) →
    Q [.inl (-1)] (mem Ls p I L)) ∧
   (¬ (a0 < (0 : Int)) →
    ((a0 ≤ (60 : Int) →
      m_Wp i_C_near 26 0 0 [(0, .inr (.inr 2)), (1, .inl a0), (2, .inl (wr ((m_shl 1 (I p 13)) - 1))), (3, .inl 0)] [] (mem Ls p I L) Q) ∧
     (¬ (a0 ≤ (60 : Int)) →
      Q [.inl (-1)] (mem Ls p I L)))))) :
    m_Call i_C_near [.inr (.inr 2), .inl a0] (mem Ls p I L) Q := by
  have he : m_ent 0 ([.inr (.inr 2), .inl a0] : List mV) = [(0, .inr (.inr 2)), (1, .inl a0)] := rfl
  rcases hp with rfl | rfl <;> exact m_call_at 16 [26, 40] he h
set_option maxHeartbeats 4000000 in
set_option maxRecDepth 20000 in
theorem T_C_near_26 {Ls p kc ks : Nat} (hp : p = 68 ∨ p = 9) {I L : Nat → Nat → Int} {x1 x2 x3 : Int} {Q : List mV → mM → Prop}
    (h : (((I p 13) < x3 →
    Q [.inl (-2)] (mem Ls p I L)) ∧
   (¬ ((I p 13) < x3) →
    m_Wp i_C_near 40 kc ks [(0, .inr (.inr 2)), (1, .inl x1), (2, .inl x2), (3, .inl x3), (4, .inl 0)] [] (mem Ls p I L) Q))) :
    m_Wp i_C_near 26 kc ks [(0, .inr (.inr 2)), (1, .inl x1), (2, .inl x2), (3, .inl x3)] [] (mem Ls p I L) Q := by
  rcases hp with rfl | rfl <;> exact m_wp_of 9 [26, 40] h
set_option maxHeartbeats 4000000 in
set_option maxRecDepth 20000 in
theorem T_C_near_40 {Ls p kc ks : Nat}  {I L : Nat → Nat → Int} {x1 x2 x3 x4 : Int} {Q : List mV → mM → Prop}
    (h : ((x2 < x4 →
    m_Wp i_C_near 26 kc ks [(0, .inr (.inr 2)), (1, .inl x1), (2, .inl x2), (3, .inl (wr (x3 + 1)))] [] (mem Ls p I L) Q) ∧
   (¬ (x2 < x4) →
    m_Call i_J_bitCount [.inl x4] (mem Ls p I L) (fun v M' =>
      m_Wp i_C_near 51 kc ks [(0, .inr (.inr 2)), (1, .inl x1), (2, .inl x2), (3, .inl x3), (4, .inl x4)] (v ++ []) M' Q)))) :
    m_Wp i_C_near 40 kc ks [(0, .inr (.inr 2)), (1, .inl x1), (2, .inl x2), (3, .inl x3), (4, .inl x4)] [] (mem Ls p I L) Q := by
  skip <;> exact m_wp_of 7 [26, 40] h
set_option maxHeartbeats 4000000 in
set_option maxRecDepth 20000 in
theorem T_C_near_51 {Ls p kc ks : Nat}  {I L : Nat → Nat → Int} {x1 x2 x3 x4 y0 : Int} {Q : List mV → mM → Prop}
    (h : ((¬ y0 = x3 →
    m_Wp i_C_near 40 kc ks [(0, .inr (.inr 2)), (1, .inl x1), (2, .inl x2), (3, .inl x3), (4, .inl (wr (x4 + 1)))] [] (mem Ls p I L) Q) ∧
   (¬ (¬ y0 = x3) →
    m_Call i_C_spreadIfRinging [.inr (.inr 2), .inl x4] (mem Ls p I L) (fun v M' =>
      m_Wp i_C_near 61 kc ks [(0, .inr (.inr 2)), (1, .inl x1), (2, .inl x2), (3, .inl x3), (4, .inl x4)] (v ++ []) M' Q)))) :
    m_Wp i_C_near 51 kc ks [(0, .inr (.inr 2)), (1, .inl x1), (2, .inl x2), (3, .inl x3), (4, .inl x4)] [.inl y0] (mem Ls p I L) Q := by
  skip <;> exact m_wp_of 6 [26, 40] h
set_option maxHeartbeats 4000000 in
set_option maxRecDepth 20000 in
theorem T_C_near_61 {Ls p kc ks : Nat}  {I L : Nat → Nat → Int} {x1 x2 x3 x4 y0 : Int} {Q : List mV → mM → Prop}
    (h : ((x1 < y0 →
    m_Wp i_C_near 40 kc ks [(0, .inr (.inr 2)), (1, .inl x1), (2, .inl x2), (3, .inl x3), (4, .inl (wr (x4 + 1)))] [] (mem Ls p I L) Q) ∧
   (¬ (x1 < y0) →
    Q [.inl x4] (mem Ls p I L)))) :
    m_Wp i_C_near 61 kc ks [(0, .inr (.inr 2)), (1, .inl x1), (2, .inl x2), (3, .inl x3), (4, .inl x4)] [.inl y0] (mem Ls p I L) Q := by
  skip <;> exact m_wp_of 6 [26, 40] h
set_option maxHeartbeats 4000000 in
set_option maxRecDepth 20000 in
theorem E_C_liars {Ls p : Nat} (hp : p = 68 ∨ p = 9) {I L : Nat → Nat → Int} {a0 : Int} {Q : List mV → mM → Prop}
    (h : ((a0 < (0 : Int) →
    Q [.inl (-1)] (mem Ls p I L)) ∧
   (¬ (a0 < (0 : Int)) →
    ((a0 ≤ (60 : Int) →
      m_Wp i_C_liars 26 0 0 [(0, .inr (.inr 2)), (1, .inl a0), (2, .inl (wr ((m_shl 1 (I p 13)) - 1))), (3, .inl 0)] [] (mem Ls p I L) Q) ∧
     (¬ (a0 ≤ (60 : Int)) →
      Q [.inl (-1)] (mem Ls p I L)))))) :
    m_Call i_C_liars [.inr (.inr 2), .inl a0] (mem Ls p I L) Q := by
  have he : m_ent 0 ([.inr (.inr 2), .inl a0] : List mV) = [(0, .inr (.inr 2)), (1, .inl a0)] := rfl
  rcases hp with rfl | rfl <;> exact m_call_at 16 [26, 40] he h
set_option maxHeartbeats 4000000 in
set_option maxRecDepth 20000 in
theorem T_C_liars_26 {Ls p kc ks : Nat} (hp : p = 68 ∨ p = 9) {I L : Nat → Nat → Int} {x1 x2 x3 : Int} {Q : List mV → mM → Prop}
    (h : (((I p 13) < x3 →
    Q [.inl x2] (mem Ls p I L)) ∧
   (¬ ((I p 13) < x3) →
    m_Wp i_C_liars 40 kc ks [(0, .inr (.inr 2)), (1, .inl x1), (2, .inl x2), (3, .inl x3), (4, .inl 0)] [] (mem Ls p I L) Q))) :
    m_Wp i_C_liars 26 kc ks [(0, .inr (.inr 2)), (1, .inl x1), (2, .inl x2), (3, .inl x3)] [] (mem Ls p I L) Q := by
  rcases hp with rfl | rfl <;> exact m_wp_of 9 [26, 40] h
set_option maxHeartbeats 4000000 in
set_option maxRecDepth 20000 in
theorem T_C_liars_40 {Ls p kc ks : Nat}  {I L : Nat → Nat → Int} {x1 x2 x3 x4 : Int} {Q : List mV → mM → Prop}
    (h : ((x2 < x4 →
    m_Wp i_C_liars 26 kc ks [(0, .inr (.inr 2)), (1, .inl x1), (2, .inl x2), (3, .inl (wr (x3 + 1)))] [] (mem Ls p I L) Q) ∧
   (¬ (x2 < x4) →
    m_Call i_J_bitCount [.inl x4] (mem Ls p I L) (fun v M' =>
      m_Wp i_C_liars 51 kc ks [(0, .inr (.inr 2)), (1, .inl x1), (2, .inl x2), (3, .inl x3), (4, .inl x4)] (v ++ []) M' Q)))) :
    m_Wp i_C_liars 40 kc ks [(0, .inr (.inr 2)), (1, .inl x1), (2, .inl x2), (3, .inl x3), (4, .inl x4)] [] (mem Ls p I L) Q := by
  skip <;> exact m_wp_of 7 [26, 40] h
set_option maxHeartbeats 4000000 in
set_option maxRecDepth 20000 in
theorem T_C_liars_51 {Ls p kc ks : Nat}  {I L : Nat → Nat → Int} {x1 x2 x3 x4 y0 : Int} {Q : List mV → mM → Prop}
    (h : ((¬ y0 = x3 →
    m_Wp i_C_liars 40 kc ks [(0, .inr (.inr 2)), (1, .inl x1), (2, .inl x2), (3, .inl x3), (4, .inl (wr (x4 + 1)))] [] (mem Ls p I L) Q) ∧
   (¬ (¬ y0 = x3) →
    m_Call i_Day_spread [.inr (.inr 28), .inl (m_and x2 (m_xor x4 (-1)))] (mem Ls p I L) (fun v M' =>
      m_Wp i_C_liars 68 kc ks [(0, .inr (.inr 2)), (1, .inl x1), (2, .inl x2), (3, .inl x3), (4, .inl x4)] (v ++ []) M' Q)))) :
    m_Wp i_C_liars 51 kc ks [(0, .inr (.inr 2)), (1, .inl x1), (2, .inl x2), (3, .inl x3), (4, .inl x4)] [.inl y0] (mem Ls p I L) Q := by
  skip <;> exact m_wp_of 10 [26, 40] h
set_option maxHeartbeats 4000000 in
set_option maxRecDepth 20000 in
theorem T_C_liars_68 {Ls p kc ks : Nat}  {I L : Nat → Nat → Int} {x1 x2 x3 x4 y0 : Int} {Q : List mV → mM → Prop}
    (h : ((x1 < y0 →
    m_Wp i_C_liars 40 kc ks [(0, .inr (.inr 2)), (1, .inl x1), (2, .inl x2), (3, .inl x3), (4, .inl (wr (x4 + 1)))] [] (mem Ls p I L) Q) ∧
   (¬ (x1 < y0) →
    Q [.inl x4] (mem Ls p I L)))) :
    m_Wp i_C_liars 68 kc ks [(0, .inr (.inr 2)), (1, .inl x1), (2, .inl x2), (3, .inl x3), (4, .inl x4)] [.inl y0] (mem Ls p I L) Q := by
  skip <;> exact m_wp_of 6 [26, 40] h
set_option maxHeartbeats 4000000 in
set_option maxRecDepth 20000 in
theorem E_C_median {Ls p : Nat}  {I L : Nat → Nat → Int} {Q : List mV → mM → Prop}
    (h : m_Wp i_C_median 2 0 0 [(0, .inr (.inr 2)), (1, .inl 0)] [] (mem Ls p I L) Q) :
    m_Call i_C_median [.inr (.inr 2)] (mem Ls p I L) Q := by
  have he : m_ent 0 ([.inr (.inr 2)] : List mV) = [(0, .inr (.inr 2))] := rfl
  skip <;> exact m_call_at 3 [2] he h
set_option maxHeartbeats 4000000 in
set_option maxRecDepth 20000 in
theorem T_C_median_2 {Ls p kc ks : Nat} (hp : p = 68 ∨ p = 9) {I L : Nat → Nat → Int} {x1 : Int} {Q : List mV → mM → Prop}
    (h : (((I p 13) ≤ x1 →
    Q [.inl (-1)] (mem Ls p I L)) ∧
   (¬ ((I p 13) ≤ x1) →
    m_Call i_Day_howManySlower [.inr (.inr 28), .inl x1] (mem Ls p I L) (fun v M' =>
      m_Wp i_C_median 21 kc ks [(0, .inr (.inr 2)), (1, .inl x1)] (v ++ []) M' Q)))) :
    m_Wp i_C_median 2 kc ks [(0, .inr (.inr 2)), (1, .inl x1)] [] (mem Ls p I L) Q := by
  rcases hp with rfl | rfl <;> exact m_wp_of 10 [2] h
set_option maxHeartbeats 4000000 in
set_option maxRecDepth 20000 in
theorem T_C_median_21 {Ls p kc ks : Nat} (hp : p = 68 ∨ p = 9) {I L : Nat → Nat → Int} {x1 y0 : Int} {Q : List mV → mM → Prop}
    (h : (¬ (2 : Int) = (0 : Int)) ∧
  ((¬ y0 = (wr (Int.tdiv (I p 13) 2)) →
    m_Wp i_C_median 2 kc ks [(0, .inr (.inr 2)), (1, .inl (wr (x1 + 1)))] [] (mem Ls p I L) Q) ∧
   (¬ (¬ y0 = (wr (Int.tdiv (I p 13) 2))) →
    Q [.inl x1] (mem Ls p I L)))) :
    m_Wp i_C_median 21 kc ks [(0, .inr (.inr 2)), (1, .inl x1)] [.inl y0] (mem Ls p I L) Q := by
  rcases hp with rfl | rfl <;> exact m_wp_of 9 [2] h
set_option maxHeartbeats 4000000 in
set_option maxRecDepth 20000 in
theorem E_C_agree {Ls p : Nat} (hp : p = 68 ∨ p = 9) {I L : Nat → Nat → Int} {a0 : Int} {Q : List mV → mM → Prop}
    (h : ((a0 < (0 : Int) →
    Q [.inl (-1)] (mem Ls p I L)) ∧
   (¬ (a0 < (0 : Int)) →
    ((a0 ≤ (60 : Int) →
      m_Call i_C_startTrial [.inr (.inr 2)] (mem Ls p I L) (fun v M' =>
        m_Wp i_C_agree 28 0 0 [(0, .inr (.inr 2)), (1, .inl a0), (2, .inl (wr ((m_shl 1 (I p 13)) - 1)))] (v ++ []) M' Q)) ∧
     (¬ (a0 ≤ (60 : Int)) →
      Q [.inl (-1)] (mem Ls p I L)))))) :
    m_Call i_C_agree [.inr (.inr 2), .inl a0] (mem Ls p I L) Q := by
  have he : m_ent 0 ([.inr (.inr 2), .inl a0] : List mV) = [(0, .inr (.inr 2)), (1, .inl a0)] := rfl
  rcases hp with rfl | rfl <;> exact m_call_at 15 [30] he h
set_option maxHeartbeats 4000000 in
set_option maxRecDepth 20000 in
theorem T_C_agree_28 {Ls p kc ks : Nat}  {I L : Nat → Nat → Int} {x1 x2 : Int} {Q : List mV → mM → Prop}
    (h : m_Wp i_C_agree 30 kc ks [(0, .inr (.inr 2)), (1, .inl x1), (2, .inl x2), (3, .inl 0)] [] (mem Ls p I L) Q) :
    m_Wp i_C_agree 28 kc ks [(0, .inr (.inr 2)), (1, .inl x1), (2, .inl x2)] [] (mem Ls p I L) Q := by
  skip <;> exact m_wp_of 3 [30] h
set_option maxHeartbeats 4000000 in
set_option maxRecDepth 20000 in
theorem T_C_agree_30 {Ls p kc ks : Nat}  {I L : Nat → Nat → Int} {x1 x2 x3 : Int} {Q : List mV → mM → Prop}
    (h : (((99 : Int) < x3 →
    Q [.inl (-2)] (mem Ls p I L)) ∧
   (¬ ((99 : Int) < x3) →
    m_Call i_Day_spread [.inr (.inr 46), .inl x2] (mem Ls p I L) (fun v M' =>
      m_Wp i_C_agree 44 kc ks [(0, .inr (.inr 2)), (1, .inl x1), (2, .inl x2), (3, .inl x3)] (v ++ []) M' Q)))) :
    m_Wp i_C_agree 30 kc ks [(0, .inr (.inr 2)), (1, .inl x1), (2, .inl x2), (3, .inl x3)] [] (mem Ls p I L) Q := by
  skip <;> exact m_wp_of 8 [30] h
set_option maxHeartbeats 4000000 in
set_option maxRecDepth 20000 in
theorem T_C_agree_44 {Ls p kc ks : Nat}  {I L : Nat → Nat → Int} {x1 x2 x3 y0 : Int} {Q : List mV → mM → Prop}
    (h : ((x1 < y0 →
    m_Call i_Way_passMinute [.inr (.inr 64), .inr (.inr 46)] (mem Ls p I L) (fun v M' =>
      m_Wp i_C_agree 61 kc ks [(0, .inr (.inr 2)), (1, .inl x1), (2, .inl x2), (3, .inl x3)] (v ++ []) M' Q)) ∧
   (¬ (x1 < y0) →
    Q [.inl x3] (mem Ls p I L)))) :
    m_Wp i_C_agree 44 kc ks [(0, .inr (.inr 2)), (1, .inl x1), (2, .inl x2), (3, .inl x3)] [.inl y0] (mem Ls p I L) Q := by
  skip <;> exact m_wp_of 7 [30] h
set_option maxHeartbeats 4000000 in
set_option maxRecDepth 20000 in
theorem T_C_agree_61 {Ls p kc ks : Nat}  {I L : Nat → Nat → Int} {x1 x2 x3 : Int} {Q : List mV → mM → Prop}
    (h : m_Wp i_C_agree 30 kc ks [(0, .inr (.inr 2)), (1, .inl x1), (2, .inl x2), (3, .inl (wr (x3 + 1)))] [] (mem Ls p I L) Q) :
    m_Wp i_C_agree 61 kc ks [(0, .inr (.inr 2)), (1, .inl x1), (2, .inl x2), (3, .inl x3)] [] (mem Ls p I L) Q := by
  skip <;> exact m_wp_of 3 [30] h
set_option maxHeartbeats 4000000 in
set_option maxRecDepth 20000 in
theorem E_C_isKeptInTrial {Ls p : Nat}  {I L : Nat → Nat → Int} {a0 : Int} {Q : List mV → mM → Prop}
    (h : m_Wp i_C_isKeptInTrial 2 0 0 [(0, .inr (.inr 2)), (1, .inl a0), (2, .inl 0)] [] (mem Ls p I L) Q) :
    m_Call i_C_isKeptInTrial [.inr (.inr 2), .inl a0] (mem Ls p I L) Q := by
  have he : m_ent 0 ([.inr (.inr 2), .inl a0] : List mV) = [(0, .inr (.inr 2)), (1, .inl a0)] := rfl
  skip <;> exact m_call_at 3 [2] he h
set_option maxHeartbeats 4000000 in
set_option maxRecDepth 20000 in
theorem T_C_isKeptInTrial_2 {Ls p kc ks : Nat}  {I L : Nat → Nat → Int} {x1 x2 : Int} {Q : List mV → mM → Prop}
    (h : (((200 : Int) ≤ x2 →
    (0 ≤ x1 ∧ x1 < 6) ∧
    ((¬ (I 54 (Int.toNat x1)) = (1 : Int) →
      ((0 : Int) = 0 ∨ (0 : Int) = 1) ∧
      Q [.inl 0] (mem Ls p I L)) ∧
     (¬ (¬ (I 54 (Int.toNat x1)) = (1 : Int)) →
      ((1 : Int) = 0 ∨ (1 : Int) = 1) ∧
      Q [.inl 1] (mem Ls p I L)))) ∧
   (¬ ((200 : Int) ≤ x2) →
    (0 ≤ x1 ∧ x1 < 6) ∧
    ((¬ (I 54 (Int.toNat x1)) = (0 : Int) →
      (0 ≤ x1 ∧ x1 < 6) ∧
      ((¬ (I 54 (Int.toNat x1)) = (1 : Int) →
        ((0 : Int) = 0 ∨ (0 : Int) = 1) ∧
        Q [.inl 0] (mem Ls p I L)) ∧
       (¬ (¬ (I 54 (Int.toNat x1)) = (1 : Int)) →
        ((1 : Int) = 0 ∨ (1 : Int) = 1) ∧
        Q [.inl 1] (mem Ls p I L)))) ∧
     (¬ (¬ (I 54 (Int.toNat x1)) = (0 : Int)) →
      m_Call i_Way_passMinute [.inr (.inr 64), .inr (.inr 46)] (mem Ls p I L) (fun v M' =>
        m_Wp i_C_isKeptInTrial 32 kc ks [(0, .inr (.inr 2)), (1, .inl x1), (2, .inl x2)] (v ++ []) M' Q)))))) :
    m_Wp i_C_isKeptInTrial 2 kc ks [(0, .inr (.inr 2)), (1, .inl x1), (2, .inl x2)] [] (mem Ls p I L) Q := by
  skip <;> exact m_wp_of 22 [2] h
set_option maxHeartbeats 4000000 in
set_option maxRecDepth 20000 in
theorem T_C_isKeptInTrial_32 {Ls p kc ks : Nat}  {I L : Nat → Nat → Int} {x1 x2 : Int} {Q : List mV → mM → Prop}
    (h : m_Wp i_C_isKeptInTrial 2 kc ks [(0, .inr (.inr 2)), (1, .inl x1), (2, .inl (wr (x2 + 1)))] [] (mem Ls p I L) Q) :
    m_Wp i_C_isKeptInTrial 32 kc ks [(0, .inr (.inr 2)), (1, .inl x1), (2, .inl x2)] [] (mem Ls p I L) Q := by
  skip <;> exact m_wp_of 3 [2] h
set_option maxHeartbeats 4000000 in
set_option maxRecDepth 20000 in
theorem E_C_needs {Ls p : Nat}  {I L : Nat → Nat → Int} {a0 : Int} {Q : List mV → mM → Prop}
    (h : m_Call i_C_isMeeting [.inr (.inr 2), .inl a0] (mem Ls p I L) (fun v M' =>
    m_Wp i_C_needs 5 0 0 [(0, .inr (.inr 2)), (1, .inl a0)] (v ++ []) M' Q)) :
    m_Call i_C_needs [.inr (.inr 2), .inl a0] (mem Ls p I L) Q := by
  have he : m_ent 0 ([.inr (.inr 2), .inl a0] : List mV) = [(0, .inr (.inr 2)), (1, .inl a0)] := rfl
  skip <;> exact m_call_at 3 [23] he h
set_option maxHeartbeats 4000000 in
set_option maxRecDepth 20000 in
theorem T_C_needs_5 {Ls p kc ks : Nat}  {I L : Nat → Nat → Int} {x1 y0 : Int} {Q : List mV → mM → Prop}
    (h : ((y0 = (0 : Int) →
    Q [.inl (-1)] (mem Ls p I L)) ∧
   (¬ (y0 = (0 : Int)) →
    m_Call i_Day_isOneThere [.inr (.inr 28), .inl x1] (mem Ls p I L) (fun v M' =>
      m_Wp i_C_needs 16 kc ks [(0, .inr (.inr 2)), (1, .inl x1)] (v ++ []) M' Q)))) :
    m_Wp i_C_needs 5 kc ks [(0, .inr (.inr 2)), (1, .inl x1)] [.inl y0] (mem Ls p I L) Q := by
  skip <;> exact m_wp_of 5 [23] h
set_option maxHeartbeats 4000000 in
set_option maxRecDepth 20000 in
theorem T_C_needs_16 {Ls p kc ks : Nat}  {I L : Nat → Nat → Int} {x1 y0 : Int} {Q : List mV → mM → Prop}
    (h : ((y0 = (0 : Int) →
    m_Wp i_C_needs 23 kc ks [(0, .inr (.inr 2)), (1, .inl x1), (2, .inl 0)] [] (mem Ls p I L) Q) ∧
   (¬ (y0 = (0 : Int)) →
    Q [.inl (-1)] (mem Ls p I L)))) :
    m_Wp i_C_needs 16 kc ks [(0, .inr (.inr 2)), (1, .inl x1)] [.inl y0] (mem Ls p I L) Q := by
  skip <;> exact m_wp_of 4 [23] h
set_option maxHeartbeats 4000000 in
set_option maxRecDepth 20000 in
theorem T_C_needs_23 {Ls p kc ks : Nat}  {I L : Nat → Nat → Int} {x1 x2 : Int} {Q : List mV → mM → Prop}
    (h : (((60 : Int) < x2 →
    Q [.inl (-2)] (mem Ls p I L)) ∧
   (¬ ((60 : Int) < x2) →
    m_Call i_C_startTrial [.inr (.inr 2)] (mem Ls p I L) (fun v M' =>
      m_Wp i_C_needs 33 kc ks [(0, .inr (.inr 2)), (1, .inl x1), (2, .inl x2)] (v ++ []) M' Q)))) :
    m_Wp i_C_needs 23 kc ks [(0, .inr (.inr 2)), (1, .inl x1), (2, .inl x2)] [] (mem Ls p I L) Q := by
  skip <;> exact m_wp_of 6 [23] h
set_option maxHeartbeats 4000000 in
set_option maxRecDepth 20000 in
theorem T_C_needs_33 {Ls p kc ks : Nat}  {I L : Nat → Nat → Int} {x1 x2 : Int} {Q : List mV → mM → Prop}
    (h : (0 ≤ x1 ∧ x1 < 6) ∧
  (0 ≤ x1 ∧ x1 < 6) ∧
  m_Call i_C_isKeptInTrial [.inr (.inr 2), .inl x1] (mem Ls p (mup I 51 (Int.toNat x1) (wr ((I 51 (Int.toNat x1)) + x2))) L) (fun v M' =>
    m_Wp i_C_needs 51 kc ks [(0, .inr (.inr 2)), (1, .inl x1), (2, .inl x2)] (v ++ []) M' Q)) :
    m_Wp i_C_needs 33 kc ks [(0, .inr (.inr 2)), (1, .inl x1), (2, .inl x2)] [] (mem Ls p I L) Q := by
  skip <;> exact m_wp_of 12 [23] h
set_option maxHeartbeats 4000000 in
set_option maxRecDepth 20000 in
theorem T_C_needs_51 {Ls p kc ks : Nat}  {I L : Nat → Nat → Int} {x1 x2 y0 : Int} {Q : List mV → mM → Prop}
    (h : ((y0 = (0 : Int) →
    m_Wp i_C_needs 23 kc ks [(0, .inr (.inr 2)), (1, .inl x1), (2, .inl (wr (x2 + 1)))] [] (mem Ls p I L) Q) ∧
   (¬ (y0 = (0 : Int)) →
    Q [.inl x2] (mem Ls p I L)))) :
    m_Wp i_C_needs 51 kc ks [(0, .inr (.inr 2)), (1, .inl x1), (2, .inl x2)] [.inl y0] (mem Ls p I L) Q := by
  skip <;> exact m_wp_of 4 [23] h
set_option maxHeartbeats 4000000 in
set_option maxRecDepth 20000 in
theorem E_C_certain {Ls p : Nat}  {I L : Nat → Nat → Int} {Q : List mV → mM → Prop}
    (h : m_Call i_C_startTrial [.inr (.inr 2)] (mem Ls p I L) (fun v M' =>
    m_Wp i_C_certain 4 0 0 [(0, .inr (.inr 2))] (v ++ []) M' Q)) :
    m_Call i_C_certain [.inr (.inr 2)] (mem Ls p I L) Q := by
  have he : m_ent 0 ([.inr (.inr 2)] : List mV) = [(0, .inr (.inr 2))] := rfl
  skip <;> exact m_call_at 2 [15] he h
set_option maxHeartbeats 4000000 in
set_option maxRecDepth 20000 in
theorem T_C_certain_4 {Ls p kc ks : Nat}  {I L : Nat → Nat → Int} {Q : List mV → mM → Prop}
    (h : m_Call i_C_passTrial [.inr (.inr 2), .inl 200] (mem Ls p I L) (fun v M' =>
    m_Wp i_C_certain 11 kc ks [(0, .inr (.inr 2))] (v ++ []) M' Q)) :
    m_Wp i_C_certain 4 kc ks [(0, .inr (.inr 2))] [] (mem Ls p I L) Q := by
  skip <;> exact m_wp_of 3 [15] h
set_option maxHeartbeats 4000000 in
set_option maxRecDepth 20000 in
theorem T_C_certain_11 {Ls p kc ks : Nat}  {I L : Nat → Nat → Int} {Q : List mV → mM → Prop}
    (h : m_Wp i_C_certain 15 kc ks [(0, .inr (.inr 2)), (1, .inl 0), (2, .inl 0)] [] (mem Ls p I L) Q) :
    m_Wp i_C_certain 11 kc ks [(0, .inr (.inr 2))] [] (mem Ls p I L) Q := by
  skip <;> exact m_wp_of 5 [15] h
set_option maxHeartbeats 4000000 in
set_option maxRecDepth 20000 in
theorem T_C_certain_15 {Ls p kc ks : Nat} (hp : p = 68 ∨ p = 9) {I L : Nat → Nat → Int} {x1 x2 : Int} {Q : List mV → mM → Prop}
    (h : (((I p 15) ≤ x2 →
    Q [.inl x1] (mem Ls p I L)) ∧
   (¬ ((I p 15) ≤ x2) →
    (0 ≤ x2 ∧ x2 < 6) ∧
    ((¬ (I 54 (Int.toNat x2)) = (1 : Int) →
      m_Wp i_C_certain 15 kc ks [(0, .inr (.inr 2)), (1, .inl x1), (2, .inl (wr (x2 + 1)))] [] (mem Ls p I L) Q) ∧
     (¬ (¬ (I 54 (Int.toNat x2)) = (1 : Int)) →
      m_Wp i_C_certain 15 kc ks [(0, .inr (.inr 2)), (1, .inl (m_or x1 (m_shl 1 x2))), (2, .inl (wr (x2 + 1)))] [] (mem Ls p I L) Q))))) :
    m_Wp i_C_certain 15 kc ks [(0, .inr (.inr 2)), (1, .inl x1), (2, .inl x2)] [] (mem Ls p I L) Q := by
  rcases hp with rfl | rfl <;> exact m_wp_of 23 [15] h
set_option maxHeartbeats 4000000 in
set_option maxRecDepth 20000 in
theorem E_C_latest {Ls p : Nat}  {I L : Nat → Nat → Int} {Q : List mV → mM → Prop}
    (h : m_Wp i_C_latest 4 0 0 [(0, .inr (.inr 2)), (1, .inl (-1)), (2, .inl 0)] [] (mem Ls p I L) Q) :
    m_Call i_C_latest [.inr (.inr 2)] (mem Ls p I L) Q := by
  have he : m_ent 0 ([.inr (.inr 2)] : List mV) = [(0, .inr (.inr 2))] := rfl
  skip <;> exact m_call_at 5 [4] he h
set_option maxHeartbeats 4000000 in
set_option maxRecDepth 20000 in
theorem T_C_latest_4 {Ls p kc ks : Nat} (hp : p = 68 ∨ p = 9) {I L : Nat → Nat → Int} {x1 x2 : Int} {Q : List mV → mM → Prop}
    (h : (((I p 13) ≤ x2 →
    Q [.inl x1] (mem Ls p I L)) ∧
   (¬ ((I p 13) ≤ x2) →
    ((x1 = (-1) →
      m_Wp i_C_latest 4 kc ks [(0, .inr (.inr 2)), (1, .inl x2), (2, .inl (wr (x2 + 1)))] [] (mem Ls p I L) Q) ∧
     (¬ (x1 = (-1)) →
      (0 ≤ x2 ∧ x2 < 6) ∧
      (0 ≤ x1 ∧ x1 < 6) ∧
      (((I 29 (Int.toNat x1)) ≤ (I 29 (Int.toNat x2)) →
        m_Wp i_C_latest 4 kc ks [(0, .inr (.inr 2)), (1, .inl x1), (2, .inl (wr (x2 + 1)))] [] (mem Ls p I L) Q) ∧
       (¬ ((I 29 (Int.toNat x1)) ≤ (I 29 (Int.toNat x2))) →
        m_Wp i_C_latest 4 kc ks [(0, .inr (.inr 2)), (1, .inl x2), (2, .inl (wr (x2 + 1)))] [] (mem Ls p I L) Q))))))) :
    m_Wp i_C_latest 4 kc ks [(0, .inr (.inr 2)), (1, .inl x1), (2, .inl x2)] [] (mem Ls p I L) Q := by
  rcases hp with rfl | rfl <;> exact m_wp_of 27 [4] h
set_option maxHeartbeats 4000000 in
set_option maxRecDepth 20000 in
theorem E_C_areTwo {Ls p : Nat}  {I L : Nat → Nat → Int} {a0 a1 : Int} {Q : List mV → mM → Prop}
    (h : m_Call i_C_isPerson [.inr (.inr 2), .inl a0] (mem Ls p I L) (fun v M' =>
    m_Wp i_C_areTwo 5 0 0 [(0, .inr (.inr 2)), (1, .inl a0), (2, .inl a1)] (v ++ []) M' Q)) :
    m_Call i_C_areTwo [.inr (.inr 2), .inl a0, .inl a1] (mem Ls p I L) Q := by
  have he : m_ent 0 ([.inr (.inr 2), .inl a0, .inl a1] : List mV) = [(0, .inr (.inr 2)), (1, .inl a0), (2, .inl a1)] := rfl
  skip <;> exact m_call_at 3 [] he h
set_option maxHeartbeats 4000000 in
set_option maxRecDepth 20000 in
theorem T_C_areTwo_5 {Ls p kc ks : Nat}  {I L : Nat → Nat → Int} {x1 x2 y0 : Int} {Q : List mV → mM → Prop}
    (h : ((y0 = (0 : Int) →
    ((0 : Int) = 0 ∨ (0 : Int) = 1) ∧
    Q [.inl 0] (mem Ls p I L)) ∧
   (¬ (y0 = (0 : Int)) →
    m_Call i_C_isPerson [.inr (.inr 2), .inl x2] (mem Ls p I L) (fun v M' =>
      m_Wp i_C_areTwo 13 kc ks [(0, .inr (.inr 2)), (1, .inl x1), (2, .inl x2)] (v ++ []) M' Q)))) :
    m_Wp i_C_areTwo 5 kc ks [(0, .inr (.inr 2)), (1, .inl x1), (2, .inl x2)] [.inl y0] (mem Ls p I L) Q := by
  skip <;> exact m_wp_of 5 [] h
set_option maxHeartbeats 4000000 in
set_option maxRecDepth 20000 in
theorem T_C_areTwo_13 {Ls p kc ks : Nat}  {I L : Nat → Nat → Int} {x1 x2 y0 : Int} {Q : List mV → mM → Prop}
    (h : ((y0 = (0 : Int) →
    ((0 : Int) = 0 ∨ (0 : Int) = 1) ∧
    Q [.inl 0] (mem Ls p I L)) ∧
   (¬ (y0 = (0 : Int)) →
    ((x1 = x2 →
      ((0 : Int) = 0 ∨ (0 : Int) = 1) ∧
      Q [.inl 0] (mem Ls p I L)) ∧
     (¬ (x1 = x2) →
      ((1 : Int) = 0 ∨ (1 : Int) = 1) ∧
      Q [.inl 1] (mem Ls p I L)))))) :
    m_Wp i_C_areTwo 13 kc ks [(0, .inr (.inr 2)), (1, .inl x1), (2, .inl x2)] [.inl y0] (mem Ls p I L) Q := by
  skip <;> exact m_wp_of 8 [] h
set_option maxHeartbeats 4000000 in
set_option maxRecDepth 20000 in
theorem E_C_gain {Ls p : Nat}  {I L : Nat → Nat → Int} {a0 a1 : Int} {Q : List mV → mM → Prop}
    (h : ((a0 ≤ a1 →
    ((¬ a0 = a1 →
      (¬ (4 : Int) = (0 : Int)) ∧
      Q [.inl (wr (0 - (wr (Int.tdiv a0 4))))] (mem Ls p I L)) ∧
     (¬ (¬ a0 = a1) →
      (¬ (4 : Int) = (0 : Int)) ∧
      Q [.inl (wr (2 - (wr (Int.tdiv a0 4))))] (mem Ls p I L)))) ∧
   (¬ (a0 ≤ a1) →
    (¬ (4 : Int) = (0 : Int)) ∧
    Q [.inl (wr (6 - (wr (Int.tdiv a0 4))))] (mem Ls p I L)))) :
    m_Call i_C_gain [.inl a0, .inl a1] (mem Ls p I L) Q := by
  have he : m_ent 0 ([.inl a0, .inl a1] : List mV) = [(0, .inl a0), (1, .inl a1)] := rfl
  skip <;> exact m_call_at 17 [] he h
set_option maxHeartbeats 4000000 in
set_option maxRecDepth 20000 in
theorem E_C_isRest {Ls p : Nat} (hp : p = 68 ∨ p = 9) {I L : Nat → Nat → Int} {a0 a1 a2 : Int} {Q : List mV → mM → Prop}
    (h : (0 ≤ a0 ∧ a0 < 6) ∧
  (0 ≤ a1 ∧ a1 < 6) ∧
  (¬ (4 : Int) = (0 : Int)) ∧
  (¬ (4 : Int) = (0 : Int)) ∧
  m_Wp i_C_isRest 45 0 0 [(4, .inl (I (p + 2) (Int.toNat a0))), (5, .inl (I (p + 2) (Int.toNat a1))), (6, .inl (wr ((I (p + 2) (Int.toNat a0)) * (wr ((wr (Int.tdiv a2 4)) + 1))))), (7, .inl (wr ((I (p + 2) (Int.toNat a1)) * (wr ((Int.tmod a2 4) + 1))))), (8, .inl 1)] [] (mem Ls p I L) Q) :
    m_Call i_C_isRest [.inr (.inr 2), .inl a0, .inl a1, .inl a2] (mem Ls p I L) Q := by
  have he : m_ent 0 ([.inr (.inr 2), .inl a0, .inl a1, .inl a2] : List mV) = [(0, .inr (.inr 2)), (1, .inl a0), (2, .inl a1), (3, .inl a2)] := rfl
  rcases hp with rfl | rfl <;> exact m_call_at 31 [45] he h
set_option maxHeartbeats 4000000 in
set_option maxRecDepth 20000 in
theorem T_C_isRest_45 {Ls p kc ks : Nat}  {I L : Nat → Nat → Int} {x4 x5 x6 x7 x8 : Int} {Q : List mV → mM → Prop}
    (h : (((4 : Int) < x8 →
    ((1 : Int) = 0 ∨ (1 : Int) = 1) ∧
    Q [.inl 1] (mem Ls p I L)) ∧
   (¬ ((4 : Int) < x8) →
    m_Call i_C_gain [.inl (wr (x8 * x4)), .inl x7] (mem Ls p I L) (fun v M' =>
      m_Wp i_C_isRest 61 kc ks [(4, .inl x4), (5, .inl x5), (6, .inl x6), (7, .inl x7), (8, .inl x8)] (v ++ []) M' Q)))) :
    m_Wp i_C_isRest 45 kc ks [(4, .inl x4), (5, .inl x5), (6, .inl x6), (7, .inl x7), (8, .inl x8)] [] (mem Ls p I L) Q := by
  skip <;> exact m_wp_of 9 [45] h
set_option maxHeartbeats 4000000 in
set_option maxRecDepth 20000 in
theorem T_C_isRest_61 {Ls p kc ks : Nat}  {I L : Nat → Nat → Int} {x4 x5 x6 x7 x8 y0 : Int} {Q : List mV → mM → Prop}
    (h : m_Call i_C_gain [.inl x6, .inl x7] (mem Ls p I L) (fun v M' =>
    m_Wp i_C_isRest 68 kc ks [(4, .inl x4), (5, .inl x5), (6, .inl x6), (7, .inl x7), (8, .inl x8)] (v ++ [.inl y0]) M' Q)) :
    m_Wp i_C_isRest 61 kc ks [(4, .inl x4), (5, .inl x5), (6, .inl x6), (7, .inl x7), (8, .inl x8)] [.inl y0] (mem Ls p I L) Q := by
  skip <;> exact m_wp_of 3 [45] h
set_option maxHeartbeats 4000000 in
set_option maxRecDepth 20000 in
theorem T_C_isRest_68 {Ls p kc ks : Nat}  {I L : Nat → Nat → Int} {x4 x5 x6 x7 x8 y0 y1 : Int} {Q : List mV → mM → Prop}
    (h : ((y1 < y0 →
    ((0 : Int) = 0 ∨ (0 : Int) = 1) ∧
    Q [.inl 0] (mem Ls p I L)) ∧
   (¬ (y1 < y0) →
    m_Call i_C_gain [.inl (wr (x8 * x5)), .inl x6] (mem Ls p I L) (fun v M' =>
      m_Wp i_C_isRest 81 kc ks [(4, .inl x4), (5, .inl x5), (6, .inl x6), (7, .inl x7), (8, .inl x8)] (v ++ []) M' Q)))) :
    m_Wp i_C_isRest 68 kc ks [(4, .inl x4), (5, .inl x5), (6, .inl x6), (7, .inl x7), (8, .inl x8)] [.inl y1, .inl y0] (mem Ls p I L) Q := by
  skip <;> exact m_wp_of 6 [45] h
set_option maxHeartbeats 4000000 in
set_option maxRecDepth 20000 in
theorem T_C_isRest_81 {Ls p kc ks : Nat}  {I L : Nat → Nat → Int} {x4 x5 x6 x7 x8 y0 : Int} {Q : List mV → mM → Prop}
    (h : m_Call i_C_gain [.inl x7, .inl x6] (mem Ls p I L) (fun v M' =>
    m_Wp i_C_isRest 88 kc ks [(4, .inl x4), (5, .inl x5), (6, .inl x6), (7, .inl x7), (8, .inl x8)] (v ++ [.inl y0]) M' Q)) :
    m_Wp i_C_isRest 81 kc ks [(4, .inl x4), (5, .inl x5), (6, .inl x6), (7, .inl x7), (8, .inl x8)] [.inl y0] (mem Ls p I L) Q := by
  skip <;> exact m_wp_of 3 [45] h
set_option maxHeartbeats 4000000 in
set_option maxRecDepth 20000 in
theorem T_C_isRest_88 {Ls p kc ks : Nat}  {I L : Nat → Nat → Int} {x4 x5 x6 x7 x8 y0 y1 : Int} {Q : List mV → mM → Prop}
    (h : ((y0 ≤ y1 →
    m_Wp i_C_isRest 45 kc ks [(4, .inl x4), (5, .inl x5), (6, .inl x6), (7, .inl x7), (8, .inl (wr (x8 + 1)))] [] (mem Ls p I L) Q) ∧
   (¬ (y0 ≤ y1) →
    ((0 : Int) = 0 ∨ (0 : Int) = 1) ∧
    Q [.inl 0] (mem Ls p I L)))) :
    m_Wp i_C_isRest 88 kc ks [(4, .inl x4), (5, .inl x5), (6, .inl x6), (7, .inl x7), (8, .inl x8)] [.inl y1, .inl y0] (mem Ls p I L) Q := by
  skip <;> exact m_wp_of 4 [45] h
set_option maxHeartbeats 4000000 in
set_option maxRecDepth 20000 in
theorem E_C_rests {Ls p : Nat}  {I L : Nat → Nat → Int} {a0 a1 : Int} {Q : List mV → mM → Prop}
    (h : m_Call i_C_areTwo [.inr (.inr 2), .inl a0, .inl a1] (mem Ls p I L) (fun v M' =>
    m_Wp i_C_rests 6 0 0 [(0, .inr (.inr 2)), (1, .inl a0), (2, .inl a1)] (v ++ []) M' Q)) :
    m_Call i_C_rests [.inr (.inr 2), .inl a0, .inl a1] (mem Ls p I L) Q := by
  have he : m_ent 0 ([.inr (.inr 2), .inl a0, .inl a1] : List mV) = [(0, .inr (.inr 2)), (1, .inl a0), (2, .inl a1)] := rfl
  skip <;> exact m_call_at 4 [16] he h
set_option maxHeartbeats 4000000 in
set_option maxRecDepth 20000 in
theorem T_C_rests_6 {Ls p kc ks : Nat}  {I L : Nat → Nat → Int} {x1 x2 y0 : Int} {Q : List mV → mM → Prop}
    (h : ((¬ y0 = (0 : Int) →
    m_Wp i_C_rests 16 kc ks [(0, .inr (.inr 2)), (1, .inl x1), (2, .inl x2), (3, .inl 0), (4, .inl 0)] [] (mem Ls p I L) Q) ∧
   (¬ (¬ y0 = (0 : Int)) →
    Q [.inl (-1)] (mem Ls p I L)))) :
    m_Wp i_C_rests 6 kc ks [(0, .inr (.inr 2)), (1, .inl x1), (2, .inl x2)] [.inl y0] (mem Ls p I L) Q := by
  skip <;> exact m_wp_of 6 [16] h
set_option maxHeartbeats 4000000 in
set_option maxRecDepth 20000 in
theorem T_C_rests_16 {Ls p kc ks : Nat}  {I L : Nat → Nat → Int} {x1 x2 x3 x4 : Int} {Q : List mV → mM → Prop}
    (h : (((16 : Int) ≤ x4 →
    Q [.inl x3] (mem Ls p I L)) ∧
   (¬ ((16 : Int) ≤ x4) →
    m_Call i_C_isRest [.inr (.inr 2), .inl x1, .inl x2, .inl x4] (mem Ls p I L) (fun v M' =>
      m_Wp i_C_rests 31 kc ks [(0, .inr (.inr 2)), (1, .inl x1), (2, .inl x2), (3, .inl x3), (4, .inl x4)] (v ++ []) M' Q)))) :
    m_Wp i_C_rests 16 kc ks [(0, .inr (.inr 2)), (1, .inl x1), (2, .inl x2), (3, .inl x3), (4, .inl x4)] [] (mem Ls p I L) Q := by
  skip <;> exact m_wp_of 9 [16] h
set_option maxHeartbeats 4000000 in
set_option maxRecDepth 20000 in
theorem T_C_rests_31 {Ls p kc ks : Nat}  {I L : Nat → Nat → Int} {x1 x2 x3 x4 y0 : Int} {Q : List mV → mM → Prop}
    (h : ((y0 = (0 : Int) →
    m_Wp i_C_rests 16 kc ks [(0, .inr (.inr 2)), (1, .inl x1), (2, .inl x2), (3, .inl x3), (4, .inl (wr (x4 + 1)))] [] (mem Ls p I L) Q) ∧
   (¬ (y0 = (0 : Int)) →
    m_Wp i_C_rests 16 kc ks [(0, .inr (.inr 2)), (1, .inl x1), (2, .inl x2), (3, .inl (wr (x3 + 1))), (4, .inl (wr (x4 + 1)))] [] (mem Ls p I L) Q))) :
    m_Wp i_C_rests 31 kc ks [(0, .inr (.inr 2)), (1, .inl x1), (2, .inl x2), (3, .inl x3), (4, .inl x4)] [.inl y0] (mem Ls p I L) Q := by
  skip <;> exact m_wp_of 6 [16] h
set_option maxHeartbeats 4000000 in
set_option maxRecDepth 20000 in
theorem E_C_rest {Ls p : Nat}  {I L : Nat → Nat → Int} {a0 a1 a2 : Int} {Q : List mV → mM → Prop}
    (h : m_Call i_C_areTwo [.inr (.inr 2), .inl a0, .inl a1] (mem Ls p I L) (fun v M' =>
    m_Wp i_C_rest 6 0 0 [(0, .inr (.inr 2)), (1, .inl a0), (2, .inl a1), (3, .inl a2)] (v ++ []) M' Q)) :
    m_Call i_C_rest [.inr (.inr 2), .inl a0, .inl a1, .inl a2] (mem Ls p I L) Q := by
  have he : m_ent 0 ([.inr (.inr 2), .inl a0, .inl a1, .inl a2] : List mV) = [(0, .inr (.inr 2)), (1, .inl a0), (2, .inl a1), (3, .inl a2)] := rfl
  skip <;> exact m_call_at 4 [21] he h
set_option maxHeartbeats 4000000 in
set_option maxRecDepth 20000 in
theorem T_C_rest_6 {Ls p kc ks : Nat}  {I L : Nat → Nat → Int} {x1 x2 x3 y0 : Int} {Q : List mV → mM → Prop}
    (h : ((y0 = (0 : Int) →
    Q [.inl (-1)] (mem Ls p I L)) ∧
   (¬ (y0 = (0 : Int)) →
    (((0 : Int) ≤ x3 →
      m_Wp i_C_rest 21 kc ks [(0, .inr (.inr 2)), (1, .inl x1), (2, .inl x2), (3, .inl x3), (4, .inl 0), (5, .inl 0)] [] (mem Ls p I L) Q) ∧
     (¬ ((0 : Int) ≤ x3) →
      Q [.inl (-1)] (mem Ls p I L)))))) :
    m_Wp i_C_rest 6 kc ks [(0, .inr (.inr 2)), (1, .inl x1), (2, .inl x2), (3, .inl x3)] [.inl y0] (mem Ls p I L) Q := by
  skip <;> exact m_wp_of 8 [21] h
set_option maxHeartbeats 4000000 in
set_option maxRecDepth 20000 in
theorem T_C_rest_21 {Ls p kc ks : Nat}  {I L : Nat → Nat → Int} {x1 x2 x3 x4 x5 : Int} {Q : List mV → mM → Prop}
    (h : (((16 : Int) ≤ x5 →
    Q [.inl (-2)] (mem Ls p I L)) ∧
   (¬ ((16 : Int) ≤ x5) →
    m_Call i_C_isRest [.inr (.inr 2), .inl x1, .inl x2, .inl x5] (mem Ls p I L) (fun v M' =>
      m_Wp i_C_rest 36 kc ks [(0, .inr (.inr 2)), (1, .inl x1), (2, .inl x2), (3, .inl x3), (4, .inl x4), (5, .inl x5)] (v ++ []) M' Q)))) :
    m_Wp i_C_rest 21 kc ks [(0, .inr (.inr 2)), (1, .inl x1), (2, .inl x2), (3, .inl x3), (4, .inl x4), (5, .inl x5)] [] (mem Ls p I L) Q := by
  skip <;> exact m_wp_of 9 [21] h
set_option maxHeartbeats 4000000 in
set_option maxRecDepth 20000 in
theorem T_C_rest_36 {Ls p kc ks : Nat}  {I L : Nat → Nat → Int} {x1 x2 x3 x4 x5 y0 : Int} {Q : List mV → mM → Prop}
    (h : ((y0 = (0 : Int) →
    m_Wp i_C_rest 21 kc ks [(0, .inr (.inr 2)), (1, .inl x1), (2, .inl x2), (3, .inl x3), (4, .inl x4), (5, .inl (wr (x5 + 1)))] [] (mem Ls p I L) Q) ∧
   (¬ (y0 = (0 : Int)) →
    ((¬ x4 = x3 →
      m_Wp i_C_rest 21 kc ks [(0, .inr (.inr 2)), (1, .inl x1), (2, .inl x2), (3, .inl x3), (4, .inl (wr (x4 + 1))), (5, .inl (wr (x5 + 1)))] [] (mem Ls p I L) Q) ∧
     (¬ (¬ x4 = x3) →
      (¬ (4 : Int) = (0 : Int)) ∧
      (¬ (4 : Int) = (0 : Int)) ∧
      Q [.inl (wr ((wr ((wr (10 * (wr ((wr (Int.tdiv x5 4)) + 1)))) + (Int.tmod x5 4))) + 1))] (mem Ls p I L)))))) :
    m_Wp i_C_rest 36 kc ks [(0, .inr (.inr 2)), (1, .inl x1), (2, .inl x2), (3, .inl x3), (4, .inl x4), (5, .inl x5)] [.inl y0] (mem Ls p I L) Q := by
  skip <;> exact m_wp_of 18 [21] h
set_option maxHeartbeats 4000000 in
set_option maxRecDepth 20000 in
theorem E_C_apart {Ls p : Nat}  {I L : Nat → Nat → Int} {a0 a1 : Int} {Q : List mV → mM → Prop}
    (h : m_Call i_C_isPerson [.inr (.inr 2), .inl a0] (mem Ls p I L) (fun v M' =>
    m_Wp i_C_apart 5 0 0 [(0, .inr (.inr 2)), (1, .inl a0), (2, .inl a1)] (v ++ []) M' Q)) :
    m_Call i_C_apart [.inr (.inr 2), .inl a0, .inl a1] (mem Ls p I L) Q := by
  have he : m_ent 0 ([.inr (.inr 2), .inl a0, .inl a1] : List mV) = [(0, .inr (.inr 2)), (1, .inl a0), (2, .inl a1)] := rfl
  skip <;> exact m_call_at 3 [] he h
set_option maxHeartbeats 4000000 in
set_option maxRecDepth 20000 in
theorem T_C_apart_5 {Ls p kc ks : Nat}  {I L : Nat → Nat → Int} {x1 x2 y0 : Int} {Q : List mV → mM → Prop}
    (h : ((y0 = (0 : Int) →
    Q [.inl (-1)] (mem Ls p I L)) ∧
   (¬ (y0 = (0 : Int)) →
    m_Call i_C_isPerson [.inr (.inr 2), .inl x2] (mem Ls p I L) (fun v M' =>
      m_Wp i_C_apart 13 kc ks [(0, .inr (.inr 2)), (1, .inl x1), (2, .inl x2)] (v ++ []) M' Q)))) :
    m_Wp i_C_apart 5 kc ks [(0, .inr (.inr 2)), (1, .inl x1), (2, .inl x2)] [.inl y0] (mem Ls p I L) Q := by
  skip <;> exact m_wp_of 4 [] h
set_option maxHeartbeats 4000000 in
set_option maxRecDepth 20000 in
theorem T_C_apart_13 {Ls p kc ks : Nat}  {I L : Nat → Nat → Int} {x1 x2 y0 : Int} {Q : List mV → mM → Prop}
    (h : ((¬ y0 = (0 : Int) →
    (0 ≤ x1 ∧ x1 < 6) ∧
    (0 ≤ x2 ∧ x2 < 6) ∧
    Q [.inl (if 0 ≤ (wr ((I 29 (Int.toNat x1)) - (I 29 (Int.toNat x2)))) then (wr ((I 29 (Int.toNat x1)) - (I 29 (Int.toNat x2)))) else wr (0 - (wr ((I 29 (Int.toNat x1)) - (I 29 (Int.toNat x2))))))] (mem Ls p I L)) ∧
   (¬ (¬ y0 = (0 : Int)) →
    Q [.inl (-1)] (mem Ls p I L)))) :
    m_Wp i_C_apart 13 kc ks [(0, .inr (.inr 2)), (1, .inl x1), (2, .inl x2)] [.inl y0] (mem Ls p I L) Q := by
  skip <;> exact m_wp_of 14 [] h
set_option maxHeartbeats 4000000 in
set_option maxRecDepth 20000 in
theorem E_C_quiet {Ls p : Nat}  {I L : Nat → Nat → Int} {Q : List mV → mM → Prop}
    (h : m_Call i_C_startTrial [.inr (.inr 2)] (mem Ls p I L) (fun v M' =>
    m_Wp i_C_quiet 4 0 0 [(0, .inr (.inr 2))] (v ++ []) M' Q)) :
    m_Call i_C_quiet [.inr (.inr 2)] (mem Ls p I L) Q := by
  have he : m_ent 0 ([.inr (.inr 2)] : List mV) = [(0, .inr (.inr 2))] := rfl
  skip <;> exact m_call_at 2 [6] he h
set_option maxHeartbeats 4000000 in
set_option maxRecDepth 20000 in
theorem T_C_quiet_4 {Ls p kc ks : Nat}  {I L : Nat → Nat → Int} {Q : List mV → mM → Prop}
    (h : m_Wp i_C_quiet 6 kc ks [(0, .inr (.inr 2)), (1, .inl 0)] [] (mem Ls p I L) Q) :
    m_Wp i_C_quiet 4 kc ks [(0, .inr (.inr 2))] [] (mem Ls p I L) Q := by
  skip <;> exact m_wp_of 3 [6] h
set_option maxHeartbeats 4000000 in
set_option maxRecDepth 20000 in
theorem T_C_quiet_6 {Ls p kc ks : Nat}  {I L : Nat → Nat → Int} {x1 : Int} {Q : List mV → mM → Prop}
    (h : (((200 : Int) < x1 →
    Q [.inl (-2)] (mem Ls p I L)) ∧
   (¬ ((200 : Int) < x1) →
    ((¬ (I 46 11) = (0 : Int) →
      m_Call i_Way_passMinute [.inr (.inr 64), .inr (.inr 46)] (mem Ls p I L) (fun v M' =>
        m_Wp i_C_quiet 47 kc ks [(0, .inr (.inr 2)), (1, .inl x1)] (v ++ []) M' Q)) ∧
     (¬ (¬ (I 46 11) = (0 : Int)) →
      ((¬ (I 46 12) = (-1) →
        m_Call i_Way_passMinute [.inr (.inr 64), .inr (.inr 46)] (mem Ls p I L) (fun v M' =>
          m_Wp i_C_quiet 47 kc ks [(0, .inr (.inr 2)), (1, .inl x1)] (v ++ []) M' Q)) ∧
       (¬ (¬ (I 46 12) = (-1)) →
        Q [.inl x1] (mem Ls p I L)))))))) :
    m_Wp i_C_quiet 6 kc ks [(0, .inr (.inr 2)), (1, .inl x1)] [] (mem Ls p I L) Q := by
  skip <;> exact m_wp_of 19 [6] h
set_option maxHeartbeats 4000000 in
set_option maxRecDepth 20000 in
theorem T_C_quiet_47 {Ls p kc ks : Nat}  {I L : Nat → Nat → Int} {x1 : Int} {Q : List mV → mM → Prop}
    (h : m_Wp i_C_quiet 6 kc ks [(0, .inr (.inr 2)), (1, .inl (wr (x1 + 1)))] [] (mem Ls p I L) Q) :
    m_Wp i_C_quiet 47 kc ks [(0, .inr (.inr 2)), (1, .inl x1)] [] (mem Ls p I L) Q := by
  skip <;> exact m_wp_of 3 [6] h
set_option maxHeartbeats 4000000 in
set_option maxRecDepth 20000 in
theorem E_C_firstMissed {Ls p : Nat}  {I L : Nat → Nat → Int} {a0 : Int} {Q : List mV → mM → Prop}
    (h : ((a0 < (0 : Int) →
    Q [.inl (-1)] (mem Ls p I L)) ∧
   (¬ (a0 < (0 : Int)) →
    ((a0 ≤ (1 : Int) →
      m_Call i_C_startTrial [.inr (.inr 2)] (mem Ls p I L) (fun v M' =>
        m_Wp i_C_firstMissed 15 0 0 [(0, .inr (.inr 2)), (1, .inl a0)] (v ++ []) M' Q)) ∧
     (¬ (a0 ≤ (1 : Int)) →
      Q [.inl (-1)] (mem Ls p I L)))))) :
    m_Call i_C_firstMissed [.inr (.inr 2), .inl a0] (mem Ls p I L) Q := by
  have he : m_ent 0 ([.inr (.inr 2), .inl a0] : List mV) = [(0, .inr (.inr 2)), (1, .inl a0)] := rfl
  skip <;> exact m_call_at 8 [17, 37] he h
set_option maxHeartbeats 4000000 in
set_option maxRecDepth 20000 in
theorem T_C_firstMissed_15 {Ls p kc ks : Nat}  {I L : Nat → Nat → Int} {x1 : Int} {Q : List mV → mM → Prop}
    (h : m_Wp i_C_firstMissed 17 kc ks [(0, .inr (.inr 2)), (1, .inl x1), (2, .inl 1)] [] (mem Ls p I L) Q) :
    m_Wp i_C_firstMissed 15 kc ks [(0, .inr (.inr 2)), (1, .inl x1)] [] (mem Ls p I L) Q := by
  skip <;> exact m_wp_of 3 [17, 37] h
set_option maxHeartbeats 4000000 in
set_option maxRecDepth 20000 in
theorem T_C_firstMissed_17 {Ls p kc ks : Nat}  {I L : Nat → Nat → Int} {x1 x2 : Int} {Q : List mV → mM → Prop}
    (h : (((200 : Int) < x2 →
    Q [.inl (-2)] (mem Ls p I L)) ∧
   (¬ ((200 : Int) < x2) →
    m_Call i_Way_passMinute [.inr (.inr 64), .inr (.inr 46)] (mem Ls p I L) (fun v M' =>
      m_Wp i_C_firstMissed 35 kc ks [(0, .inr (.inr 2)), (1, .inl x1), (2, .inl x2)] (v ++ []) M' Q)))) :
    m_Wp i_C_firstMissed 17 kc ks [(0, .inr (.inr 2)), (1, .inl x1), (2, .inl x2)] [] (mem Ls p I L) Q := by
  skip <;> exact m_wp_of 9 [17, 37] h
set_option maxHeartbeats 4000000 in
set_option maxRecDepth 20000 in
theorem T_C_firstMissed_35 {Ls p kc ks : Nat}  {I L : Nat → Nat → Int} {x1 x2 : Int} {Q : List mV → mM → Prop}
    (h : m_Wp i_C_firstMissed 37 kc ks [(0, .inr (.inr 2)), (1, .inl x1), (2, .inl x2), (3, .inl 0)] [] (mem Ls p I L) Q) :
    m_Wp i_C_firstMissed 35 kc ks [(0, .inr (.inr 2)), (1, .inl x1), (2, .inl x2)] [] (mem Ls p I L) Q := by
  skip <;> exact m_wp_of 3 [17, 37] h
set_option maxHeartbeats 4000000 in
set_option maxRecDepth 20000 in
theorem T_C_firstMissed_37 {Ls p kc ks : Nat} (hp : p = 68 ∨ p = 9) {I L : Nat → Nat → Int} {x1 x2 x3 : Int} {Q : List mV → mM → Prop}
    (h : (((I p 15) ≤ x3 →
    m_Wp i_C_firstMissed 17 kc ks [(0, .inr (.inr 2)), (1, .inl x1), (2, .inl (wr (x2 + 1)))] [] (mem Ls p I L) Q) ∧
   (¬ ((I p 15) ≤ x3) →
    (0 ≤ x3 ∧ x3 < 6) ∧
    ((¬ (I 54 (Int.toNat x3)) = (2 : Int) →
      m_Wp i_C_firstMissed 37 kc ks [(0, .inr (.inr 2)), (1, .inl x1), (2, .inl x2), (3, .inl (wr (x3 + 1)))] [] (mem Ls p I L) Q) ∧
     (¬ (¬ (I 54 (Int.toNat x3)) = (2 : Int)) →
      (0 ≤ x3 ∧ x3 < 6) ∧
      (((I 36 (Int.toNat x3)) = (2 : Int) →
        m_Wp i_C_firstMissed 37 kc ks [(0, .inr (.inr 2)), (1, .inl x1), (2, .inl x2), (3, .inl (wr (x3 + 1)))] [] (mem Ls p I L) Q) ∧
       (¬ ((I 36 (Int.toNat x3)) = (2 : Int)) →
        ((¬ x1 = (0 : Int) →
          Q [.inl x3] (mem Ls p I L)) ∧
         (¬ (¬ x1 = (0 : Int)) →
          Q [.inl x2] (mem Ls p I L)))))))))) :
    m_Wp i_C_firstMissed 37 kc ks [(0, .inr (.inr 2)), (1, .inl x1), (2, .inl x2), (3, .inl x3)] [] (mem Ls p I L) Q := by
  rcases hp with rfl | rfl <;> exact m_wp_of 26 [17, 37] h
set_option maxHeartbeats 4000000 in
set_option maxRecDepth 20000 in
theorem E_C_longest {Ls p : Nat}  {I L : Nat → Nat → Int} {a0 : Int} {Q : List mV → mM → Prop}
    (h : ((a0 < (0 : Int) →
    Q [.inl (-1)] (mem Ls p I L)) ∧
   (¬ (a0 < (0 : Int)) →
    ((a0 ≤ (200 : Int) →
      m_Call i_C_startTrial [.inr (.inr 2)] (mem Ls p I L) (fun v M' =>
        m_Wp i_C_longest 17 0 0 [(0, .inr (.inr 2)), (1, .inl a0)] (v ++ []) M' Q)) ∧
     (¬ (a0 ≤ (200 : Int)) →
      Q [.inl (-1)] (mem Ls p I L)))))) :
    m_Call i_C_longest [.inr (.inr 2), .inl a0] (mem Ls p I L) Q := by
  have he : m_ent 0 ([.inr (.inr 2), .inl a0] : List mV) = [(0, .inr (.inr 2)), (1, .inl a0)] := rfl
  skip <;> exact m_call_at 8 [27] he h
set_option maxHeartbeats 4000000 in
set_option maxRecDepth 20000 in
theorem T_C_longest_17 {Ls p kc ks : Nat}  {I L : Nat → Nat → Int} {x1 : Int} {Q : List mV → mM → Prop}
    (h : m_Wp i_C_longest 27 kc ks [(0, .inr (.inr 2)), (1, .inl x1), (2, .inl (I 28 11)), (3, .inl 0)] [] (mem Ls p I L) Q) :
    m_Wp i_C_longest 17 kc ks [(0, .inr (.inr 2)), (1, .inl x1)] [] (mem Ls p I L) Q := by
  skip <;> exact m_wp_of 7 [27] h
set_option maxHeartbeats 4000000 in
set_option maxRecDepth 20000 in
theorem T_C_longest_27 {Ls p kc ks : Nat}  {I L : Nat → Nat → Int} {x1 x2 x3 : Int} {Q : List mV → mM → Prop}
    (h : ((x1 ≤ x3 →
    Q [.inl x2] (mem Ls p I L)) ∧
   (¬ (x1 ≤ x3) →
    m_Call i_Way_passMinute [.inr (.inr 64), .inr (.inr 46)] (mem Ls p I L) (fun v M' =>
      m_Wp i_C_longest 43 kc ks [(0, .inr (.inr 2)), (1, .inl x1), (2, .inl x2), (3, .inl x3)] (v ++ []) M' Q)))) :
    m_Wp i_C_longest 27 kc ks [(0, .inr (.inr 2)), (1, .inl x1), (2, .inl x2), (3, .inl x3)] [] (mem Ls p I L) Q := by
  skip <;> exact m_wp_of 9 [27] h
set_option maxHeartbeats 4000000 in
set_option maxRecDepth 20000 in
theorem T_C_longest_43 {Ls p kc ks : Nat}  {I L : Nat → Nat → Int} {x1 x2 x3 : Int} {Q : List mV → mM → Prop}
    (h : m_Wp i_C_longest 27 kc ks [(0, .inr (.inr 2)), (1, .inl x1), (2, .inl (m_max x2 (I 46 11))), (3, .inl (wr (x3 + 1)))] [] (mem Ls p I L) Q) :
    m_Wp i_C_longest 43 kc ks [(0, .inr (.inr 2)), (1, .inl x1), (2, .inl x2), (3, .inl x3)] [] (mem Ls p I L) Q := by
  skip <;> exact m_wp_of 9 [27] h
set_option maxHeartbeats 4000000 in
set_option maxRecDepth 20000 in
theorem E_C_queue {Ls p : Nat}  {I L : Nat → Nat → Int} {a0 : Int} {Q : List mV → mM → Prop}
    (h : ((a0 < (0 : Int) →
    Q [.inl (-1)] (mem Ls p I L)) ∧
   (¬ (a0 < (0 : Int)) →
    ((a0 < (I 28 11) →
      (0 ≤ a0 ∧ a0 < 20) ∧
      Q [.inl (I 32 (Int.toNat a0))] (mem Ls p I L)) ∧
     (¬ (a0 < (I 28 11)) →
      Q [.inl (-1)] (mem Ls p I L)))))) :
    m_Call i_C_queue [.inr (.inr 2), .inl a0] (mem Ls p I L) Q := by
  have he : m_ent 0 ([.inr (.inr 2), .inl a0] : List mV) = [(0, .inr (.inr 2)), (1, .inl a0)] := rfl
  skip <;> exact m_call_at 14 [] he h
set_option maxHeartbeats 4000000 in
set_option maxRecDepth 20000 in
theorem E_C_there {Ls p : Nat}  {I L : Nat → Nat → Int} {a0 : Int} {Q : List mV → mM → Prop}
    (h : m_Call i_C_isPerson [.inr (.inr 2), .inl a0] (mem Ls p I L) (fun v M' =>
    m_Wp i_C_there 5 0 0 [(0, .inr (.inr 2)), (1, .inl a0)] (v ++ []) M' Q)) :
    m_Call i_C_there [.inr (.inr 2), .inl a0] (mem Ls p I L) Q := by
  have he : m_ent 0 ([.inr (.inr 2), .inl a0] : List mV) = [(0, .inr (.inr 2)), (1, .inl a0)] := rfl
  skip <;> exact m_call_at 3 [14, 55, 56, 88, 89, 101, 107] he h
set_option maxHeartbeats 4000000 in
set_option maxRecDepth 20000 in
theorem T_C_there_5 {Ls p kc ks : Nat}  {I L : Nat → Nat → Int} {x1 y0 : Int} {Q : List mV → mM → Prop}
    (h : ((¬ y0 = (0 : Int) →
    m_Wp i_C_there 14 kc ks [(0, .inr (.inr 2)), (1, .inl x1), (2, .inl 0), (3, .inl 0)] [] (mem Ls p I L) Q) ∧
   (¬ (¬ y0 = (0 : Int)) →
    Q [.inl (-1)] (mem Ls p I L)))) :
    m_Wp i_C_there 5 kc ks [(0, .inr (.inr 2)), (1, .inl x1)] [.inl y0] (mem Ls p I L) Q := by
  skip <;> exact m_wp_of 6 [14, 55, 56, 88, 89, 101, 107] h
set_option maxHeartbeats 4000000 in
set_option maxRecDepth 20000 in
theorem T_C_there_14 {Ls p kc ks : Nat} (hp : p = 68 ∨ p = 9) {I L : Nat → Nat → Int} {x1 x2 x3 : Int} {Q : List mV → mM → Prop}
    (h : (((I p 15) ≤ x3 →
    Q [.inl x2] (mem Ls p I L)) ∧
   (¬ ((I p 15) ≤ x3) →
    (0 ≤ x3 ∧ x3 < 6) ∧
    ((¬ (I (p + 8) (Int.toNat x3)) = x1 →
      m_Wp i_C_there 55 kc ks [(0, .inr (.inr 2)), (1, .inl x1), (2, .inl x2), (3, .inl x3)] [] (mem Ls p I L) Q) ∧
     (¬ (¬ (I (p + 8) (Int.toNat x3)) = x1) →
      (0 ≤ x3 ∧ x3 < 6) ∧
      (((I 34 (Int.toNat x3)) = (-1) →
        m_Wp i_C_there 55 kc ks [(0, .inr (.inr 2)), (1, .inl x1), (2, .inl x2), (3, .inl x3)] [] (mem Ls p I L) Q) ∧
       (¬ ((I 34 (Int.toNat x3)) = (-1)) →
        m_Wp i_C_there 56 kc ks [(0, .inr (.inr 2)), (1, .inl x1), (2, .inl x2), (3, .inl x3)] [.inl 1] (mem Ls p I L) Q))))))) :
    m_Wp i_C_there 14 kc ks [(0, .inr (.inr 2)), (1, .inl x1), (2, .inl x2), (3, .inl x3)] [] (mem Ls p I L) Q := by
  rcases hp with rfl | rfl <;> exact m_wp_of 23 [14, 55, 56, 88, 89, 101, 107] h
set_option maxHeartbeats 4000000 in
set_option maxRecDepth 20000 in
theorem T_C_there_55 {Ls p kc ks : Nat}  {I L : Nat → Nat → Int} {x1 x2 x3 : Int} {Q : List mV → mM → Prop}
    (h : m_Wp i_C_there 56 kc ks [(0, .inr (.inr 2)), (1, .inl x1), (2, .inl x2), (3, .inl x3)] [.inl 0] (mem Ls p I L) Q) :
    m_Wp i_C_there 55 kc ks [(0, .inr (.inr 2)), (1, .inl x1), (2, .inl x2), (3, .inl x3)] [] (mem Ls p I L) Q := by
  skip <;> exact m_wp_of 3 [14, 55, 56, 88, 89, 101, 107] h
set_option maxHeartbeats 4000000 in
set_option maxRecDepth 20000 in
theorem T_C_there_56 {Ls p kc ks : Nat} (hp : p = 68 ∨ p = 9) {I L : Nat → Nat → Int} {x1 x2 x3 y0 : Int} {Q : List mV → mM → Prop}
    (h : (0 ≤ x3 ∧ x3 < 6) ∧
  ((¬ (I (p + 9) (Int.toNat x3)) = x1 →
    m_Wp i_C_there 88 kc ks [(0, .inr (.inr 2)), (1, .inl x1), (2, .inl x2), (3, .inl x3), (4, .inl y0)] [] (mem Ls p I L) Q) ∧
   (¬ (¬ (I (p + 9) (Int.toNat x3)) = x1) →
    (0 ≤ x3 ∧ x3 < 6) ∧
    (((I 35 (Int.toNat x3)) = (-1) →
      m_Wp i_C_there 88 kc ks [(0, .inr (.inr 2)), (1, .inl x1), (2, .inl x2), (3, .inl x3), (4, .inl y0)] [] (mem Ls p I L) Q) ∧
     (¬ ((I 35 (Int.toNat x3)) = (-1)) →
      m_Wp i_C_there 89 kc ks [(0, .inr (.inr 2)), (1, .inl x1), (2, .inl x2), (3, .inl x3), (4, .inl y0)] [.inl 1] (mem Ls p I L) Q))))) :
    m_Wp i_C_there 56 kc ks [(0, .inr (.inr 2)), (1, .inl x1), (2, .inl x2), (3, .inl x3)] [.inl y0] (mem Ls p I L) Q := by
  rcases hp with rfl | rfl <;> exact m_wp_of 19 [14, 55, 56, 88, 89, 101, 107] h
set_option maxHeartbeats 4000000 in
set_option maxRecDepth 20000 in
theorem T_C_there_88 {Ls p kc ks : Nat}  {I L : Nat → Nat → Int} {x1 x2 x3 x4 : Int} {Q : List mV → mM → Prop}
    (h : m_Wp i_C_there 89 kc ks [(0, .inr (.inr 2)), (1, .inl x1), (2, .inl x2), (3, .inl x3), (4, .inl x4)] [.inl 0] (mem Ls p I L) Q) :
    m_Wp i_C_there 88 kc ks [(0, .inr (.inr 2)), (1, .inl x1), (2, .inl x2), (3, .inl x3), (4, .inl x4)] [] (mem Ls p I L) Q := by
  skip <;> exact m_wp_of 3 [14, 55, 56, 88, 89, 101, 107] h
set_option maxHeartbeats 4000000 in
set_option maxRecDepth 20000 in
theorem T_C_there_89 {Ls p kc ks : Nat}  {I L : Nat → Nat → Int} {x1 x2 x3 x4 y0 : Int} {Q : List mV → mM → Prop}
    (h : ((¬ x4 = (0 : Int) →
    m_Wp i_C_there 101 kc ks [(0, .inr (.inr 2)), (1, .inl x1), (2, .inl x2), (3, .inl x3)] [] (mem Ls p I L) Q) ∧
   (¬ (¬ x4 = (0 : Int)) →
    ((y0 = (0 : Int) →
      m_Wp i_C_there 107 kc ks [(0, .inr (.inr 2)), (1, .inl x1), (2, .inl x2), (3, .inl x3)] [] (mem Ls p I L) Q) ∧
     (¬ (y0 = (0 : Int)) →
      m_Wp i_C_there 101 kc ks [(0, .inr (.inr 2)), (1, .inl x1), (2, .inl x2), (3, .inl x3)] [] (mem Ls p I L) Q))))) :
    m_Wp i_C_there 89 kc ks [(0, .inr (.inr 2)), (1, .inl x1), (2, .inl x2), (3, .inl x3), (4, .inl x4)] [.inl y0] (mem Ls p I L) Q := by
  skip <;> exact m_wp_of 7 [14, 55, 56, 88, 89, 101, 107] h
set_option maxHeartbeats 4000000 in
set_option maxRecDepth 20000 in
theorem T_C_there_101 {Ls p kc ks : Nat}  {I L : Nat → Nat → Int} {x1 x2 x3 : Int} {Q : List mV → mM → Prop}
    (h : m_Wp i_C_there 107 kc ks [(0, .inr (.inr 2)), (1, .inl x1), (2, .inl (m_or x2 (m_shl 1 x3))), (3, .inl x3)] [] (mem Ls p I L) Q) :
    m_Wp i_C_there 101 kc ks [(0, .inr (.inr 2)), (1, .inl x1), (2, .inl x2), (3, .inl x3)] [] (mem Ls p I L) Q := by
  skip <;> exact m_wp_of 8 [14, 55, 56, 88, 89, 101, 107] h
set_option maxHeartbeats 4000000 in
set_option maxRecDepth 20000 in
theorem T_C_there_107 {Ls p kc ks : Nat}  {I L : Nat → Nat → Int} {x1 x2 x3 : Int} {Q : List mV → mM → Prop}
    (h : m_Wp i_C_there 14 kc ks [(0, .inr (.inr 2)), (1, .inl x1), (2, .inl x2), (3, .inl (wr (x3 + 1)))] [] (mem Ls p I L) Q) :
    m_Wp i_C_there 107 kc ks [(0, .inr (.inr 2)), (1, .inl x1), (2, .inl x2), (3, .inl x3)] [] (mem Ls p I L) Q := by
  skip <;> exact m_wp_of 4 [14, 55, 56, 88, 89, 101, 107] h
set_option maxHeartbeats 4000000 in
set_option maxRecDepth 20000 in
theorem E_C_see {Ls p : Nat}  {I L : Nat → Nat → Int} {a0 a1 a2 a3 : Int} {Q : List mV → mM → Prop}
    (h : ((a0 < (1 : Int) →
    Q [.inl (-1)] (mem Ls p I L)) ∧
   (¬ (a0 < (1 : Int)) →
    (((99 : Int) < a0 →
      Q [.inl (-1)] (mem Ls p I L)) ∧
     (¬ ((99 : Int) < a0) →
      m_Call i_C_isPerson [.inr (.inr 2), .inl a1] (mem Ls p I L) (fun v M' =>
        m_Wp i_C_see 16 0 0 [(0, .inr (.inr 2)), (1, .inl a0), (2, .inl a1), (3, .inl a2), (4, .inl a3)] (v ++ []) M' Q)))))) :
    m_Call i_C_see [.inr (.inr 2), .inl a0, .inl a1, .inl a2, .inl a3] (mem Ls p I L) Q := by
  have he : m_ent 0 ([.inr (.inr 2), .inl a0, .inl a1, .inl a2, .inl a3] : List mV) = [(0, .inr (.inr 2)), (1, .inl a0), (2, .inl a1), (3, .inl a2), (4, .inl a3)] := rfl
  skip <;> exact m_call_at 9 [] he h
set_option maxHeartbeats 4000000 in
set_option maxRecDepth 20000 in
theorem T_C_see_16 {Ls p kc ks : Nat}  {I L : Nat → Nat → Int} {x1 x2 x3 x4 y0 : Int} {Q : List mV → mM → Prop}
    (h : ((y0 = (0 : Int) →
    Q [.inl (-1)] (mem Ls p I L)) ∧
   (¬ (y0 = (0 : Int)) →
    ((x3 < (-200) →
      Q [.inl (-1)] (mem Ls p I L)) ∧
     (¬ (x3 < (-200)) →
      ((x3 ≤ (400 : Int) →
        m_Call i_Seen_addSight [.inr (.inr 87), .inl x1, .inl x2, .inl x3, .inl x4] (mem Ls p I L) (fun v M' =>
          m_Wp i_C_see 47 kc ks [(0, .inr (.inr 2)), (1, .inl x1), (2, .inl x2), (3, .inl x3), (4, .inl x4)] (v ++ []) M' Q)) ∧
       (¬ (x3 ≤ (400 : Int)) →
        Q [.inl (-1)] (mem Ls p I L)))))))) :
    m_Wp i_C_see 16 kc ks [(0, .inr (.inr 2)), (1, .inl x1), (2, .inl x2), (3, .inl x3), (4, .inl x4)] [.inl y0] (mem Ls p I L) Q := by
  skip <;> exact m_wp_of 14 [] h
set_option maxHeartbeats 4000000 in
set_option maxRecDepth 20000 in
theorem T_C_see_47 {Ls p kc ks : Nat}  {I L : Nat → Nat → Int} {x1 x2 x3 x4 y0 : Int} {Q : List mV → mM → Prop}
    (h : Q [.inl y0] (mem Ls p I L)) :
    m_Wp i_C_see 47 kc ks [(0, .inr (.inr 2)), (1, .inl x1), (2, .inl x2), (3, .inl x3), (4, .inl x4)] [.inl y0] (mem Ls p I L) Q := by
  skip <;> exact m_wp_of 1 [] h
set_option maxHeartbeats 4000000 in
set_option maxRecDepth 20000 in
theorem E_C_strike {Ls p : Nat}  {I L : Nat → Nat → Int} {a0 : Int} {Q : List mV → mM → Prop}
    (h : m_Call i_Seen_addStrike [.inr (.inr 87), .inl a0] (mem Ls p I L) (fun v M' =>
    m_Wp i_C_strike 8 0 0 [(0, .inr (.inr 2)), (1, .inl a0)] (v ++ []) M' Q)) :
    m_Call i_C_strike [.inr (.inr 2), .inl a0] (mem Ls p I L) Q := by
  have he : m_ent 0 ([.inr (.inr 2), .inl a0] : List mV) = [(0, .inr (.inr 2)), (1, .inl a0)] := rfl
  skip <;> exact m_call_at 4 [] he h
