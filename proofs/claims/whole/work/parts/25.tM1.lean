/-! ===== segments of the code (by program: wip/whole/gen_all.py) ===== -/
set_option maxHeartbeats 4000000 in
set_option maxRecDepth 20000 in
theorem T_M_leafRead_164 {Ls p kc ks : Nat}  {I L : Nat → Nat → Int} {Q : List mV → mM → Prop}
    (h : ((0 : Int) = (0 : Int) ∨ (0 : Int) = (1 : Int)) ∧
  m_Call i_M_token [.inr (.inr 98)] (mem Ls p (mup I 98 48 0) L) (fun v M' =>
    m_Wp i_M_leafRead 173 kc ks [(0, .inr (.inr 98))] (v ++ []) M' Q)) :
    m_Wp i_M_leafRead 164 kc ks [(0, .inr (.inr 98))] [] (mem Ls p I L) Q := by
  skip <;> exact m_wp_of 5 [] h
set_option maxHeartbeats 4000000 in
set_option maxRecDepth 20000 in
theorem T_M_leafRead_84 {Ls p kc ks : Nat}  {I L : Nat → Nat → Int} {Q : List mV → mM → Prop}
    (h : ((1 : Int) = 0 ∨ (1 : Int) = 1) ∧
  Q [.inl 1] (mem Ls p I L)) :
    m_Wp i_M_leafRead 84 kc ks [(0, .inr (.inr 98))] [] (mem Ls p I L) Q := by
  skip <;> exact m_wp_of 2 [] h
set_option maxHeartbeats 4000000 in
set_option maxRecDepth 20000 in
theorem T_M_leafRead_173 {Ls p kc ks : Nat}  {I L : Nat → Nat → Int} {Q : List mV → mM → Prop}
    (h : ((1 : Int) = 0 ∨ (1 : Int) = 1) ∧
  Q [.inl 1] (mem Ls p I L)) :
    m_Wp i_M_leafRead 173 kc ks [(0, .inr (.inr 98))] [] (mem Ls p I L) Q := by
  skip <;> exact m_wp_of 2 [] h
set_option maxHeartbeats 4000000 in
set_option maxRecDepth 20000 in
theorem E_M_rank {Ls p : Nat}  {I L : Nat → Nat → Int} {a0 : Int} {Q : List mV → mM → Prop}
    (h : ((a0 < (13 : Int) →
    ((a0 < (11 : Int) →
      ((a0 < (5 : Int) →
        ((¬ a0 = (2 : Int) →
          ((¬ a0 = (3 : Int) →
            ((¬ a0 = (4 : Int) →
              Q [.inl 0] (mem Ls p I L)) ∧
             (¬ (¬ a0 = (4 : Int)) →
              Q [.inl 1] (mem Ls p I L)))) ∧
           (¬ (¬ a0 = (3 : Int)) →
            Q [.inl 2] (mem Ls p I L)))) ∧
         (¬ (¬ a0 = (2 : Int)) →
          Q [.inl 3] (mem Ls p I L)))) ∧
       (¬ (a0 < (5 : Int)) →
        Q [.inl 4] (mem Ls p I L)))) ∧
     (¬ (a0 < (11 : Int)) →
      Q [.inl 5] (mem Ls p I L)))) ∧
   (¬ (a0 < (13 : Int)) →
    Q [.inl 6] (mem Ls p I L)))) :
    m_Call i_M_rank [.inl a0] (mem Ls p I L) Q := by
  have he : m_ent 0 ([.inl a0] : List mV) = [(0, .inl a0)] := rfl
  skip <;> exact m_call_at 22 [] he h
set_option maxHeartbeats 4000000 in
set_option maxRecDepth 20000 in
theorem E_M_dropHeld {Ls p : Nat}  {I L : Nat → Nat → Int} {Q : List mV → mM → Prop}
    (h : (0 ≤ (wr ((I 98 45) - 1)) ∧ (wr ((I 98 45) - 1)) < 96) ∧
  Q [.inl (I 122 (Int.toNat (wr ((I 98 45) - 1))))] (mem Ls p (mup I 98 45 (wr ((I 98 45) - 1))) L)) :
    m_Call i_M_dropHeld [.inr (.inr 98)] (mem Ls p I L) Q := by
  have he : m_ent 0 ([.inr (.inr 98)] : List mV) = [(0, .inr (.inr 98))] := rfl
  skip <;> exact m_call_at 12 [] he h
set_option maxHeartbeats 4000000 in
set_option maxRecDepth 20000 in
theorem E_M_bind {Ls p : Nat}  {I L : Nat → Nat → Int} {a0 : Int} {Q : List mV → mM → Prop}
    (h : (((I 98 44) ≤ (0 : Int) →
    Q [] (mem Ls p I L)) ∧
   (¬ ((I 98 44) ≤ (0 : Int)) →
    (0 ≤ (wr ((I 98 44) - 1)) ∧ (wr ((I 98 44) - 1)) < 96) ∧
    m_Call i_M_rank [.inl (I 121 (Int.toNat (wr ((I 98 44) - 1))))] (mem Ls p I L) (fun v M' =>
      m_Wp i_M_bind 21 0 0 [(0, .inr (.inr 98)), (1, .inl a0)] (v ++ []) M' Q)))) :
    m_Call i_M_bind [.inr (.inr 98), .inl a0] (mem Ls p I L) Q := by
  have he : m_ent 0 ([.inr (.inr 98), .inl a0] : List mV) = [(0, .inr (.inr 98)), (1, .inl a0)] := rfl
  skip <;> exact m_call_at 12 [0] he h
set_option maxHeartbeats 4000000 in
set_option maxRecDepth 20000 in
theorem T_M_bind_21 {Ls p kc ks : Nat}  {I L : Nat → Nat → Int} {x1 y0 : Int} {Q : List mV → mM → Prop}
    (h : ((y0 < x1 →
    Q [] (mem Ls p I L)) ∧
   (¬ (y0 < x1) →
    (0 ≤ (wr ((I 98 44) - 1)) ∧ (wr ((I 98 44) - 1)) < 96) ∧
    ((¬ (I 121 (Int.toNat (wr ((I 98 44) - 1)))) = (2 : Int) →
      m_Call i_M_dropHeld [.inr (.inr 98)] (mem Ls p (mup I 98 44 (wr ((I 98 44) - 1))) L) (fun v M' =>
        m_Wp i_M_bind 58 kc ks [(0, .inr (.inr 98)), (1, .inl x1), (2, .inl (I 121 (Int.toNat (wr ((I 98 44) - 1)))))] (v ++ []) M' Q)) ∧
     (¬ (¬ (I 121 (Int.toNat (wr ((I 98 44) - 1)))) = (2 : Int)) →
      m_Call i_M_dropHeld [.inr (.inr 98)] (mem Ls p (mup I 98 44 (wr ((I 98 44) - 1))) L) (fun v M' =>
        m_Wp i_M_bind 63 kc ks [(0, .inr (.inr 98)), (1, .inl x1), (2, .inl (I 121 (Int.toNat (wr ((I 98 44) - 1))))), (3, .inl (-1))] (v ++ []) M' Q)))))) :
    m_Wp i_M_bind 21 kc ks [(0, .inr (.inr 98)), (1, .inl x1)] [.inl y0] (mem Ls p I L) Q := by
  skip <;> exact m_wp_of 23 [0] h
set_option maxHeartbeats 4000000 in
set_option maxRecDepth 20000 in
theorem T_M_bind_58 {Ls p kc ks : Nat}  {I L : Nat → Nat → Int} {x1 x2 y0 : Int} {Q : List mV → mM → Prop}
    (h : m_Call i_M_dropHeld [.inr (.inr 98)] (mem Ls p I L) (fun v M' =>
    m_Wp i_M_bind 63 kc ks [(0, .inr (.inr 98)), (1, .inl x1), (2, .inl x2), (3, .inl y0)] (v ++ []) M' Q)) :
    m_Wp i_M_bind 58 kc ks [(0, .inr (.inr 98)), (1, .inl x1), (2, .inl x2)] [.inl y0] (mem Ls p I L) Q := by
  skip <;> exact m_wp_of 4 [0] h
set_option maxHeartbeats 4000000 in
set_option maxRecDepth 20000 in
theorem T_M_bind_63 {Ls p kc ks : Nat}  {I L : Nat → Nat → Int} {x1 x2 x3 y0 : Int} {Q : List mV → mM → Prop}
    (h : m_Call i_M_grown [.inr (.inr 98), .inl x2, .inl y0, .inl x3] (mem Ls p I L) (fun v M' =>
    m_Wp i_M_bind 73 kc ks [(0, .inr (.inr 98)), (1, .inl x1), (2, .inl x2), (3, .inl x3), (4, .inl y0)] (v ++ []) M' Q)) :
    m_Wp i_M_bind 63 kc ks [(0, .inr (.inr 98)), (1, .inl x1), (2, .inl x2), (3, .inl x3)] [.inl y0] (mem Ls p I L) Q := by
  skip <;> exact m_wp_of 6 [0] h
set_option maxHeartbeats 4000000 in
set_option maxRecDepth 20000 in
theorem T_M_bind_73 {Ls p kc ks : Nat}  {I L : Nat → Nat → Int} {x1 x2 x3 x4 : Int} {Q : List mV → mM → Prop}
    (h : m_Wp i_M_bind 0 kc ks [(0, .inr (.inr 98)), (1, .inl x1)] [] (mem Ls p I L) Q) :
    m_Wp i_M_bind 73 kc ks [(0, .inr (.inr 98)), (1, .inl x1), (2, .inl x2), (3, .inl x3), (4, .inl x4)] [] (mem Ls p I L) Q := by
  skip <;> exact m_wp_of 2 [0] h
set_option maxHeartbeats 4000000 in
set_option maxRecDepth 20000 in
theorem T_M_bind_0 {Ls p kc ks : Nat}  {I L : Nat → Nat → Int} {x1 : Int} {Q : List mV → mM → Prop}
    (h : (((I 98 44) ≤ (0 : Int) →
    Q [] (mem Ls p I L)) ∧
   (¬ ((I 98 44) ≤ (0 : Int)) →
    (0 ≤ (wr ((I 98 44) - 1)) ∧ (wr ((I 98 44) - 1)) < 96) ∧
    m_Call i_M_rank [.inl (I 121 (Int.toNat (wr ((I 98 44) - 1))))] (mem Ls p I L) (fun v M' =>
      m_Wp i_M_bind 21 kc ks [(0, .inr (.inr 98)), (1, .inl x1)] (v ++ []) M' Q)))) :
    m_Wp i_M_bind 0 kc ks [(0, .inr (.inr 98)), (1, .inl x1)] [] (mem Ls p I L) Q := by
  skip <;> exact m_wp_of 12 [0] h
set_option maxHeartbeats 4000000 in
set_option maxRecDepth 20000 in
theorem E_M_signs {Ls p : Nat}  {I L : Nat → Nat → Int} {Q : List mV → mM → Prop}
    (h : m_Call i_M_isSign [.inr (.inr 98), .inl 41] (mem Ls p I L) (fun v M' =>
    m_Wp i_M_signs 6 0 0 [(0, .inr (.inr 98))] (v ++ []) M' Q)) :
    m_Call i_M_signs [.inr (.inr 98)] (mem Ls p I L) Q := by
  have he : m_ent 0 ([.inr (.inr 98)] : List mV) = [(0, .inr (.inr 98))] := rfl
  skip <;> exact m_call_at 3 [] he h
set_option maxHeartbeats 4000000 in
set_option maxRecDepth 20000 in
theorem T_M_signs_6 {Ls p kc ks : Nat}  {I L : Nat → Nat → Int} {y0 : Int} {Q : List mV → mM → Prop}
    (h : ((y0 = (0 : Int) →
    m_Call i_M_isKey [.inr (.inr 98), .inl 10] (mem Ls p I L) (fun v M' =>
      m_Wp i_M_signs 53 kc ks [(0, .inr (.inr 98))] (v ++ []) M' Q)) ∧
   (¬ (y0 = (0 : Int)) →
    (((I 98 46) ≤ (0 : Int) →
      m_Call i_M_isKey [.inr (.inr 98), .inl 10] (mem Ls p I L) (fun v M' =>
        m_Wp i_M_signs 53 kc ks [(0, .inr (.inr 98))] (v ++ []) M' Q)) ∧
     (¬ ((I 98 46) ≤ (0 : Int)) →
      m_Call i_M_bind [.inr (.inr 98), .inl 1] (mem Ls p I L) (fun v M' =>
        m_Wp i_M_signs 21 kc ks [(0, .inr (.inr 98))] (v ++ []) M' Q)))))) :
    m_Wp i_M_signs 6 kc ks [(0, .inr (.inr 98))] [.inl y0] (mem Ls p I L) Q := by
  skip <;> exact m_wp_of 8 [] h
set_option maxHeartbeats 4000000 in
set_option maxRecDepth 20000 in
theorem T_M_signs_53 {Ls p kc ks : Nat}  {I L : Nat → Nat → Int} {y0 : Int} {Q : List mV → mM → Prop}
    (h : ((y0 = (0 : Int) →
    m_Call i_M_isKey [.inr (.inr 98), .inl 11] (mem Ls p I L) (fun v M' =>
      m_Wp i_M_signs 66 kc ks [(0, .inr (.inr 98))] (v ++ []) M' Q)) ∧
   (¬ (y0 = (0 : Int)) →
    ((¬ (3 : Int) = (0 : Int) →
      m_Call i_M_rank [.inl 3] (mem Ls p I L) (fun v M' =>
        m_Wp i_M_signs 163 kc ks [(0, .inr (.inr 98)), (1, .inl 3)] (v ++ [.inr (.inr 98)]) M' Q)) ∧
     (¬ (¬ (3 : Int) = (0 : Int)) →
      m_Call i_M_wrong [.inr (.inr 98), .inl 1] (mem Ls p I L) (fun v M' =>
        m_Wp i_M_signs 157 kc ks [(0, .inr (.inr 98)), (1, .inl 3)] (v ++ []) M' Q)))))) :
    m_Wp i_M_signs 53 kc ks [(0, .inr (.inr 98))] [.inl y0] (mem Ls p I L) Q := by
  skip <;> exact m_wp_of 10 [] h
set_option maxHeartbeats 4000000 in
set_option maxRecDepth 20000 in
theorem T_M_signs_21 {Ls p kc ks : Nat}  {I L : Nat → Nat → Int} {Q : List mV → mM → Prop}
    (h : m_Call i_M_token [.inr (.inr 98)] (mem Ls p (mup (mup I 98 44 (wr ((I 98 44) - 1))) 98 46 (wr ((I 98 46) - 1))) L) (fun v M' =>
    m_Wp i_M_signs 45 kc ks [(0, .inr (.inr 98))] (v ++ []) M' Q)) :
    m_Wp i_M_signs 21 kc ks [(0, .inr (.inr 98))] [] (mem Ls p I L) Q := by
  skip <;> exact m_wp_of 14 [] h
set_option maxHeartbeats 4000000 in
set_option maxRecDepth 20000 in
theorem T_M_signs_66 {Ls p kc ks : Nat}  {I L : Nat → Nat → Int} {y0 : Int} {Q : List mV → mM → Prop}
    (h : ((y0 = (0 : Int) →
    ((¬ (I 98 8) = (5 : Int) →
      m_Call i_M_isSign [.inr (.inr 98), .inl 43] (mem Ls p I L) (fun v M' =>
        m_Wp i_M_signs 96 kc ks [(0, .inr (.inr 98))] (v ++ []) M' Q)) ∧
     (¬ (¬ (I 98 8) = (5 : Int)) →
      ((¬ (wr (5 + (I 98 9))) = (0 : Int) →
        m_Call i_M_rank [.inl (wr (5 + (I 98 9)))] (mem Ls p I L) (fun v M' =>
          m_Wp i_M_signs 163 kc ks [(0, .inr (.inr 98)), (1, .inl (wr (5 + (I 98 9))))] (v ++ [.inr (.inr 98)]) M' Q)) ∧
       (¬ (¬ (wr (5 + (I 98 9))) = (0 : Int)) →
        m_Call i_M_wrong [.inr (.inr 98), .inl 1] (mem Ls p I L) (fun v M' =>
          m_Wp i_M_signs 157 kc ks [(0, .inr (.inr 98)), (1, .inl (wr (5 + (I 98 9))))] (v ++ []) M' Q)))))) ∧
   (¬ (y0 = (0 : Int)) →
    ((¬ (4 : Int) = (0 : Int) →
      m_Call i_M_rank [.inl 4] (mem Ls p I L) (fun v M' =>
        m_Wp i_M_signs 163 kc ks [(0, .inr (.inr 98)), (1, .inl 4)] (v ++ [.inr (.inr 98)]) M' Q)) ∧
     (¬ (¬ (4 : Int) = (0 : Int)) →
      m_Call i_M_wrong [.inr (.inr 98), .inl 1] (mem Ls p I L) (fun v M' =>
        m_Wp i_M_signs 157 kc ks [(0, .inr (.inr 98)), (1, .inl 4)] (v ++ []) M' Q)))))) :
    m_Wp i_M_signs 66 kc ks [(0, .inr (.inr 98))] [.inl y0] (mem Ls p I L) Q := by
  skip <;> exact m_wp_of 17 [] h
set_option maxHeartbeats 4000000 in
set_option maxRecDepth 20000 in
theorem T_M_signs_163 {Ls p kc ks : Nat}  {I L : Nat → Nat → Int} {x1 y1 : Int} {Q : List mV → mM → Prop}
    (h : ((¬ y1 = (4 : Int) →
    m_Call i_M_rank [.inl x1] (mem Ls p I L) (fun v M' =>
      m_Wp i_M_signs 175 kc ks [(0, .inr (.inr 98)), (1, .inl x1)] (v ++ [.inr (.inr 98)]) M' Q)) ∧
   (¬ (¬ y1 = (4 : Int)) →
    m_Call i_M_bind [.inr (.inr 98), .inl 5] (mem Ls p I L) (fun v M' =>
      m_Wp i_M_signs 178 kc ks [(0, .inr (.inr 98)), (1, .inl x1)] (v ++ []) M' Q)))) :
    m_Wp i_M_signs 163 kc ks [(0, .inr (.inr 98)), (1, .inl x1)] [.inl y1, .inr (.inr 98)] (mem Ls p I L) Q := by
  skip <;> exact m_wp_of 6 [] h
set_option maxHeartbeats 4000000 in
set_option maxRecDepth 20000 in
theorem T_M_signs_157 {Ls p kc ks : Nat}  {I L : Nat → Nat → Int} {x1 y0 : Int} {Q : List mV → mM → Prop}
    (h : (y0 = 0 ∨ y0 = 1) ∧
  Q [.inl y0] (mem Ls p I L)) :
    m_Wp i_M_signs 157 kc ks [(0, .inr (.inr 98)), (1, .inl x1)] [.inl y0] (mem Ls p I L) Q := by
  skip <;> exact m_wp_of 1 [] h
set_option maxHeartbeats 4000000 in
set_option maxRecDepth 20000 in
theorem T_M_signs_45 {Ls p kc ks : Nat}  {I L : Nat → Nat → Int} {Q : List mV → mM → Prop}
    (h : ((1 : Int) = 0 ∨ (1 : Int) = 1) ∧
  Q [.inl 1] (mem Ls p I L)) :
    m_Wp i_M_signs 45 kc ks [(0, .inr (.inr 98))] [] (mem Ls p I L) Q := by
  skip <;> exact m_wp_of 2 [] h
set_option maxHeartbeats 4000000 in
set_option maxRecDepth 20000 in
theorem T_M_signs_96 {Ls p kc ks : Nat}  {I L : Nat → Nat → Int} {y0 : Int} {Q : List mV → mM → Prop}
    (h : ((y0 = (0 : Int) →
    m_Call i_M_isSign [.inr (.inr 98), .inl 45] (mem Ls p I L) (fun v M' =>
      m_Wp i_M_signs 110 kc ks [(0, .inr (.inr 98))] (v ++ []) M' Q)) ∧
   (¬ (y0 = (0 : Int)) →
    ((¬ (11 : Int) = (0 : Int) →
      m_Call i_M_rank [.inl 11] (mem Ls p I L) (fun v M' =>
        m_Wp i_M_signs 163 kc ks [(0, .inr (.inr 98)), (1, .inl 11)] (v ++ [.inr (.inr 98)]) M' Q)) ∧
     (¬ (¬ (11 : Int) = (0 : Int)) →
      m_Call i_M_wrong [.inr (.inr 98), .inl 1] (mem Ls p I L) (fun v M' =>
        m_Wp i_M_signs 157 kc ks [(0, .inr (.inr 98)), (1, .inl 11)] (v ++ []) M' Q)))))) :
    m_Wp i_M_signs 96 kc ks [(0, .inr (.inr 98))] [.inl y0] (mem Ls p I L) Q := by
  skip <;> exact m_wp_of 10 [] h
set_option maxHeartbeats 4000000 in
set_option maxRecDepth 20000 in
theorem T_M_signs_175 {Ls p kc ks : Nat}  {I L : Nat → Nat → Int} {x1 y1 : Int} {Q : List mV → mM → Prop}
    (h : m_Call i_M_bind [.inr (.inr 98), .inl y1] (mem Ls p I L) (fun v M' =>
    m_Wp i_M_signs 178 kc ks [(0, .inr (.inr 98)), (1, .inl x1)] (v ++ []) M' Q)) :
    m_Wp i_M_signs 175 kc ks [(0, .inr (.inr 98)), (1, .inl x1)] [.inl y1, .inr (.inr 98)] (mem Ls p I L) Q := by
  skip <;> exact m_wp_of 2 [] h
set_option maxHeartbeats 4000000 in
set_option maxRecDepth 20000 in
theorem T_M_signs_178 {Ls p kc ks : Nat}  {I L : Nat → Nat → Int} {x1 : Int} {Q : List mV → mM → Prop}
    (h : m_Call i_M_rank [.inl x1] (mem Ls p I L) (fun v M' =>
    m_Wp i_M_signs 182 kc ks [(0, .inr (.inr 98)), (1, .inl x1)] (v ++ []) M' Q)) :
    m_Wp i_M_signs 178 kc ks [(0, .inr (.inr 98)), (1, .inl x1)] [] (mem Ls p I L) Q := by
  skip <;> exact m_wp_of 2 [] h
set_option maxHeartbeats 4000000 in
set_option maxRecDepth 20000 in
theorem T_M_signs_110 {Ls p kc ks : Nat}  {I L : Nat → Nat → Int} {y0 : Int} {Q : List mV → mM → Prop}
    (h : ((y0 = (0 : Int) →
    m_Call i_M_isSign [.inr (.inr 98), .inl 42] (mem Ls p I L) (fun v M' =>
      m_Wp i_M_signs 124 kc ks [(0, .inr (.inr 98))] (v ++ []) M' Q)) ∧
   (¬ (y0 = (0 : Int)) →
    ((¬ (12 : Int) = (0 : Int) →
      m_Call i_M_rank [.inl 12] (mem Ls p I L) (fun v M' =>
        m_Wp i_M_signs 163 kc ks [(0, .inr (.inr 98)), (1, .inl 12)] (v ++ [.inr (.inr 98)]) M' Q)) ∧
     (¬ (¬ (12 : Int) = (0 : Int)) →
      m_Call i_M_wrong [.inr (.inr 98), .inl 1] (mem Ls p I L) (fun v M' =>
        m_Wp i_M_signs 157 kc ks [(0, .inr (.inr 98)), (1, .inl 12)] (v ++ []) M' Q)))))) :
    m_Wp i_M_signs 110 kc ks [(0, .inr (.inr 98))] [.inl y0] (mem Ls p I L) Q := by
  skip <;> exact m_wp_of 10 [] h
set_option maxHeartbeats 4000000 in
set_option maxRecDepth 20000 in
theorem T_M_signs_182 {Ls p kc ks : Nat}  {I L : Nat → Nat → Int} {x1 y0 : Int} {Q : List mV → mM → Prop}
    (h : ((¬ y0 = (4 : Int) →
    m_Call i_M_isCounted [.inr (.inr 98)] (mem Ls p I L) (fun v M' =>
      m_Wp i_M_signs 221 kc ks [(0, .inr (.inr 98)), (1, .inl x1)] (v ++ []) M' Q)) ∧
   (¬ (¬ y0 = (4 : Int)) →
    (((I 98 44) ≤ (0 : Int) →
      m_Call i_M_isCounted [.inr (.inr 98)] (mem Ls p I L) (fun v M' =>
        m_Wp i_M_signs 221 kc ks [(0, .inr (.inr 98)), (1, .inl x1)] (v ++ []) M' Q)) ∧
     (¬ ((I 98 44) ≤ (0 : Int)) →
      (0 ≤ (wr ((I 98 44) - 1)) ∧ (wr ((I 98 44) - 1)) < 96) ∧
      m_Call i_M_rank [.inl (I 121 (Int.toNat (wr ((I 98 44) - 1))))] (mem Ls p I L) (fun v M' =>
        m_Wp i_M_signs 207 kc ks [(0, .inr (.inr 98)), (1, .inl x1)] (v ++ []) M' Q)))))) :
    m_Wp i_M_signs 182 kc ks [(0, .inr (.inr 98)), (1, .inl x1)] [.inl y0] (mem Ls p I L) Q := by
  skip <;> exact m_wp_of 13 [] h
set_option maxHeartbeats 4000000 in
set_option maxRecDepth 20000 in
theorem T_M_signs_124 {Ls p kc ks : Nat}  {I L : Nat → Nat → Int} {y0 : Int} {Q : List mV → mM → Prop}
    (h : ((y0 = (0 : Int) →
    m_Call i_M_isSign [.inr (.inr 98), .inl 47] (mem Ls p I L) (fun v M' =>
      m_Wp i_M_signs 138 kc ks [(0, .inr (.inr 98))] (v ++ []) M' Q)) ∧
   (¬ (y0 = (0 : Int)) →
    ((¬ (13 : Int) = (0 : Int) →
      m_Call i_M_rank [.inl 13] (mem Ls p I L) (fun v M' =>
        m_Wp i_M_signs 163 kc ks [(0, .inr (.inr 98)), (1, .inl 13)] (v ++ [.inr (.inr 98)]) M' Q)) ∧
     (¬ (¬ (13 : Int) = (0 : Int)) →
      m_Call i_M_wrong [.inr (.inr 98), .inl 1] (mem Ls p I L) (fun v M' =>
        m_Wp i_M_signs 157 kc ks [(0, .inr (.inr 98)), (1, .inl 13)] (v ++ []) M' Q)))))) :
    m_Wp i_M_signs 124 kc ks [(0, .inr (.inr 98))] [.inl y0] (mem Ls p I L) Q := by
  skip <;> exact m_wp_of 10 [] h
set_option maxHeartbeats 4000000 in
set_option maxRecDepth 20000 in
theorem T_M_signs_221 {Ls p kc ks : Nat}  {I L : Nat → Nat → Int} {x1 y0 : Int} {Q : List mV → mM → Prop}
    (h : ((¬ y0 = (0 : Int) →
    m_Call i_M_waitsFor [.inr (.inr 98), .inl x1] (mem Ls p I L) (fun v M' =>
      m_Wp i_M_signs 231 kc ks [(0, .inr (.inr 98)), (1, .inl x1)] (v ++ []) M' Q)) ∧
   (¬ (¬ y0 = (0 : Int)) →
    ((0 : Int) = 0 ∨ (0 : Int) = 1) ∧
    Q [.inl 0] (mem Ls p I L)))) :
    m_Wp i_M_signs 221 kc ks [(0, .inr (.inr 98)), (1, .inl x1)] [.inl y0] (mem Ls p I L) Q := by
  skip <;> exact m_wp_of 4 [] h
set_option maxHeartbeats 4000000 in
set_option maxRecDepth 20000 in
theorem T_M_signs_207 {Ls p kc ks : Nat}  {I L : Nat → Nat → Int} {x1 y0 : Int} {Q : List mV → mM → Prop}
    (h : ((¬ y0 = (4 : Int) →
    m_Call i_M_isCounted [.inr (.inr 98)] (mem Ls p I L) (fun v M' =>
      m_Wp i_M_signs 221 kc ks [(0, .inr (.inr 98)), (1, .inl x1)] (v ++ []) M' Q)) ∧
   (¬ (¬ y0 = (4 : Int)) →
    m_Call i_M_wrong [.inr (.inr 98), .inl 1] (mem Ls p I L) (fun v M' =>
      m_Wp i_M_signs 216 kc ks [(0, .inr (.inr 98)), (1, .inl x1)] (v ++ []) M' Q)))) :
    m_Wp i_M_signs 207 kc ks [(0, .inr (.inr 98)), (1, .inl x1)] [.inl y0] (mem Ls p I L) Q := by
  skip <;> exact m_wp_of 5 [] h
set_option maxHeartbeats 4000000 in
set_option maxRecDepth 20000 in
theorem T_M_signs_138 {Ls p kc ks : Nat}  {I L : Nat → Nat → Int} {y0 : Int} {Q : List mV → mM → Prop}
    (h : ((y0 = (0 : Int) →
    ((¬ (0 : Int) = (0 : Int) →
      m_Call i_M_rank [.inl 0] (mem Ls p I L) (fun v M' =>
        m_Wp i_M_signs 163 kc ks [(0, .inr (.inr 98)), (1, .inl 0)] (v ++ [.inr (.inr 98)]) M' Q)) ∧
     (¬ (¬ (0 : Int) = (0 : Int)) →
      m_Call i_M_wrong [.inr (.inr 98), .inl 1] (mem Ls p I L) (fun v M' =>
        m_Wp i_M_signs 157 kc ks [(0, .inr (.inr 98)), (1, .inl 0)] (v ++ []) M' Q)))) ∧
   (¬ (y0 = (0 : Int)) →
    ((¬ (14 : Int) = (0 : Int) →
      m_Call i_M_rank [.inl 14] (mem Ls p I L) (fun v M' =>
        m_Wp i_M_signs 163 kc ks [(0, .inr (.inr 98)), (1, .inl 14)] (v ++ [.inr (.inr 98)]) M' Q)) ∧
     (¬ (¬ (14 : Int) = (0 : Int)) →
      m_Call i_M_wrong [.inr (.inr 98), .inl 1] (mem Ls p I L) (fun v M' =>
        m_Wp i_M_signs 157 kc ks [(0, .inr (.inr 98)), (1, .inl 14)] (v ++ []) M' Q)))))) :
    m_Wp i_M_signs 138 kc ks [(0, .inr (.inr 98))] [.inl y0] (mem Ls p I L) Q := by
  skip <;> exact m_wp_of 10 [] h
set_option maxHeartbeats 4000000 in
set_option maxRecDepth 20000 in
theorem T_M_signs_231 {Ls p kc ks : Nat}  {I L : Nat → Nat → Int} {x1 : Int} {Q : List mV → mM → Prop}
    (h : ((1 : Int) = (0 : Int) ∨ (1 : Int) = (1 : Int)) ∧
  m_Call i_M_rank [.inl x1] (mem Ls p (mup I 98 48 1) L) (fun v M' =>
    m_Wp i_M_signs 241 kc ks [(0, .inr (.inr 98)), (1, .inl x1)] (v ++ [.inr (.inr 98)]) M' Q)) :
    m_Wp i_M_signs 231 kc ks [(0, .inr (.inr 98)), (1, .inl x1)] [] (mem Ls p I L) Q := by
  skip <;> exact m_wp_of 6 [] h
set_option maxHeartbeats 4000000 in
set_option maxRecDepth 20000 in
theorem T_M_signs_216 {Ls p kc ks : Nat}  {I L : Nat → Nat → Int} {x1 y0 : Int} {Q : List mV → mM → Prop}
    (h : (y0 = 0 ∨ y0 = 1) ∧
  Q [.inl y0] (mem Ls p I L)) :
    m_Wp i_M_signs 216 kc ks [(0, .inr (.inr 98)), (1, .inl x1)] [.inl y0] (mem Ls p I L) Q := by
  skip <;> exact m_wp_of 1 [] h
set_option maxHeartbeats 4000000 in
set_option maxRecDepth 20000 in
theorem T_M_signs_241 {Ls p kc ks : Nat}  {I L : Nat → Nat → Int} {x1 y1 : Int} {Q : List mV → mM → Prop}
    (h : (((3 : Int) ≤ y1 →
    ((0 : Int) = (0 : Int) ∨ (0 : Int) = (1 : Int)) ∧
    m_Call i_M_token [.inr (.inr 98)] (mem Ls p (mup I 98 49 0) L) (fun v M' =>
      m_Wp i_M_signs 257 kc ks [(0, .inr (.inr 98))] (v ++ []) M' Q)) ∧
   (¬ ((3 : Int) ≤ y1) →
    ((1 : Int) = (0 : Int) ∨ (1 : Int) = (1 : Int)) ∧
    m_Call i_M_token [.inr (.inr 98)] (mem Ls p (mup I 98 49 1) L) (fun v M' =>
      m_Wp i_M_signs 257 kc ks [(0, .inr (.inr 98))] (v ++ []) M' Q)))) :
    m_Wp i_M_signs 241 kc ks [(0, .inr (.inr 98)), (1, .inl x1)] [.inl y1, .inr (.inr 98)] (mem Ls p I L) Q := by
  skip <;> exact m_wp_of 8 [] h
set_option maxHeartbeats 4000000 in
set_option maxRecDepth 20000 in
theorem T_M_signs_257 {Ls p kc ks : Nat}  {I L : Nat → Nat → Int} {Q : List mV → mM → Prop}
    (h : ((1 : Int) = 0 ∨ (1 : Int) = 1) ∧
  Q [.inl 1] (mem Ls p I L)) :
    m_Wp i_M_signs 257 kc ks [(0, .inr (.inr 98))] [] (mem Ls p I L) Q := by
  skip <;> exact m_wp_of 2 [] h
set_option maxHeartbeats 4000000 in
set_option maxRecDepth 20000 in
theorem E_M_sumRead {Ls p : Nat}  {I L : Nat → Nat → Int} {Q : List mV → mM → Prop}
    (h : ((1 : Int) = (0 : Int) ∨ (1 : Int) = (1 : Int)) ∧
  ((1 : Int) = (0 : Int) ∨ (1 : Int) = (1 : Int)) ∧
  m_Wp i_M_sumRead 25 0 0 [(0, .inr (.inr 98))] [] (mem Ls p (mup (mup (mup (mup (mup I 98 44 0) 98 45 0) 98 46 0) 98 48 1) 98 49 1) L) Q) :
    m_Call i_M_sumRead [.inr (.inr 98)] (mem Ls p I L) Q := by
  have he : m_ent 0 ([.inr (.inr 98)] : List mV) = [(0, .inr (.inr 98))] := rfl
  skip <;> exact m_call_at 16 [25] he h
set_option maxHeartbeats 4000000 in
set_option maxRecDepth 20000 in
theorem T_M_sumRead_25 {Ls p kc ks : Nat}  {I L : Nat → Nat → Int} {Q : List mV → mM → Prop}
    (h : m_Call i_M_isSign [.inr (.inr 98), .inl 59] (mem Ls p I L) (fun v M' =>
    m_Wp i_M_sumRead 31 kc ks [(0, .inr (.inr 98))] (v ++ []) M' Q)) :
    m_Wp i_M_sumRead 25 kc ks [(0, .inr (.inr 98))] [] (mem Ls p I L) Q := by
  skip <;> exact m_wp_of 4 [25] h
set_option maxHeartbeats 4000000 in
set_option maxRecDepth 20000 in
theorem T_M_sumRead_31 {Ls p kc ks : Nat}  {I L : Nat → Nat → Int} {y0 : Int} {Q : List mV → mM → Prop}
    (h : ((y0 = (0 : Int) →
    (((I 98 48) = (0 : Int) →
      m_Call i_M_signs [.inr (.inr 98)] (mem Ls p I L) (fun v M' =>
        m_Wp i_M_sumRead 69 kc ks [(0, .inr (.inr 98))] (v ++ []) M' Q)) ∧
     (¬ ((I 98 48) = (0 : Int)) →
      m_Call i_M_leafRead [.inr (.inr 98)] (mem Ls p I L) (fun v M' =>
        m_Wp i_M_sumRead 59 kc ks [(0, .inr (.inr 98))] (v ++ []) M' Q)))) ∧
   (¬ (y0 = (0 : Int)) →
    ((¬ (I 98 48) = (0 : Int) →
      (((I 98 48) = (0 : Int) →
        m_Call i_M_signs [.inr (.inr 98)] (mem Ls p I L) (fun v M' =>
          m_Wp i_M_sumRead 69 kc ks [(0, .inr (.inr 98))] (v ++ []) M' Q)) ∧
       (¬ ((I 98 48) = (0 : Int)) →
        m_Call i_M_leafRead [.inr (.inr 98)] (mem Ls p I L) (fun v M' =>
          m_Wp i_M_sumRead 59 kc ks [(0, .inr (.inr 98))] (v ++ []) M' Q)))) ∧
     (¬ (¬ (I 98 48) = (0 : Int)) →
      (((I 98 46) ≤ (0 : Int) →
        m_Call i_M_bind [.inr (.inr 98), .inl 1] (mem Ls p I L) (fun v M' =>
          m_Wp i_M_sumRead 79 kc ks [(0, .inr (.inr 98))] (v ++ []) M' Q)) ∧
       (¬ ((I 98 46) ≤ (0 : Int)) →
        (((I 98 48) = (0 : Int) →
          m_Call i_M_signs [.inr (.inr 98)] (mem Ls p I L) (fun v M' =>
            m_Wp i_M_sumRead 69 kc ks [(0, .inr (.inr 98))] (v ++ []) M' Q)) ∧
         (¬ ((I 98 48) = (0 : Int)) →
          m_Call i_M_leafRead [.inr (.inr 98)] (mem Ls p I L) (fun v M' =>
            m_Wp i_M_sumRead 59 kc ks [(0, .inr (.inr 98))] (v ++ []) M' Q)))))))))) :
    m_Wp i_M_sumRead 31 kc ks [(0, .inr (.inr 98))] [.inl y0] (mem Ls p I L) Q := by
  skip <;> exact m_wp_of 13 [25] h
set_option maxHeartbeats 4000000 in
set_option maxRecDepth 20000 in
theorem T_M_sumRead_69 {Ls p kc ks : Nat}  {I L : Nat → Nat → Int} {y0 : Int} {Q : List mV → mM → Prop}
    (h : ((¬ y0 = (0 : Int) →
    m_Wp i_M_sumRead 25 kc ks [(0, .inr (.inr 98))] [] (mem Ls p I L) Q) ∧
   (¬ (¬ y0 = (0 : Int)) →
    ((0 : Int) = 0 ∨ (0 : Int) = 1) ∧
    Q [.inl 0] (mem Ls p I L)))) :
    m_Wp i_M_sumRead 69 kc ks [(0, .inr (.inr 98))] [.inl y0] (mem Ls p I L) Q := by
  skip <;> exact m_wp_of 4 [25] h
set_option maxHeartbeats 4000000 in
set_option maxRecDepth 20000 in
theorem T_M_sumRead_59 {Ls p kc ks : Nat}  {I L : Nat → Nat → Int} {y0 : Int} {Q : List mV → mM → Prop}
    (h : ((y0 = (0 : Int) →
    ((0 : Int) = 0 ∨ (0 : Int) = 1) ∧
    Q [.inl 0] (mem Ls p I L)) ∧
   (¬ (y0 = (0 : Int)) →
    m_Wp i_M_sumRead 25 kc ks [(0, .inr (.inr 98))] [] (mem Ls p I L) Q))) :
    m_Wp i_M_sumRead 59 kc ks [(0, .inr (.inr 98))] [.inl y0] (mem Ls p I L) Q := by
  skip <;> exact m_wp_of 4 [25] h
set_option maxHeartbeats 4000000 in
set_option maxRecDepth 20000 in
theorem T_M_sumRead_79 {Ls p kc ks : Nat}  {I L : Nat → Nat → Int} {Q : List mV → mM → Prop}
    (h : ((1 : Int) = 0 ∨ (1 : Int) = 1) ∧
  Q [.inl 1] (mem Ls p I L)) :
    m_Wp i_M_sumRead 79 kc ks [(0, .inr (.inr 98))] [] (mem Ls p I L) Q := by
  skip <;> exact m_wp_of 2 [25] h
set_option maxHeartbeats 4000000 in
set_option maxRecDepth 20000 in
theorem E_M_lineRead {Ls p : Nat}  {I L : Nat → Nat → Int} {Q : List mV → mM → Prop}
    (h : ((¬ (I 98 8) = (1 : Int) →
    m_Call i_M_wrong [.inr (.inr 98), .inl 1] (mem Ls p I L) (fun v M' =>
      m_Wp i_M_lineRead 22 0 0 [(0, .inr (.inr 98))] (v ++ []) M' Q)) ∧
   (¬ (¬ (I 98 8) = (1 : Int)) →
    (((I 98 9) ≤ (6 : Int) →
      (((I 98 9) = (0 : Int) →
        m_Call i_M_manLine [.inr (.inr 98)] (mem Ls p I L) (fun v M' =>
          m_Wp i_M_lineRead 68 0 0 [(0, .inr (.inr 98))] (v ++ []) M' Q)) ∧
       (¬ (I 98 9) = (0 : Int) →
        (((I 98 9) = (1 : Int) →
        m_Call i_M_ringLine [.inr (.inr 98)] (mem Ls p I L) (fun v M' =>
          m_Wp i_M_lineRead 76 0 0 [(0, .inr (.inr 98))] (v ++ []) M' Q)) ∧
       (¬ (I 98 9) = (1 : Int) →
        (((I 98 9) = (2 : Int) →
        m_Call i_M_meetLine [.inr (.inr 98)] (mem Ls p I L) (fun v M' =>
          m_Wp i_M_lineRead 84 0 0 [(0, .inr (.inr 98))] (v ++ []) M' Q)) ∧
       (¬ (I 98 9) = (2 : Int) →
        (((I 98 9) = (3 : Int) →
        m_Call i_M_coldLine [.inr (.inr 98)] (mem Ls p I L) (fun v M' =>
          m_Wp i_M_lineRead 92 0 0 [(0, .inr (.inr 98))] (v ++ []) M' Q)) ∧
       (¬ (I 98 9) = (3 : Int) →
        (((I 98 9) = (4 : Int) →
        m_Call i_M_onceLine [.inr (.inr 98), .inl 0, .inl 100] (mem Ls p I L) (fun v M' =>
          m_Wp i_M_lineRead 103 0 0 [(0, .inr (.inr 98))] (v ++ []) M' Q)) ∧
       (¬ (I 98 9) = (4 : Int) →
        (((I 98 9) = (5 : Int) →
        m_Call i_M_onceLine [.inr (.inr 98), .inl 1, .inl 99999] (mem Ls p I L) (fun v M' =>
          m_Wp i_M_lineRead 114 0 0 [(0, .inr (.inr 98))] (v ++ []) M' Q)) ∧
       (¬ (I 98 9) = (5 : Int) →
        m_Call i_M_token [.inr (.inr 98)] (mem Ls p I L) (fun v M' =>
          m_Wp i_M_lineRead 122 0 0 [(0, .inr (.inr 98))] (v ++ []) M' Q)))))))))))))) ∧
     (¬ ((I 98 9) ≤ (6 : Int)) →
      m_Call i_M_wrong [.inr (.inr 98), .inl 1] (mem Ls p I L) (fun v M' =>
        m_Wp i_M_lineRead 22 0 0 [(0, .inr (.inr 98))] (v ++ []) M' Q)))))) :
    m_Call i_M_lineRead [.inr (.inr 98)] (mem Ls p I L) Q := by
  have he : m_ent 0 ([.inr (.inr 98)] : List mV) = [(0, .inr (.inr 98))] := rfl
  skip <;> exact m_call_at 15 [] he h
set_option maxHeartbeats 4000000 in
set_option maxRecDepth 20000 in
theorem T_M_lineRead_22 {Ls p kc ks : Nat}  {I L : Nat → Nat → Int} {y0 : Int} {Q : List mV → mM → Prop}
    (h : (y0 = 0 ∨ y0 = 1) ∧
  Q [.inl y0] (mem Ls p I L)) :
    m_Wp i_M_lineRead 22 kc ks [(0, .inr (.inr 98))] [.inl y0] (mem Ls p I L) Q := by
  skip <;> exact m_wp_of 1 [] h
set_option maxHeartbeats 4000000 in
set_option maxRecDepth 20000 in
theorem T_M_lineRead_68 {Ls p kc ks : Nat}  {I L : Nat → Nat → Int} {y0 : Int} {Q : List mV → mM → Prop}
    (h : ((¬ y0 = (0 : Int) →
    m_Call i_M_isSign [.inr (.inr 98), .inl 59] (mem Ls p I L) (fun v M' =>
      m_Wp i_M_lineRead 227 kc ks [(0, .inr (.inr 98)), (1, .inl y0)] (v ++ []) M' Q)) ∧
   (¬ (¬ y0 = (0 : Int)) →
    ((0 : Int) = 0 ∨ (0 : Int) = 1) ∧
    Q [.inl 0] (mem Ls p I L)))) :
    m_Wp i_M_lineRead 68 kc ks [(0, .inr (.inr 98))] [.inl y0] (mem Ls p I L) Q := by
  skip <;> exact m_wp_of 8 [] h
set_option maxHeartbeats 4000000 in
set_option maxRecDepth 20000 in
theorem T_M_lineRead_76 {Ls p kc ks : Nat}  {I L : Nat → Nat → Int} {y0 : Int} {Q : List mV → mM → Prop}
    (h : ((¬ y0 = (0 : Int) →
    m_Call i_M_isSign [.inr (.inr 98), .inl 59] (mem Ls p I L) (fun v M' =>
      m_Wp i_M_lineRead 227 kc ks [(0, .inr (.inr 98)), (1, .inl y0)] (v ++ []) M' Q)) ∧
   (¬ (¬ y0 = (0 : Int)) →
    ((0 : Int) = 0 ∨ (0 : Int) = 1) ∧
    Q [.inl 0] (mem Ls p I L)))) :
    m_Wp i_M_lineRead 76 kc ks [(0, .inr (.inr 98))] [.inl y0] (mem Ls p I L) Q := by
  skip <;> exact m_wp_of 8 [] h
set_option maxHeartbeats 4000000 in
set_option maxRecDepth 20000 in
theorem T_M_lineRead_84 {Ls p kc ks : Nat}  {I L : Nat → Nat → Int} {y0 : Int} {Q : List mV → mM → Prop}
    (h : ((¬ y0 = (0 : Int) →
    m_Call i_M_isSign [.inr (.inr 98), .inl 59] (mem Ls p I L) (fun v M' =>
      m_Wp i_M_lineRead 227 kc ks [(0, .inr (.inr 98)), (1, .inl y0)] (v ++ []) M' Q)) ∧
   (¬ (¬ y0 = (0 : Int)) →
    ((0 : Int) = 0 ∨ (0 : Int) = 1) ∧
    Q [.inl 0] (mem Ls p I L)))) :
    m_Wp i_M_lineRead 84 kc ks [(0, .inr (.inr 98))] [.inl y0] (mem Ls p I L) Q := by
  skip <;> exact m_wp_of 8 [] h
set_option maxHeartbeats 4000000 in
set_option maxRecDepth 20000 in
theorem T_M_lineRead_92 {Ls p kc ks : Nat}  {I L : Nat → Nat → Int} {y0 : Int} {Q : List mV → mM → Prop}
    (h : ((¬ y0 = (0 : Int) →
    m_Call i_M_isSign [.inr (.inr 98), .inl 59] (mem Ls p I L) (fun v M' =>
      m_Wp i_M_lineRead 227 kc ks [(0, .inr (.inr 98)), (1, .inl y0)] (v ++ []) M' Q)) ∧
   (¬ (¬ y0 = (0 : Int)) →
    ((0 : Int) = 0 ∨ (0 : Int) = 1) ∧
    Q [.inl 0] (mem Ls p I L)))) :
    m_Wp i_M_lineRead 92 kc ks [(0, .inr (.inr 98))] [.inl y0] (mem Ls p I L) Q := by
  skip <;> exact m_wp_of 8 [] h
set_option maxHeartbeats 4000000 in
set_option maxRecDepth 20000 in
theorem T_M_lineRead_103 {Ls p kc ks : Nat}  {I L : Nat → Nat → Int} {y0 : Int} {Q : List mV → mM → Prop}
    (h : ((¬ y0 = (0 : Int) →
    m_Call i_M_isSign [.inr (.inr 98), .inl 59] (mem Ls p I L) (fun v M' =>
      m_Wp i_M_lineRead 227 kc ks [(0, .inr (.inr 98)), (1, .inl y0)] (v ++ []) M' Q)) ∧
   (¬ (¬ y0 = (0 : Int)) →
    ((0 : Int) = 0 ∨ (0 : Int) = 1) ∧
    Q [.inl 0] (mem Ls p I L)))) :
    m_Wp i_M_lineRead 103 kc ks [(0, .inr (.inr 98))] [.inl y0] (mem Ls p I L) Q := by
  skip <;> exact m_wp_of 8 [] h
set_option maxHeartbeats 4000000 in
set_option maxRecDepth 20000 in
theorem T_M_lineRead_114 {Ls p kc ks : Nat}  {I L : Nat → Nat → Int} {y0 : Int} {Q : List mV → mM → Prop}
    (h : ((¬ y0 = (0 : Int) →
    m_Call i_M_isSign [.inr (.inr 98), .inl 59] (mem Ls p I L) (fun v M' =>
      m_Wp i_M_lineRead 227 kc ks [(0, .inr (.inr 98)), (1, .inl y0)] (v ++ []) M' Q)) ∧
   (¬ (¬ y0 = (0 : Int)) →
    ((0 : Int) = 0 ∨ (0 : Int) = 1) ∧
    Q [.inl 0] (mem Ls p I L)))) :
    m_Wp i_M_lineRead 114 kc ks [(0, .inr (.inr 98))] [.inl y0] (mem Ls p I L) Q := by
  skip <;> exact m_wp_of 8 [] h
set_option maxHeartbeats 4000000 in
set_option maxRecDepth 20000 in
theorem T_M_lineRead_122 {Ls p kc ks : Nat}  {I L : Nat → Nat → Int} {Q : List mV → mM → Prop}
    (h : ((¬ (I 98 8) = (1 : Int) →
    m_Call i_M_wrong [.inr (.inr 98), .inl 1] (mem Ls p I L) (fun v M' =>
      m_Wp i_M_lineRead 153 kc ks [(0, .inr (.inr 98))] (v ++ []) M' Q)) ∧
   (¬ (¬ (I 98 8) = (1 : Int)) →
    (((I 98 9) < (7 : Int) →
      m_Call i_M_wrong [.inr (.inr 98), .inl 1] (mem Ls p I L) (fun v M' =>
        m_Wp i_M_lineRead 153 kc ks [(0, .inr (.inr 98))] (v ++ []) M' Q)) ∧
     (¬ ((I 98 9) < (7 : Int)) →
      (((I 98 9) ≤ (9 : Int) →
        (0 ≤ (wr ((wr (3 + (I 98 9))) - 7)) ∧ (wr ((wr (3 + (I 98 9))) - 7)) < 6) ∧
        (((I 115 (Int.toNat (wr ((wr (3 + (I 98 9))) - 7)))) = (0 : Int) →
          ((0 ≤ (wr ((wr (3 + (I 98 9))) - 7)) ∧ (wr ((wr (3 + (I 98 9))) - 7)) < 6) ∧ ((1 : Int) = 0 ∨ (1 : Int) = 1)) ∧
          m_Call i_M_token [.inr (.inr 98)] (mem Ls p (mup I 115 (Int.toNat (wr ((wr (3 + (I 98 9))) - 7))) 1) L) (fun v M' =>
            m_Wp i_M_lineRead 190 kc ks [(0, .inr (.inr 98)), (2, .inl (wr ((wr (3 + (I 98 9))) - 7)))] (v ++ []) M' Q)) ∧
         (¬ ((I 115 (Int.toNat (wr ((wr (3 + (I 98 9))) - 7)))) = (0 : Int)) →
          m_Call i_M_wrong [.inr (.inr 98), .inl 3] (mem Ls p I L) (fun v M' =>
            m_Wp i_M_lineRead 178 kc ks [(0, .inr (.inr 98)), (2, .inl (wr ((wr (3 + (I 98 9))) - 7)))] (v ++ []) M' Q)))) ∧
       (¬ ((I 98 9) ≤ (9 : Int)) →
        m_Call i_M_wrong [.inr (.inr 98), .inl 1] (mem Ls p I L) (fun v M' =>
          m_Wp i_M_lineRead 153 kc ks [(0, .inr (.inr 98))] (v ++ []) M' Q)))))))) :
    m_Wp i_M_lineRead 122 kc ks [(0, .inr (.inr 98))] [] (mem Ls p I L) Q := by
  skip <;> exact m_wp_of 31 [] h
set_option maxHeartbeats 4000000 in
set_option maxRecDepth 20000 in
theorem T_M_lineRead_227 {Ls p kc ks : Nat}  {I L : Nat → Nat → Int} {x1 y0 : Int} {Q : List mV → mM → Prop}
    (h : ((¬ y0 = (0 : Int) →
    m_Call i_M_token [.inr (.inr 98)] (mem Ls p I L) (fun v M' =>
      m_Wp i_M_lineRead 240 kc ks [(0, .inr (.inr 98)), (1, .inl x1)] (v ++ []) M' Q)) ∧
   (¬ (¬ y0 = (0 : Int)) →
    m_Call i_M_wrong [.inr (.inr 98), .inl 1] (mem Ls p I L) (fun v M' =>
      m_Wp i_M_lineRead 235 kc ks [(0, .inr (.inr 98)), (1, .inl x1)] (v ++ []) M' Q)))) :
    m_Wp i_M_lineRead 227 kc ks [(0, .inr (.inr 98)), (1, .inl x1)] [.inl y0] (mem Ls p I L) Q := by
  skip <;> exact m_wp_of 4 [] h
set_option maxHeartbeats 4000000 in
set_option maxRecDepth 20000 in
theorem T_M_lineRead_153 {Ls p kc ks : Nat}  {I L : Nat → Nat → Int} {y0 : Int} {Q : List mV → mM → Prop}
    (h : (y0 = 0 ∨ y0 = 1) ∧
  Q [.inl y0] (mem Ls p I L)) :
    m_Wp i_M_lineRead 153 kc ks [(0, .inr (.inr 98))] [.inl y0] (mem Ls p I L) Q := by
  skip <;> exact m_wp_of 1 [] h
set_option maxHeartbeats 4000000 in
set_option maxRecDepth 20000 in
theorem T_M_lineRead_190 {Ls p kc ks : Nat}  {I L : Nat → Nat → Int} {x2 : Int} {Q : List mV → mM → Prop}
    (h : (0 ≤ x2 ∧ x2 < 6) ∧
  m_Call i_M_sumRead [.inr (.inr 98)] (mem Ls p (mup I 116 (Int.toNat x2) (I 98 21)) L) (fun v M' =>
    m_Wp i_M_lineRead 204 kc ks [(0, .inr (.inr 98)), (2, .inl x2)] (v ++ []) M' Q)) :
    m_Wp i_M_lineRead 190 kc ks [(0, .inr (.inr 98)), (2, .inl x2)] [] (mem Ls p I L) Q := by
  skip <;> exact m_wp_of 8 [] h
set_option maxHeartbeats 4000000 in
set_option maxRecDepth 20000 in
theorem T_M_lineRead_178 {Ls p kc ks : Nat}  {I L : Nat → Nat → Int} {x2 y0 : Int} {Q : List mV → mM → Prop}
    (h : (y0 = 0 ∨ y0 = 1) ∧
  Q [.inl y0] (mem Ls p I L)) :
    m_Wp i_M_lineRead 178 kc ks [(0, .inr (.inr 98)), (2, .inl x2)] [.inl y0] (mem Ls p I L) Q := by
  skip <;> exact m_wp_of 1 [] h
set_option maxHeartbeats 4000000 in
set_option maxRecDepth 20000 in
theorem T_M_lineRead_240 {Ls p kc ks : Nat}  {I L : Nat → Nat → Int} {x1 : Int} {Q : List mV → mM → Prop}
    (h : ((1 : Int) = 0 ∨ (1 : Int) = 1) ∧
  Q [.inl 1] (mem Ls p I L)) :
    m_Wp i_M_lineRead 240 kc ks [(0, .inr (.inr 98)), (1, .inl x1)] [] (mem Ls p I L) Q := by
  skip <;> exact m_wp_of 2 [] h
set_option maxHeartbeats 4000000 in
set_option maxRecDepth 20000 in
theorem T_M_lineRead_235 {Ls p kc ks : Nat}  {I L : Nat → Nat → Int} {x1 y0 : Int} {Q : List mV → mM → Prop}
    (h : (y0 = 0 ∨ y0 = 1) ∧
  Q [.inl y0] (mem Ls p I L)) :
    m_Wp i_M_lineRead 235 kc ks [(0, .inr (.inr 98)), (1, .inl x1)] [.inl y0] (mem Ls p I L) Q := by
  skip <;> exact m_wp_of 1 [] h
set_option maxHeartbeats 4000000 in
set_option maxRecDepth 20000 in
theorem T_M_lineRead_204 {Ls p kc ks : Nat}  {I L : Nat → Nat → Int} {x2 y0 : Int} {Q : List mV → mM → Prop}
    (h : (0 ≤ x2 ∧ x2 < 6) ∧
  ((¬ y0 = (0 : Int) →
    m_Call i_M_isSign [.inr (.inr 98), .inl 59] (mem Ls p (mup I 117 (Int.toNat x2) (I 98 21)) L) (fun v M' =>
      m_Wp i_M_lineRead 227 kc ks [(0, .inr (.inr 98)), (1, .inl y0)] (v ++ []) M' Q)) ∧
   (¬ (¬ y0 = (0 : Int)) →
    ((0 : Int) = 0 ∨ (0 : Int) = 1) ∧
    Q [.inl 0] (mem Ls p (mup I 117 (Int.toNat x2) (I 98 21)) L)))) :
    m_Wp i_M_lineRead 204 kc ks [(0, .inr (.inr 98)), (2, .inl x2)] [.inl y0] (mem Ls p I L) Q := by
  skip <;> exact m_wp_of 13 [] h
set_option maxHeartbeats 4000000 in
set_option maxRecDepth 20000 in
theorem E_M_text {Ls p : Nat}  {I L : Nat → Nat → Int} {a0 : Int} {Q : List mV → mM → Prop}
    (h : ((a0 < (0 : Int) →
    Q [.inl (-2)] (mem Ls p (mup I 98 2 0) L)) ∧
   (¬ (a0 < (0 : Int)) →
    ((a0 ≤ (I 98 1) →
      m_Call i_M_plain [.inr (.inr 98)] (mem Ls p (mup (mup (mup (mup (mup (mup I 98 2 0) 98 6 a0) 98 1 0) 98 4 0) 98 5 (-1)) 98 7 0) L) (fun v M' =>
        m_Wp i_M_text 49 0 0 [(0, .inr (.inr 98)), (1, .inl a0)] (v ++ []) M' Q)) ∧
     (¬ (a0 ≤ (I 98 1)) →
      Q [.inl (-2)] (mem Ls p (mup I 98 2 0) L)))))) :
    m_Call i_M_text [.inr (.inr 98), .inl a0] (mem Ls p I L) Q := by
  have he : m_ent 0 ([.inr (.inr 98), .inl a0] : List mV) = [(0, .inr (.inr 98)), (1, .inl a0)] := rfl
  skip <;> exact m_call_at 26 [55] he h
set_option maxHeartbeats 4000000 in
set_option maxRecDepth 20000 in
theorem T_M_text_49 {Ls p kc ks : Nat}  {I L : Nat → Nat → Int} {x1 : Int} {Q : List mV → mM → Prop}
    (h : m_Call i_M_token [.inr (.inr 98)] (mem Ls p I L) (fun v M' =>
    m_Wp i_M_text 53 kc ks [(0, .inr (.inr 98)), (1, .inl x1)] (v ++ []) M' Q)) :
    m_Wp i_M_text 49 kc ks [(0, .inr (.inr 98)), (1, .inl x1)] [] (mem Ls p I L) Q := by
  skip <;> exact m_wp_of 2 [55] h
set_option maxHeartbeats 4000000 in
set_option maxRecDepth 20000 in
theorem T_M_text_53 {Ls p kc ks : Nat}  {I L : Nat → Nat → Int} {x1 : Int} {Q : List mV → mM → Prop}
    (h : m_Wp i_M_text 55 kc ks [(0, .inr (.inr 98)), (2, .inl 0)] [] (mem Ls p I L) Q) :
    m_Wp i_M_text 53 kc ks [(0, .inr (.inr 98)), (1, .inl x1)] [] (mem Ls p I L) Q := by
  skip <;> exact m_wp_of 3 [55] h
set_option maxHeartbeats 4000000 in
set_option maxRecDepth 20000 in
theorem T_M_text_55 {Ls p kc ks : Nat}  {I L : Nat → Nat → Int} {x2 : Int} {Q : List mV → mM → Prop}
    (h : (((I 98 8) = (0 : Int) →
    m_Call i_M_keepText [.inr (.inr 98)] (mem Ls p I L) (fun v M' =>
      m_Wp i_M_text 81 kc ks [(0, .inr (.inr 98)), (2, .inl x2)] (v ++ []) M' Q)) ∧
   (¬ ((I 98 8) = (0 : Int)) →
    m_Call i_M_lineRead [.inr (.inr 98)] (mem Ls p I L) (fun v M' =>
      m_Wp i_M_text 66 kc ks [(0, .inr (.inr 98)), (2, .inl x2)] (v ++ []) M' Q)))) :
    m_Wp i_M_text 55 kc ks [(0, .inr (.inr 98)), (2, .inl x2)] [] (mem Ls p I L) Q := by
  skip <;> exact m_wp_of 6 [55] h
set_option maxHeartbeats 4000000 in
set_option maxRecDepth 20000 in
theorem T_M_text_81 {Ls p kc ks : Nat}  {I L : Nat → Nat → Int} {x2 : Int} {Q : List mV → mM → Prop}
    (h : Q [.inl x2] (mem Ls p I L)) :
    m_Wp i_M_text 81 kc ks [(0, .inr (.inr 98)), (2, .inl x2)] [] (mem Ls p I L) Q := by
  skip <;> exact m_wp_of 2 [55] h
set_option maxHeartbeats 4000000 in
set_option maxRecDepth 20000 in
theorem T_M_text_66 {Ls p kc ks : Nat}  {I L : Nat → Nat → Int} {x2 y0 : Int} {Q : List mV → mM → Prop}
    (h : ((¬ y0 = (0 : Int) →
    m_Wp i_M_text 55 kc ks [(0, .inr (.inr 98)), (2, .inl (wr (x2 + 1)))] [] (mem Ls p I L) Q) ∧
   (¬ (¬ y0 = (0 : Int)) →
    Q [.inl (-1)] (mem Ls p I L)))) :
    m_Wp i_M_text 66 kc ks [(0, .inr (.inr 98)), (2, .inl x2)] [.inl y0] (mem Ls p I L) Q := by
  skip <;> exact m_wp_of 4 [55] h
set_option maxHeartbeats 4000000 in
set_option maxRecDepth 20000 in
theorem E_M_fault {Ls p : Nat}  {I L : Nat → Nat → Int} {a0 : Int} {Q : List mV → mM → Prop}
    (h : ((¬ a0 = (0 : Int) →
    ((¬ a0 = (1 : Int) →
      Q [.inl (-1)] (mem Ls p (mup I 98 2 0) L)) ∧
     (¬ (¬ a0 = (1 : Int)) →
      Q [.inl (I 98 5)] (mem Ls p (mup I 98 2 0) L)))) ∧
   (¬ (¬ a0 = (0 : Int)) →
    Q [.inl (I 98 4)] (mem Ls p (mup I 98 2 0) L)))) :
    m_Call i_M_fault [.inr (.inr 98), .inl a0] (mem Ls p I L) Q := by
  have he : m_ent 0 ([.inr (.inr 98), .inl a0] : List mV) = [(0, .inr (.inr 98)), (1, .inl a0)] := rfl
  skip <;> exact m_call_at 13 [] he h
set_option maxHeartbeats 4000000 in
set_option maxRecDepth 20000 in
theorem E_M_named {Ls p : Nat}  {I L : Nat → Nat → Int} {a0 : Int} {Q : List mV → mM → Prop}
    (h : m_Call i_M_find [.inr (.inr 103), .inl 0, .inl (I 98 12), .inl a0] (mem Ls p (mup I 98 2 0) L) (fun v M' =>
    m_Wp i_M_named 18 0 0 [(0, .inr (.inr 98)), (1, .inl a0)] (v ++ []) M' Q)) :
    m_Call i_M_named [.inr (.inr 98), .inl a0] (mem Ls p I L) Q := by
  have he : m_ent 0 ([.inr (.inr 98), .inl a0] : List mV) = [(0, .inr (.inr 98)), (1, .inl a0)] := rfl
  skip <;> exact m_call_at 10 [] he h
set_option maxHeartbeats 4000000 in
set_option maxRecDepth 20000 in
theorem T_M_named_18 {Ls p kc ks : Nat}  {I L : Nat → Nat → Int} {x1 y0 : Int} {Q : List mV → mM → Prop}
    (h : Q [.inl y0] (mem Ls p I L)) :
    m_Wp i_M_named 18 kc ks [(0, .inr (.inr 98)), (1, .inl x1)] [.inl y0] (mem Ls p I L) Q := by
  skip <;> exact m_wp_of 1 [] h
set_option maxHeartbeats 4000000 in
set_option maxRecDepth 20000 in
theorem E_M_isMan {Ls p : Nat}  {I L : Nat → Nat → Int} {a0 : Int} {Q : List mV → mM → Prop}
    (h : ((a0 < (0 : Int) →
    ((0 : Int) = 0 ∨ (0 : Int) = 1) ∧
    Q [.inl 0] (mem Ls p I L)) ∧
   (¬ (a0 < (0 : Int)) →
    (((I 98 12) ≤ a0 →
      ((0 : Int) = 0 ∨ (0 : Int) = 1) ∧
      Q [.inl 0] (mem Ls p I L)) ∧
     (¬ ((I 98 12) ≤ a0) →
      ((1 : Int) = 0 ∨ (1 : Int) = 1) ∧
      Q [.inl 1] (mem Ls p I L)))))) :
    m_Call i_M_isMan [.inr (.inr 98), .inl a0] (mem Ls p I L) Q := by
  have he : m_ent 0 ([.inr (.inr 98), .inl a0] : List mV) = [(0, .inr (.inr 98)), (1, .inl a0)] := rfl
  skip <;> exact m_call_at 10 [] he h
set_option maxHeartbeats 4000000 in
set_option maxRecDepth 20000 in
theorem E_M_fails {Ls p : Nat}  {I L : Nat → Nat → Int} {a0 : Int} {Q : List mV → mM → Prop}
    (h : Q [.inl 0] (mem Ls p (mup I 98 2 a0) L)) :
    m_Call i_M_fails [.inr (.inr 98), .inl a0] (mem Ls p I L) Q := by
  have he : m_ent 0 ([.inr (.inr 98), .inl a0] : List mV) = [(0, .inr (.inr 98)), (1, .inl a0)] := rfl
  skip <;> exact m_call_at 5 [] he h
set_option maxHeartbeats 4000000 in
set_option maxRecDepth 20000 in
theorem E_M_placeOf {Ls p : Nat}  {I L : Nat → Nat → Int} {a0 : Int} {Q : List mV → mM → Prop}
    (h : m_Wp i_M_placeOf 2 0 0 [(0, .inr (.inr 98)), (1, .inl a0), (2, .inl 0)] [] (mem Ls p I L) Q) :
    m_Call i_M_placeOf [.inr (.inr 98), .inl a0] (mem Ls p I L) Q := by
  have he : m_ent 0 ([.inr (.inr 98), .inl a0] : List mV) = [(0, .inr (.inr 98)), (1, .inl a0)] := rfl
  skip <;> exact m_call_at 3 [2] he h
set_option maxHeartbeats 4000000 in
set_option maxRecDepth 20000 in
theorem T_M_placeOf_2 {Ls p kc ks : Nat}  {I L : Nat → Nat → Int} {x1 x2 : Int} {Q : List mV → mM → Prop}
    (h : (0 ≤ (0 : Int) ∧ (0 : Int) < 2) ∧
  (((I 130 0) ≤ x2 →
    Q [.inl (-1)] (mem Ls p I L)) ∧
   (¬ ((I 130 0) ≤ x2) →
    (0 ≤ x2 ∧ x2 < 40) ∧
    ((¬ (I 129 (Int.toNat x2)) = x1 →
      m_Wp i_M_placeOf 2 kc ks [(0, .inr (.inr 98)), (1, .inl x1), (2, .inl (wr (x2 + 1)))] [] (mem Ls p I L) Q) ∧
     (¬ (¬ (I 129 (Int.toNat x2)) = x1) →
      Q [.inl x2] (mem Ls p I L)))))) :
    m_Wp i_M_placeOf 2 kc ks [(0, .inr (.inr 98)), (1, .inl x1), (2, .inl x2)] [] (mem Ls p I L) Q := by
  skip <;> exact m_wp_of 16 [2] h
set_option maxHeartbeats 4000000 in
set_option maxRecDepth 20000 in
theorem E_M_man {Ls p : Nat}  {I L : Nat → Nat → Int} {a0 a1 : Int} {Q : List mV → mM → Prop}
    (h : m_Call i_M_isMan [.inr (.inr 98), .inl a0] (mem Ls p (mup I 98 2 0) L) (fun v M' =>
    m_Wp i_M_man 10 0 0 [(0, .inr (.inr 98)), (1, .inl a0), (2, .inl a1)] (v ++ []) M' Q)) :
    m_Call i_M_man [.inr (.inr 98), .inl a0, .inl a1] (mem Ls p I L) Q := by
  have he : m_ent 0 ([.inr (.inr 98), .inl a0, .inl a1] : List mV) = [(0, .inr (.inr 98)), (1, .inl a0), (2, .inl a1)] := rfl
  skip <;> exact m_call_at 6 [] he h
set_option maxHeartbeats 4000000 in
set_option maxRecDepth 20000 in
theorem T_M_man_10 {Ls p kc ks : Nat}  {I L : Nat → Nat → Int} {x1 x2 y0 : Int} {Q : List mV → mM → Prop}
    (h : ((¬ y0 = (0 : Int) →
    ((x2 = (0 : Int) →
      (0 ≤ x1 ∧ x1 < 12) ∧
      Q [.inl (I 104 (Int.toNat x1))] (mem Ls p I L)) ∧
     (¬ x2 = (0 : Int) →
      ((x2 = (1 : Int) →
      (0 ≤ x1 ∧ x1 < 12) ∧
      Q [.inl (I 105 (Int.toNat x1))] (mem Ls p I L)) ∧
     (¬ x2 = (1 : Int) →
      ((x2 = (2 : Int) →
      (0 ≤ x1 ∧ x1 < 12) ∧
      Q [.inl (I 127 (Int.toNat x1))] (mem Ls p I L)) ∧
     (¬ x2 = (2 : Int) →
      ((x2 = (3 : Int) →
      (0 ≤ x1 ∧ x1 < 12) ∧
      Q [.inl (I 107 (Int.toNat x1))] (mem Ls p I L)) ∧
     (¬ x2 = (3 : Int) →
      ((x2 = (4 : Int) →
      (0 ≤ x1 ∧ x1 < 12) ∧
      Q [.inl (I 125 (Int.toNat x1))] (mem Ls p I L)) ∧
     (¬ x2 = (4 : Int) →
      ((x2 = (5 : Int) →
      (0 ≤ x1 ∧ x1 < 12) ∧
      Q [.inl (I 126 (Int.toNat x1))] (mem Ls p I L)) ∧
     (¬ x2 = (5 : Int) →
      ((x2 = (6 : Int) →
      (0 ≤ x1 ∧ x1 < 12) ∧
      Q [.inl (I 128 (Int.toNat x1))] (mem Ls p I L)) ∧
     (¬ x2 = (6 : Int) →
      ((x2 = (7 : Int) →
      m_Call i_M_placeOf [.inr (.inr 98), .inl x1] (mem Ls p I L) (fun v M' =>
        m_Wp i_M_man 122 kc ks [(0, .inr (.inr 98)), (1, .inl x1), (2, .inl x2)] (v ++ []) M' Q)) ∧
     (¬ x2 = (7 : Int) →
      m_Call i_M_fails [.inr (.inr 98), .inl 2] (mem Ls p I L) (fun v M' =>
        m_Wp i_M_man 128 kc ks [(0, .inr (.inr 98)), (1, .inl x1), (2, .inl x2)] (v ++ []) M' Q)))))))))))))))))) ∧
   (¬ (¬ y0 = (0 : Int)) →
    m_Call i_M_fails [.inr (.inr 98), .inl 1] (mem Ls p I L) (fun v M' =>
      m_Wp i_M_man 18 kc ks [(0, .inr (.inr 98)), (1, .inl x1), (2, .inl x2)] (v ++ []) M' Q)))) :
    m_Wp i_M_man 10 kc ks [(0, .inr (.inr 98)), (1, .inl x1), (2, .inl x2)] [.inl y0] (mem Ls p I L) Q := by
  skip <;> exact m_wp_of 8 [] h
set_option maxHeartbeats 4000000 in
set_option maxRecDepth 20000 in
theorem T_M_man_122 {Ls p kc ks : Nat}  {I L : Nat → Nat → Int} {x1 x2 y0 : Int} {Q : List mV → mM → Prop}
    (h : Q [.inl y0] (mem Ls p I L)) :
    m_Wp i_M_man 122 kc ks [(0, .inr (.inr 98)), (1, .inl x1), (2, .inl x2)] [.inl y0] (mem Ls p I L) Q := by
  skip <;> exact m_wp_of 1 [] h
set_option maxHeartbeats 4000000 in
set_option maxRecDepth 20000 in
theorem T_M_man_128 {Ls p kc ks : Nat}  {I L : Nat → Nat → Int} {x1 x2 y0 : Int} {Q : List mV → mM → Prop}
    (h : Q [.inl y0] (mem Ls p I L)) :
    m_Wp i_M_man 128 kc ks [(0, .inr (.inr 98)), (1, .inl x1), (2, .inl x2)] [.inl y0] (mem Ls p I L) Q := by
  skip <;> exact m_wp_of 1 [] h
set_option maxHeartbeats 4000000 in
set_option maxRecDepth 20000 in
theorem T_M_man_18 {Ls p kc ks : Nat}  {I L : Nat → Nat → Int} {x1 x2 y0 : Int} {Q : List mV → mM → Prop}
    (h : Q [.inl y0] (mem Ls p I L)) :
    m_Wp i_M_man 18 kc ks [(0, .inr (.inr 98)), (1, .inl x1), (2, .inl x2)] [.inl y0] (mem Ls p I L) Q := by
  skip <;> exact m_wp_of 1 [] h
set_option maxHeartbeats 4000000 in
set_option maxRecDepth 20000 in
theorem E_M_thrown {Ls p : Nat}  {I L : Nat → Nat → Int} {Q : List mV → mM → Prop}
    (h : Q [.inl (I 98 2)] (mem Ls p I L)) :
    m_Call i_M_thrown [.inr (.inr 98)] (mem Ls p I L) Q := by
  have he : m_ent 0 ([.inr (.inr 98)] : List mV) = [(0, .inr (.inr 98))] := rfl
  skip <;> exact m_call_at 3 [] he h
set_option maxHeartbeats 4000000 in
set_option maxRecDepth 20000 in
theorem E_M_isMeeting {Ls p : Nat}  {I L : Nat → Nat → Int} {a0 : Int} {Q : List mV → mM → Prop}
    (h : ((a0 < (0 : Int) →
    ((0 : Int) = 0 ∨ (0 : Int) = 1) ∧
    Q [.inl 0] (mem Ls p I L)) ∧
   (¬ (a0 < (0 : Int)) →
    (((I 98 14) ≤ a0 →
      ((0 : Int) = 0 ∨ (0 : Int) = 1) ∧
      Q [.inl 0] (mem Ls p I L)) ∧
     (¬ ((I 98 14) ≤ a0) →
      ((1 : Int) = 0 ∨ (1 : Int) = 1) ∧
      Q [.inl 1] (mem Ls p I L)))))) :
    m_Call i_M_isMeeting [.inr (.inr 98), .inl a0] (mem Ls p I L) Q := by
  have he : m_ent 0 ([.inr (.inr 98), .inl a0] : List mV) = [(0, .inr (.inr 98)), (1, .inl a0)] := rfl
  skip <;> exact m_call_at 10 [] he h
set_option maxHeartbeats 4000000 in
set_option maxRecDepth 20000 in
theorem E_M_meeting {Ls p : Nat}  {I L : Nat → Nat → Int} {a0 a1 : Int} {Q : List mV → mM → Prop}
    (h : m_Call i_M_isMeeting [.inr (.inr 98), .inl a0] (mem Ls p (mup I 98 2 0) L) (fun v M' =>
    m_Wp i_M_meeting 10 0 0 [(0, .inr (.inr 98)), (1, .inl a0), (2, .inl a1)] (v ++ []) M' Q)) :
    m_Call i_M_meeting [.inr (.inr 98), .inl a0, .inl a1] (mem Ls p I L) Q := by
  have he : m_ent 0 ([.inr (.inr 98), .inl a0, .inl a1] : List mV) = [(0, .inr (.inr 98)), (1, .inl a0), (2, .inl a1)] := rfl
  skip <;> exact m_call_at 6 [] he h
set_option maxHeartbeats 4000000 in
set_option maxRecDepth 20000 in
theorem T_M_meeting_10 {Ls p kc ks : Nat}  {I L : Nat → Nat → Int} {x1 x2 y0 : Int} {Q : List mV → mM → Prop}
    (h : ((¬ y0 = (0 : Int) →
    ((x2 = (0 : Int) →
      (0 ≤ x1 ∧ x1 < 12) ∧
      Q [.inl (I 110 (Int.toNat x1))] (mem Ls p I L)) ∧
     (¬ x2 = (0 : Int) →
      ((x2 = (1 : Int) →
      (0 ≤ x1 ∧ x1 < 12) ∧
      Q [.inl (I 111 (Int.toNat x1))] (mem Ls p I L)) ∧
     (¬ x2 = (1 : Int) →
      ((x2 = (2 : Int) →
      (0 ≤ x1 ∧ x1 < 12) ∧
      Q [.inl (I 133 (Int.toNat x1))] (mem Ls p I L)) ∧
     (¬ x2 = (2 : Int) →
      ((x2 = (3 : Int) →
      (0 ≤ x1 ∧ x1 < 12) ∧
      Q [.inl (I 135 (Int.toNat x1))] (mem Ls p I L)) ∧
     (¬ x2 = (3 : Int) →
      ((x2 = (4 : Int) →
      (0 ≤ (wr (2 * x1)) ∧ (wr (2 * x1)) < 24) ∧
      Q [.inl (I 134 (Int.toNat (wr (2 * x1))))] (mem Ls p I L)) ∧
     (¬ x2 = (4 : Int) →
      ((x2 = (5 : Int) →
      (0 ≤ (wr ((wr (2 * x1)) + 1)) ∧ (wr ((wr (2 * x1)) + 1)) < 24) ∧
      Q [.inl (I 134 (Int.toNat (wr ((wr (2 * x1)) + 1))))] (mem Ls p I L)) ∧
     (¬ x2 = (5 : Int) →
      Q [.inl (-1)] (mem Ls p I L)))))))))))))) ∧
   (¬ (¬ y0 = (0 : Int)) →
    Q [.inl (-1)] (mem Ls p I L)))) :
    m_Wp i_M_meeting 10 kc ks [(0, .inr (.inr 98)), (1, .inl x1), (2, .inl x2)] [.inl y0] (mem Ls p I L) Q := by
  skip <;> exact m_wp_of 12 [] h
set_option maxHeartbeats 4000000 in
set_option maxRecDepth 20000 in
theorem E_M_shows {Ls p : Nat}  {I L : Nat → Nat → Int} {a0 : Int} {Q : List mV → mM → Prop}
    (h : m_Call i_M_isMan [.inr (.inr 98), .inl a0] (mem Ls p (mup I 98 2 0) L) (fun v M' =>
    m_Wp i_M_shows 10 0 0 [(0, .inr (.inr 98)), (1, .inl a0)] (v ++ []) M' Q)) :
    m_Call i_M_shows [.inr (.inr 98), .inl a0] (mem Ls p I L) Q := by
  have he : m_ent 0 ([.inr (.inr 98), .inl a0] : List mV) = [(0, .inr (.inr 98)), (1, .inl a0)] := rfl
  skip <;> exact m_call_at 6 [] he h
set_option maxHeartbeats 4000000 in
set_option maxRecDepth 20000 in
theorem T_M_shows_10 {Ls p kc ks : Nat}  {I L : Nat → Nat → Int} {x1 y0 : Int} {Q : List mV → mM → Prop}
    (h : ((y0 = (0 : Int) →
    Q [.inl (-2147483648)] (mem Ls p I L)) ∧
   (¬ (y0 = (0 : Int)) →
    (0 ≤ (0 : Int) ∧ (0 : Int) < 2) ∧
    (0 ≤ x1 ∧ x1 < 12) ∧
    Q [.inl (wr ((I 136 0) + (I 127 (Int.toNat x1))))] (mem Ls p I L)))) :
    m_Wp i_M_shows 10 kc ks [(0, .inr (.inr 98)), (1, .inl x1)] [.inl y0] (mem Ls p I L) Q := by
  skip <;> exact m_wp_of 13 [] h
set_option maxHeartbeats 4000000 in
set_option maxRecDepth 20000 in
theorem E_M_waitsOf {Ls p : Nat}  {I L : Nat → Nat → Int} {a0 : Int} {Q : List mV → mM → Prop}
    (h : (((I 98 71) = (0 : Int) →
    (0 ≤ a0 ∧ a0 < 12) ∧
    Q [.inl (I 105 (Int.toNat a0))] (mem Ls p I L)) ∧
   (¬ ((I 98 71) = (0 : Int)) →
    Q [.inl 30] (mem Ls p I L)))) :
    m_Call i_M_waitsOf [.inr (.inr 98), .inl a0] (mem Ls p I L) Q := by
  have he : m_ent 0 ([.inr (.inr 98), .inl a0] : List mV) = [(0, .inr (.inr 98)), (1, .inl a0)] := rfl
  skip <;> exact m_call_at 9 [] he h
set_option maxHeartbeats 4000000 in
set_option maxRecDepth 20000 in
theorem E_M_rateIn {Ls p : Nat}  {I L : Nat → Nat → Int} {a0 : Int} {Q : List mV → mM → Prop}
    (h : ((¬ a0 = (I 98 73) →
    (0 ≤ a0 ∧ a0 < 12) ∧
    Q [.inl (I 107 (Int.toNat a0))] (mem Ls p I L)) ∧
   (¬ (¬ a0 = (I 98 73)) →
    Q [.inl (I 98 74)] (mem Ls p I L)))) :
    m_Call i_M_rateIn [.inr (.inr 98), .inl a0] (mem Ls p I L) Q := by
  have he : m_ent 0 ([.inr (.inr 98), .inl a0] : List mV) = [(0, .inr (.inr 98)), (1, .inl a0)] := rfl
  skip <;> exact m_call_at 10 [] he h
set_option maxHeartbeats 4000000 in
set_option maxRecDepth 20000 in
theorem E_M_layNames {Ls p : Nat}  {I L : Nat → Nat → Int} {a0 a1 a2 : Int} {Q : List mV → mM → Prop}
    (h : (0 ≤ a1 ∧ a1 < 12) ∧
  (0 ≤ (0 : Int) ∧ (0 : Int) < 7) ∧
  m_Call i_M_waitsOf [.inr (.inr 98), .inl a1] (mem Ls p I (mup L 123 0 (I 104 (Int.toNat a1)))) (fun v M' =>
    m_Wp i_M_layNames 23 0 0 [(0, .inr (.inr 98)), (1, .inl a0), (2, .inl a1), (3, .inl a2)] (v ++ [.inl 1, .inr (.inr 123)]) M' Q)) :
    m_Call i_M_layNames [.inr (.inr 98), .inl a0, .inl a1, .inl a2] (mem Ls p I L) Q := by
  have he : m_ent 0 ([.inr (.inr 98), .inl a0, .inl a1, .inl a2] : List mV) = [(0, .inr (.inr 98)), (1, .inl a0), (2, .inl a1), (3, .inl a2)] := rfl
  skip <;> exact m_call_at 15 [] he h
set_option maxHeartbeats 4000000 in
set_option maxRecDepth 20000 in
theorem T_M_layNames_23 {Ls p kc ks : Nat}  {I L : Nat → Nat → Int} {x1 x2 x3 y1 y2 : Int} {Q : List mV → mM → Prop}
    (h : (0 ≤ y1 ∧ y1 < 7) ∧
  (0 ≤ (wr ((wr (6 * x1)) + x2)) ∧ (wr ((wr (6 * x1)) + x2)) < 12) ∧
  (0 ≤ (2 : Int) ∧ (2 : Int) < 7) ∧
  m_Call i_M_rateIn [.inr (.inr 98), .inl x2] (mem Ls p I (mup (mup L 123 (Int.toNat y1) y2) 123 2 (I 127 (Int.toNat (wr ((wr (6 * x1)) + x2)))))) (fun v M' =>
    m_Wp i_M_layNames 53 kc ks [(0, .inr (.inr 98)), (1, .inl x1), (2, .inl x2), (3, .inl x3)] (v ++ [.inl 3, .inr (.inr 123)]) M' Q)) :
    m_Wp i_M_layNames 23 kc ks [(0, .inr (.inr 98)), (1, .inl x1), (2, .inl x2), (3, .inl x3)] [.inl y2, .inl y1, .inr (.inr 123)] (mem Ls p I L) Q := by
  skip <;> exact m_wp_of 21 [] h
set_option maxHeartbeats 4000000 in
set_option maxRecDepth 20000 in
theorem T_M_layNames_53 {Ls p kc ks : Nat}  {I L : Nat → Nat → Int} {x1 x2 x3 y1 y2 : Int} {Q : List mV → mM → Prop}
    (h : (0 ≤ y1 ∧ y1 < 7) ∧
  (0 ≤ (4 : Int) ∧ (4 : Int) < 7) ∧
  (0 ≤ (wr ((wr (6 * x1)) + x2)) ∧ (wr ((wr (6 * x1)) + x2)) < 12) ∧
  (0 ≤ (5 : Int) ∧ (5 : Int) < 7) ∧
  (0 ≤ x1 ∧ x1 < 2) ∧
  (0 ≤ (6 : Int) ∧ (6 : Int) < 7) ∧
  Q [] (mem Ls p I (mup (mup (mup (mup L 123 (Int.toNat y1) y2) 123 4 x3) 123 5 (I 128 (Int.toNat (wr ((wr (6 * x1)) + x2))))) 123 6 (I 136 (Int.toNat x1))))) :
    m_Wp i_M_layNames 53 kc ks [(0, .inr (.inr 98)), (1, .inl x1), (2, .inl x2), (3, .inl x3)] [.inl y2, .inl y1, .inr (.inr 123)] (mem Ls p I L) Q := by
  skip <;> exact m_wp_of 31 [] h
set_option maxHeartbeats 4000000 in
set_option maxRecDepth 20000 in
theorem E_M_bounded {Ls p : Nat}  {I L : Nat → Nat → Int} {a0 : Int} {Q : List mV → mM → Prop}
    (h : ((¬ (I 98 52) = (0 : Int) →
    ((1 : Int) = (0 : Int) ∨ (1 : Int) = (1 : Int)) ∧
    (((1 : Int) = (0 : Int) →
      Q [.inr (.inl a0)] (mem Ls p (mup I 98 52 1) L)) ∧
     (¬ ((1 : Int) = (0 : Int)) →
      Q [.inr (.inl 0)] (mem Ls p (mup I 98 52 1) L)))) ∧
   (¬ (¬ (I 98 52) = (0 : Int)) →
    (((0 : Int) < (m_lcmp a0 1000000000000) →
      ((1 : Int) = (0 : Int) ∨ (1 : Int) = (1 : Int)) ∧
      (((1 : Int) = (0 : Int) →
        Q [.inr (.inl a0)] (mem Ls p (mup I 98 52 1) L)) ∧
       (¬ ((1 : Int) = (0 : Int)) →
        Q [.inr (.inl 0)] (mem Ls p (mup I 98 52 1) L)))) ∧
     (¬ ((0 : Int) < (m_lcmp a0 1000000000000)) →
      (((0 : Int) ≤ (m_lcmp a0 (-1000000000000)) →
        ((0 : Int) = (0 : Int) ∨ (0 : Int) = (1 : Int)) ∧
        (((0 : Int) = (0 : Int) →
          Q [.inr (.inl a0)] (mem Ls p (mup I 98 52 0) L)) ∧
         (¬ ((0 : Int) = (0 : Int)) →
          Q [.inr (.inl 0)] (mem Ls p (mup I 98 52 0) L)))) ∧
       (¬ ((0 : Int) ≤ (m_lcmp a0 (-1000000000000))) →
        ((1 : Int) = (0 : Int) ∨ (1 : Int) = (1 : Int)) ∧
        (((1 : Int) = (0 : Int) →
          Q [.inr (.inl a0)] (mem Ls p (mup I 98 52 1) L)) ∧
         (¬ ((1 : Int) = (0 : Int)) →
          Q [.inr (.inl 0)] (mem Ls p (mup I 98 52 1) L)))))))))) :
    m_Call i_M_bounded [.inr (.inr 98), .inr (.inl a0)] (mem Ls p I L) Q := by
  have he : m_ent 0 ([.inr (.inr 98), .inr (.inl a0)] : List mV) = [(0, .inr (.inr 98)), (1, .inr (.inl a0))] := rfl
  skip <;> exact m_call_at 24 [] he h
set_option maxHeartbeats 4000000 in
set_option maxRecDepth 20000 in
theorem E_M_times {Ls p : Nat}  {I L : Nat → Nat → Int} {a0 a1 : Int} {Q : List mV → mM → Prop}
    (h : (((m_lcmp a0 0) = (0 : Int) →
    m_Wp i_M_times 48 0 0 [(0, .inr (.inr 98)), (1, .inr (.inl a0)), (3, .inr (.inl a1))] [] (mem Ls p I L) Q) ∧
   (¬ ((m_lcmp a0 0) = (0 : Int)) →
    (((m_lcmp a1 0) = (0 : Int) →
      m_Wp i_M_times 48 0 0 [(0, .inr (.inr 98)), (1, .inr (.inl a0)), (3, .inr (.inl a1))] [] (mem Ls p I L) Q) ∧
     (¬ ((m_lcmp a1 0) = (0 : Int)) →
      (((0 : Int) ≤ (m_lcmp a1 0) →
        m_Wp i_M_times 24 0 0 [(0, .inr (.inr 98)), (1, .inr (.inl a0)), (3, .inr (.inl a1))] [.inr (.inl a1)] (mem Ls p I L) Q) ∧
       (¬ ((0 : Int) ≤ (m_lcmp a1 0)) →
        m_Wp i_M_times 24 0 0 [(0, .inr (.inr 98)), (1, .inr (.inl a0)), (3, .inr (.inl a1))] [.inr (.inl (wl (-a1)))] (mem Ls p I L) Q))))))) :
    m_Call i_M_times [.inr (.inr 98), .inr (.inl a0), .inr (.inl a1)] (mem Ls p I L) Q := by
  have he : m_ent 0 ([.inr (.inr 98), .inr (.inl a0), .inr (.inl a1)] : List mV) = [(0, .inr (.inr 98)), (1, .inr (.inl a0)), (3, .inr (.inl a1))] := rfl
  skip <;> exact m_call_at 16 [24, 39, 48, 49, 64, 69, 86] he h
set_option maxHeartbeats 4000000 in
set_option maxRecDepth 20000 in
theorem T_M_times_48 {Ls p kc ks : Nat}  {I L : Nat → Nat → Int} {x1 x3 : Int} {Q : List mV → mM → Prop}
    (h : m_Wp i_M_times 49 kc ks [(0, .inr (.inr 98)), (1, .inr (.inl x1)), (3, .inr (.inl x3))] [.inl 0] (mem Ls p I L) Q) :
    m_Wp i_M_times 48 kc ks [(0, .inr (.inr 98)), (1, .inr (.inl x1)), (3, .inr (.inl x3))] [] (mem Ls p I L) Q := by
  skip <;> exact m_wp_of 3 [24, 39, 48, 49, 64, 69, 86] h
set_option maxHeartbeats 4000000 in
set_option maxRecDepth 20000 in
theorem T_M_times_24 {Ls p kc ks : Nat}  {I L : Nat → Nat → Int} {x1 x3 y0 : Int} {Q : List mV → mM → Prop}
    (h : (((0 : Int) ≤ (m_lcmp x1 0) →
    m_Wp i_M_times 39 kc ks [(0, .inr (.inr 98)), (1, .inr (.inl x1)), (3, .inr (.inl x3))] [.inr (.inl x1), .inr (.inl 1000000000000), .inr (.inl y0)] (mem Ls p I L) Q) ∧
   (¬ ((0 : Int) ≤ (m_lcmp x1 0)) →
    m_Wp i_M_times 39 kc ks [(0, .inr (.inr 98)), (1, .inr (.inl x1)), (3, .inr (.inl x3))] [.inr (.inl (wl (-x1))), .inr (.inl 1000000000000), .inr (.inl y0)] (mem Ls p I L) Q))) :
    m_Wp i_M_times 24 kc ks [(0, .inr (.inr 98)), (1, .inr (.inl x1)), (3, .inr (.inl x3))] [.inr (.inl y0)] (mem Ls p I L) Q := by
  skip <;> exact m_wp_of 10 [24, 39, 48, 49, 64, 69, 86] h
set_option maxHeartbeats 4000000 in
set_option maxRecDepth 20000 in
theorem T_M_times_49 {Ls p kc ks : Nat}  {I L : Nat → Nat → Int} {x1 x3 y0 : Int} {Q : List mV → mM → Prop}
    (h : ((¬ (I 98 52) = (0 : Int) →
    m_Wp i_M_times 64 kc ks [(0, .inr (.inr 98)), (1, .inr (.inl x1)), (3, .inr (.inl x3))] [.inr (.inr 98)] (mem Ls p I L) Q) ∧
   (¬ (¬ (I 98 52) = (0 : Int)) →
    ((y0 = (0 : Int) →
      m_Wp i_M_times 69 kc ks [(0, .inr (.inr 98)), (1, .inr (.inl x1)), (3, .inr (.inl x3))] [.inl 0, .inr (.inr 98)] (mem Ls p I L) Q) ∧
     (¬ (y0 = (0 : Int)) →
      m_Wp i_M_times 64 kc ks [(0, .inr (.inr 98)), (1, .inr (.inl x1)), (3, .inr (.inl x3))] [.inr (.inr 98)] (mem Ls p I L) Q))))) :
    m_Wp i_M_times 49 kc ks [(0, .inr (.inr 98)), (1, .inr (.inl x1)), (3, .inr (.inl x3))] [.inl y0] (mem Ls p I L) Q := by
  skip <;> exact m_wp_of 10 [24, 39, 48, 49, 64, 69, 86] h
set_option maxHeartbeats 4000000 in
set_option maxRecDepth 20000 in
theorem T_M_times_39 {Ls p kc ks : Nat}  {I L : Nat → Nat → Int} {x1 x3 y0 y1 y2 : Int} {Q : List mV → mM → Prop}
    (h : (¬ y2 = (0 : Int)) ∧
  (((m_lcmp y0 (wl (Int.tdiv y1 y2))) ≤ (0 : Int) →
    m_Wp i_M_times 48 kc ks [(0, .inr (.inr 98)), (1, .inr (.inl x1)), (3, .inr (.inl x3))] [] (mem Ls p I L) Q) ∧
   (¬ ((m_lcmp y0 (wl (Int.tdiv y1 y2))) ≤ (0 : Int)) →
    m_Wp i_M_times 49 kc ks [(0, .inr (.inr 98)), (1, .inr (.inl x1)), (3, .inr (.inl x3))] [.inl 1] (mem Ls p I L) Q))) :
    m_Wp i_M_times 39 kc ks [(0, .inr (.inr 98)), (1, .inr (.inl x1)), (3, .inr (.inl x3))] [.inr (.inl y2), .inr (.inl y1), .inr (.inl y0)] (mem Ls p I L) Q := by
  skip <;> exact m_wp_of 7 [24, 39, 48, 49, 64, 69, 86] h
set_option maxHeartbeats 4000000 in
set_option maxRecDepth 20000 in
theorem T_M_times_64 {Ls p kc ks : Nat}  {I L : Nat → Nat → Int} {x1 x3 : Int} {Q : List mV → mM → Prop}
    (h : m_Wp i_M_times 69 kc ks [(0, .inr (.inr 98)), (1, .inr (.inl x1)), (3, .inr (.inl x3))] [.inl 1, .inr (.inr 98)] (mem Ls p I L) Q) :
    m_Wp i_M_times 64 kc ks [(0, .inr (.inr 98)), (1, .inr (.inl x1)), (3, .inr (.inl x3))] [.inr (.inr 98)] (mem Ls p I L) Q := by
  skip <;> exact m_wp_of 4 [24, 39, 48, 49, 64, 69, 86] h
set_option maxHeartbeats 4000000 in
set_option maxRecDepth 20000 in
theorem T_M_times_69 {Ls p kc ks : Nat}  {I L : Nat → Nat → Int} {x1 x3 y1 : Int} {Q : List mV → mM → Prop}
    (h : (y1 = (0 : Int) ∨ y1 = (1 : Int)) ∧
  ((y1 = (0 : Int) →
    m_Wp i_M_times 86 kc ks [] [.inr (.inl (wl (x1 * x3)))] (mem Ls p (mup I 98 52 y1) L) Q) ∧
   (¬ (y1 = (0 : Int)) →
    m_Wp i_M_times 86 kc ks [] [.inr (.inl 0)] (mem Ls p (mup I 98 52 y1) L) Q))) :
    m_Wp i_M_times 69 kc ks [(0, .inr (.inr 98)), (1, .inr (.inl x1)), (3, .inr (.inl x3))] [.inl y1, .inr (.inr 98)] (mem Ls p I L) Q := by
  skip <;> exact m_wp_of 9 [24, 39, 48, 49, 64, 69, 86] h
set_option maxHeartbeats 4000000 in
set_option maxRecDepth 20000 in
theorem T_M_times_86 {Ls p kc ks : Nat}  {I L : Nat → Nat → Int} {y0 : Int} {Q : List mV → mM → Prop}
    (h : Q [.inr (.inl y0)] (mem Ls p I L)) :
    m_Wp i_M_times 86 kc ks [] [.inr (.inl y0)] (mem Ls p I L) Q := by
  skip <;> exact m_wp_of 2 [24, 39, 48, 49, 64, 69, 86] h
set_option maxHeartbeats 4000000 in
set_option maxRecDepth 20000 in
theorem E_M_compares {Ls p : Nat}  {I L : Nat → Nat → Int} {a0 a1 a2 : Int} {Q : List mV → mM → Prop}
    (h : ((a0 = (5 : Int) →
    (((0 : Int) ≤ (m_lcmp a1 a2) →
      ((0 : Int) = 0 ∨ (0 : Int) = 1) ∧
      Q [.inl 0] (mem Ls p I L)) ∧
     (¬ ((0 : Int) ≤ (m_lcmp a1 a2)) →
      ((1 : Int) = 0 ∨ (1 : Int) = 1) ∧
      Q [.inl 1] (mem Ls p I L)))) ∧
   (¬ a0 = (5 : Int) →
    ((a0 = (6 : Int) →
    (((0 : Int) < (m_lcmp a1 a2) →
      ((0 : Int) = 0 ∨ (0 : Int) = 1) ∧
      Q [.inl 0] (mem Ls p I L)) ∧
     (¬ ((0 : Int) < (m_lcmp a1 a2)) →
      ((1 : Int) = 0 ∨ (1 : Int) = 1) ∧
      Q [.inl 1] (mem Ls p I L)))) ∧
   (¬ a0 = (6 : Int) →
    ((a0 = (7 : Int) →
    ((¬ (m_lcmp a1 a2) = (0 : Int) →
      ((0 : Int) = 0 ∨ (0 : Int) = 1) ∧
      Q [.inl 0] (mem Ls p I L)) ∧
     (¬ (¬ (m_lcmp a1 a2) = (0 : Int)) →
      ((1 : Int) = 0 ∨ (1 : Int) = 1) ∧
      Q [.inl 1] (mem Ls p I L)))) ∧
   (¬ a0 = (7 : Int) →
    ((a0 = (8 : Int) →
    (((m_lcmp a1 a2) = (0 : Int) →
      ((0 : Int) = 0 ∨ (0 : Int) = 1) ∧
      Q [.inl 0] (mem Ls p I L)) ∧
     (¬ ((m_lcmp a1 a2) = (0 : Int)) →
      ((1 : Int) = 0 ∨ (1 : Int) = 1) ∧
      Q [.inl 1] (mem Ls p I L)))) ∧
   (¬ a0 = (8 : Int) →
    ((a0 = (9 : Int) →
    (((m_lcmp a1 a2) < (0 : Int) →
      ((0 : Int) = 0 ∨ (0 : Int) = 1) ∧
      Q [.inl 0] (mem Ls p I L)) ∧
     (¬ ((m_lcmp a1 a2) < (0 : Int)) →
      ((1 : Int) = 0 ∨ (1 : Int) = 1) ∧
      Q [.inl 1] (mem Ls p I L)))) ∧
   (¬ a0 = (9 : Int) →
    (((m_lcmp a1 a2) ≤ (0 : Int) →
      ((0 : Int) = 0 ∨ (0 : Int) = 1) ∧
      Q [.inl 0] (mem Ls p I L)) ∧
     (¬ ((m_lcmp a1 a2) ≤ (0 : Int)) →
      ((1 : Int) = 0 ∨ (1 : Int) = 1) ∧
      Q [.inl 1] (mem Ls p I L)))))))))))))) :
    m_Call i_M_compares [.inl a0, .inr (.inl a1), .inr (.inl a2)] (mem Ls p I L) Q := by
  have he : m_ent 0 ([.inl a0, .inr (.inl a1), .inr (.inl a2)] : List mV) = [(0, .inl a0), (1, .inr (.inl a1)), (3, .inr (.inl a2))] := rfl
  skip <;> exact m_call_at 10 [] he h
set_option maxHeartbeats 4000000 in
set_option maxRecDepth 20000 in
theorem E_M_valueOf {Ls p : Nat}  {I L : Nat → Nat → Int} {a0 : Int} {Q : List mV → mM → Prop}
    (h : (0 ≤ a0 ∧ a0 < 128) ∧
  ((¬ (I 118 (Int.toNat a0)) = (0 : Int) →
    (0 ≤ a0 ∧ a0 < 128) ∧
    ((¬ (I 118 (Int.toNat a0)) = (1 : Int) →
      (0 ≤ a0 ∧ a0 < 128) ∧
      (0 ≤ (I 119 (Int.toNat a0)) ∧ (I 119 (Int.toNat a0)) < 64) ∧
      (0 ≤ a0 ∧ a0 < 128) ∧
      ((¬ (I 118 (Int.toNat a0)) = (2 : Int) →
        (0 ≤ a0 ∧ a0 < 128) ∧
        (0 ≤ (I 120 (Int.toNat a0)) ∧ (I 120 (Int.toNat a0)) < 64) ∧
        (0 ≤ a0 ∧ a0 < 128) ∧
        (((I 118 (Int.toNat a0)) = (3 : Int) →
          (((m_lcmp (L 124 (Int.toNat (I 119 (Int.toNat a0)))) 0) = (0 : Int) →
            Q [.inr (.inl 0)] (mem Ls p I L)) ∧
           (¬ ((m_lcmp (L 124 (Int.toNat (I 119 (Int.toNat a0)))) 0) = (0 : Int)) →
            (((m_lcmp (L 124 (Int.toNat (I 120 (Int.toNat a0)))) 0) = (0 : Int) →
              Q [.inr (.inl 0)] (mem Ls p I L)) ∧
             (¬ ((m_lcmp (L 124 (Int.toNat (I 120 (Int.toNat a0)))) 0) = (0 : Int)) →
              Q [.inr (.inl 1)] (mem Ls p I L)))))) ∧
         (¬ (I 118 (Int.toNat a0)) = (3 : Int) →
          (((I 118 (Int.toNat a0)) = (4 : Int) →
          ((¬ (m_lcmp (L 124 (Int.toNat (I 119 (Int.toNat a0)))) 0) = (0 : Int) →
            Q [.inr (.inl 1)] (mem Ls p I L)) ∧
           (¬ (¬ (m_lcmp (L 124 (Int.toNat (I 119 (Int.toNat a0)))) 0) = (0 : Int)) →
            (((m_lcmp (L 124 (Int.toNat (I 120 (Int.toNat a0)))) 0) = (0 : Int) →
              Q [.inr (.inl 0)] (mem Ls p I L)) ∧
             (¬ ((m_lcmp (L 124 (Int.toNat (I 120 (Int.toNat a0)))) 0) = (0 : Int)) →
              Q [.inr (.inl 1)] (mem Ls p I L)))))) ∧
         (¬ (I 118 (Int.toNat a0)) = (4 : Int) →
          (((I 118 (Int.toNat a0)) = (11 : Int) →
          m_Call i_M_bounded [.inr (.inr 98), .inr (.inl (wl ((L 124 (Int.toNat (I 119 (Int.toNat a0)))) + (L 124 (Int.toNat (I 120 (Int.toNat a0)))))))] (mem Ls p I L) (fun v M' =>
            m_Wp i_M_valueOf 202 0 0 [(0, .inr (.inr 98)), (1, .inl a0), (2, .inr (.inl (L 124 (Int.toNat (I 119 (Int.toNat a0)))))), (4, .inr (.inl (L 124 (Int.toNat (I 120 (Int.toNat a0))))))] (v ++ []) M' Q)) ∧
         (¬ (I 118 (Int.toNat a0)) = (11 : Int) →
          (((I 118 (Int.toNat a0)) = (12 : Int) →
          m_Call i_M_bounded [.inr (.inr 98), .inr (.inl (wl ((L 124 (Int.toNat (I 119 (Int.toNat a0)))) - (L 124 (Int.toNat (I 120 (Int.toNat a0)))))))] (mem Ls p I L) (fun v M' =>
            m_Wp i_M_valueOf 211 0 0 [(0, .inr (.inr 98)), (1, .inl a0), (2, .inr (.inl (L 124 (Int.toNat (I 119 (Int.toNat a0)))))), (4, .inr (.inl (L 124 (Int.toNat (I 120 (Int.toNat a0))))))] (v ++ []) M' Q)) ∧
         (¬ (I 118 (Int.toNat a0)) = (12 : Int) →
          (((I 118 (Int.toNat a0)) = (13 : Int) →
          m_Call i_M_times [.inr (.inr 98), .inr (.inl (L 124 (Int.toNat (I 119 (Int.toNat a0))))), .inr (.inl (L 124 (Int.toNat (I 120 (Int.toNat a0)))))] (mem Ls p I L) (fun v M' =>
            m_Wp i_M_valueOf 219 0 0 [(0, .inr (.inr 98)), (1, .inl a0), (2, .inr (.inl (L 124 (Int.toNat (I 119 (Int.toNat a0)))))), (4, .inr (.inl (L 124 (Int.toNat (I 120 (Int.toNat a0))))))] (v ++ []) M' Q)) ∧
         (¬ (I 118 (Int.toNat a0)) = (13 : Int) →
          (((I 118 (Int.toNat a0)) = (14 : Int) →
          ((¬ (I 98 52) = (0 : Int) →
            ((1 : Int) = (0 : Int) ∨ (1 : Int) = (1 : Int)) ∧
            (((1 : Int) = (0 : Int) →
              (¬ (L 124 (Int.toNat (I 120 (Int.toNat a0)))) = (0 : Int)) ∧
              Q [.inr (.inl (wl (Int.tdiv (L 124 (Int.toNat (I 119 (Int.toNat a0)))) (L 124 (Int.toNat (I 120 (Int.toNat a0)))))))] (mem Ls p (mup I 98 52 1) L)) ∧
             (¬ ((1 : Int) = (0 : Int)) →
              Q [.inr (.inl 0)] (mem Ls p (mup I 98 52 1) L)))) ∧
           (¬ (¬ (I 98 52) = (0 : Int)) →
            ((¬ (m_lcmp (L 124 (Int.toNat (I 120 (Int.toNat a0)))) 0) = (0 : Int) →
              ((0 : Int) = (0 : Int) ∨ (0 : Int) = (1 : Int)) ∧
              (((0 : Int) = (0 : Int) →
                (¬ (L 124 (Int.toNat (I 120 (Int.toNat a0)))) = (0 : Int)) ∧
                Q [.inr (.inl (wl (Int.tdiv (L 124 (Int.toNat (I 119 (Int.toNat a0)))) (L 124 (Int.toNat (I 120 (Int.toNat a0)))))))] (mem Ls p (mup I 98 52 0) L)) ∧
               (¬ ((0 : Int) = (0 : Int)) →
                Q [.inr (.inl 0)] (mem Ls p (mup I 98 52 0) L)))) ∧
             (¬ (¬ (m_lcmp (L 124 (Int.toNat (I 120 (Int.toNat a0)))) 0) = (0 : Int)) →
              ((1 : Int) = (0 : Int) ∨ (1 : Int) = (1 : Int)) ∧
              (((1 : Int) = (0 : Int) →
                (¬ (L 124 (Int.toNat (I 120 (Int.toNat a0)))) = (0 : Int)) ∧
                Q [.inr (.inl (wl (Int.tdiv (L 124 (Int.toNat (I 119 (Int.toNat a0)))) (L 124 (Int.toNat (I 120 (Int.toNat a0)))))))] (mem Ls p (mup I 98 52 1) L)) ∧
               (¬ ((1 : Int) = (0 : Int)) →
                Q [.inr (.inl 0)] (mem Ls p (mup I 98 52 1) L)))))))) ∧
         (¬ (I 118 (Int.toNat a0)) = (14 : Int) →
          (0 ≤ a0 ∧ a0 < 128) ∧
          m_Call i_M_compares [.inl (I 118 (Int.toNat a0)), .inr (.inl (L 124 (Int.toNat (I 119 (Int.toNat a0))))), .inr (.inl (L 124 (Int.toNat (I 120 (Int.toNat a0)))))] (mem Ls p I L) (fun v M' =>
            m_Wp i_M_valueOf 271 0 0 [(0, .inr (.inr 98)), (1, .inl a0), (2, .inr (.inl (L 124 (Int.toNat (I 119 (Int.toNat a0)))))), (4, .inr (.inl (L 124 (Int.toNat (I 120 (Int.toNat a0))))))] (v ++ []) M' Q)))))))))))))) ∧
       (¬ (¬ (I 118 (Int.toNat a0)) = (2 : Int)) →
        ((¬ (m_lcmp (L 124 (Int.toNat (I 119 (Int.toNat a0)))) 0) = (0 : Int) →
          Q [.inr (.inl 0)] (mem Ls p I L)) ∧
         (¬ (¬ (m_lcmp (L 124 (Int.toNat (I 119 (Int.toNat a0)))) 0) = (0 : Int)) →
          Q [.inr (.inl 1)] (mem Ls p I L)))))) ∧
     (¬ (¬ (I 118 (Int.toNat a0)) = (1 : Int)) →
      (0 ≤ a0 ∧ a0 < 128) ∧
      (0 ≤ (I 119 (Int.toNat a0)) ∧ (I 119 (Int.toNat a0)) < 7) ∧
      Q [.inr (.inl (L 123 (Int.toNat (I 119 (Int.toNat a0)))))] (mem Ls p I L)))) ∧
   (¬ (¬ (I 118 (Int.toNat a0)) = (0 : Int)) →
    (0 ≤ a0 ∧ a0 < 128) ∧
    Q [.inr (.inl (I 119 (Int.toNat a0)))] (mem Ls p I L)))) :
    m_Call i_M_valueOf [.inr (.inr 98), .inl a0] (mem Ls p I L) Q := by
  have he : m_ent 0 ([.inr (.inr 98), .inl a0] : List mV) = [(0, .inr (.inr 98)), (1, .inl a0)] := rfl
  skip <;> exact m_call_at 59 [] he h
set_option maxHeartbeats 4000000 in
set_option maxRecDepth 20000 in
theorem T_M_valueOf_202 {Ls p kc ks : Nat}  {I L : Nat → Nat → Int} {x1 x2 x4 y0 : Int} {Q : List mV → mM → Prop}
    (h : Q [.inr (.inl y0)] (mem Ls p I L)) :
    m_Wp i_M_valueOf 202 kc ks [(0, .inr (.inr 98)), (1, .inl x1), (2, .inr (.inl x2)), (4, .inr (.inl x4))] [.inr (.inl y0)] (mem Ls p I L) Q := by
  skip <;> exact m_wp_of 1 [] h
set_option maxHeartbeats 4000000 in
set_option maxRecDepth 20000 in
theorem T_M_valueOf_211 {Ls p kc ks : Nat}  {I L : Nat → Nat → Int} {x1 x2 x4 y0 : Int} {Q : List mV → mM → Prop}
    (h : Q [.inr (.inl y0)] (mem Ls p I L)) :
    m_Wp i_M_valueOf 211 kc ks [(0, .inr (.inr 98)), (1, .inl x1), (2, .inr (.inl x2)), (4, .inr (.inl x4))] [.inr (.inl y0)] (mem Ls p I L) Q := by
  skip <;> exact m_wp_of 1 [] h
set_option maxHeartbeats 4000000 in
set_option maxRecDepth 20000 in
theorem T_M_valueOf_219 {Ls p kc ks : Nat}  {I L : Nat → Nat → Int} {x1 x2 x4 y0 : Int} {Q : List mV → mM → Prop}
    (h : Q [.inr (.inl y0)] (mem Ls p I L)) :
    m_Wp i_M_valueOf 219 kc ks [(0, .inr (.inr 98)), (1, .inl x1), (2, .inr (.inl x2)), (4, .inr (.inl x4))] [.inr (.inl y0)] (mem Ls p I L) Q := by
  skip <;> exact m_wp_of 1 [] h
set_option maxHeartbeats 4000000 in
set_option maxRecDepth 20000 in
theorem T_M_valueOf_271 {Ls p kc ks : Nat}  {I L : Nat → Nat → Int} {x1 x2 x4 y0 : Int} {Q : List mV → mM → Prop}
    (h : ((y0 = (0 : Int) →
    Q [.inr (.inl 0)] (mem Ls p I L)) ∧
   (¬ (y0 = (0 : Int)) →
    Q [.inr (.inl 1)] (mem Ls p I L)))) :
    m_Wp i_M_valueOf 271 kc ks [(0, .inr (.inr 98)), (1, .inl x1), (2, .inr (.inl x2)), (4, .inr (.inl x4))] [.inl y0] (mem Ls p I L) Q := by
  skip <;> exact m_wp_of 5 [] h
set_option maxHeartbeats 4000000 in
set_option maxRecDepth 20000 in
theorem E_M_lawOf {Ls p : Nat}  {I L : Nat → Nat → Int} {a0 : Int} {Q : List mV → mM → Prop}
    (h : ((0 : Int) = (0 : Int) ∨ (0 : Int) = (1 : Int)) ∧
  (0 ≤ a0 ∧ a0 < 6) ∧
  m_Wp i_M_lawOf 12 0 0 [(0, .inr (.inr 98)), (1, .inl a0), (2, .inl (I 116 (Int.toNat a0)))] [] (mem Ls p (mup I 98 52 0) L) Q) :
    m_Call i_M_lawOf [.inr (.inr 98), .inl a0] (mem Ls p I L) Q := by
  have he : m_ent 0 ([.inr (.inr 98), .inl a0] : List mV) = [(0, .inr (.inr 98)), (1, .inl a0)] := rfl
  skip <;> exact m_call_at 9 [12] he h
set_option maxHeartbeats 4000000 in
set_option maxRecDepth 20000 in
theorem T_M_lawOf_12 {Ls p kc ks : Nat}  {I L : Nat → Nat → Int} {x1 x2 : Int} {Q : List mV → mM → Prop}
    (h : (0 ≤ x1 ∧ x1 < 6) ∧
  (((I 117 (Int.toNat x1)) ≤ x2 →
    (((I 98 52) = (0 : Int) →
      (0 ≤ x1 ∧ x1 < 6) ∧
      (0 ≤ (wr ((I 117 (Int.toNat x1)) - 1)) ∧ (wr ((I 117 (Int.toNat x1)) - 1)) < 64) ∧
      Q [.inr (.inl (L 124 (Int.toNat (wr ((I 117 (Int.toNat x1)) - 1)))))] (mem Ls p I L)) ∧
     (¬ ((I 98 52) = (0 : Int)) →
      Q [.inr (.inl 0)] (mem Ls p I L)))) ∧
   (¬ ((I 117 (Int.toNat x1)) ≤ x2) →
    m_Call i_M_valueOf [.inr (.inr 98), .inl x2] (mem Ls p I L) (fun v M' =>
      m_Wp i_M_lawOf 32 kc ks [(0, .inr (.inr 98)), (1, .inl x1), (2, .inl x2)] (v ++ [.inl x2, .inr (.inr 124)]) M' Q)))) :
    m_Wp i_M_lawOf 12 kc ks [(0, .inr (.inr 98)), (1, .inl x1), (2, .inl x2)] [] (mem Ls p I L) Q := by
  skip <;> exact m_wp_of 21 [12] h
set_option maxHeartbeats 4000000 in
set_option maxRecDepth 20000 in
theorem T_M_lawOf_32 {Ls p kc ks : Nat}  {I L : Nat → Nat → Int} {x1 x2 y1 y2 : Int} {Q : List mV → mM → Prop}
    (h : (0 ≤ y1 ∧ y1 < 64) ∧
  m_Wp i_M_lawOf 12 kc ks [(0, .inr (.inr 98)), (1, .inl x1), (2, .inl (wr (x2 + 1)))] [] (mem Ls p I (mup L 124 (Int.toNat y1) y2)) Q) :
    m_Wp i_M_lawOf 32 kc ks [(0, .inr (.inr 98)), (1, .inl x1), (2, .inl x2)] [.inr (.inl y2), .inl y1, .inr (.inr 124)] (mem Ls p I L) Q := by
  skip <;> exact m_wp_of 4 [12] h
set_option maxHeartbeats 4000000 in
set_option maxRecDepth 20000 in
theorem E_M_law {Ls p : Nat}  {I L : Nat → Nat → Int} {a0 a1 : Int} {Q : List mV → mM → Prop}
    (h : m_Call i_M_isIn [.inl a0, .inl 0, .inl 2] (mem Ls p (mup I 98 2 0) L) (fun v M' =>
    m_Wp i_M_law 11 0 0 [(0, .inr (.inr 98)), (1, .inl a0), (2, .inl a1)] (v ++ []) M' Q)) :
    m_Call i_M_law [.inr (.inr 98), .inl a0, .inl a1] (mem Ls p I L) Q := by
  have he : m_ent 0 ([.inr (.inr 98), .inl a0, .inl a1] : List mV) = [(0, .inr (.inr 98)), (1, .inl a0), (2, .inl a1)] := rfl
  skip <;> exact m_call_at 7 [] he h
set_option maxHeartbeats 4000000 in
set_option maxRecDepth 20000 in
theorem T_M_law_11 {Ls p kc ks : Nat}  {I L : Nat → Nat → Int} {x1 x2 y0 : Int} {Q : List mV → mM → Prop}
    (h : ((y0 = (0 : Int) →
    Q [.inr (.inl (-9223372036854775808))] (mem Ls p I L)) ∧
   (¬ (y0 = (0 : Int)) →
    (0 ≤ x1 ∧ x1 < 6) ∧
    (((I 115 (Int.toNat x1)) = (0 : Int) →
      Q [.inr (.inl (-9223372036854775808))] (mem Ls p I L)) ∧
     (¬ ((I 115 (Int.toNat x1)) = (0 : Int)) →
      m_Call i_M_isMan [.inr (.inr 98), .inl x2] (mem Ls p I L) (fun v M' =>
        m_Wp i_M_law 28 kc ks [(0, .inr (.inr 98)), (1, .inl x1), (2, .inl x2)] (v ++ []) M' Q)))))) :
    m_Wp i_M_law 11 kc ks [(0, .inr (.inr 98)), (1, .inl x1), (2, .inl x2)] [.inl y0] (mem Ls p I L) Q := by
  skip <;> exact m_wp_of 9 [] h
set_option maxHeartbeats 4000000 in
set_option maxRecDepth 20000 in
theorem T_M_law_28 {Ls p kc ks : Nat}  {I L : Nat → Nat → Int} {x1 x2 y0 : Int} {Q : List mV → mM → Prop}
    (h : ((¬ y0 = (0 : Int) →
    m_Call i_M_plainTried [.inr (.inr 98)] (mem Ls p I L) (fun v M' =>
      m_Wp i_M_law 39 kc ks [(0, .inr (.inr 98)), (1, .inl x1), (2, .inl x2)] (v ++ []) M' Q)) ∧
   (¬ (¬ y0 = (0 : Int)) →
    Q [.inr (.inl (-9223372036854775808))] (mem Ls p I L)))) :
    m_Wp i_M_law 28 kc ks [(0, .inr (.inr 98)), (1, .inl x1), (2, .inl x2)] [.inl y0] (mem Ls p I L) Q := by
  skip <;> exact m_wp_of 4 [] h
set_option maxHeartbeats 4000000 in
set_option maxRecDepth 20000 in
theorem T_M_law_39 {Ls p kc ks : Nat}  {I L : Nat → Nat → Int} {x1 x2 : Int} {Q : List mV → mM → Prop}
    (h : ((¬ x1 = (1 : Int) →
    (0 ≤ (0 : Int) ∧ (0 : Int) < 2) ∧
    m_Call i_M_layNames [.inr (.inr 98), .inl 0, .inl x2, .inl (I 130 0)] (mem Ls p I L) (fun v M' =>
      m_Wp i_M_law 65 kc ks [(0, .inr (.inr 98)), (1, .inl x1)] (v ++ []) M' Q)) ∧
   (¬ (¬ x1 = (1 : Int)) →
    (0 ≤ x2 ∧ x2 < 12) ∧
    m_Call i_M_layNames [.inr (.inr 98), .inl 0, .inl x2, .inl (I 126 (Int.toNat x2))] (mem Ls p I L) (fun v M' =>
      m_Wp i_M_law 65 kc ks [(0, .inr (.inr 98)), (1, .inl x1)] (v ++ []) M' Q)))) :
    m_Wp i_M_law 39 kc ks [(0, .inr (.inr 98)), (1, .inl x1), (2, .inl x2)] [] (mem Ls p I L) Q := by
  skip <;> exact m_wp_of 13 [] h
set_option maxHeartbeats 4000000 in
set_option maxRecDepth 20000 in
theorem T_M_law_65 {Ls p kc ks : Nat}  {I L : Nat → Nat → Int} {x1 : Int} {Q : List mV → mM → Prop}
    (h : m_Call i_M_lawOf [.inr (.inr 98), .inl x1] (mem Ls p I L) (fun v M' =>
    m_Wp i_M_law 70 kc ks [(0, .inr (.inr 98)), (1, .inl x1)] (v ++ []) M' Q)) :
    m_Wp i_M_law 65 kc ks [(0, .inr (.inr 98)), (1, .inl x1)] [] (mem Ls p I L) Q := by
  skip <;> exact m_wp_of 3 [] h
set_option maxHeartbeats 4000000 in
set_option maxRecDepth 20000 in
theorem T_M_law_70 {Ls p kc ks : Nat}  {I L : Nat → Nat → Int} {x1 y0 : Int} {Q : List mV → mM → Prop}
    (h : (((I 98 52) = (0 : Int) →
    Q [.inr (.inl y0)] (mem Ls p I L)) ∧
   (¬ ((I 98 52) = (0 : Int)) →
    Q [.inr (.inl (-9223372036854775808))] (mem Ls p I L)))) :
    m_Wp i_M_law 70 kc ks [(0, .inr (.inr 98)), (1, .inl x1)] [.inr (.inl y0)] (mem Ls p I L) Q := by
  skip <;> exact m_wp_of 8 [] h
set_option maxHeartbeats 4000000 in
set_option maxRecDepth 20000 in
theorem E_M_put_r140 {Ls p : Nat}  {I L : Nat → Nat → Int} {a1 : Int} {Q : List mV → mM → Prop}
    (h : m_Wp i_M_put 2 0 0 [(0, .inr (.inr 98)), (1, .inr (.inr 140)), (2, .inl a1), (3, .inl 0)] [] (mem Ls p I L) Q) :
    m_Call i_M_put [.inr (.inr 98), .inr (.inr 140), .inl a1] (mem Ls p I L) Q := by
  have he : m_ent 0 ([.inr (.inr 98), .inr (.inr 140), .inl a1] : List mV) = [(0, .inr (.inr 98)), (1, .inr (.inr 140)), (2, .inl a1)] := rfl
  skip <;> exact m_call_at 3 [2, 69] he h
set_option maxHeartbeats 4000000 in
set_option maxRecDepth 20000 in
theorem T_M_put_2_r140 {Ls p kc ks : Nat}  {I L : Nat → Nat → Int} {x2 x3 : Int} {Q : List mV → mM → Prop}
    (h : (((6 : Int) ≤ x3 →
    m_Wp i_M_put 69 kc ks [(0, .inr (.inr 98)), (1, .inr (.inr 140)), (2, .inl x2), (3, .inl 0)] [] (mem Ls p I L) Q) ∧
   (¬ ((6 : Int) ≤ x3) →
    (0 ≤ x3 ∧ x3 < 12) ∧
    (0 ≤ (wr (x2 + x3)) ∧ (wr (x2 + x3)) < 940) ∧
    (0 ≤ x3 ∧ x3 < 12) ∧
    (0 ≤ (wr ((wr (x2 + 6)) + x3)) ∧ (wr ((wr (x2 + 6)) + x3)) < 940) ∧
    (0 ≤ x3 ∧ x3 < 12) ∧
    (0 ≤ (wr ((wr (x2 + 12)) + x3)) ∧ (wr ((wr (x2 + 12)) + x3)) < 940) ∧
    (0 ≤ x3 ∧ x3 < 12) ∧
    (0 ≤ (wr ((wr (x2 + 18)) + x3)) ∧ (wr ((wr (x2 + 18)) + x3)) < 940) ∧
    m_Wp i_M_put 2 kc ks [(0, .inr (.inr 98)), (1, .inr (.inr 140)), (2, .inl x2), (3, .inl (wr (x3 + 1)))] [] (mem Ls p (mup (mup (mup (mup I 140 (Int.toNat (wr (x2 + x3))) (I 125 (Int.toNat x3))) 140 (Int.toNat (wr ((wr (x2 + 6)) + x3))) (I 126 (Int.toNat x3))) 140 (Int.toNat (wr ((wr (x2 + 12)) + x3))) (I 127 (Int.toNat x3))) 140 (Int.toNat (wr ((wr (x2 + 18)) + x3))) (I 133 (Int.toNat x3))) L) Q))) :
    m_Wp i_M_put 2 kc ks [(0, .inr (.inr 98)), (1, .inr (.inr 140)), (2, .inl x2), (3, .inl x3)] [] (mem Ls p I L) Q := by
  skip <;> exact m_wp_of 49 [2, 69] h
set_option maxHeartbeats 4000000 in
set_option maxRecDepth 20000 in
theorem T_M_put_69_r140 {Ls p kc ks : Nat}  {I L : Nat → Nat → Int} {x2 x3 : Int} {Q : List mV → mM → Prop}
    (h : (((20 : Int) ≤ x3 →
    (0 ≤ (0 : Int) ∧ (0 : Int) < 2) ∧
    (0 ≤ (wr (x2 + 44)) ∧ (wr (x2 + 44)) < 940) ∧
    (0 ≤ (0 : Int) ∧ (0 : Int) < 2) ∧
    (0 ≤ (wr (x2 + 45)) ∧ (wr (x2 + 45)) < 940) ∧
    (0 ≤ (0 : Int) ∧ (0 : Int) < 2) ∧
    (0 ≤ (wr (x2 + 46)) ∧ (wr (x2 + 46)) < 940) ∧
    Q [] (mem Ls p (mup (mup (mup I 140 (Int.toNat (wr (x2 + 44))) (I 130 0)) 140 (Int.toNat (wr (x2 + 45))) (I 131 0)) 140 (Int.toNat (wr (x2 + 46))) (I 132 0)) L)) ∧
   (¬ ((20 : Int) ≤ x3) →
    (0 ≤ x3 ∧ x3 < 40) ∧
    (0 ≤ (wr ((wr (x2 + 24)) + x3)) ∧ (wr ((wr (x2 + 24)) + x3)) < 940) ∧
    m_Wp i_M_put 69 kc ks [(0, .inr (.inr 98)), (1, .inr (.inr 140)), (2, .inl x2), (3, .inl (wr (x3 + 1)))] [] (mem Ls p (mup I 140 (Int.toNat (wr ((wr (x2 + 24)) + x3))) (I 129 (Int.toNat x3))) L) Q))) :
    m_Wp i_M_put 69 kc ks [(0, .inr (.inr 98)), (1, .inr (.inr 140)), (2, .inl x2), (3, .inl x3)] [] (mem Ls p I L) Q := by
  skip <;> exact m_wp_of 32 [2, 69] h
set_option maxHeartbeats 4000000 in
set_option maxRecDepth 20000 in
theorem E_M_put_r141 {Ls p : Nat}  {I L : Nat → Nat → Int} {a1 : Int} {Q : List mV → mM → Prop}
    (h : m_Wp i_M_put 2 0 0 [(0, .inr (.inr 98)), (1, .inr (.inr 141)), (2, .inl a1), (3, .inl 0)] [] (mem Ls p I L) Q) :
    m_Call i_M_put [.inr (.inr 98), .inr (.inr 141), .inl a1] (mem Ls p I L) Q := by
  have he : m_ent 0 ([.inr (.inr 98), .inr (.inr 141), .inl a1] : List mV) = [(0, .inr (.inr 98)), (1, .inr (.inr 141)), (2, .inl a1)] := rfl
  skip <;> exact m_call_at 3 [2, 69] he h
set_option maxHeartbeats 4000000 in
set_option maxRecDepth 20000 in
theorem T_M_put_2_r141 {Ls p kc ks : Nat}  {I L : Nat → Nat → Int} {x2 x3 : Int} {Q : List mV → mM → Prop}
    (h : (((6 : Int) ≤ x3 →
    m_Wp i_M_put 69 kc ks [(0, .inr (.inr 98)), (1, .inr (.inr 141)), (2, .inl x2), (3, .inl 0)] [] (mem Ls p I L) Q) ∧
   (¬ ((6 : Int) ≤ x3) →
    (0 ≤ x3 ∧ x3 < 12) ∧
    (0 ≤ (wr (x2 + x3)) ∧ (wr (x2 + x3)) < 47) ∧
    (0 ≤ x3 ∧ x3 < 12) ∧
    (0 ≤ (wr ((wr (x2 + 6)) + x3)) ∧ (wr ((wr (x2 + 6)) + x3)) < 47) ∧
    (0 ≤ x3 ∧ x3 < 12) ∧
    (0 ≤ (wr ((wr (x2 + 12)) + x3)) ∧ (wr ((wr (x2 + 12)) + x3)) < 47) ∧
    (0 ≤ x3 ∧ x3 < 12) ∧
    (0 ≤ (wr ((wr (x2 + 18)) + x3)) ∧ (wr ((wr (x2 + 18)) + x3)) < 47) ∧
    m_Wp i_M_put 2 kc ks [(0, .inr (.inr 98)), (1, .inr (.inr 141)), (2, .inl x2), (3, .inl (wr (x3 + 1)))] [] (mem Ls p (mup (mup (mup (mup I 141 (Int.toNat (wr (x2 + x3))) (I 125 (Int.toNat x3))) 141 (Int.toNat (wr ((wr (x2 + 6)) + x3))) (I 126 (Int.toNat x3))) 141 (Int.toNat (wr ((wr (x2 + 12)) + x3))) (I 127 (Int.toNat x3))) 141 (Int.toNat (wr ((wr (x2 + 18)) + x3))) (I 133 (Int.toNat x3))) L) Q))) :
    m_Wp i_M_put 2 kc ks [(0, .inr (.inr 98)), (1, .inr (.inr 141)), (2, .inl x2), (3, .inl x3)] [] (mem Ls p I L) Q := by
  skip <;> exact m_wp_of 49 [2, 69] h
set_option maxHeartbeats 4000000 in
set_option maxRecDepth 20000 in
theorem T_M_put_69_r141 {Ls p kc ks : Nat}  {I L : Nat → Nat → Int} {x2 x3 : Int} {Q : List mV → mM → Prop}
    (h : (((20 : Int) ≤ x3 →
    (0 ≤ (0 : Int) ∧ (0 : Int) < 2) ∧
    (0 ≤ (wr (x2 + 44)) ∧ (wr (x2 + 44)) < 47) ∧
    (0 ≤ (0 : Int) ∧ (0 : Int) < 2) ∧
    (0 ≤ (wr (x2 + 45)) ∧ (wr (x2 + 45)) < 47) ∧
    (0 ≤ (0 : Int) ∧ (0 : Int) < 2) ∧
    (0 ≤ (wr (x2 + 46)) ∧ (wr (x2 + 46)) < 47) ∧
    Q [] (mem Ls p (mup (mup (mup I 141 (Int.toNat (wr (x2 + 44))) (I 130 0)) 141 (Int.toNat (wr (x2 + 45))) (I 131 0)) 141 (Int.toNat (wr (x2 + 46))) (I 132 0)) L)) ∧
   (¬ ((20 : Int) ≤ x3) →
    (0 ≤ x3 ∧ x3 < 40) ∧
    (0 ≤ (wr ((wr (x2 + 24)) + x3)) ∧ (wr ((wr (x2 + 24)) + x3)) < 47) ∧
    m_Wp i_M_put 69 kc ks [(0, .inr (.inr 98)), (1, .inr (.inr 141)), (2, .inl x2), (3, .inl (wr (x3 + 1)))] [] (mem Ls p (mup I 141 (Int.toNat (wr ((wr (x2 + 24)) + x3))) (I 129 (Int.toNat x3))) L) Q))) :
    m_Wp i_M_put 69 kc ks [(0, .inr (.inr 98)), (1, .inr (.inr 141)), (2, .inl x2), (3, .inl x3)] [] (mem Ls p I L) Q := by
  skip <;> exact m_wp_of 32 [2, 69] h
set_option maxHeartbeats 4000000 in
set_option maxRecDepth 20000 in
theorem E_M_remember {Ls p : Nat}  {I L : Nat → Nat → Int} {Q : List mV → mM → Prop}
    (h : ((¬ (I 98 79) = (20 : Int) →
    m_Call i_M_put [.inr (.inr 98), .inr (.inr 140), .inl (wr (47 * (I 98 79)))] (mem Ls p I L) (fun v M' =>
      m_Wp i_M_remember 64 0 0 [(0, .inr (.inr 98))] (v ++ []) M' Q)) ∧
   (¬ (¬ (I 98 79) = (20 : Int)) →
    m_Wp i_M_remember 11 0 0 [(0, .inr (.inr 98)), (1, .inl 0)] [] (mem Ls p I L) Q))) :
    m_Call i_M_remember [.inr (.inr 98)] (mem Ls p I L) Q := by
  have he : m_ent 0 ([.inr (.inr 98)] : List mV) = [(0, .inr (.inr 98))] := rfl
  skip <;> exact m_call_at 13 [11] he h
set_option maxHeartbeats 4000000 in
set_option maxRecDepth 20000 in
theorem T_M_remember_64 {Ls p kc ks : Nat}  {I L : Nat → Nat → Int} {Q : List mV → mM → Prop}
    (h : Q [] (mem Ls p (mup I 98 79 (wr ((I 98 79) + 1))) L)) :
    m_Wp i_M_remember 64 kc ks [(0, .inr (.inr 98))] [] (mem Ls p I L) Q := by
  skip <;> exact m_wp_of 7 [11] h
set_option maxHeartbeats 4000000 in
set_option maxRecDepth 20000 in
theorem T_M_remember_11 {Ls p kc ks : Nat}  {I L : Nat → Nat → Int} {x1 : Int} {Q : List mV → mM → Prop}
    (h : (((893 : Int) ≤ x1 →
    m_Call i_M_put [.inr (.inr 98), .inr (.inr 140), .inl (wr (47 * (wr ((I 98 79) - 1))))] (mem Ls p (mup I 98 79 (wr ((I 98 79) - 1))) L) (fun v M' =>
      m_Wp i_M_remember 64 kc ks [(0, .inr (.inr 98))] (v ++ []) M' Q)) ∧
   (¬ ((893 : Int) ≤ x1) →
    (0 ≤ (wr (x1 + 47)) ∧ (wr (x1 + 47)) < 940) ∧
    (0 ≤ x1 ∧ x1 < 940) ∧
    m_Wp i_M_remember 11 kc ks [(0, .inr (.inr 98)), (1, .inl (wr (x1 + 1)))] [] (mem Ls p (mup I 140 (Int.toNat x1) (I 140 (Int.toNat (wr (x1 + 47))))) L) Q))) :
    m_Wp i_M_remember 11 kc ks [(0, .inr (.inr 98)), (1, .inl x1)] [] (mem Ls p I L) Q := by
  skip <;> exact m_wp_of 19 [11] h
set_option maxHeartbeats 4000000 in
set_option maxRecDepth 20000 in
theorem E_M_joins {Ls p : Nat}  {I L : Nat → Nat → Int} {a0 a1 : Int} {Q : List mV → mM → Prop}
    (h : (0 ≤ (wr ((wr (6 * a0)) + a1)) ∧ (wr ((wr (6 * a0)) + a1)) < 12) ∧
  ((¬ (I 125 (Int.toNat (wr ((wr (6 * a0)) + a1)))) = (0 : Int) →
    ((0 : Int) = 0 ∨ (0 : Int) = 1) ∧
    Q [.inl 0] (mem Ls p I L)) ∧
   (¬ (¬ (I 125 (Int.toNat (wr ((wr (6 * a0)) + a1)))) = (0 : Int)) →
    (0 ≤ a0 ∧ a0 < 2) ∧
    ((¬ (I 130 (Int.toNat a0)) = (20 : Int) →
      (0 ≤ a0 ∧ a0 < 2) ∧
      (0 ≤ a0 ∧ a0 < 2) ∧
      ((¬ (I 131 (Int.toNat a0)) = (-1) →
        (0 ≤ (wr ((wr (6 * a0)) + a1)) ∧ (wr ((wr (6 * a0)) + a1)) < 12) ∧
        (0 ≤ a0 ∧ a0 < 2) ∧
        (0 ≤ (wr ((wr (20 * a0)) + (I 130 (Int.toNat a0)))) ∧ (wr ((wr (20 * a0)) + (I 130 (Int.toNat a0)))) < 40) ∧
        (0 ≤ a0 ∧ a0 < 2) ∧
        (0 ≤ a0 ∧ a0 < 2) ∧
        (0 ≤ (wr ((wr (6 * a0)) + a1)) ∧ (wr ((wr (6 * a0)) + a1)) < 12) ∧
        ((1 : Int) = 0 ∨ (1 : Int) = 1) ∧
        Q [.inl 1] (mem Ls p (mup (mup (mup (mup I 126 (Int.toNat (wr ((wr (6 * a0)) + a1))) (wr ((I 130 (Int.toNat a0)) + 1))) 129 (Int.toNat (wr ((wr (20 * a0)) + (I 130 (Int.toNat a0))))) a1) 130 (Int.toNat a0) (wr ((I 130 (Int.toNat a0)) + 1))) 125 (Int.toNat (wr ((wr (6 * a0)) + a1))) 1) L)) ∧
       (¬ (¬ (I 131 (Int.toNat a0)) = (-1)) →
        (0 ≤ (wr ((wr (6 * a0)) + a1)) ∧ (wr ((wr (6 * a0)) + a1)) < 12) ∧
        (0 ≤ a0 ∧ a0 < 2) ∧
        (0 ≤ (wr ((wr (20 * a0)) + (I 130 (Int.toNat a0)))) ∧ (wr ((wr (20 * a0)) + (I 130 (Int.toNat a0)))) < 40) ∧
        (0 ≤ a0 ∧ a0 < 2) ∧
        (0 ≤ a0 ∧ a0 < 2) ∧
        (0 ≤ (wr ((wr (6 * a0)) + a1)) ∧ (wr ((wr (6 * a0)) + a1)) < 12) ∧
        ((1 : Int) = 0 ∨ (1 : Int) = 1) ∧
        Q [.inl 1] (mem Ls p (mup (mup (mup (mup I 126 (Int.toNat (wr ((wr (6 * a0)) + a1))) (wr ((I 130 (Int.toNat a0)) + 0))) 129 (Int.toNat (wr ((wr (20 * a0)) + (I 130 (Int.toNat a0))))) a1) 130 (Int.toNat a0) (wr ((I 130 (Int.toNat a0)) + 1))) 125 (Int.toNat (wr ((wr (6 * a0)) + a1))) 1) L)))) ∧
     (¬ (¬ (I 130 (Int.toNat a0)) = (20 : Int)) →
      ((0 : Int) = 0 ∨ (0 : Int) = 1) ∧
      Q [.inl 0] (mem Ls p I L)))))) :
    m_Call i_M_joins [.inr (.inr 98), .inl a0, .inl a1] (mem Ls p I L) Q := by
  have he : m_ent 0 ([.inr (.inr 98), .inl a0, .inl a1] : List mV) = [(0, .inr (.inr 98)), (1, .inl a0), (2, .inl a1)] := rfl
  skip <;> exact m_call_at 68 [] he h
set_option maxHeartbeats 4000000 in
set_option maxRecDepth 20000 in
theorem E_M_ring {Ls p : Nat}  {I L : Nat → Nat → Int} {a0 : Int} {Q : List mV → mM → Prop}
    (h : m_Call i_M_isMan [.inr (.inr 98), .inl a0] (mem Ls p (mup I 98 2 0) L) (fun v M' =>
    m_Wp i_M_ring 10 0 0 [(0, .inr (.inr 98)), (1, .inl a0)] (v ++ []) M' Q)) :
    m_Call i_M_ring [.inr (.inr 98), .inl a0] (mem Ls p I L) Q := by
  have he : m_ent 0 ([.inr (.inr 98), .inl a0] : List mV) = [(0, .inr (.inr 98)), (1, .inl a0)] := rfl
  skip <;> exact m_call_at 6 [] he h
set_option maxHeartbeats 4000000 in
set_option maxRecDepth 20000 in
theorem T_M_ring_10 {Ls p kc ks : Nat}  {I L : Nat → Nat → Int} {x1 y0 : Int} {Q : List mV → mM → Prop}
    (h : ((¬ y0 = (0 : Int) →
    (0 ≤ x1 ∧ x1 < 12) ∧
    ((¬ (I 125 (Int.toNat x1)) = (0 : Int) →
      Q [.inl (-2)] (mem Ls p I L)) ∧
     (¬ (¬ (I 125 (Int.toNat x1)) = (0 : Int)) →
      (0 ≤ (0 : Int) ∧ (0 : Int) < 2) ∧
      ((¬ (I 130 0) = (20 : Int) →
        m_Call i_M_remember [.inr (.inr 98)] (mem Ls p I L) (fun v M' =>
          m_Wp i_M_ring 42 kc ks [(0, .inr (.inr 98)), (1, .inl x1)] (v ++ []) M' Q)) ∧
       (¬ (¬ (I 130 0) = (20 : Int)) →
        Q [.inl (-2)] (mem Ls p I L)))))) ∧
   (¬ (¬ y0 = (0 : Int)) →
    Q [.inl (-1)] (mem Ls p I L)))) :
    m_Wp i_M_ring 10 kc ks [(0, .inr (.inr 98)), (1, .inl x1)] [.inl y0] (mem Ls p I L) Q := by
  skip <;> exact m_wp_of 15 [] h
set_option maxHeartbeats 4000000 in
set_option maxRecDepth 20000 in
theorem T_M_ring_42 {Ls p kc ks : Nat}  {I L : Nat → Nat → Int} {x1 : Int} {Q : List mV → mM → Prop}
    (h : m_Call i_M_joins [.inr (.inr 98), .inl 0, .inl x1] (mem Ls p I L) (fun v M' =>
    m_Wp i_M_ring 48 kc ks [(0, .inr (.inr 98)), (1, .inl x1)] (v ++ []) M' Q)) :
    m_Wp i_M_ring 42 kc ks [(0, .inr (.inr 98)), (1, .inl x1)] [] (mem Ls p I L) Q := by
  skip <;> exact m_wp_of 4 [] h
set_option maxHeartbeats 4000000 in
set_option maxRecDepth 20000 in
theorem T_M_ring_48 {Ls p kc ks : Nat}  {I L : Nat → Nat → Int} {x1 y0 : Int} {Q : List mV → mM → Prop}
    (h : (0 ≤ x1 ∧ x1 < 12) ∧
  Q [.inl (I 126 (Int.toNat x1))] (mem Ls p I L)) :
    m_Wp i_M_ring 48 kc ks [(0, .inr (.inr 98)), (1, .inl x1)] [.inl y0] (mem Ls p I L) Q := by
  skip <;> exact m_wp_of 6 [] h
set_option maxHeartbeats 4000000 in
set_option maxRecDepth 20000 in
theorem E_M_leaves {Ls p : Nat}  {I L : Nat → Nat → Int} {a0 a1 : Int} {Q : List mV → mM → Prop}
    (h : m_Wp i_M_leaves 2 0 0 [(0, .inr (.inr 98)), (1, .inl a0), (3, .inl a1)] [] (mem Ls p I L) Q) :
    m_Call i_M_leaves [.inr (.inr 98), .inl a0, .inl a1] (mem Ls p I L) Q := by
  have he : m_ent 0 ([.inr (.inr 98), .inl a0, .inl a1] : List mV) = [(0, .inr (.inr 98)), (1, .inl a0), (2, .inl a1)] := rfl
  skip <;> exact m_call_at 3 [2] he h
set_option maxHeartbeats 4000000 in
set_option maxRecDepth 20000 in
theorem T_M_leaves_2 {Ls p kc ks : Nat}  {I L : Nat → Nat → Int} {x1 x3 : Int} {Q : List mV → mM → Prop}
    (h : (0 ≤ x1 ∧ x1 < 2) ∧
  (((I 130 (Int.toNat x1)) ≤ (wr (x3 + 1)) →
    (0 ≤ x1 ∧ x1 < 2) ∧
    (0 ≤ x1 ∧ x1 < 2) ∧
    Q [] (mem Ls p (mup I 130 (Int.toNat x1) (wr ((I 130 (Int.toNat x1)) - 1))) L)) ∧
   (¬ ((I 130 (Int.toNat x1)) ≤ (wr (x3 + 1))) →
    (0 ≤ (wr ((wr ((wr (20 * x1)) + x3)) + 1)) ∧ (wr ((wr ((wr (20 * x1)) + x3)) + 1)) < 40) ∧
    (0 ≤ (wr ((wr (20 * x1)) + x3)) ∧ (wr ((wr (20 * x1)) + x3)) < 40) ∧
    m_Wp i_M_leaves 2 kc ks [(0, .inr (.inr 98)), (1, .inl x1), (3, .inl (wr (x3 + 1)))] [] (mem Ls p (mup I 129 (Int.toNat (wr ((wr (20 * x1)) + x3))) (I 129 (Int.toNat (wr ((wr ((wr (20 * x1)) + x3)) + 1))))) L) Q))) :
    m_Wp i_M_leaves 2 kc ks [(0, .inr (.inr 98)), (1, .inl x1), (3, .inl x3)] [] (mem Ls p I L) Q := by
  skip <;> exact m_wp_of 30 [2] h
set_option maxHeartbeats 4000000 in
set_option maxRecDepth 20000 in
theorem E_M_hangUp {Ls p : Nat}  {I L : Nat → Nat → Int} {a0 : Int} {Q : List mV → mM → Prop}
    (h : m_Call i_M_isMan [.inr (.inr 98), .inl a0] (mem Ls p (mup I 98 2 0) L) (fun v M' =>
    m_Wp i_M_hangUp 10 0 0 [(0, .inr (.inr 98)), (1, .inl a0)] (v ++ []) M' Q)) :
    m_Call i_M_hangUp [.inr (.inr 98), .inl a0] (mem Ls p I L) Q := by
  have he : m_ent 0 ([.inr (.inr 98), .inl a0] : List mV) = [(0, .inr (.inr 98)), (1, .inl a0)] := rfl
  skip <;> exact m_call_at 6 [] he h
set_option maxHeartbeats 4000000 in
set_option maxRecDepth 20000 in
theorem T_M_hangUp_10 {Ls p kc ks : Nat}  {I L : Nat → Nat → Int} {x1 y0 : Int} {Q : List mV → mM → Prop}
    (h : ((y0 = (0 : Int) →
    ((0 : Int) = 0 ∨ (0 : Int) = 1) ∧
    Q [.inl 0] (mem Ls p I L)) ∧
   (¬ (y0 = (0 : Int)) →
    (0 ≤ x1 ∧ x1 < 12) ∧
    ((¬ (I 125 (Int.toNat x1)) = (0 : Int) →
      m_Call i_M_remember [.inr (.inr 98)] (mem Ls p I L) (fun v M' =>
        m_Wp i_M_hangUp 28 kc ks [(0, .inr (.inr 98)), (1, .inl x1)] (v ++ []) M' Q)) ∧
     (¬ (¬ (I 125 (Int.toNat x1)) = (0 : Int)) →
      ((0 : Int) = 0 ∨ (0 : Int) = 1) ∧
      Q [.inl 0] (mem Ls p I L)))))) :
    m_Wp i_M_hangUp 10 kc ks [(0, .inr (.inr 98)), (1, .inl x1)] [.inl y0] (mem Ls p I L) Q := by
  skip <;> exact m_wp_of 9 [] h
set_option maxHeartbeats 4000000 in
set_option maxRecDepth 20000 in
theorem T_M_hangUp_28 {Ls p kc ks : Nat}  {I L : Nat → Nat → Int} {x1 : Int} {Q : List mV → mM → Prop}
    (h : (0 ≤ x1 ∧ x1 < 12) ∧
  ((¬ (I 125 (Int.toNat x1)) = (1 : Int) →
    (0 ≤ (0 : Int) ∧ (0 : Int) < 2) ∧
    (0 ≤ x1 ∧ x1 < 12) ∧
    ((1 : Int) = 0 ∨ (1 : Int) = 1) ∧
    Q [.inl 1] (mem Ls p (mup (mup I 131 0 (-1)) 125 (Int.toNat x1) 0) L)) ∧
   (¬ (¬ (I 125 (Int.toNat x1)) = (1 : Int)) →
    m_Call i_M_placeOf [.inr (.inr 98), .inl x1] (mem Ls p I L) (fun v M' =>
      m_Wp i_M_hangUp 45 kc ks [(0, .inr (.inr 98)), (1, .inl x1)] (v ++ [.inl 0, .inr (.inr 98)]) M' Q)))) :
    m_Wp i_M_hangUp 28 kc ks [(0, .inr (.inr 98)), (1, .inl x1)] [] (mem Ls p I L) Q := by
  skip <;> exact m_wp_of 19 [] h
set_option maxHeartbeats 4000000 in
set_option maxRecDepth 20000 in
theorem T_M_hangUp_45 {Ls p kc ks : Nat}  {I L : Nat → Nat → Int} {x1 y1 y2 : Int} {Q : List mV → mM → Prop}
    (h : m_Call i_M_leaves [.inr (.inr 98), .inl y1, .inl y2] (mem Ls p I L) (fun v M' =>
    m_Wp i_M_hangUp 48 kc ks [(0, .inr (.inr 98)), (1, .inl x1)] (v ++ []) M' Q)) :
    m_Wp i_M_hangUp 45 kc ks [(0, .inr (.inr 98)), (1, .inl x1)] [.inl y2, .inl y1, .inr (.inr 98)] (mem Ls p I L) Q := by
  skip <;> exact m_wp_of 1 [] h
set_option maxHeartbeats 4000000 in
set_option maxRecDepth 20000 in
theorem T_M_hangUp_48 {Ls p kc ks : Nat}  {I L : Nat → Nat → Int} {x1 : Int} {Q : List mV → mM → Prop}
    (h : (0 ≤ x1 ∧ x1 < 12) ∧
  ((1 : Int) = 0 ∨ (1 : Int) = 1) ∧
  Q [.inl 1] (mem Ls p (mup I 125 (Int.toNat x1) 0) L)) :
    m_Wp i_M_hangUp 48 kc ks [(0, .inr (.inr 98)), (1, .inl x1)] [] (mem Ls p I L) Q := by
  skip <;> exact m_wp_of 9 [] h
set_option maxHeartbeats 4000000 in
set_option maxRecDepth 20000 in
theorem E_M_set {Ls p : Nat}  {I L : Nat → Nat → Int} {a0 a1 : Int} {Q : List mV → mM → Prop}
    (h : m_Call i_M_isMan [.inr (.inr 98), .inl a0] (mem Ls p (mup I 98 2 0) L) (fun v M' =>
    m_Wp i_M_set 10 0 0 [(0, .inr (.inr 98)), (1, .inl a0), (2, .inl a1)] (v ++ []) M' Q)) :
    m_Call i_M_set [.inr (.inr 98), .inl a0, .inl a1] (mem Ls p I L) Q := by
  have he : m_ent 0 ([.inr (.inr 98), .inl a0, .inl a1] : List mV) = [(0, .inr (.inr 98)), (1, .inl a0), (2, .inl a1)] := rfl
  skip <;> exact m_call_at 6 [] he h
set_option maxHeartbeats 4000000 in
set_option maxRecDepth 20000 in
theorem T_M_set_10 {Ls p kc ks : Nat}  {I L : Nat → Nat → Int} {x1 x2 y0 : Int} {Q : List mV → mM → Prop}
    (h : ((y0 = (0 : Int) →
    ((0 : Int) = 0 ∨ (0 : Int) = 1) ∧
    Q [.inl 0] (mem Ls p I L)) ∧
   (¬ (y0 = (0 : Int)) →
    m_Call i_M_isIn [.inl x2, .inl (-99), .inl 99] (mem Ls p I L) (fun v M' =>
      m_Wp i_M_set 21 kc ks [(0, .inr (.inr 98)), (1, .inl x1), (2, .inl x2)] (v ++ []) M' Q)))) :
    m_Wp i_M_set 10 kc ks [(0, .inr (.inr 98)), (1, .inl x1), (2, .inl x2)] [.inl y0] (mem Ls p I L) Q := by
  skip <;> exact m_wp_of 5 [] h
set_option maxHeartbeats 4000000 in
set_option maxRecDepth 20000 in
theorem T_M_set_21 {Ls p kc ks : Nat}  {I L : Nat → Nat → Int} {x1 x2 y0 : Int} {Q : List mV → mM → Prop}
    (h : ((y0 = (0 : Int) →
    ((0 : Int) = 0 ∨ (0 : Int) = 1) ∧
    Q [.inl 0] (mem Ls p I L)) ∧
   (¬ (y0 = (0 : Int)) →
    (0 ≤ x1 ∧ x1 < 12) ∧
    ((¬ (I 127 (Int.toNat x1)) = x2 →
      m_Call i_M_remember [.inr (.inr 98)] (mem Ls p I L) (fun v M' =>
        m_Wp i_M_set 40 kc ks [(0, .inr (.inr 98)), (1, .inl x1), (2, .inl x2)] (v ++ []) M' Q)) ∧
     (¬ (¬ (I 127 (Int.toNat x1)) = x2) →
      ((0 : Int) = 0 ∨ (0 : Int) = 1) ∧
      Q [.inl 0] (mem Ls p I L)))))) :
    m_Wp i_M_set 21 kc ks [(0, .inr (.inr 98)), (1, .inl x1), (2, .inl x2)] [.inl y0] (mem Ls p I L) Q := by
  skip <;> exact m_wp_of 10 [] h
set_option maxHeartbeats 4000000 in
set_option maxRecDepth 20000 in
theorem T_M_set_40 {Ls p kc ks : Nat}  {I L : Nat → Nat → Int} {x1 x2 : Int} {Q : List mV → mM → Prop}
    (h : (0 ≤ x1 ∧ x1 < 12) ∧
  ((1 : Int) = 0 ∨ (1 : Int) = 1) ∧
  Q [.inl 1] (mem Ls p (mup I 127 (Int.toNat x1) x2) L)) :
    m_Wp i_M_set 40 kc ks [(0, .inr (.inr 98)), (1, .inl x1), (2, .inl x2)] [] (mem Ls p I L) Q := by
  skip <;> exact m_wp_of 7 [] h
set_option maxHeartbeats 4000000 in
set_option maxRecDepth 20000 in
theorem E_M_isOpen {Ls p : Nat}  {I L : Nat → Nat → Int} {a0 : Int} {Q : List mV → mM → Prop}
    (h : m_Call i_M_isMeeting [.inr (.inr 98), .inl a0] (mem Ls p I L) (fun v M' =>
    m_Wp i_M_isOpen 5 0 0 [(0, .inr (.inr 98)), (1, .inl a0)] (v ++ []) M' Q)) :
    m_Call i_M_isOpen [.inr (.inr 98), .inl a0] (mem Ls p I L) Q := by
  have he : m_ent 0 ([.inr (.inr 98), .inl a0] : List mV) = [(0, .inr (.inr 98)), (1, .inl a0)] := rfl
  skip <;> exact m_call_at 3 [] he h
set_option maxHeartbeats 4000000 in
set_option maxRecDepth 20000 in
theorem T_M_isOpen_5 {Ls p kc ks : Nat}  {I L : Nat → Nat → Int} {x1 y0 : Int} {Q : List mV → mM → Prop}
    (h : ((y0 = (0 : Int) →
    ((0 : Int) = 0 ∨ (0 : Int) = 1) ∧
    Q [.inl 0] (mem Ls p I L)) ∧
   (¬ (y0 = (0 : Int)) →
    (0 ≤ (wr (2 * x1)) ∧ (wr (2 * x1)) < 24) ∧
    (((0 : Int) ≤ (I 134 (Int.toNat (wr (2 * x1)))) →
      ((0 : Int) = 0 ∨ (0 : Int) = 1) ∧
      Q [.inl 0] (mem Ls p I L)) ∧
     (¬ ((0 : Int) ≤ (I 134 (Int.toNat (wr (2 * x1))))) →
      (0 ≤ (wr ((wr (2 * x1)) + 1)) ∧ (wr ((wr (2 * x1)) + 1)) < 24) ∧
      (((0 : Int) ≤ (I 134 (Int.toNat (wr ((wr (2 * x1)) + 1)))) →
        ((0 : Int) = 0 ∨ (0 : Int) = 1) ∧
        Q [.inl 0] (mem Ls p I L)) ∧
       (¬ ((0 : Int) ≤ (I 134 (Int.toNat (wr ((wr (2 * x1)) + 1))))) →
        ((1 : Int) = 0 ∨ (1 : Int) = 1) ∧
        Q [.inl 1] (mem Ls p I L)))))))) :
    m_Wp i_M_isOpen 5 kc ks [(0, .inr (.inr 98)), (1, .inl x1)] [.inl y0] (mem Ls p I L) Q := by
  skip <;> exact m_wp_of 21 [] h
set_option maxHeartbeats 4000000 in
set_option maxRecDepth 20000 in
theorem E_M_putOff {Ls p : Nat}  {I L : Nat → Nat → Int} {a0 a1 : Int} {Q : List mV → mM → Prop}
    (h : m_Call i_M_isOpen [.inr (.inr 98), .inl a0] (mem Ls p (mup I 98 2 0) L) (fun v M' =>
    m_Wp i_M_putOff 10 0 0 [(0, .inr (.inr 98)), (1, .inl a0), (2, .inl a1)] (v ++ []) M' Q)) :
    m_Call i_M_putOff [.inr (.inr 98), .inl a0, .inl a1] (mem Ls p I L) Q := by
  have he : m_ent 0 ([.inr (.inr 98), .inl a0, .inl a1] : List mV) = [(0, .inr (.inr 98)), (1, .inl a0), (2, .inl a1)] := rfl
  skip <;> exact m_call_at 6 [] he h
set_option maxHeartbeats 4000000 in
set_option maxRecDepth 20000 in
theorem T_M_putOff_10 {Ls p kc ks : Nat}  {I L : Nat → Nat → Int} {x1 x2 y0 : Int} {Q : List mV → mM → Prop}
    (h : ((y0 = (0 : Int) →
    ((0 : Int) = 0 ∨ (0 : Int) = 1) ∧
    Q [.inl 0] (mem Ls p I L)) ∧
   (¬ (y0 = (0 : Int)) →
    m_Call i_M_isIn [.inl x2, .inl 0, .inl 999] (mem Ls p I L) (fun v M' =>
      m_Wp i_M_putOff 21 kc ks [(0, .inr (.inr 98)), (1, .inl x1), (2, .inl x2)] (v ++ []) M' Q)))) :
    m_Wp i_M_putOff 10 kc ks [(0, .inr (.inr 98)), (1, .inl x1), (2, .inl x2)] [.inl y0] (mem Ls p I L) Q := by
  skip <;> exact m_wp_of 5 [] h
set_option maxHeartbeats 4000000 in
set_option maxRecDepth 20000 in
theorem T_M_putOff_21 {Ls p kc ks : Nat}  {I L : Nat → Nat → Int} {x1 x2 y0 : Int} {Q : List mV → mM → Prop}
    (h : ((y0 = (0 : Int) →
    ((0 : Int) = 0 ∨ (0 : Int) = 1) ∧
    Q [.inl 0] (mem Ls p I L)) ∧
   (¬ (y0 = (0 : Int)) →
    (0 ≤ x1 ∧ x1 < 12) ∧
    ((¬ (I 133 (Int.toNat x1)) = x2 →
      m_Call i_M_remember [.inr (.inr 98)] (mem Ls p I L) (fun v M' =>
        m_Wp i_M_putOff 40 kc ks [(0, .inr (.inr 98)), (1, .inl x1), (2, .inl x2)] (v ++ []) M' Q)) ∧
     (¬ (¬ (I 133 (Int.toNat x1)) = x2) →
      ((0 : Int) = 0 ∨ (0 : Int) = 1) ∧
      Q [.inl 0] (mem Ls p I L)))))) :
    m_Wp i_M_putOff 21 kc ks [(0, .inr (.inr 98)), (1, .inl x1), (2, .inl x2)] [.inl y0] (mem Ls p I L) Q := by
  skip <;> exact m_wp_of 10 [] h
set_option maxHeartbeats 4000000 in
set_option maxRecDepth 20000 in
theorem T_M_putOff_40 {Ls p kc ks : Nat}  {I L : Nat → Nat → Int} {x1 x2 : Int} {Q : List mV → mM → Prop}
    (h : (0 ≤ x1 ∧ x1 < 12) ∧
  ((1 : Int) = 0 ∨ (1 : Int) = 1) ∧
  Q [.inl 1] (mem Ls p (mup I 133 (Int.toNat x1) x2) L)) :
    m_Wp i_M_putOff 40 kc ks [(0, .inr (.inr 98)), (1, .inl x1), (2, .inl x2)] [] (mem Ls p I L) Q := by
  skip <;> exact m_wp_of 7 [] h
set_option maxHeartbeats 4000000 in
set_option maxRecDepth 20000 in
theorem E_M_number1 {Ls p : Nat}  {I L : Nat → Nat → Int} {a0 : Int} {Q : List mV → mM → Prop}
    (h : (¬ (65536 : Int) = (0 : Int)) ∧
  (¬ a0 = (0 : Int)) ∧
  Q [.inl (wr (Int.tmod (wl (Int.tdiv (m_land (wl ((wl ((L 98 66) * 1103515245)) + 12345)) 2147483647) 65536)) a0))] (mem Ls p I (mup L 98 66 (m_land (wl ((wl ((L 98 66) * 1103515245)) + 12345)) 2147483647)))) :
    m_Call i_M_number1 [.inr (.inr 98), .inl a0] (mem Ls p I L) Q := by
  have he : m_ent 0 ([.inr (.inr 98), .inl a0] : List mV) = [(0, .inr (.inr 98)), (1, .inl a0)] := rfl
  skip <;> exact m_call_at 19 [] he h
set_option maxHeartbeats 4000000 in
set_option maxRecDepth 20000 in
theorem E_M_isStranger {Ls p : Nat}  {I L : Nat → Nat → Int} {Q : List mV → mM → Prop}
    (h : ((¬ (I 98 68) = (0 : Int) →
    ((0 : Int) = 0 ∨ (0 : Int) = 1) ∧
    Q [.inl 0] (mem Ls p I L)) ∧
   (¬ (¬ (I 98 68) = (0 : Int)) →
    (0 ≤ (0 : Int) ∧ (0 : Int) < 4) ∧
    ((¬ (I 102 0) = (0 : Int) →
      (0 ≤ (0 : Int) ∧ (0 : Int) < 4) ∧
      ((¬ (I 102 0) = (100 : Int) →
        (((I 98 67) = (0 : Int) →
          (0 ≤ (0 : Int) ∧ (0 : Int) < 4) ∧
          (((I 102 0) < (50 : Int) →
            ((0 : Int) = 0 ∨ (0 : Int) = 1) ∧
            Q [.inl 0] (mem Ls p I L)) ∧
           (¬ ((I 102 0) < (50 : Int)) →
            ((1 : Int) = 0 ∨ (1 : Int) = 1) ∧
            Q [.inl 1] (mem Ls p I L)))) ∧
         (¬ ((I 98 67) = (0 : Int)) →
          m_Call i_M_number1 [.inr (.inr 98), .inl 100] (mem Ls p I L) (fun v M' =>
            m_Wp i_M_isStranger 44 0 0 [(0, .inr (.inr 98))] (v ++ []) M' Q)))) ∧
       (¬ (¬ (I 102 0) = (100 : Int)) →
        ((1 : Int) = 0 ∨ (1 : Int) = 1) ∧
        Q [.inl 1] (mem Ls p I L)))) ∧
     (¬ (¬ (I 102 0) = (0 : Int)) →
      ((0 : Int) = 0 ∨ (0 : Int) = 1) ∧
      Q [.inl 0] (mem Ls p I L)))))) :
    m_Call i_M_isStranger [.inr (.inr 98)] (mem Ls p I L) Q := by
  have he : m_ent 0 ([.inr (.inr 98)] : List mV) = [(0, .inr (.inr 98))] := rfl
  skip <;> exact m_call_at 27 [] he h
set_option maxHeartbeats 4000000 in
set_option maxRecDepth 20000 in
theorem T_M_isStranger_44 {Ls p kc ks : Nat}  {I L : Nat → Nat → Int} {y0 : Int} {Q : List mV → mM → Prop}
    (h : (0 ≤ (0 : Int) ∧ (0 : Int) < 4) ∧
  (((I 102 0) ≤ y0 →
    ((0 : Int) = 0 ∨ (0 : Int) = 1) ∧
    Q [.inl 0] (mem Ls p I L)) ∧
   (¬ ((I 102 0) ≤ y0) →
    ((1 : Int) = 0 ∨ (1 : Int) = 1) ∧
    Q [.inl 1] (mem Ls p I L)))) :
    m_Wp i_M_isStranger 44 kc ks [(0, .inr (.inr 98))] [.inl y0] (mem Ls p I L) Q := by
  skip <;> exact m_wp_of 9 [] h
set_option maxHeartbeats 4000000 in
set_option maxRecDepth 20000 in
theorem E_M_boundLaw {Ls p : Nat}  {I L : Nat → Nat → Int} {a0 a1 a2 a3 : Int} {Q : List mV → mM → Prop}
    (h : (0 ≤ a0 ∧ a0 < 6) ∧
  ((¬ (I 115 (Int.toNat a0)) = (0 : Int) →
    m_Call i_M_lawOf [.inr (.inr 98), .inl a0] (mem Ls p I L) (fun v M' =>
      m_Wp i_M_boundLaw 16 0 0 [(0, .inr (.inr 98)), (1, .inl a0), (2, .inl a1), (3, .inl a2), (4, .inl a3)] (v ++ []) M' Q)) ∧
   (¬ (¬ (I 115 (Int.toNat a0)) = (0 : Int)) →
    Q [.inl a1] (mem Ls p I L)))) :
    m_Call i_M_boundLaw [.inr (.inr 98), .inl a0, .inl a1, .inl a2, .inl a3] (mem Ls p I L) Q := by
  have he : m_ent 0 ([.inr (.inr 98), .inl a0, .inl a1, .inl a2, .inl a3] : List mV) = [(0, .inr (.inr 98)), (1, .inl a0), (2, .inl a1), (3, .inl a2), (4, .inl a3)] := rfl
  skip <;> exact m_call_at 8 [] he h
set_option maxHeartbeats 4000000 in
set_option maxRecDepth 20000 in
theorem T_M_boundLaw_16 {Ls p kc ks : Nat}  {I L : Nat → Nat → Int} {x1 x2 x3 x4 y0 : Int} {Q : List mV → mM → Prop}
    (h : (((I 98 52) = (0 : Int) →
    (((0 : Int) ≤ (m_lcmp y0 x3) →
      (((m_lcmp y0 x4) ≤ (0 : Int) →
        Q [.inl (wr y0)] (mem Ls p I L)) ∧
       (¬ ((m_lcmp y0 x4) ≤ (0 : Int)) →
        Q [.inl x4] (mem Ls p I L)))) ∧
     (¬ ((0 : Int) ≤ (m_lcmp y0 x3)) →
      Q [.inl x3] (mem Ls p I L)))) ∧
   (¬ ((I 98 52) = (0 : Int)) →
    Q [.inl x2] (mem Ls p I L)))) :
    m_Wp i_M_boundLaw 16 kc ks [(0, .inr (.inr 98)), (1, .inl x1), (2, .inl x2), (3, .inl x3), (4, .inl x4)] [.inr (.inl y0)] (mem Ls p I L) Q := by
  skip <;> exact m_wp_of 18 [] h
set_option maxHeartbeats 4000000 in
set_option maxRecDepth 20000 in
theorem E_M_isCold {Ls p : Nat}  {I L : Nat → Nat → Int} {a0 : Int} {Q : List mV → mM → Prop}
    (h : (((I 98 69) = (0 : Int) →
    m_Wp i_M_isCold 11 0 0 [(0, .inr (.inr 98)), (1, .inl a0), (2, .inl 0)] [] (mem Ls p I L) Q) ∧
   (¬ ((I 98 69) = (0 : Int)) →
    ((0 : Int) = 0 ∨ (0 : Int) = 1) ∧
    Q [.inl 0] (mem Ls p I L)))) :
    m_Call i_M_isCold [.inr (.inr 98), .inl a0] (mem Ls p I L) Q := by
  have he : m_ent 0 ([.inr (.inr 98), .inl a0] : List mV) = [(0, .inr (.inr 98)), (1, .inl a0)] := rfl
  skip <;> exact m_call_at 6 [11] he h
set_option maxHeartbeats 4000000 in
set_option maxRecDepth 20000 in
theorem T_M_isCold_11 {Ls p kc ks : Nat}  {I L : Nat → Nat → Int} {x1 x2 : Int} {Q : List mV → mM → Prop}
    (h : (((I 98 15) ≤ x2 →
    ((0 : Int) = 0 ∨ (0 : Int) = 1) ∧
    Q [.inl 0] (mem Ls p I L)) ∧
   (¬ ((I 98 15) ≤ x2) →
    (0 ≤ x2 ∧ x2 < 6) ∧
    (0 ≤ x2 ∧ x2 < 6) ∧
    m_Call i_M_isIn [.inl x1, .inl (I 113 (Int.toNat x2)), .inl (I 114 (Int.toNat x2))] (mem Ls p I L) (fun v M' =>
      m_Wp i_M_isCold 35 kc ks [(0, .inr (.inr 98)), (1, .inl x1), (2, .inl x2)] (v ++ []) M' Q)))) :
    m_Wp i_M_isCold 11 kc ks [(0, .inr (.inr 98)), (1, .inl x1), (2, .inl x2)] [] (mem Ls p I L) Q := by
  skip <;> exact m_wp_of 15 [11] h
set_option maxHeartbeats 4000000 in
set_option maxRecDepth 20000 in
theorem T_M_isCold_35 {Ls p kc ks : Nat}  {I L : Nat → Nat → Int} {x1 x2 y0 : Int} {Q : List mV → mM → Prop}
    (h : ((y0 = (0 : Int) →
    m_Wp i_M_isCold 11 kc ks [(0, .inr (.inr 98)), (1, .inl x1), (2, .inl (wr (x2 + 1)))] [] (mem Ls p I L) Q) ∧
   (¬ (y0 = (0 : Int)) →
    ((1 : Int) = 0 ∨ (1 : Int) = 1) ∧
    Q [.inl 1] (mem Ls p I L)))) :
    m_Wp i_M_isCold 35 kc ks [(0, .inr (.inr 98)), (1, .inl x1), (2, .inl x2)] [.inl y0] (mem Ls p I L) Q := by
  skip <;> exact m_wp_of 4 [11] h
set_option maxHeartbeats 4000000 in
set_option maxRecDepth 20000 in
theorem E_M_begins {Ls p : Nat}  {I L : Nat → Nat → Int} {a0 : Int} {Q : List mV → mM → Prop}
    (h : (0 ≤ (wr (20 * a0)) ∧ (wr (20 * a0)) < 40) ∧
  m_Call i_M_leaves [.inr (.inr 98), .inl a0, .inl 0] (mem Ls p I L) (fun v M' =>
    m_Wp i_M_begins 16 0 0 [(0, .inr (.inr 98)), (1, .inl a0), (2, .inl (I 129 (Int.toNat (wr (20 * a0)))))] (v ++ []) M' Q)) :
    m_Call i_M_begins [.inr (.inr 98), .inl a0] (mem Ls p I L) Q := by
  have he : m_ent 0 ([.inr (.inr 98), .inl a0] : List mV) = [(0, .inr (.inr 98)), (1, .inl a0)] := rfl
  skip <;> exact m_call_at 11 [] he h
set_option maxHeartbeats 4000000 in
set_option maxRecDepth 20000 in
theorem T_M_begins_16 {Ls p kc ks : Nat}  {I L : Nat → Nat → Int} {x1 x2 : Int} {Q : List mV → mM → Prop}
    (h : (0 ≤ x1 ∧ x1 < 2) ∧
  ((x2 = (6 : Int) →
    (0 ≤ x1 ∧ x1 < 2) ∧
    m_Call i_M_isCold [.inr (.inr 98), .inl (I 136 (Int.toNat x1))] (mem Ls p (mup I 131 (Int.toNat x1) x2) L) (fun v M' =>
      m_Wp i_M_begins 80 kc ks [(0, .inr (.inr 98)), (1, .inl x1), (3, .inl 2)] (v ++ []) M' Q)) ∧
   (¬ (x2 = (6 : Int)) →
    (0 ≤ (wr ((wr (6 * x1)) + x2)) ∧ (wr ((wr (6 * x1)) + x2)) < 12) ∧
    (0 ≤ x1 ∧ x1 < 2) ∧
    m_Call i_M_layNames [.inr (.inr 98), .inl x1, .inl x2, .inl (I 130 (Int.toNat x1))] (mem Ls p (mup (mup I 131 (Int.toNat x1) x2) 125 (Int.toNat (wr ((wr (6 * x1)) + x2))) 2) L) (fun v M' =>
      m_Wp i_M_begins 55 kc ks [(0, .inr (.inr 98)), (1, .inl x1), (2, .inl x2), (3, .inl 2)] (v ++ []) M' Q)))) :
    m_Wp i_M_begins 16 kc ks [(0, .inr (.inr 98)), (1, .inl x1), (2, .inl x2)] [] (mem Ls p I L) Q := by
  skip <;> exact m_wp_of 27 [] h
set_option maxHeartbeats 4000000 in
set_option maxRecDepth 20000 in
theorem T_M_begins_80 {Ls p kc ks : Nat}  {I L : Nat → Nat → Int} {x1 x3 y0 : Int} {Q : List mV → mM → Prop}
    (h : ((y0 = (0 : Int) →
    ((x3 ≤ (20 : Int) →
      (0 ≤ x1 ∧ x1 < 2) ∧
      Q [] (mem Ls p (mup I 132 (Int.toNat x1) x3) L)) ∧
     (¬ (x3 ≤ (20 : Int)) →
      (0 ≤ x1 ∧ x1 < 2) ∧
      Q [] (mem Ls p (mup I 132 (Int.toNat x1) 20) L)))) ∧
   (¬ (y0 = (0 : Int)) →
    (((wr (2 * x3)) ≤ (20 : Int) →
      (0 ≤ x1 ∧ x1 < 2) ∧
      Q [] (mem Ls p (mup I 132 (Int.toNat x1) (wr (2 * x3))) L)) ∧
     (¬ ((wr (2 * x3)) ≤ (20 : Int)) →
      (0 ≤ x1 ∧ x1 < 2) ∧
      Q [] (mem Ls p (mup I 132 (Int.toNat x1) 20) L)))))) :
    m_Wp i_M_begins 80 kc ks [(0, .inr (.inr 98)), (1, .inl x1), (3, .inl x3)] [.inl y0] (mem Ls p I L) Q := by
  skip <;> exact m_wp_of 18 [] h
set_option maxHeartbeats 4000000 in
set_option maxRecDepth 20000 in
theorem T_M_begins_55 {Ls p kc ks : Nat}  {I L : Nat → Nat → Int} {x1 x2 x3 : Int} {Q : List mV → mM → Prop}
    (h : (0 ≤ x2 ∧ x2 < 12) ∧
  m_Call i_M_boundLaw [.inr (.inr 98), .inl 0, .inl (I 104 (Int.toNat x2)), .inl 1, .inl 20] (mem Ls p I L) (fun v M' =>
    m_Wp i_M_begins 69 kc ks [(0, .inr (.inr 98)), (1, .inl x1), (2, .inl x2), (3, .inl x3)] (v ++ []) M' Q)) :
    m_Wp i_M_begins 55 kc ks [(0, .inr (.inr 98)), (1, .inl x1), (2, .inl x2), (3, .inl x3)] [] (mem Ls p I L) Q := by
  skip <;> exact m_wp_of 9 [] h
set_option maxHeartbeats 4000000 in
set_option maxRecDepth 20000 in
theorem T_M_begins_69 {Ls p kc ks : Nat}  {I L : Nat → Nat → Int} {x1 x2 x3 y0 : Int} {Q : List mV → mM → Prop}
    (h : (0 ≤ x1 ∧ x1 < 2) ∧
  m_Call i_M_isCold [.inr (.inr 98), .inl (I 136 (Int.toNat x1))] (mem Ls p I L) (fun v M' =>
    m_Wp i_M_begins 80 kc ks [(0, .inr (.inr 98)), (1, .inl x1), (3, .inl y0)] (v ++ []) M' Q)) :
    m_Wp i_M_begins 69 kc ks [(0, .inr (.inr 98)), (1, .inl x1), (2, .inl x2), (3, .inl x3)] [.inl y0] (mem Ls p I L) Q := by
  skip <;> exact m_wp_of 8 [] h
set_option maxHeartbeats 4000000 in
set_option maxRecDepth 20000 in
theorem E_M_isTold {Ls p : Nat}  {I L : Nat → Nat → Int} {a0 : Int} {Q : List mV → mM → Prop}
    (h : (0 ≤ a0 ∧ a0 < 2) ∧
  (0 ≤ a0 ∧ a0 < 2) ∧
  ((¬ (I 131 (Int.toNat a0)) = (6 : Int) →
    (0 ≤ (wr ((wr (6 * a0)) + (I 131 (Int.toNat a0)))) ∧ (wr ((wr (6 * a0)) + (I 131 (Int.toNat a0)))) < 12) ∧
    m_Call i_M_layNames [.inr (.inr 98), .inl a0, .inl (I 131 (Int.toNat a0)), .inl (I 126 (Int.toNat (wr ((wr (6 * a0)) + (I 131 (Int.toNat a0))))))] (mem Ls p (mup I 131 (Int.toNat a0) (-1)) L) (fun v M' =>
      m_Wp i_M_isTold 40 0 0 [(0, .inr (.inr 98)), (1, .inl a0), (2, .inl (I 131 (Int.toNat a0))), (3, .inl (wr ((wr (6 * a0)) + (I 131 (Int.toNat a0)))))] (v ++ []) M' Q)) ∧
   (¬ (¬ (I 131 (Int.toNat a0)) = (6 : Int)) →
    Q [] (mem Ls p (mup I 131 (Int.toNat a0) (-1)) L)))) :
    m_Call i_M_isTold [.inr (.inr 98), .inl a0] (mem Ls p I L) Q := by
  have he : m_ent 0 ([.inr (.inr 98), .inl a0] : List mV) = [(0, .inr (.inr 98)), (1, .inl a0)] := rfl
  skip <;> exact m_call_at 27 [] he h
set_option maxHeartbeats 4000000 in
set_option maxRecDepth 20000 in
theorem T_M_isTold_40 {Ls p kc ks : Nat}  {I L : Nat → Nat → Int} {x1 x2 x3 : Int} {Q : List mV → mM → Prop}
    (h : (0 ≤ x3 ∧ x3 < 12) ∧
  (((I 126 (Int.toNat x3)) ≤ (30 : Int) →
    (0 ≤ x3 ∧ x3 < 12) ∧
    m_Call i_M_boundLaw [.inr (.inr 98), .inl 1, .inl (wr (-(I 126 (Int.toNat x3)))), .inl (-30), .inl 30] (mem Ls p I L) (fun v M' =>
      m_Wp i_M_isTold 77 kc ks [(0, .inr (.inr 98)), (3, .inl x3)] (v ++ [.inl x3, .inr (.inr 127)]) M' Q)) ∧
   (¬ ((I 126 (Int.toNat x3)) ≤ (30 : Int)) →
    m_Call i_M_boundLaw [.inr (.inr 98), .inl 1, .inl (-30), .inl (-30), .inl 30] (mem Ls p I L) (fun v M' =>
      m_Wp i_M_isTold 77 kc ks [(0, .inr (.inr 98)), (3, .inl x3)] (v ++ [.inl x3, .inr (.inr 127)]) M' Q)))) :
    m_Wp i_M_isTold 40 kc ks [(0, .inr (.inr 98)), (1, .inl x1), (2, .inl x2), (3, .inl x3)] [] (mem Ls p I L) Q := by
  skip <;> exact m_wp_of 20 [] h
set_option maxHeartbeats 4000000 in
set_option maxRecDepth 20000 in
theorem T_M_isTold_77 {Ls p kc ks : Nat}  {I L : Nat → Nat → Int} {x3 y1 y2 : Int} {Q : List mV → mM → Prop}
    (h : (0 ≤ y1 ∧ y1 < 12) ∧
  (0 ≤ x3 ∧ x3 < 12) ∧
  (0 ≤ x3 ∧ x3 < 12) ∧
  (0 ≤ x3 ∧ x3 < 12) ∧
  Q [] (mem Ls p (mup (mup (mup I 127 (Int.toNat y1) y2) 128 (Int.toNat x3) (wr ((I 128 (Int.toNat x3)) + 1))) 125 (Int.toNat x3) 0) L)) :
    m_Wp i_M_isTold 77 kc ks [(0, .inr (.inr 98)), (3, .inl x3)] [.inl y2, .inl y1, .inr (.inr 127)] (mem Ls p I L) Q := by
  skip <;> exact m_wp_of 15 [] h
set_option maxHeartbeats 4000000 in
set_option maxRecDepth 20000 in
theorem E_M_within {Ls p : Nat}  {I L : Nat → Nat → Int} {a0 a1 a2 : Int} {Q : List mV → mM → Prop}
    (h : ((a1 ≤ a0 →
    ((a0 ≤ a2 →
      Q [.inl a0] (mem Ls p I L)) ∧
     (¬ (a0 ≤ a2) →
      Q [.inl a2] (mem Ls p I L)))) ∧
   (¬ (a1 ≤ a0) →
    Q [.inl a1] (mem Ls p I L)))) :
    m_Call i_M_within [.inl a0, .inl a1, .inl a2] (mem Ls p I L) Q := by
  have he : m_ent 0 ([.inl a0, .inl a1, .inl a2] : List mV) = [(0, .inl a0), (1, .inl a1), (2, .inl a2)] := rfl
  skip <;> exact m_call_at 10 [] he h
set_option maxHeartbeats 4000000 in
set_option maxRecDepth 20000 in
theorem E_M_drifts {Ls p : Nat}  {I L : Nat → Nat → Int} {a0 : Int} {Q : List mV → mM → Prop}
    (h : m_Wp i_M_drifts 2 0 0 [(0, .inr (.inr 98)), (1, .inl a0), (2, .inl 0)] [] (mem Ls p I L) Q) :
    m_Call i_M_drifts [.inr (.inr 98), .inl a0] (mem Ls p I L) Q := by
  have he : m_ent 0 ([.inr (.inr 98), .inl a0] : List mV) = [(0, .inr (.inr 98)), (1, .inl a0)] := rfl
  skip <;> exact m_call_at 3 [2] he h
set_option maxHeartbeats 4000000 in
set_option maxRecDepth 20000 in
theorem T_M_drifts_2 {Ls p kc ks : Nat}  {I L : Nat → Nat → Int} {x1 x2 : Int} {Q : List mV → mM → Prop}
    (h : (((I 98 12) ≤ x2 →
    Q [] (mem Ls p I L)) ∧
   (¬ ((I 98 12) ≤ x2) →
    (0 ≤ x1 ∧ x1 < 2) ∧
    m_Call i_M_layNames [.inr (.inr 98), .inl x1, .inl x2, .inl (I 130 (Int.toNat x1))] (mem Ls p I L) (fun v M' =>
      m_Wp i_M_drifts 22 kc ks [(0, .inr (.inr 98)), (1, .inl x1), (2, .inl x2)] (v ++ []) M' Q)))) :
    m_Wp i_M_drifts 2 kc ks [(0, .inr (.inr 98)), (1, .inl x1), (2, .inl x2)] [] (mem Ls p I L) Q := by
  skip <;> exact m_wp_of 13 [2] h
set_option maxHeartbeats 4000000 in
set_option maxRecDepth 20000 in
theorem T_M_drifts_22 {Ls p kc ks : Nat}  {I L : Nat → Nat → Int} {x1 x2 : Int} {Q : List mV → mM → Prop}
    (h : (0 ≤ (wr ((wr (6 * x1)) + x2)) ∧ (wr ((wr (6 * x1)) + x2)) < 12) ∧
  m_Call i_M_rateIn [.inr (.inr 98), .inl x2] (mem Ls p I L) (fun v M' =>
    m_Wp i_M_drifts 40 kc ks [(0, .inr (.inr 98)), (1, .inl x1), (2, .inl x2)] (v ++ [.inl 2, .inr (.inr 98), .inl (I 127 (Int.toNat (wr ((wr (6 * x1)) + x2))))]) M' Q)) :
    m_Wp i_M_drifts 22 kc ks [(0, .inr (.inr 98)), (1, .inl x1), (2, .inl x2)] [] (mem Ls p I L) Q := by
  skip <;> exact m_wp_of 13 [2] h
set_option maxHeartbeats 4000000 in
set_option maxRecDepth 20000 in
theorem T_M_drifts_40 {Ls p kc ks : Nat}  {I L : Nat → Nat → Int} {x1 x2 y0 y2 y3 : Int} {Q : List mV → mM → Prop}
    (h : m_Call i_M_boundLaw [.inr (.inr 98), .inl y2, .inl y3, .inl (-9), .inl 9] (mem Ls p I L) (fun v M' =>
    m_Wp i_M_drifts 47 kc ks [(0, .inr (.inr 98)), (1, .inl x1), (2, .inl x2)] (v ++ [.inl y0]) M' Q)) :
    m_Wp i_M_drifts 40 kc ks [(0, .inr (.inr 98)), (1, .inl x1), (2, .inl x2)] [.inl y3, .inl y2, .inr (.inr 98), .inl y0] (mem Ls p I L) Q := by
  skip <;> exact m_wp_of 3 [2] h
set_option maxHeartbeats 4000000 in
set_option maxRecDepth 20000 in
theorem T_M_drifts_47 {Ls p kc ks : Nat}  {I L : Nat → Nat → Int} {x1 x2 y0 y1 : Int} {Q : List mV → mM → Prop}
    (h : m_Call i_M_within [.inl (wr (y0 + y1)), .inl (-99), .inl 99] (mem Ls p I L) (fun v M' =>
    m_Wp i_M_drifts 67 kc ks [(0, .inr (.inr 98)), (1, .inl x1), (2, .inl x2), (3, .inl (wr (y0 + y1)))] (v ++ [.inl (wr ((wr (6 * x1)) + x2)), .inr (.inr 127)]) M' Q)) :
    m_Wp i_M_drifts 47 kc ks [(0, .inr (.inr 98)), (1, .inl x1), (2, .inl x2)] [.inl y1, .inl y0] (mem Ls p I L) Q := by
  skip <;> exact m_wp_of 13 [2] h
set_option maxHeartbeats 4000000 in
set_option maxRecDepth 20000 in
theorem T_M_drifts_67 {Ls p kc ks : Nat}  {I L : Nat → Nat → Int} {x1 x2 x3 y1 y2 : Int} {Q : List mV → mM → Prop}
    (h : (0 ≤ y1 ∧ y1 < 12) ∧
  m_Wp i_M_drifts 2 kc ks [(0, .inr (.inr 98)), (1, .inl x1), (2, .inl (wr (x2 + 1)))] [] (mem Ls p (mup I 127 (Int.toNat y1) y2) L) Q) :
    m_Wp i_M_drifts 67 kc ks [(0, .inr (.inr 98)), (1, .inl x1), (2, .inl x2), (3, .inl x3)] [.inl y2, .inl y1, .inr (.inr 127)] (mem Ls p I L) Q := by
  skip <;> exact m_wp_of 4 [2] h
set_option maxHeartbeats 4000000 in
set_option maxRecDepth 20000 in
theorem E_M_comes {Ls p : Nat}  {I L : Nat → Nat → Int} {a0 a1 a2 : Int} {Q : List mV → mM → Prop}
    (h : ((¬ a2 = (0 : Int) →
    (0 ≤ a1 ∧ a1 < 12) ∧
    (0 ≤ (wr ((wr ((wr (12 * a0)) + (wr (2 * a1)))) + a2)) ∧ (wr ((wr ((wr (12 * a0)) + (wr (2 * a1)))) + a2)) < 24) ∧
    (((0 : Int) ≤ (I 134 (Int.toNat (wr ((wr ((wr (12 * a0)) + (wr (2 * a1)))) + a2)))) →
      Q [] (mem Ls p I L)) ∧
     (¬ ((0 : Int) ≤ (I 134 (Int.toNat (wr ((wr ((wr (12 * a0)) + (wr (2 * a1)))) + a2))))) →
      (0 ≤ a0 ∧ a0 < 2) ∧
      (0 ≤ (wr ((wr (6 * a0)) + (I 111 (Int.toNat a1)))) ∧ (wr ((wr (6 * a0)) + (I 111 (Int.toNat a1)))) < 12) ∧
      (0 ≤ (wr ((wr (6 * a0)) + a1)) ∧ (wr ((wr (6 * a0)) + a1)) < 12) ∧
      (((wr ((I 136 (Int.toNat a0)) + (I 127 (Int.toNat (wr ((wr (6 * a0)) + (I 111 (Int.toNat a1)))))))) < (I 133 (Int.toNat (wr ((wr (6 * a0)) + a1)))) →
        Q [] (mem Ls p I L)) ∧
       (¬ ((wr ((I 136 (Int.toNat a0)) + (I 127 (Int.toNat (wr ((wr (6 * a0)) + (I 111 (Int.toNat a1)))))))) < (I 133 (Int.toNat (wr ((wr (6 * a0)) + a1))))) →
        (0 ≤ a0 ∧ a0 < 2) ∧
        (0 ≤ (wr ((wr ((wr (12 * a0)) + (wr (2 * a1)))) + a2)) ∧ (wr ((wr ((wr (12 * a0)) + (wr (2 * a1)))) + a2)) < 24) ∧
        Q [] (mem Ls p (mup I 134 (Int.toNat (wr ((wr ((wr (12 * a0)) + (wr (2 * a1)))) + a2))) (I 136 (Int.toNat a0))) L)))))) ∧
   (¬ (¬ a2 = (0 : Int)) →
    (0 ≤ a1 ∧ a1 < 12) ∧
    (0 ≤ (wr ((wr ((wr (12 * a0)) + (wr (2 * a1)))) + a2)) ∧ (wr ((wr ((wr (12 * a0)) + (wr (2 * a1)))) + a2)) < 24) ∧
    (((0 : Int) ≤ (I 134 (Int.toNat (wr ((wr ((wr (12 * a0)) + (wr (2 * a1)))) + a2)))) →
      Q [] (mem Ls p I L)) ∧
     (¬ ((0 : Int) ≤ (I 134 (Int.toNat (wr ((wr ((wr (12 * a0)) + (wr (2 * a1)))) + a2))))) →
      (0 ≤ a0 ∧ a0 < 2) ∧
      (0 ≤ (wr ((wr (6 * a0)) + (I 110 (Int.toNat a1)))) ∧ (wr ((wr (6 * a0)) + (I 110 (Int.toNat a1)))) < 12) ∧
      (0 ≤ (wr ((wr (6 * a0)) + a1)) ∧ (wr ((wr (6 * a0)) + a1)) < 12) ∧
      (((wr ((I 136 (Int.toNat a0)) + (I 127 (Int.toNat (wr ((wr (6 * a0)) + (I 110 (Int.toNat a1)))))))) < (I 133 (Int.toNat (wr ((wr (6 * a0)) + a1)))) →
        Q [] (mem Ls p I L)) ∧
       (¬ ((wr ((I 136 (Int.toNat a0)) + (I 127 (Int.toNat (wr ((wr (6 * a0)) + (I 110 (Int.toNat a1)))))))) < (I 133 (Int.toNat (wr ((wr (6 * a0)) + a1))))) →
        (0 ≤ a0 ∧ a0 < 2) ∧
        (0 ≤ (wr ((wr ((wr (12 * a0)) + (wr (2 * a1)))) + a2)) ∧ (wr ((wr ((wr (12 * a0)) + (wr (2 * a1)))) + a2)) < 24) ∧
        Q [] (mem Ls p (mup I 134 (Int.toNat (wr ((wr ((wr (12 * a0)) + (wr (2 * a1)))) + a2))) (I 136 (Int.toNat a0))) L)))))))) :
    m_Call i_M_comes [.inr (.inr 98), .inl a0, .inl a1, .inl a2] (mem Ls p I L) Q := by
  have he : m_ent 0 ([.inr (.inr 98), .inl a0, .inl a1, .inl a2] : List mV) = [(0, .inr (.inr 98)), (1, .inl a0), (2, .inl a1), (3, .inl a2)] := rfl
  skip <;> exact m_call_at 56 [] he h
set_option maxHeartbeats 4000000 in
set_option maxRecDepth 20000 in
theorem E_M_meets {Ls p : Nat}  {I L : Nat → Nat → Int} {a0 a1 : Int} {Q : List mV → mM → Prop}
    (h : m_Call i_M_comes [.inr (.inr 98), .inl a0, .inl a1, .inl 0] (mem Ls p I L) (fun v M' =>
    m_Wp i_M_meets 7 0 0 [(0, .inr (.inr 98)), (1, .inl a0), (2, .inl a1)] (v ++ []) M' Q)) :
    m_Call i_M_meets [.inr (.inr 98), .inl a0, .inl a1] (mem Ls p I L) Q := by
  have he : m_ent 0 ([.inr (.inr 98), .inl a0, .inl a1] : List mV) = [(0, .inr (.inr 98)), (1, .inl a0), (2, .inl a1)] := rfl
  skip <;> exact m_call_at 5 [] he h
set_option maxHeartbeats 4000000 in
set_option maxRecDepth 20000 in
theorem T_M_meets_7 {Ls p kc ks : Nat}  {I L : Nat → Nat → Int} {x1 x2 : Int} {Q : List mV → mM → Prop}
    (h : m_Call i_M_comes [.inr (.inr 98), .inl x1, .inl x2, .inl 1] (mem Ls p I L) (fun v M' =>
    m_Wp i_M_meets 14 kc ks [(0, .inr (.inr 98)), (1, .inl x1), (2, .inl x2)] (v ++ []) M' Q)) :
    m_Wp i_M_meets 7 kc ks [(0, .inr (.inr 98)), (1, .inl x1), (2, .inl x2)] [] (mem Ls p I L) Q := by
  skip <;> exact m_wp_of 5 [] h
set_option maxHeartbeats 4000000 in
set_option maxRecDepth 20000 in
theorem T_M_meets_14 {Ls p kc ks : Nat}  {I L : Nat → Nat → Int} {x1 x2 : Int} {Q : List mV → mM → Prop}
    (h : (0 ≤ (wr ((wr (12 * x1)) + (wr (2 * x2)))) ∧ (wr ((wr (12 * x1)) + (wr (2 * x2)))) < 24) ∧
  (0 ≤ (wr ((wr ((wr (12 * x1)) + (wr (2 * x2)))) + 1)) ∧ (wr ((wr ((wr (12 * x1)) + (wr (2 * x2)))) + 1)) < 24) ∧
  (((I 134 (Int.toNat (wr ((wr (12 * x1)) + (wr (2 * x2)))))) < (0 : Int) →
    Q [] (mem Ls p I L)) ∧
   (¬ ((I 134 (Int.toNat (wr ((wr (12 * x1)) + (wr (2 * x2)))))) < (0 : Int)) →
    (((0 : Int) ≤ (I 134 (Int.toNat (wr ((wr ((wr (12 * x1)) + (wr (2 * x2)))) + 1)))) →
      (((I 134 (Int.toNat (wr ((wr (12 * x1)) + (wr (2 * x2)))))) ≤ (I 134 (Int.toNat (wr ((wr ((wr (12 * x1)) + (wr (2 * x2)))) + 1)))) →
        (0 ≤ x2 ∧ x2 < 12) ∧
        m_Call i_M_waitsOf [.inr (.inr 98), .inl (I 110 (Int.toNat x2))] (mem Ls p I L) (fun v M' =>
          m_Wp i_M_meets 84 kc ks [(0, .inr (.inr 98)), (1, .inl x1), (2, .inl x2), (5, .inl (wr ((I 134 (Int.toNat (wr ((wr ((wr (12 * x1)) + (wr (2 * x2)))) + 1)))) - (I 134 (Int.toNat (wr ((wr (12 * x1)) + (wr (2 * x2)))))))))] (v ++ []) M' Q)) ∧
       (¬ ((I 134 (Int.toNat (wr ((wr (12 * x1)) + (wr (2 * x2)))))) ≤ (I 134 (Int.toNat (wr ((wr ((wr (12 * x1)) + (wr (2 * x2)))) + 1))))) →
        (0 ≤ x2 ∧ x2 < 12) ∧
        m_Call i_M_waitsOf [.inr (.inr 98), .inl (I 110 (Int.toNat x2))] (mem Ls p I L) (fun v M' =>
          m_Wp i_M_meets 84 kc ks [(0, .inr (.inr 98)), (1, .inl x1), (2, .inl x2), (5, .inl (wr ((I 134 (Int.toNat (wr ((wr (12 * x1)) + (wr (2 * x2)))))) - (I 134 (Int.toNat (wr ((wr ((wr (12 * x1)) + (wr (2 * x2)))) + 1)))))))] (v ++ []) M' Q)))) ∧
     (¬ ((0 : Int) ≤ (I 134 (Int.toNat (wr ((wr ((wr (12 * x1)) + (wr (2 * x2)))) + 1))))) →
      Q [] (mem Ls p I L)))))) :
    m_Wp i_M_meets 14 kc ks [(0, .inr (.inr 98)), (1, .inl x1), (2, .inl x2)] [] (mem Ls p I L) Q := by
  skip <;> exact m_wp_of 43 [] h
set_option maxHeartbeats 4000000 in
set_option maxRecDepth 20000 in
theorem T_M_meets_84 {Ls p kc ks : Nat}  {I L : Nat → Nat → Int} {x1 x2 x5 y0 : Int} {Q : List mV → mM → Prop}
    (h : (0 ≤ x2 ∧ x2 < 12) ∧
  m_Call i_M_waitsOf [.inr (.inr 98), .inl (I 111 (Int.toNat x2))] (mem Ls p I L) (fun v M' =>
    m_Wp i_M_meets 96 kc ks [(0, .inr (.inr 98)), (1, .inl x1), (2, .inl x2), (5, .inl x5), (6, .inl y0)] (v ++ []) M' Q)) :
    m_Wp i_M_meets 84 kc ks [(0, .inr (.inr 98)), (1, .inl x1), (2, .inl x2), (5, .inl x5)] [.inl y0] (mem Ls p I L) Q := by
  skip <;> exact m_wp_of 7 [] h
set_option maxHeartbeats 4000000 in
set_option maxRecDepth 20000 in
theorem T_M_meets_96 {Ls p kc ks : Nat}  {I L : Nat → Nat → Int} {x1 x2 x5 x6 y0 : Int} {Q : List mV → mM → Prop}
    (h : ((y0 ≤ x6 →
    ((y0 < x5 →
      (0 ≤ (wr ((wr (6 * x1)) + x2)) ∧ (wr ((wr (6 * x1)) + x2)) < 12) ∧
      Q [] (mem Ls p (mup I 135 (Int.toNat (wr ((wr (6 * x1)) + x2))) 2) L)) ∧
     (¬ (y0 < x5) →
      (0 ≤ (wr ((wr (6 * x1)) + x2)) ∧ (wr ((wr (6 * x1)) + x2)) < 12) ∧
      Q [] (mem Ls p (mup I 135 (Int.toNat (wr ((wr (6 * x1)) + x2))) 1) L)))) ∧
   (¬ (y0 ≤ x6) →
    ((x6 < x5 →
      (0 ≤ (wr ((wr (6 * x1)) + x2)) ∧ (wr ((wr (6 * x1)) + x2)) < 12) ∧
      Q [] (mem Ls p (mup I 135 (Int.toNat (wr ((wr (6 * x1)) + x2))) 2) L)) ∧
     (¬ (x6 < x5) →
      (0 ≤ (wr ((wr (6 * x1)) + x2)) ∧ (wr ((wr (6 * x1)) + x2)) < 12) ∧
      Q [] (mem Ls p (mup I 135 (Int.toNat (wr ((wr (6 * x1)) + x2))) 1) L)))))) :
    m_Wp i_M_meets 96 kc ks [(0, .inr (.inr 98)), (1, .inl x1), (2, .inl x2), (5, .inl x5), (6, .inl x6)] [.inl y0] (mem Ls p I L) Q := by
  skip <;> exact m_wp_of 21 [] h
set_option maxHeartbeats 4000000 in
set_option maxRecDepth 20000 in
theorem E_M_minuteGoes {Ls p : Nat}  {I L : Nat → Nat → Int} {a0 : Int} {Q : List mV → mM → Prop}
    (h : m_Wp i_M_minuteGoes 2 0 0 [(0, .inr (.inr 98)), (1, .inl a0), (2, .inl 0)] [] (mem Ls p I L) Q) :
    m_Call i_M_minuteGoes [.inr (.inr 98), .inl a0] (mem Ls p I L) Q := by
  have he : m_ent 0 ([.inr (.inr 98), .inl a0] : List mV) = [(0, .inr (.inr 98)), (1, .inl a0)] := rfl
  skip <;> exact m_call_at 3 [2, 50, 112, 136, 170, 196, 198, 226] he h
set_option maxHeartbeats 4000000 in
set_option maxRecDepth 20000 in
theorem T_M_minuteGoes_2 {Ls p kc ks : Nat}  {I L : Nat → Nat → Int} {x1 x2 : Int} {Q : List mV → mM → Prop}
    (h : (((I 98 13) ≤ x2 →
    m_Call i_M_isStranger [.inr (.inr 98)] (mem Ls p I L) (fun v M' =>
      m_Wp i_M_minuteGoes 60 kc ks [(0, .inr (.inr 98)), (1, .inl x1), (2, .inl x2)] (v ++ []) M' Q)) ∧
   (¬ ((I 98 13) ≤ x2) →
    (0 ≤ x2 ∧ x2 < 20) ∧
    (0 ≤ x1 ∧ x1 < 2) ∧
    ((¬ (I 109 (Int.toNat x2)) = (I 136 (Int.toNat x1)) →
      m_Wp i_M_minuteGoes 50 kc ks [(0, .inr (.inr 98)), (1, .inl x1), (2, .inl x2)] [] (mem Ls p I L) Q) ∧
     (¬ (¬ (I 109 (Int.toNat x2)) = (I 136 (Int.toNat x1))) →
      (0 ≤ x2 ∧ x2 < 20) ∧
      (((I 108 (Int.toNat x2)) = (I 98 72) →
        m_Wp i_M_minuteGoes 50 kc ks [(0, .inr (.inr 98)), (1, .inl x1), (2, .inl x2)] [] (mem Ls p I L) Q) ∧
       (¬ ((I 108 (Int.toNat x2)) = (I 98 72)) →
        (0 ≤ x2 ∧ x2 < 20) ∧
        m_Call i_M_joins [.inr (.inr 98), .inl x1, .inl (I 108 (Int.toNat x2))] (mem Ls p I L) (fun v M' =>
          m_Wp i_M_minuteGoes 49 kc ks [(0, .inr (.inr 98)), (1, .inl x1), (2, .inl x2)] (v ++ []) M' Q)))))))) :
    m_Wp i_M_minuteGoes 2 kc ks [(0, .inr (.inr 98)), (1, .inl x1), (2, .inl x2)] [] (mem Ls p I L) Q := by
  skip <;> exact m_wp_of 28 [2, 50, 112, 136, 170, 196, 198, 226] h
set_option maxHeartbeats 4000000 in
set_option maxRecDepth 20000 in
theorem T_M_minuteGoes_60 {Ls p kc ks : Nat}  {I L : Nat → Nat → Int} {x1 x2 y0 : Int} {Q : List mV → mM → Prop}
    (h : ((y0 = (0 : Int) →
    m_Wp i_M_minuteGoes 112 kc ks [(0, .inr (.inr 98)), (1, .inl x1)] [] (mem Ls p I L) Q) ∧
   (¬ (y0 = (0 : Int)) →
    (0 ≤ x1 ∧ x1 < 2) ∧
    (0 ≤ x1 ∧ x1 < 2) ∧
    (0 ≤ x1 ∧ x1 < 2) ∧
    (((20 : Int) ≤ (I 130 (Int.toNat x1)) →
      m_Wp i_M_minuteGoes 112 kc ks [(0, .inr (.inr 98)), (1, .inl x1)] [] (mem Ls p (mup I 137 (Int.toNat x1) (wr ((I 137 (Int.toNat x1)) + 1))) L) Q) ∧
     (¬ ((20 : Int) ≤ (I 130 (Int.toNat x1))) →
      (0 ≤ x1 ∧ x1 < 2) ∧
      (0 ≤ (wr ((wr (20 * x1)) + (I 130 (Int.toNat x1)))) ∧ (wr ((wr (20 * x1)) + (I 130 (Int.toNat x1)))) < 40) ∧
      (0 ≤ x1 ∧ x1 < 2) ∧
      (0 ≤ x1 ∧ x1 < 2) ∧
      m_Wp i_M_minuteGoes 112 kc ks [(0, .inr (.inr 98)), (1, .inl x1)] [] (mem Ls p (mup (mup (mup I 137 (Int.toNat x1) (wr ((I 137 (Int.toNat x1)) + 1))) 129 (Int.toNat (wr ((wr (20 * x1)) + (I 130 (Int.toNat x1))))) 6) 130 (Int.toNat x1) (wr ((I 130 (Int.toNat x1)) + 1))) L) Q))))) :
    m_Wp i_M_minuteGoes 60 kc ks [(0, .inr (.inr 98)), (1, .inl x1), (2, .inl x2)] [.inl y0] (mem Ls p I L) Q := by
  skip <;> exact m_wp_of 36 [2, 50, 112, 136, 170, 196, 198, 226] h
