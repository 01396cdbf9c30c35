/-! ===== segments of the code (by program: wip/whole/gen_all.py) ===== -/
set_option maxHeartbeats 4000000 in
set_option maxRecDepth 20000 in
theorem E_M_plain {Ls p : Nat}  {I L : Nat → Nat → Int} {Q : List mV → mM → Prop}
    (h : m_Wp i_M_plain 32 0 0 [(0, .inr (.inr 98)), (1, .inl 0)] [] (mem Ls p (mup (mup (mup (mup (mup (mup I 98 17 0) 98 18 0) 98 19 0) 98 20 0) 98 21 0) 98 47 0) L) Q) :
    m_Call i_M_plain [.inr (.inr 98)] (mem Ls p I L) Q := by
  have he : m_ent 0 ([.inr (.inr 98)] : List mV) = [(0, .inr (.inr 98))] := rfl
  skip <;> exact m_call_at 21 [32, 61] he h
set_option maxHeartbeats 4000000 in
set_option maxRecDepth 20000 in
theorem T_M_plain_32 {Ls p kc ks : Nat}  {I L : Nat → Nat → Int} {x1 : Int} {Q : List mV → mM → Prop}
    (h : (((2 : Int) ≤ x1 →
    m_Wp i_M_plain 61 kc ks [(0, .inr (.inr 98)), (1, .inl 3)] [] (mem Ls p I L) Q) ∧
   (¬ ((2 : Int) ≤ x1) →
    ((0 ≤ x1 ∧ x1 < 2) ∧ ((0 : Int) = 0 ∨ (0 : Int) = 1)) ∧
    (0 ≤ (wr (2 + x1)) ∧ (wr (2 + x1)) < 4) ∧
    m_Wp i_M_plain 32 kc ks [(0, .inr (.inr 98)), (1, .inl (wr (x1 + 1)))] [] (mem Ls p (mup (mup I 101 (Int.toNat x1) 0) 102 (Int.toNat (wr (2 + x1))) 0) L) Q))) :
    m_Wp i_M_plain 32 kc ks [(0, .inr (.inr 98)), (1, .inl x1)] [] (mem Ls p I L) Q := by
  skip <;> exact m_wp_of 19 [32, 61] h
set_option maxHeartbeats 4000000 in
set_option maxRecDepth 20000 in
theorem T_M_plain_61 {Ls p kc ks : Nat}  {I L : Nat → Nat → Int} {x1 : Int} {Q : List mV → mM → Prop}
    (h : (((6 : Int) ≤ x1 →
    Q [] (mem Ls p I L)) ∧
   (¬ ((6 : Int) ≤ x1) →
    ((0 ≤ x1 ∧ x1 < 6) ∧ ((0 : Int) = 0 ∨ (0 : Int) = 1)) ∧
    m_Wp i_M_plain 61 kc ks [(0, .inr (.inr 98)), (1, .inl (wr (x1 + 1)))] [] (mem Ls p (mup I 115 (Int.toNat x1) 0) L) Q))) :
    m_Wp i_M_plain 61 kc ks [(0, .inr (.inr 98)), (1, .inl x1)] [] (mem Ls p I L) Q := by
  skip <;> exact m_wp_of 12 [32, 61] h
set_option maxHeartbeats 4000000 in
set_option maxRecDepth 20000 in
theorem E_M_copies_r102 {Ls p : Nat}  {I L : Nat → Nat → Int} {a1 : Int} {Q : List mV → mM → Prop}
    (h : m_Wp i_M_copies 2 0 0 [(0, .inr (.inr 102)), (1, .inl a1), (2, .inl 0)] [] (mem Ls p I L) Q) :
    m_Call i_M_copies [.inr (.inr 102), .inl a1] (mem Ls p I L) Q := by
  have he : m_ent 0 ([.inr (.inr 102), .inl a1] : List mV) = [(0, .inr (.inr 102)), (1, .inl a1)] := rfl
  skip <;> exact m_call_at 3 [2] he h
set_option maxHeartbeats 4000000 in
set_option maxRecDepth 20000 in
theorem T_M_copies_2_r102 {Ls p kc ks : Nat}  {I L : Nat → Nat → Int} {x1 x2 : Int} {Q : List mV → mM → Prop}
    (h : ((x1 ≤ x2 →
    Q [] (mem Ls p I L)) ∧
   (¬ (x1 ≤ x2) →
    (0 ≤ (wr (x1 + x2)) ∧ (wr (x1 + x2)) < 4) ∧
    (0 ≤ x2 ∧ x2 < 4) ∧
    m_Wp i_M_copies 2 kc ks [(0, .inr (.inr 102)), (1, .inl x1), (2, .inl (wr (x2 + 1)))] [] (mem Ls p (mup I 102 (Int.toNat x2) (I 102 (Int.toNat (wr (x1 + x2))))) L) Q))) :
    m_Wp i_M_copies 2 kc ks [(0, .inr (.inr 102)), (1, .inl x1), (2, .inl x2)] [] (mem Ls p I L) Q := by
  skip <;> exact m_wp_of 15 [2] h
set_option maxHeartbeats 4000000 in
set_option maxRecDepth 20000 in
theorem E_M_copies_r103 {Ls p : Nat}  {I L : Nat → Nat → Int} {a1 : Int} {Q : List mV → mM → Prop}
    (h : m_Wp i_M_copies 2 0 0 [(0, .inr (.inr 103)), (1, .inl a1), (2, .inl 0)] [] (mem Ls p I L) Q) :
    m_Call i_M_copies [.inr (.inr 103), .inl a1] (mem Ls p I L) Q := by
  have he : m_ent 0 ([.inr (.inr 103), .inl a1] : List mV) = [(0, .inr (.inr 103)), (1, .inl a1)] := rfl
  skip <;> exact m_call_at 3 [2] he h
set_option maxHeartbeats 4000000 in
set_option maxRecDepth 20000 in
theorem T_M_copies_2_r103 {Ls p kc ks : Nat}  {I L : Nat → Nat → Int} {x1 x2 : Int} {Q : List mV → mM → Prop}
    (h : ((x1 ≤ x2 →
    Q [] (mem Ls p I L)) ∧
   (¬ (x1 ≤ x2) →
    (0 ≤ (wr (x1 + x2)) ∧ (wr (x1 + x2)) < 12) ∧
    (0 ≤ x2 ∧ x2 < 12) ∧
    m_Wp i_M_copies 2 kc ks [(0, .inr (.inr 103)), (1, .inl x1), (2, .inl (wr (x2 + 1)))] [] (mem Ls p (mup I 103 (Int.toNat x2) (I 103 (Int.toNat (wr (x1 + x2))))) L) Q))) :
    m_Wp i_M_copies 2 kc ks [(0, .inr (.inr 103)), (1, .inl x1), (2, .inl x2)] [] (mem Ls p I L) Q := by
  skip <;> exact m_wp_of 15 [2] h
set_option maxHeartbeats 4000000 in
set_option maxRecDepth 20000 in
theorem E_M_copies_r104 {Ls p : Nat}  {I L : Nat → Nat → Int} {a1 : Int} {Q : List mV → mM → Prop}
    (h : m_Wp i_M_copies 2 0 0 [(0, .inr (.inr 104)), (1, .inl a1), (2, .inl 0)] [] (mem Ls p I L) Q) :
    m_Call i_M_copies [.inr (.inr 104), .inl a1] (mem Ls p I L) Q := by
  have he : m_ent 0 ([.inr (.inr 104), .inl a1] : List mV) = [(0, .inr (.inr 104)), (1, .inl a1)] := rfl
  skip <;> exact m_call_at 3 [2] he h
set_option maxHeartbeats 4000000 in
set_option maxRecDepth 20000 in
theorem T_M_copies_2_r104 {Ls p kc ks : Nat}  {I L : Nat → Nat → Int} {x1 x2 : Int} {Q : List mV → mM → Prop}
    (h : ((x1 ≤ x2 →
    Q [] (mem Ls p I L)) ∧
   (¬ (x1 ≤ x2) →
    (0 ≤ (wr (x1 + x2)) ∧ (wr (x1 + x2)) < 12) ∧
    (0 ≤ x2 ∧ x2 < 12) ∧
    m_Wp i_M_copies 2 kc ks [(0, .inr (.inr 104)), (1, .inl x1), (2, .inl (wr (x2 + 1)))] [] (mem Ls p (mup I 104 (Int.toNat x2) (I 104 (Int.toNat (wr (x1 + x2))))) L) Q))) :
    m_Wp i_M_copies 2 kc ks [(0, .inr (.inr 104)), (1, .inl x1), (2, .inl x2)] [] (mem Ls p I L) Q := by
  skip <;> exact m_wp_of 15 [2] h
set_option maxHeartbeats 4000000 in
set_option maxRecDepth 20000 in
theorem E_M_copies_r105 {Ls p : Nat}  {I L : Nat → Nat → Int} {a1 : Int} {Q : List mV → mM → Prop}
    (h : m_Wp i_M_copies 2 0 0 [(0, .inr (.inr 105)), (1, .inl a1), (2, .inl 0)] [] (mem Ls p I L) Q) :
    m_Call i_M_copies [.inr (.inr 105), .inl a1] (mem Ls p I L) Q := by
  have he : m_ent 0 ([.inr (.inr 105), .inl a1] : List mV) = [(0, .inr (.inr 105)), (1, .inl a1)] := rfl
  skip <;> exact m_call_at 3 [2] he h
set_option maxHeartbeats 4000000 in
set_option maxRecDepth 20000 in
theorem T_M_copies_2_r105 {Ls p kc ks : Nat}  {I L : Nat → Nat → Int} {x1 x2 : Int} {Q : List mV → mM → Prop}
    (h : ((x1 ≤ x2 →
    Q [] (mem Ls p I L)) ∧
   (¬ (x1 ≤ x2) →
    (0 ≤ (wr (x1 + x2)) ∧ (wr (x1 + x2)) < 12) ∧
    (0 ≤ x2 ∧ x2 < 12) ∧
    m_Wp i_M_copies 2 kc ks [(0, .inr (.inr 105)), (1, .inl x1), (2, .inl (wr (x2 + 1)))] [] (mem Ls p (mup I 105 (Int.toNat x2) (I 105 (Int.toNat (wr (x1 + x2))))) L) Q))) :
    m_Wp i_M_copies 2 kc ks [(0, .inr (.inr 105)), (1, .inl x1), (2, .inl x2)] [] (mem Ls p I L) Q := by
  skip <;> exact m_wp_of 15 [2] h
set_option maxHeartbeats 4000000 in
set_option maxRecDepth 20000 in
theorem E_M_copies_r106 {Ls p : Nat}  {I L : Nat → Nat → Int} {a1 : Int} {Q : List mV → mM → Prop}
    (h : m_Wp i_M_copies 2 0 0 [(0, .inr (.inr 106)), (1, .inl a1), (2, .inl 0)] [] (mem Ls p I L) Q) :
    m_Call i_M_copies [.inr (.inr 106), .inl a1] (mem Ls p I L) Q := by
  have he : m_ent 0 ([.inr (.inr 106), .inl a1] : List mV) = [(0, .inr (.inr 106)), (1, .inl a1)] := rfl
  skip <;> exact m_call_at 3 [2] he h
set_option maxHeartbeats 4000000 in
set_option maxRecDepth 20000 in
theorem T_M_copies_2_r106 {Ls p kc ks : Nat}  {I L : Nat → Nat → Int} {x1 x2 : Int} {Q : List mV → mM → Prop}
    (h : ((x1 ≤ x2 →
    Q [] (mem Ls p I L)) ∧
   (¬ (x1 ≤ x2) →
    (0 ≤ (wr (x1 + x2)) ∧ (wr (x1 + x2)) < 12) ∧
    (0 ≤ x2 ∧ x2 < 12) ∧
    m_Wp i_M_copies 2 kc ks [(0, .inr (.inr 106)), (1, .inl x1), (2, .inl (wr (x2 + 1)))] [] (mem Ls p (mup I 106 (Int.toNat x2) (I 106 (Int.toNat (wr (x1 + x2))))) L) Q))) :
    m_Wp i_M_copies 2 kc ks [(0, .inr (.inr 106)), (1, .inl x1), (2, .inl x2)] [] (mem Ls p I L) Q := by
  skip <;> exact m_wp_of 15 [2] h
set_option maxHeartbeats 4000000 in
set_option maxRecDepth 20000 in
theorem E_M_copies_r107 {Ls p : Nat}  {I L : Nat → Nat → Int} {a1 : Int} {Q : List mV → mM → Prop}
    (h : m_Wp i_M_copies 2 0 0 [(0, .inr (.inr 107)), (1, .inl a1), (2, .inl 0)] [] (mem Ls p I L) Q) :
    m_Call i_M_copies [.inr (.inr 107), .inl a1] (mem Ls p I L) Q := by
  have he : m_ent 0 ([.inr (.inr 107), .inl a1] : List mV) = [(0, .inr (.inr 107)), (1, .inl a1)] := rfl
  skip <;> exact m_call_at 3 [2] he h
set_option maxHeartbeats 4000000 in
set_option maxRecDepth 20000 in
theorem T_M_copies_2_r107 {Ls p kc ks : Nat}  {I L : Nat → Nat → Int} {x1 x2 : Int} {Q : List mV → mM → Prop}
    (h : ((x1 ≤ x2 →
    Q [] (mem Ls p I L)) ∧
   (¬ (x1 ≤ x2) →
    (0 ≤ (wr (x1 + x2)) ∧ (wr (x1 + x2)) < 12) ∧
    (0 ≤ x2 ∧ x2 < 12) ∧
    m_Wp i_M_copies 2 kc ks [(0, .inr (.inr 107)), (1, .inl x1), (2, .inl (wr (x2 + 1)))] [] (mem Ls p (mup I 107 (Int.toNat x2) (I 107 (Int.toNat (wr (x1 + x2))))) L) Q))) :
    m_Wp i_M_copies 2 kc ks [(0, .inr (.inr 107)), (1, .inl x1), (2, .inl x2)] [] (mem Ls p I L) Q := by
  skip <;> exact m_wp_of 15 [2] h
set_option maxHeartbeats 4000000 in
set_option maxRecDepth 20000 in
theorem E_M_copies_r108 {Ls p : Nat}  {I L : Nat → Nat → Int} {a1 : Int} {Q : List mV → mM → Prop}
    (h : m_Wp i_M_copies 2 0 0 [(0, .inr (.inr 108)), (1, .inl a1), (2, .inl 0)] [] (mem Ls p I L) Q) :
    m_Call i_M_copies [.inr (.inr 108), .inl a1] (mem Ls p I L) Q := by
  have he : m_ent 0 ([.inr (.inr 108), .inl a1] : List mV) = [(0, .inr (.inr 108)), (1, .inl a1)] := rfl
  skip <;> exact m_call_at 3 [2] he h
set_option maxHeartbeats 4000000 in
set_option maxRecDepth 20000 in
theorem T_M_copies_2_r108 {Ls p kc ks : Nat}  {I L : Nat → Nat → Int} {x1 x2 : Int} {Q : List mV → mM → Prop}
    (h : ((x1 ≤ x2 →
    Q [] (mem Ls p I L)) ∧
   (¬ (x1 ≤ x2) →
    (0 ≤ (wr (x1 + x2)) ∧ (wr (x1 + x2)) < 20) ∧
    (0 ≤ x2 ∧ x2 < 20) ∧
    m_Wp i_M_copies 2 kc ks [(0, .inr (.inr 108)), (1, .inl x1), (2, .inl (wr (x2 + 1)))] [] (mem Ls p (mup I 108 (Int.toNat x2) (I 108 (Int.toNat (wr (x1 + x2))))) L) Q))) :
    m_Wp i_M_copies 2 kc ks [(0, .inr (.inr 108)), (1, .inl x1), (2, .inl x2)] [] (mem Ls p I L) Q := by
  skip <;> exact m_wp_of 15 [2] h
set_option maxHeartbeats 4000000 in
set_option maxRecDepth 20000 in
theorem E_M_copies_r109 {Ls p : Nat}  {I L : Nat → Nat → Int} {a1 : Int} {Q : List mV → mM → Prop}
    (h : m_Wp i_M_copies 2 0 0 [(0, .inr (.inr 109)), (1, .inl a1), (2, .inl 0)] [] (mem Ls p I L) Q) :
    m_Call i_M_copies [.inr (.inr 109), .inl a1] (mem Ls p I L) Q := by
  have he : m_ent 0 ([.inr (.inr 109), .inl a1] : List mV) = [(0, .inr (.inr 109)), (1, .inl a1)] := rfl
  skip <;> exact m_call_at 3 [2] he h
set_option maxHeartbeats 4000000 in
set_option maxRecDepth 20000 in
theorem T_M_copies_2_r109 {Ls p kc ks : Nat}  {I L : Nat → Nat → Int} {x1 x2 : Int} {Q : List mV → mM → Prop}
    (h : ((x1 ≤ x2 →
    Q [] (mem Ls p I L)) ∧
   (¬ (x1 ≤ x2) →
    (0 ≤ (wr (x1 + x2)) ∧ (wr (x1 + x2)) < 20) ∧
    (0 ≤ x2 ∧ x2 < 20) ∧
    m_Wp i_M_copies 2 kc ks [(0, .inr (.inr 109)), (1, .inl x1), (2, .inl (wr (x2 + 1)))] [] (mem Ls p (mup I 109 (Int.toNat x2) (I 109 (Int.toNat (wr (x1 + x2))))) L) Q))) :
    m_Wp i_M_copies 2 kc ks [(0, .inr (.inr 109)), (1, .inl x1), (2, .inl x2)] [] (mem Ls p I L) Q := by
  skip <;> exact m_wp_of 15 [2] h
set_option maxHeartbeats 4000000 in
set_option maxRecDepth 20000 in
theorem E_M_copies_r110 {Ls p : Nat}  {I L : Nat → Nat → Int} {a1 : Int} {Q : List mV → mM → Prop}
    (h : m_Wp i_M_copies 2 0 0 [(0, .inr (.inr 110)), (1, .inl a1), (2, .inl 0)] [] (mem Ls p I L) Q) :
    m_Call i_M_copies [.inr (.inr 110), .inl a1] (mem Ls p I L) Q := by
  have he : m_ent 0 ([.inr (.inr 110), .inl a1] : List mV) = [(0, .inr (.inr 110)), (1, .inl a1)] := rfl
  skip <;> exact m_call_at 3 [2] he h
set_option maxHeartbeats 4000000 in
set_option maxRecDepth 20000 in
theorem T_M_copies_2_r110 {Ls p kc ks : Nat}  {I L : Nat → Nat → Int} {x1 x2 : Int} {Q : List mV → mM → Prop}
    (h : ((x1 ≤ x2 →
    Q [] (mem Ls p I L)) ∧
   (¬ (x1 ≤ x2) →
    (0 ≤ (wr (x1 + x2)) ∧ (wr (x1 + x2)) < 12) ∧
    (0 ≤ x2 ∧ x2 < 12) ∧
    m_Wp i_M_copies 2 kc ks [(0, .inr (.inr 110)), (1, .inl x1), (2, .inl (wr (x2 + 1)))] [] (mem Ls p (mup I 110 (Int.toNat x2) (I 110 (Int.toNat (wr (x1 + x2))))) L) Q))) :
    m_Wp i_M_copies 2 kc ks [(0, .inr (.inr 110)), (1, .inl x1), (2, .inl x2)] [] (mem Ls p I L) Q := by
  skip <;> exact m_wp_of 15 [2] h
set_option maxHeartbeats 4000000 in
set_option maxRecDepth 20000 in
theorem E_M_copies_r111 {Ls p : Nat}  {I L : Nat → Nat → Int} {a1 : Int} {Q : List mV → mM → Prop}
    (h : m_Wp i_M_copies 2 0 0 [(0, .inr (.inr 111)), (1, .inl a1), (2, .inl 0)] [] (mem Ls p I L) Q) :
    m_Call i_M_copies [.inr (.inr 111), .inl a1] (mem Ls p I L) Q := by
  have he : m_ent 0 ([.inr (.inr 111), .inl a1] : List mV) = [(0, .inr (.inr 111)), (1, .inl a1)] := rfl
  skip <;> exact m_call_at 3 [2] he h
set_option maxHeartbeats 4000000 in
set_option maxRecDepth 20000 in
theorem T_M_copies_2_r111 {Ls p kc ks : Nat}  {I L : Nat → Nat → Int} {x1 x2 : Int} {Q : List mV → mM → Prop}
    (h : ((x1 ≤ x2 →
    Q [] (mem Ls p I L)) ∧
   (¬ (x1 ≤ x2) →
    (0 ≤ (wr (x1 + x2)) ∧ (wr (x1 + x2)) < 12) ∧
    (0 ≤ x2 ∧ x2 < 12) ∧
    m_Wp i_M_copies 2 kc ks [(0, .inr (.inr 111)), (1, .inl x1), (2, .inl (wr (x2 + 1)))] [] (mem Ls p (mup I 111 (Int.toNat x2) (I 111 (Int.toNat (wr (x1 + x2))))) L) Q))) :
    m_Wp i_M_copies 2 kc ks [(0, .inr (.inr 111)), (1, .inl x1), (2, .inl x2)] [] (mem Ls p I L) Q := by
  skip <;> exact m_wp_of 15 [2] h
set_option maxHeartbeats 4000000 in
set_option maxRecDepth 20000 in
theorem E_M_copies_r112 {Ls p : Nat}  {I L : Nat → Nat → Int} {a1 : Int} {Q : List mV → mM → Prop}
    (h : m_Wp i_M_copies 2 0 0 [(0, .inr (.inr 112)), (1, .inl a1), (2, .inl 0)] [] (mem Ls p I L) Q) :
    m_Call i_M_copies [.inr (.inr 112), .inl a1] (mem Ls p I L) Q := by
  have he : m_ent 0 ([.inr (.inr 112), .inl a1] : List mV) = [(0, .inr (.inr 112)), (1, .inl a1)] := rfl
  skip <;> exact m_call_at 3 [2] he h
set_option maxHeartbeats 4000000 in
set_option maxRecDepth 20000 in
theorem T_M_copies_2_r112 {Ls p kc ks : Nat}  {I L : Nat → Nat → Int} {x1 x2 : Int} {Q : List mV → mM → Prop}
    (h : ((x1 ≤ x2 →
    Q [] (mem Ls p I L)) ∧
   (¬ (x1 ≤ x2) →
    (0 ≤ (wr (x1 + x2)) ∧ (wr (x1 + x2)) < 12) ∧
    (0 ≤ x2 ∧ x2 < 12) ∧
    m_Wp i_M_copies 2 kc ks [(0, .inr (.inr 112)), (1, .inl x1), (2, .inl (wr (x2 + 1)))] [] (mem Ls p (mup I 112 (Int.toNat x2) (I 112 (Int.toNat (wr (x1 + x2))))) L) Q))) :
    m_Wp i_M_copies 2 kc ks [(0, .inr (.inr 112)), (1, .inl x1), (2, .inl x2)] [] (mem Ls p I L) Q := by
  skip <;> exact m_wp_of 15 [2] h
set_option maxHeartbeats 4000000 in
set_option maxRecDepth 20000 in
theorem E_M_copies_r113 {Ls p : Nat}  {I L : Nat → Nat → Int} {a1 : Int} {Q : List mV → mM → Prop}
    (h : m_Wp i_M_copies 2 0 0 [(0, .inr (.inr 113)), (1, .inl a1), (2, .inl 0)] [] (mem Ls p I L) Q) :
    m_Call i_M_copies [.inr (.inr 113), .inl a1] (mem Ls p I L) Q := by
  have he : m_ent 0 ([.inr (.inr 113), .inl a1] : List mV) = [(0, .inr (.inr 113)), (1, .inl a1)] := rfl
  skip <;> exact m_call_at 3 [2] he h
set_option maxHeartbeats 4000000 in
set_option maxRecDepth 20000 in
theorem T_M_copies_2_r113 {Ls p kc ks : Nat}  {I L : Nat → Nat → Int} {x1 x2 : Int} {Q : List mV → mM → Prop}
    (h : ((x1 ≤ x2 →
    Q [] (mem Ls p I L)) ∧
   (¬ (x1 ≤ x2) →
    (0 ≤ (wr (x1 + x2)) ∧ (wr (x1 + x2)) < 6) ∧
    (0 ≤ x2 ∧ x2 < 6) ∧
    m_Wp i_M_copies 2 kc ks [(0, .inr (.inr 113)), (1, .inl x1), (2, .inl (wr (x2 + 1)))] [] (mem Ls p (mup I 113 (Int.toNat x2) (I 113 (Int.toNat (wr (x1 + x2))))) L) Q))) :
    m_Wp i_M_copies 2 kc ks [(0, .inr (.inr 113)), (1, .inl x1), (2, .inl x2)] [] (mem Ls p I L) Q := by
  skip <;> exact m_wp_of 15 [2] h
set_option maxHeartbeats 4000000 in
set_option maxRecDepth 20000 in
theorem E_M_copies_r114 {Ls p : Nat}  {I L : Nat → Nat → Int} {a1 : Int} {Q : List mV → mM → Prop}
    (h : m_Wp i_M_copies 2 0 0 [(0, .inr (.inr 114)), (1, .inl a1), (2, .inl 0)] [] (mem Ls p I L) Q) :
    m_Call i_M_copies [.inr (.inr 114), .inl a1] (mem Ls p I L) Q := by
  have he : m_ent 0 ([.inr (.inr 114), .inl a1] : List mV) = [(0, .inr (.inr 114)), (1, .inl a1)] := rfl
  skip <;> exact m_call_at 3 [2] he h
set_option maxHeartbeats 4000000 in
set_option maxRecDepth 20000 in
theorem T_M_copies_2_r114 {Ls p kc ks : Nat}  {I L : Nat → Nat → Int} {x1 x2 : Int} {Q : List mV → mM → Prop}
    (h : ((x1 ≤ x2 →
    Q [] (mem Ls p I L)) ∧
   (¬ (x1 ≤ x2) →
    (0 ≤ (wr (x1 + x2)) ∧ (wr (x1 + x2)) < 6) ∧
    (0 ≤ x2 ∧ x2 < 6) ∧
    m_Wp i_M_copies 2 kc ks [(0, .inr (.inr 114)), (1, .inl x1), (2, .inl (wr (x2 + 1)))] [] (mem Ls p (mup I 114 (Int.toNat x2) (I 114 (Int.toNat (wr (x1 + x2))))) L) Q))) :
    m_Wp i_M_copies 2 kc ks [(0, .inr (.inr 114)), (1, .inl x1), (2, .inl x2)] [] (mem Ls p I L) Q := by
  skip <;> exact m_wp_of 15 [2] h
set_option maxHeartbeats 4000000 in
set_option maxRecDepth 20000 in
theorem E_M_copies_r116 {Ls p : Nat}  {I L : Nat → Nat → Int} {a1 : Int} {Q : List mV → mM → Prop}
    (h : m_Wp i_M_copies 2 0 0 [(0, .inr (.inr 116)), (1, .inl a1), (2, .inl 0)] [] (mem Ls p I L) Q) :
    m_Call i_M_copies [.inr (.inr 116), .inl a1] (mem Ls p I L) Q := by
  have he : m_ent 0 ([.inr (.inr 116), .inl a1] : List mV) = [(0, .inr (.inr 116)), (1, .inl a1)] := rfl
  skip <;> exact m_call_at 3 [2] he h
set_option maxHeartbeats 4000000 in
set_option maxRecDepth 20000 in
theorem T_M_copies_2_r116 {Ls p kc ks : Nat}  {I L : Nat → Nat → Int} {x1 x2 : Int} {Q : List mV → mM → Prop}
    (h : ((x1 ≤ x2 →
    Q [] (mem Ls p I L)) ∧
   (¬ (x1 ≤ x2) →
    (0 ≤ (wr (x1 + x2)) ∧ (wr (x1 + x2)) < 6) ∧
    (0 ≤ x2 ∧ x2 < 6) ∧
    m_Wp i_M_copies 2 kc ks [(0, .inr (.inr 116)), (1, .inl x1), (2, .inl (wr (x2 + 1)))] [] (mem Ls p (mup I 116 (Int.toNat x2) (I 116 (Int.toNat (wr (x1 + x2))))) L) Q))) :
    m_Wp i_M_copies 2 kc ks [(0, .inr (.inr 116)), (1, .inl x1), (2, .inl x2)] [] (mem Ls p I L) Q := by
  skip <;> exact m_wp_of 15 [2] h
set_option maxHeartbeats 4000000 in
set_option maxRecDepth 20000 in
theorem E_M_copies_r117 {Ls p : Nat}  {I L : Nat → Nat → Int} {a1 : Int} {Q : List mV → mM → Prop}
    (h : m_Wp i_M_copies 2 0 0 [(0, .inr (.inr 117)), (1, .inl a1), (2, .inl 0)] [] (mem Ls p I L) Q) :
    m_Call i_M_copies [.inr (.inr 117), .inl a1] (mem Ls p I L) Q := by
  have he : m_ent 0 ([.inr (.inr 117), .inl a1] : List mV) = [(0, .inr (.inr 117)), (1, .inl a1)] := rfl
  skip <;> exact m_call_at 3 [2] he h
set_option maxHeartbeats 4000000 in
set_option maxRecDepth 20000 in
theorem T_M_copies_2_r117 {Ls p kc ks : Nat}  {I L : Nat → Nat → Int} {x1 x2 : Int} {Q : List mV → mM → Prop}
    (h : ((x1 ≤ x2 →
    Q [] (mem Ls p I L)) ∧
   (¬ (x1 ≤ x2) →
    (0 ≤ (wr (x1 + x2)) ∧ (wr (x1 + x2)) < 6) ∧
    (0 ≤ x2 ∧ x2 < 6) ∧
    m_Wp i_M_copies 2 kc ks [(0, .inr (.inr 117)), (1, .inl x1), (2, .inl (wr (x2 + 1)))] [] (mem Ls p (mup I 117 (Int.toNat x2) (I 117 (Int.toNat (wr (x1 + x2))))) L) Q))) :
    m_Wp i_M_copies 2 kc ks [(0, .inr (.inr 117)), (1, .inl x1), (2, .inl x2)] [] (mem Ls p I L) Q := by
  skip <;> exact m_wp_of 15 [2] h
set_option maxHeartbeats 4000000 in
set_option maxRecDepth 20000 in
theorem E_M_copies_r118 {Ls p : Nat}  {I L : Nat → Nat → Int} {a1 : Int} {Q : List mV → mM → Prop}
    (h : m_Wp i_M_copies 2 0 0 [(0, .inr (.inr 118)), (1, .inl a1), (2, .inl 0)] [] (mem Ls p I L) Q) :
    m_Call i_M_copies [.inr (.inr 118), .inl a1] (mem Ls p I L) Q := by
  have he : m_ent 0 ([.inr (.inr 118), .inl a1] : List mV) = [(0, .inr (.inr 118)), (1, .inl a1)] := rfl
  skip <;> exact m_call_at 3 [2] he h
set_option maxHeartbeats 4000000 in
set_option maxRecDepth 20000 in
theorem T_M_copies_2_r118 {Ls p kc ks : Nat}  {I L : Nat → Nat → Int} {x1 x2 : Int} {Q : List mV → mM → Prop}
    (h : ((x1 ≤ x2 →
    Q [] (mem Ls p I L)) ∧
   (¬ (x1 ≤ x2) →
    (0 ≤ (wr (x1 + x2)) ∧ (wr (x1 + x2)) < 128) ∧
    (0 ≤ x2 ∧ x2 < 128) ∧
    m_Wp i_M_copies 2 kc ks [(0, .inr (.inr 118)), (1, .inl x1), (2, .inl (wr (x2 + 1)))] [] (mem Ls p (mup I 118 (Int.toNat x2) (I 118 (Int.toNat (wr (x1 + x2))))) L) Q))) :
    m_Wp i_M_copies 2 kc ks [(0, .inr (.inr 118)), (1, .inl x1), (2, .inl x2)] [] (mem Ls p I L) Q := by
  skip <;> exact m_wp_of 15 [2] h
set_option maxHeartbeats 4000000 in
set_option maxRecDepth 20000 in
theorem E_M_copies_r119 {Ls p : Nat}  {I L : Nat → Nat → Int} {a1 : Int} {Q : List mV → mM → Prop}
    (h : m_Wp i_M_copies 2 0 0 [(0, .inr (.inr 119)), (1, .inl a1), (2, .inl 0)] [] (mem Ls p I L) Q) :
    m_Call i_M_copies [.inr (.inr 119), .inl a1] (mem Ls p I L) Q := by
  have he : m_ent 0 ([.inr (.inr 119), .inl a1] : List mV) = [(0, .inr (.inr 119)), (1, .inl a1)] := rfl
  skip <;> exact m_call_at 3 [2] he h
set_option maxHeartbeats 4000000 in
set_option maxRecDepth 20000 in
theorem T_M_copies_2_r119 {Ls p kc ks : Nat}  {I L : Nat → Nat → Int} {x1 x2 : Int} {Q : List mV → mM → Prop}
    (h : ((x1 ≤ x2 →
    Q [] (mem Ls p I L)) ∧
   (¬ (x1 ≤ x2) →
    (0 ≤ (wr (x1 + x2)) ∧ (wr (x1 + x2)) < 128) ∧
    (0 ≤ x2 ∧ x2 < 128) ∧
    m_Wp i_M_copies 2 kc ks [(0, .inr (.inr 119)), (1, .inl x1), (2, .inl (wr (x2 + 1)))] [] (mem Ls p (mup I 119 (Int.toNat x2) (I 119 (Int.toNat (wr (x1 + x2))))) L) Q))) :
    m_Wp i_M_copies 2 kc ks [(0, .inr (.inr 119)), (1, .inl x1), (2, .inl x2)] [] (mem Ls p I L) Q := by
  skip <;> exact m_wp_of 15 [2] h
set_option maxHeartbeats 4000000 in
set_option maxRecDepth 20000 in
theorem E_M_copies_r120 {Ls p : Nat}  {I L : Nat → Nat → Int} {a1 : Int} {Q : List mV → mM → Prop}
    (h : m_Wp i_M_copies 2 0 0 [(0, .inr (.inr 120)), (1, .inl a1), (2, .inl 0)] [] (mem Ls p I L) Q) :
    m_Call i_M_copies [.inr (.inr 120), .inl a1] (mem Ls p I L) Q := by
  have he : m_ent 0 ([.inr (.inr 120), .inl a1] : List mV) = [(0, .inr (.inr 120)), (1, .inl a1)] := rfl
  skip <;> exact m_call_at 3 [2] he h
set_option maxHeartbeats 4000000 in
set_option maxRecDepth 20000 in
theorem T_M_copies_2_r120 {Ls p kc ks : Nat}  {I L : Nat → Nat → Int} {x1 x2 : Int} {Q : List mV → mM → Prop}
    (h : ((x1 ≤ x2 →
    Q [] (mem Ls p I L)) ∧
   (¬ (x1 ≤ x2) →
    (0 ≤ (wr (x1 + x2)) ∧ (wr (x1 + x2)) < 128) ∧
    (0 ≤ x2 ∧ x2 < 128) ∧
    m_Wp i_M_copies 2 kc ks [(0, .inr (.inr 120)), (1, .inl x1), (2, .inl (wr (x2 + 1)))] [] (mem Ls p (mup I 120 (Int.toNat x2) (I 120 (Int.toNat (wr (x1 + x2))))) L) Q))) :
    m_Wp i_M_copies 2 kc ks [(0, .inr (.inr 120)), (1, .inl x1), (2, .inl x2)] [] (mem Ls p I L) Q := by
  skip <;> exact m_wp_of 15 [2] h
set_option maxHeartbeats 4000000 in
set_option maxRecDepth 20000 in
theorem E_M_atFirst {Ls p : Nat}  {I L : Nat → Nat → Int} {a0 : Int} {Q : List mV → mM → Prop}
    (h : m_Wp i_M_atFirst 2 0 0 [(0, .inr (.inr 98)), (1, .inl a0), (2, .inl 0)] [] (mem Ls p I L) Q) :
    m_Call i_M_atFirst [.inr (.inr 98), .inl a0] (mem Ls p I L) Q := by
  have he : m_ent 0 ([.inr (.inr 98), .inl a0] : List mV) = [(0, .inr (.inr 98)), (1, .inl a0)] := rfl
  skip <;> exact m_call_at 3 [2] he h
set_option maxHeartbeats 4000000 in
set_option maxRecDepth 20000 in
theorem T_M_atFirst_2 {Ls p kc ks : Nat}  {I L : Nat → Nat → Int} {x1 x2 : Int} {Q : List mV → mM → Prop}
    (h : (((6 : Int) ≤ x2 →
    (0 ≤ x1 ∧ x1 < 2) ∧
    (0 ≤ x1 ∧ x1 < 2) ∧
    (0 ≤ x1 ∧ x1 < 2) ∧
    (0 ≤ x1 ∧ x1 < 2) ∧
    (0 ≤ x1 ∧ x1 < 2) ∧
    Q [] (mem Ls p (mup (mup (mup (mup (mup I 130 (Int.toNat x1) 0) 131 (Int.toNat x1) (-1)) 132 (Int.toNat x1) 0) 136 (Int.toNat x1) 0) 137 (Int.toNat x1) 0) L)) ∧
   (¬ ((6 : Int) ≤ x2) →
    (0 ≤ (wr ((wr (6 * x1)) + x2)) ∧ (wr ((wr (6 * x1)) + x2)) < 12) ∧
    (0 ≤ (wr ((wr (6 * x1)) + x2)) ∧ (wr ((wr (6 * x1)) + x2)) < 12) ∧
    (0 ≤ x2 ∧ x2 < 12) ∧
    (0 ≤ (wr ((wr (6 * x1)) + x2)) ∧ (wr ((wr (6 * x1)) + x2)) < 12) ∧
    (0 ≤ (wr ((wr (6 * x1)) + x2)) ∧ (wr ((wr (6 * x1)) + x2)) < 12) ∧
    (0 ≤ x2 ∧ x2 < 12) ∧
    (0 ≤ (wr ((wr (6 * x1)) + x2)) ∧ (wr ((wr (6 * x1)) + x2)) < 12) ∧
    (0 ≤ (wr ((wr (6 * x1)) + x2)) ∧ (wr ((wr (6 * x1)) + x2)) < 12) ∧
    (0 ≤ (wr ((wr (12 * x1)) + (wr (2 * x2)))) ∧ (wr ((wr (12 * x1)) + (wr (2 * x2)))) < 24) ∧
    (0 ≤ (wr ((wr ((wr (12 * x1)) + (wr (2 * x2)))) + 1)) ∧ (wr ((wr ((wr (12 * x1)) + (wr (2 * x2)))) + 1)) < 24) ∧
    m_Wp i_M_atFirst 2 kc ks [(0, .inr (.inr 98)), (1, .inl x1), (2, .inl (wr (x2 + 1)))] [] (mem Ls p (mup (mup (mup (mup (mup (mup (mup (mup I 125 (Int.toNat (wr ((wr (6 * x1)) + x2))) 0) 126 (Int.toNat (wr ((wr (6 * x1)) + x2))) 0) 127 (Int.toNat (wr ((wr (6 * x1)) + x2))) (I 106 (Int.toNat x2))) 128 (Int.toNat (wr ((wr (6 * x1)) + x2))) 0) 133 (Int.toNat (wr ((wr (6 * x1)) + x2))) (I 112 (Int.toNat x2))) 135 (Int.toNat (wr ((wr (6 * x1)) + x2))) 0) 134 (Int.toNat (wr ((wr (12 * x1)) + (wr (2 * x2))))) (-1)) 134 (Int.toNat (wr ((wr ((wr (12 * x1)) + (wr (2 * x2)))) + 1))) (-1)) L) Q))) :
    m_Wp i_M_atFirst 2 kc ks [(0, .inr (.inr 98)), (1, .inl x1), (2, .inl x2)] [] (mem Ls p I L) Q := by
  skip <;> exact m_wp_of 91 [2] h
set_option maxHeartbeats 4000000 in
set_option maxRecDepth 20000 in
theorem E_M_plainTried {Ls p : Nat}  {I L : Nat → Nat → Int} {Q : List mV → mM → Prop}
    (h : ((0 : Int) = (0 : Int) ∨ (0 : Int) = (1 : Int)) ∧
  ((0 : Int) = (0 : Int) ∨ (0 : Int) = (1 : Int)) ∧
  ((0 : Int) = (0 : Int) ∨ (0 : Int) = (1 : Int)) ∧
  ((0 : Int) = (0 : Int) ∨ (0 : Int) = (1 : Int)) ∧
  ((0 : Int) = (0 : Int) ∨ (0 : Int) = (1 : Int)) ∧
  Q [] (mem Ls p (mup (mup (mup (mup (mup (mup (mup (mup I 98 67 0) 98 68 0) 98 69 0) 98 70 0) 98 71 0) 98 72 (-1)) 98 73 (-1)) 98 74 0) L)) :
    m_Call i_M_plainTried [.inr (.inr 98)] (mem Ls p I L) Q := by
  have he : m_ent 0 ([.inr (.inr 98)] : List mV) = [(0, .inr (.inr 98))] := rfl
  skip <;> exact m_call_at 25 [] he h
set_option maxHeartbeats 4000000 in
set_option maxRecDepth 20000 in
theorem E_M_begin {Ls p : Nat}  {I L : Nat → Nat → Int} {Q : List mV → mM → Prop}
    (h : m_Call i_M_atFirst [.inr (.inr 98), .inl 0] (mem Ls p I L) (fun v M' =>
    m_Wp i_M_begin 5 0 0 [(0, .inr (.inr 98))] (v ++ []) M' Q)) :
    m_Call i_M_begin [.inr (.inr 98)] (mem Ls p I L) Q := by
  have he : m_ent 0 ([.inr (.inr 98)] : List mV) = [(0, .inr (.inr 98))] := rfl
  skip <;> exact m_call_at 3 [] he h
set_option maxHeartbeats 4000000 in
set_option maxRecDepth 20000 in
theorem T_M_begin_5 {Ls p kc ks : Nat}  {I L : Nat → Nat → Int} {Q : List mV → mM → Prop}
    (h : (0 ≤ (1 : Int) ∧ (1 : Int) < 4) ∧
  m_Call i_M_plainTried [.inr (.inr 98)] (mem Ls p I (mup L 98 66 (I 102 1))) (fun v M' =>
    m_Wp i_M_begin 20 kc ks [(0, .inr (.inr 98))] (v ++ []) M' Q)) :
    m_Wp i_M_begin 5 kc ks [(0, .inr (.inr 98))] [] (mem Ls p I L) Q := by
  skip <;> exact m_wp_of 9 [] h
set_option maxHeartbeats 4000000 in
set_option maxRecDepth 20000 in
theorem T_M_begin_20 {Ls p kc ks : Nat}  {I L : Nat → Nat → Int} {Q : List mV → mM → Prop}
    (h : ((0 : Int) = (0 : Int) ∨ (0 : Int) = (1 : Int)) ∧
  Q [] (mem Ls p (mup (mup (mup (mup I 98 75 0) 98 76 (-1)) 98 79 0) 98 81 0) L)) :
    m_Wp i_M_begin 20 kc ks [(0, .inr (.inr 98))] [] (mem Ls p I L) Q := by
  skip <;> exact m_wp_of 13 [] h
set_option maxHeartbeats 4000000 in
set_option maxRecDepth 20000 in
theorem E_M_keepText {Ls p : Nat}  {I L : Nat → Nat → Int} {Q : List mV → mM → Prop}
    (h : m_Call i_M_copies [.inr (.inr 102), .inl 2] (mem Ls p (mup (mup (mup (mup (mup I 98 12 (I 98 17)) 98 13 (I 98 18)) 98 14 (I 98 19)) 98 15 (I 98 20)) 98 16 (I 98 21)) L) (fun v M' =>
    m_Wp i_M_keepText 48 0 0 [(0, .inr (.inr 98))] (v ++ []) M' Q)) :
    m_Call i_M_keepText [.inr (.inr 98)] (mem Ls p I L) Q := by
  have he : m_ent 0 ([.inr (.inr 98)] : List mV) = [(0, .inr (.inr 98))] := rfl
  skip <;> exact m_call_at 24 [156] he h
set_option maxHeartbeats 4000000 in
set_option maxRecDepth 20000 in
theorem T_M_keepText_48 {Ls p kc ks : Nat}  {I L : Nat → Nat → Int} {Q : List mV → mM → Prop}
    (h : m_Call i_M_copies [.inr (.inr 103), .inl 6] (mem Ls p I L) (fun v M' =>
    m_Wp i_M_keepText 57 kc ks [(0, .inr (.inr 98))] (v ++ []) M' Q)) :
    m_Wp i_M_keepText 48 kc ks [(0, .inr (.inr 98))] [] (mem Ls p I L) Q := by
  skip <;> exact m_wp_of 4 [156] h
set_option maxHeartbeats 4000000 in
set_option maxRecDepth 20000 in
theorem T_M_keepText_57 {Ls p kc ks : Nat}  {I L : Nat → Nat → Int} {Q : List mV → mM → Prop}
    (h : m_Call i_M_copies [.inr (.inr 104), .inl 6] (mem Ls p I L) (fun v M' =>
    m_Wp i_M_keepText 66 kc ks [(0, .inr (.inr 98))] (v ++ []) M' Q)) :
    m_Wp i_M_keepText 57 kc ks [(0, .inr (.inr 98))] [] (mem Ls p I L) Q := by
  skip <;> exact m_wp_of 4 [156] h
set_option maxHeartbeats 4000000 in
set_option maxRecDepth 20000 in
theorem T_M_keepText_66 {Ls p kc ks : Nat}  {I L : Nat → Nat → Int} {Q : List mV → mM → Prop}
    (h : m_Call i_M_copies [.inr (.inr 105), .inl 6] (mem Ls p I L) (fun v M' =>
    m_Wp i_M_keepText 75 kc ks [(0, .inr (.inr 98))] (v ++ []) M' Q)) :
    m_Wp i_M_keepText 66 kc ks [(0, .inr (.inr 98))] [] (mem Ls p I L) Q := by
  skip <;> exact m_wp_of 4 [156] h
set_option maxHeartbeats 4000000 in
set_option maxRecDepth 20000 in
theorem T_M_keepText_75 {Ls p kc ks : Nat}  {I L : Nat → Nat → Int} {Q : List mV → mM → Prop}
    (h : m_Call i_M_copies [.inr (.inr 106), .inl 6] (mem Ls p I L) (fun v M' =>
    m_Wp i_M_keepText 84 kc ks [(0, .inr (.inr 98))] (v ++ []) M' Q)) :
    m_Wp i_M_keepText 75 kc ks [(0, .inr (.inr 98))] [] (mem Ls p I L) Q := by
  skip <;> exact m_wp_of 4 [156] h
set_option maxHeartbeats 4000000 in
set_option maxRecDepth 20000 in
theorem T_M_keepText_84 {Ls p kc ks : Nat}  {I L : Nat → Nat → Int} {Q : List mV → mM → Prop}
    (h : m_Call i_M_copies [.inr (.inr 107), .inl 6] (mem Ls p I L) (fun v M' =>
    m_Wp i_M_keepText 93 kc ks [(0, .inr (.inr 98))] (v ++ []) M' Q)) :
    m_Wp i_M_keepText 84 kc ks [(0, .inr (.inr 98))] [] (mem Ls p I L) Q := by
  skip <;> exact m_wp_of 4 [156] h
set_option maxHeartbeats 4000000 in
set_option maxRecDepth 20000 in
theorem T_M_keepText_93 {Ls p kc ks : Nat}  {I L : Nat → Nat → Int} {Q : List mV → mM → Prop}
    (h : m_Call i_M_copies [.inr (.inr 108), .inl 10] (mem Ls p I L) (fun v M' =>
    m_Wp i_M_keepText 102 kc ks [(0, .inr (.inr 98))] (v ++ []) M' Q)) :
    m_Wp i_M_keepText 93 kc ks [(0, .inr (.inr 98))] [] (mem Ls p I L) Q := by
  skip <;> exact m_wp_of 4 [156] h
set_option maxHeartbeats 4000000 in
set_option maxRecDepth 20000 in
theorem T_M_keepText_102 {Ls p kc ks : Nat}  {I L : Nat → Nat → Int} {Q : List mV → mM → Prop}
    (h : m_Call i_M_copies [.inr (.inr 109), .inl 10] (mem Ls p I L) (fun v M' =>
    m_Wp i_M_keepText 111 kc ks [(0, .inr (.inr 98))] (v ++ []) M' Q)) :
    m_Wp i_M_keepText 102 kc ks [(0, .inr (.inr 98))] [] (mem Ls p I L) Q := by
  skip <;> exact m_wp_of 4 [156] h
set_option maxHeartbeats 4000000 in
set_option maxRecDepth 20000 in
theorem T_M_keepText_111 {Ls p kc ks : Nat}  {I L : Nat → Nat → Int} {Q : List mV → mM → Prop}
    (h : m_Call i_M_copies [.inr (.inr 110), .inl 6] (mem Ls p I L) (fun v M' =>
    m_Wp i_M_keepText 120 kc ks [(0, .inr (.inr 98))] (v ++ []) M' Q)) :
    m_Wp i_M_keepText 111 kc ks [(0, .inr (.inr 98))] [] (mem Ls p I L) Q := by
  skip <;> exact m_wp_of 4 [156] h
set_option maxHeartbeats 4000000 in
set_option maxRecDepth 20000 in
theorem T_M_keepText_120 {Ls p kc ks : Nat}  {I L : Nat → Nat → Int} {Q : List mV → mM → Prop}
    (h : m_Call i_M_copies [.inr (.inr 111), .inl 6] (mem Ls p I L) (fun v M' =>
    m_Wp i_M_keepText 129 kc ks [(0, .inr (.inr 98))] (v ++ []) M' Q)) :
    m_Wp i_M_keepText 120 kc ks [(0, .inr (.inr 98))] [] (mem Ls p I L) Q := by
  skip <;> exact m_wp_of 4 [156] h
set_option maxHeartbeats 4000000 in
set_option maxRecDepth 20000 in
theorem T_M_keepText_129 {Ls p kc ks : Nat}  {I L : Nat → Nat → Int} {Q : List mV → mM → Prop}
    (h : m_Call i_M_copies [.inr (.inr 112), .inl 6] (mem Ls p I L) (fun v M' =>
    m_Wp i_M_keepText 138 kc ks [(0, .inr (.inr 98))] (v ++ []) M' Q)) :
    m_Wp i_M_keepText 129 kc ks [(0, .inr (.inr 98))] [] (mem Ls p I L) Q := by
  skip <;> exact m_wp_of 4 [156] h
set_option maxHeartbeats 4000000 in
set_option maxRecDepth 20000 in
theorem T_M_keepText_138 {Ls p kc ks : Nat}  {I L : Nat → Nat → Int} {Q : List mV → mM → Prop}
    (h : m_Call i_M_copies [.inr (.inr 113), .inl 3] (mem Ls p I L) (fun v M' =>
    m_Wp i_M_keepText 146 kc ks [(0, .inr (.inr 98))] (v ++ []) M' Q)) :
    m_Wp i_M_keepText 138 kc ks [(0, .inr (.inr 98))] [] (mem Ls p I L) Q := by
  skip <;> exact m_wp_of 4 [156] h
set_option maxHeartbeats 4000000 in
set_option maxRecDepth 20000 in
theorem T_M_keepText_146 {Ls p kc ks : Nat}  {I L : Nat → Nat → Int} {Q : List mV → mM → Prop}
    (h : m_Call i_M_copies [.inr (.inr 114), .inl 3] (mem Ls p I L) (fun v M' =>
    m_Wp i_M_keepText 154 kc ks [(0, .inr (.inr 98))] (v ++ []) M' Q)) :
    m_Wp i_M_keepText 146 kc ks [(0, .inr (.inr 98))] [] (mem Ls p I L) Q := by
  skip <;> exact m_wp_of 4 [156] h
set_option maxHeartbeats 4000000 in
set_option maxRecDepth 20000 in
theorem T_M_keepText_154 {Ls p kc ks : Nat}  {I L : Nat → Nat → Int} {Q : List mV → mM → Prop}
    (h : m_Wp i_M_keepText 156 kc ks [(0, .inr (.inr 98)), (1, .inl 0)] [] (mem Ls p I L) Q) :
    m_Wp i_M_keepText 154 kc ks [(0, .inr (.inr 98))] [] (mem Ls p I L) Q := by
  skip <;> exact m_wp_of 3 [156] h
set_option maxHeartbeats 4000000 in
set_option maxRecDepth 20000 in
theorem T_M_keepText_156 {Ls p kc ks : Nat}  {I L : Nat → Nat → Int} {x1 : Int} {Q : List mV → mM → Prop}
    (h : (((3 : Int) ≤ x1 →
    m_Call i_M_copies [.inr (.inr 116), .inl 3] (mem Ls p I L) (fun v M' =>
      m_Wp i_M_keepText 189 kc ks [(0, .inr (.inr 98)), (1, .inl x1)] (v ++ []) M' Q)) ∧
   (¬ ((3 : Int) ≤ x1) →
    (0 ≤ (wr (3 + x1)) ∧ (wr (3 + x1)) < 6) ∧
    ((0 ≤ x1 ∧ x1 < 6) ∧ ((I 115 (Int.toNat (wr (3 + x1)))) = 0 ∨ (I 115 (Int.toNat (wr (3 + x1)))) = 1)) ∧
    m_Wp i_M_keepText 156 kc ks [(0, .inr (.inr 98)), (1, .inl (wr (x1 + 1)))] [] (mem Ls p (mup I 115 (Int.toNat x1) (I 115 (Int.toNat (wr (3 + x1))))) L) Q))) :
    m_Wp i_M_keepText 156 kc ks [(0, .inr (.inr 98)), (1, .inl x1)] [] (mem Ls p I L) Q := by
  skip <;> exact m_wp_of 17 [156] h
set_option maxHeartbeats 4000000 in
set_option maxRecDepth 20000 in
theorem T_M_keepText_189 {Ls p kc ks : Nat}  {I L : Nat → Nat → Int} {x1 : Int} {Q : List mV → mM → Prop}
    (h : m_Call i_M_copies [.inr (.inr 117), .inl 3] (mem Ls p I L) (fun v M' =>
    m_Wp i_M_keepText 197 kc ks [(0, .inr (.inr 98)), (1, .inl x1)] (v ++ []) M' Q)) :
    m_Wp i_M_keepText 189 kc ks [(0, .inr (.inr 98)), (1, .inl x1)] [] (mem Ls p I L) Q := by
  skip <;> exact m_wp_of 4 [156] h
set_option maxHeartbeats 4000000 in
set_option maxRecDepth 20000 in
theorem T_M_keepText_197 {Ls p kc ks : Nat}  {I L : Nat → Nat → Int} {x1 : Int} {Q : List mV → mM → Prop}
    (h : m_Call i_M_copies [.inr (.inr 118), .inl 64] (mem Ls p I L) (fun v M' =>
    m_Wp i_M_keepText 206 kc ks [(0, .inr (.inr 98)), (1, .inl x1)] (v ++ []) M' Q)) :
    m_Wp i_M_keepText 197 kc ks [(0, .inr (.inr 98)), (1, .inl x1)] [] (mem Ls p I L) Q := by
  skip <;> exact m_wp_of 4 [156] h
set_option maxHeartbeats 4000000 in
set_option maxRecDepth 20000 in
theorem T_M_keepText_206 {Ls p kc ks : Nat}  {I L : Nat → Nat → Int} {x1 : Int} {Q : List mV → mM → Prop}
    (h : m_Call i_M_copies [.inr (.inr 119), .inl 64] (mem Ls p I L) (fun v M' =>
    m_Wp i_M_keepText 215 kc ks [(0, .inr (.inr 98)), (1, .inl x1)] (v ++ []) M' Q)) :
    m_Wp i_M_keepText 206 kc ks [(0, .inr (.inr 98)), (1, .inl x1)] [] (mem Ls p I L) Q := by
  skip <;> exact m_wp_of 4 [156] h
set_option maxHeartbeats 4000000 in
set_option maxRecDepth 20000 in
theorem T_M_keepText_215 {Ls p kc ks : Nat}  {I L : Nat → Nat → Int} {x1 : Int} {Q : List mV → mM → Prop}
    (h : m_Call i_M_copies [.inr (.inr 120), .inl 64] (mem Ls p I L) (fun v M' =>
    m_Wp i_M_keepText 224 kc ks [(0, .inr (.inr 98)), (1, .inl x1)] (v ++ []) M' Q)) :
    m_Wp i_M_keepText 215 kc ks [(0, .inr (.inr 98)), (1, .inl x1)] [] (mem Ls p I L) Q := by
  skip <;> exact m_wp_of 4 [156] h
set_option maxHeartbeats 4000000 in
set_option maxRecDepth 20000 in
theorem T_M_keepText_224 {Ls p kc ks : Nat}  {I L : Nat → Nat → Int} {x1 : Int} {Q : List mV → mM → Prop}
    (h : m_Call i_M_begin [.inr (.inr 98)] (mem Ls p I L) (fun v M' =>
    m_Wp i_M_keepText 228 kc ks [(0, .inr (.inr 98)), (1, .inl x1)] (v ++ []) M' Q)) :
    m_Wp i_M_keepText 224 kc ks [(0, .inr (.inr 98)), (1, .inl x1)] [] (mem Ls p I L) Q := by
  skip <;> exact m_wp_of 2 [156] h
set_option maxHeartbeats 4000000 in
set_option maxRecDepth 20000 in
theorem T_M_keepText_228 {Ls p kc ks : Nat}  {I L : Nat → Nat → Int} {x1 : Int} {Q : List mV → mM → Prop}
    (h : Q [] (mem Ls p I L)) :
    m_Wp i_M_keepText 228 kc ks [(0, .inr (.inr 98)), (1, .inl x1)] [] (mem Ls p I L) Q := by
  skip <;> exact m_wp_of 1 [156] h
set_option maxHeartbeats 4000000 in
set_option maxRecDepth 20000 in
theorem E_M_feed {Ls p : Nat}  {I L : Nat → Nat → Int} {a0 a1 a2 a3 a4 : Int} {Q : List mV → mM → Prop}
    (h : (((wr ((I 98 1) + 20)) ≤ (700 : Int) →
    m_Wp i_M_feed 23 0 0 [(0, .inr (.inr 98)), (1, .inl a0), (2, .inl a1), (3, .inl a2), (4, .inl a3), (5, .inl a4), (6, .inl 0)] [] (mem Ls p (mup I 98 2 0) L) Q) ∧
   (¬ ((wr ((I 98 1) + 20)) ≤ (700 : Int)) →
    Q [.inl (-1)] (mem Ls p (mup I 98 2 0) L)))) :
    m_Call i_M_feed [.inr (.inr 98), .inl a0, .inl a1, .inl a2, .inl a3, .inl a4] (mem Ls p I L) Q := by
  have he : m_ent 0 ([.inr (.inr 98), .inl a0, .inl a1, .inl a2, .inl a3, .inl a4] : List mV) = [(0, .inr (.inr 98)), (1, .inl a0), (2, .inl a1), (3, .inl a2), (4, .inl a3), (5, .inl a4)] := rfl
  skip <;> exact m_call_at 12 [23] he h
set_option maxHeartbeats 4000000 in
set_option maxRecDepth 20000 in
theorem T_M_feed_23 {Ls p kc ks : Nat}  {I L : Nat → Nat → Int} {x1 x2 x3 x4 x5 x6 : Int} {Q : List mV → mM → Prop}
    (h : (((20 : Int) ≤ x6 →
    Q [.inl (wr ((I 98 1) + 20))] (mem Ls p (mup I 98 1 (wr ((I 98 1) + 20))) L)) ∧
   (¬ ((20 : Int) ≤ x6) →
    (((4 : Int) ≤ x6 →
      (((8 : Int) ≤ x6 →
        (((12 : Int) ≤ x6 →
          (((16 : Int) ≤ x6 →
            (¬ (4 : Int) = (0 : Int)) ∧
            (0 ≤ (wr ((I 98 1) + x6)) ∧ (wr ((I 98 1) + x6)) < 700) ∧
            m_Wp i_M_feed 23 kc ks [(0, .inr (.inr 98)), (1, .inl x1), (2, .inl x2), (3, .inl x3), (4, .inl x4), (5, .inl x5), (6, .inl (wr (x6 + 1)))] [] (mem Ls p (mup I 99 (Int.toNat (wr ((I 98 1) + x6))) (m_and (m_shr x5 (wr (24 - (wr (8 * (Int.tmod x6 4)))))) 255)) L) Q) ∧
           (¬ ((16 : Int) ≤ x6) →
            (¬ (4 : Int) = (0 : Int)) ∧
            (0 ≤ (wr ((I 98 1) + x6)) ∧ (wr ((I 98 1) + x6)) < 700) ∧
            m_Wp i_M_feed 23 kc ks [(0, .inr (.inr 98)), (1, .inl x1), (2, .inl x2), (3, .inl x3), (4, .inl x4), (5, .inl x5), (6, .inl (wr (x6 + 1)))] [] (mem Ls p (mup I 99 (Int.toNat (wr ((I 98 1) + x6))) (m_and (m_shr x4 (wr (24 - (wr (8 * (Int.tmod x6 4)))))) 255)) L) Q))) ∧
         (¬ ((12 : Int) ≤ x6) →
          (¬ (4 : Int) = (0 : Int)) ∧
          (0 ≤ (wr ((I 98 1) + x6)) ∧ (wr ((I 98 1) + x6)) < 700) ∧
          m_Wp i_M_feed 23 kc ks [(0, .inr (.inr 98)), (1, .inl x1), (2, .inl x2), (3, .inl x3), (4, .inl x4), (5, .inl x5), (6, .inl (wr (x6 + 1)))] [] (mem Ls p (mup I 99 (Int.toNat (wr ((I 98 1) + x6))) (m_and (m_shr x3 (wr (24 - (wr (8 * (Int.tmod x6 4)))))) 255)) L) Q))) ∧
       (¬ ((8 : Int) ≤ x6) →
        (¬ (4 : Int) = (0 : Int)) ∧
        (0 ≤ (wr ((I 98 1) + x6)) ∧ (wr ((I 98 1) + x6)) < 700) ∧
        m_Wp i_M_feed 23 kc ks [(0, .inr (.inr 98)), (1, .inl x1), (2, .inl x2), (3, .inl x3), (4, .inl x4), (5, .inl x5), (6, .inl (wr (x6 + 1)))] [] (mem Ls p (mup I 99 (Int.toNat (wr ((I 98 1) + x6))) (m_and (m_shr x2 (wr (24 - (wr (8 * (Int.tmod x6 4)))))) 255)) L) Q))) ∧
     (¬ ((4 : Int) ≤ x6) →
      (¬ (4 : Int) = (0 : Int)) ∧
      (0 ≤ (wr ((I 98 1) + x6)) ∧ (wr ((I 98 1) + x6)) < 700) ∧
      m_Wp i_M_feed 23 kc ks [(0, .inr (.inr 98)), (1, .inl x1), (2, .inl x2), (3, .inl x3), (4, .inl x4), (5, .inl x5), (6, .inl (wr (x6 + 1)))] [] (mem Ls p (mup I 99 (Int.toNat (wr ((I 98 1) + x6))) (m_and (m_shr x1 (wr (24 - (wr (8 * (Int.tmod x6 4)))))) 255)) L) Q))))) :
    m_Wp i_M_feed 23 kc ks [(0, .inr (.inr 98)), (1, .inl x1), (2, .inl x2), (3, .inl x3), (4, .inl x4), (5, .inl x5), (6, .inl x6)] [] (mem Ls p I L) Q := by
  skip <;> exact m_wp_of 41 [23] h
set_option maxHeartbeats 4000000 in
set_option maxRecDepth 20000 in
theorem E_M_isSmall {Ls p : Nat}  {I L : Nat → Nat → Int} {a0 : Int} {Q : List mV → mM → Prop}
    (h : (((I 98 6) ≤ a0 →
    ((0 : Int) = 0 ∨ (0 : Int) = 1) ∧
    Q [.inl 0] (mem Ls p I L)) ∧
   (¬ ((I 98 6) ≤ a0) →
    (0 ≤ a0 ∧ a0 < 700) ∧
    (((I 99 (Int.toNat a0)) < (97 : Int) →
      ((0 : Int) = 0 ∨ (0 : Int) = 1) ∧
      Q [.inl 0] (mem Ls p I L)) ∧
     (¬ ((I 99 (Int.toNat a0)) < (97 : Int)) →
      (0 ≤ a0 ∧ a0 < 700) ∧
      (((122 : Int) < (I 99 (Int.toNat a0)) →
        ((0 : Int) = 0 ∨ (0 : Int) = 1) ∧
        Q [.inl 0] (mem Ls p I L)) ∧
       (¬ ((122 : Int) < (I 99 (Int.toNat a0))) →
        ((1 : Int) = 0 ∨ (1 : Int) = 1) ∧
        Q [.inl 1] (mem Ls p I L)))))))) :
    m_Call i_M_isSmall [.inr (.inr 98), .inl a0] (mem Ls p I L) Q := by
  have he : m_ent 0 ([.inr (.inr 98), .inl a0] : List mV) = [(0, .inr (.inr 98)), (1, .inl a0)] := rfl
  skip <;> exact m_call_at 20 [] he h
set_option maxHeartbeats 4000000 in
set_option maxRecDepth 20000 in
theorem E_M_wordAt {Ls p : Nat}  {I L : Nat → Nat → Int} {a0 a1 : Int} {Q : List mV → mM → Prop}
    (h : m_Wp i_M_wordAt 5 0 0 [(0, .inr (.inr 98)), (1, .inl a0), (2, .inl a1), (3, .inl 0), (4, .inl 0)] [] (mem Ls p I L) Q) :
    m_Call i_M_wordAt [.inr (.inr 98), .inl a0, .inl a1] (mem Ls p I L) Q := by
  have he : m_ent 0 ([.inr (.inr 98), .inl a0, .inl a1] : List mV) = [(0, .inr (.inr 98)), (1, .inl a0), (2, .inl a1)] := rfl
  skip <;> exact m_call_at 5 [5, 18, 57] he h
set_option maxHeartbeats 4000000 in
set_option maxRecDepth 20000 in
theorem T_M_wordAt_5 {Ls p kc ks : Nat}  {I L : Nat → Nat → Int} {x1 x2 x3 x4 : Int} {Q : List mV → mM → Prop}
    (h : (((100 : Int) ≤ x4 →
    Q [.inl (-1)] (mem Ls p I L)) ∧
   (¬ ((100 : Int) ≤ x4) →
    m_Wp i_M_wordAt 18 kc ks [(0, .inr (.inr 98)), (1, .inl x1), (2, .inl x2), (3, .inl x3), (4, .inl x4), (5, .inl 0)] [] (mem Ls p I L) Q))) :
    m_Wp i_M_wordAt 5 kc ks [(0, .inr (.inr 98)), (1, .inl x1), (2, .inl x2), (3, .inl x3), (4, .inl x4)] [] (mem Ls p I L) Q := by
  skip <;> exact m_wp_of 9 [5, 18, 57] h
set_option maxHeartbeats 4000000 in
set_option maxRecDepth 20000 in
theorem T_M_wordAt_18 {Ls p kc ks : Nat}  {I L : Nat → Nat → Int} {x1 x2 x3 x4 x5 : Int} {Q : List mV → mM → Prop}
    (h : (0 ≤ (wr (x4 + x5)) ∧ (wr (x4 + x5)) < 100) ∧
  (((I 100 (Int.toNat (wr (x4 + x5)))) = (32 : Int) →
    ((¬ x5 = (wr (x2 - x1)) →
      m_Wp i_M_wordAt 57 kc ks [(0, .inr (.inr 98)), (1, .inl x1), (2, .inl x2), (3, .inl x3), (4, .inl x4), (5, .inl x5), (6, .inl 0), (7, .inl 0)] [] (mem Ls p I L) Q) ∧
     (¬ (¬ x5 = (wr (x2 - x1))) →
      m_Wp i_M_wordAt 57 kc ks [(0, .inr (.inr 98)), (1, .inl x1), (2, .inl x2), (3, .inl x3), (4, .inl x4), (5, .inl x5), (6, .inl 1), (7, .inl 0)] [] (mem Ls p I L) Q))) ∧
   (¬ ((I 100 (Int.toNat (wr (x4 + x5)))) = (32 : Int)) →
    m_Wp i_M_wordAt 18 kc ks [(0, .inr (.inr 98)), (1, .inl x1), (2, .inl x2), (3, .inl x3), (4, .inl x4), (5, .inl (wr (x5 + 1)))] [] (mem Ls p I L) Q))) :
    m_Wp i_M_wordAt 18 kc ks [(0, .inr (.inr 98)), (1, .inl x1), (2, .inl x2), (3, .inl x3), (4, .inl x4), (5, .inl x5)] [] (mem Ls p I L) Q := by
  skip <;> exact m_wp_of 21 [5, 18, 57] h
set_option maxHeartbeats 4000000 in
set_option maxRecDepth 20000 in
theorem T_M_wordAt_57 {Ls p kc ks : Nat}  {I L : Nat → Nat → Int} {x1 x2 x3 x4 x5 x6 x7 : Int} {Q : List mV → mM → Prop}
    (h : ((x5 ≤ x7 →
    ((x6 = (0 : Int) →
      m_Wp i_M_wordAt 5 kc ks [(0, .inr (.inr 98)), (1, .inl x1), (2, .inl x2), (3, .inl (wr (x3 + 1))), (4, .inl (wr (x4 + (wr (x5 + 1)))))] [] (mem Ls p I L) Q) ∧
     (¬ (x6 = (0 : Int)) →
      Q [.inl x3] (mem Ls p I L)))) ∧
   (¬ (x5 ≤ x7) →
    ((x6 = (0 : Int) →
      ((x6 = (0 : Int) →
        m_Wp i_M_wordAt 5 kc ks [(0, .inr (.inr 98)), (1, .inl x1), (2, .inl x2), (3, .inl (wr (x3 + 1))), (4, .inl (wr (x4 + (wr (x5 + 1)))))] [] (mem Ls p I L) Q) ∧
       (¬ (x6 = (0 : Int)) →
        Q [.inl x3] (mem Ls p I L)))) ∧
     (¬ (x6 = (0 : Int)) →
      (0 ≤ (wr (x4 + x7)) ∧ (wr (x4 + x7)) < 100) ∧
      (0 ≤ (wr (x1 + x7)) ∧ (wr (x1 + x7)) < 700) ∧
      ((¬ (I 100 (Int.toNat (wr (x4 + x7)))) = (I 99 (Int.toNat (wr (x1 + x7)))) →
        m_Wp i_M_wordAt 57 kc ks [(0, .inr (.inr 98)), (1, .inl x1), (2, .inl x2), (3, .inl x3), (4, .inl x4), (5, .inl x5), (6, .inl 0), (7, .inl (wr (x7 + 1)))] [] (mem Ls p I L) Q) ∧
       (¬ (¬ (I 100 (Int.toNat (wr (x4 + x7)))) = (I 99 (Int.toNat (wr (x1 + x7))))) →
        m_Wp i_M_wordAt 57 kc ks [(0, .inr (.inr 98)), (1, .inl x1), (2, .inl x2), (3, .inl x3), (4, .inl x4), (5, .inl x5), (6, .inl 1), (7, .inl (wr (x7 + 1)))] [] (mem Ls p I L) Q))))))) :
    m_Wp i_M_wordAt 57 kc ks [(0, .inr (.inr 98)), (1, .inl x1), (2, .inl x2), (3, .inl x3), (4, .inl x4), (5, .inl x5), (6, .inl x6), (7, .inl x7)] [] (mem Ls p I L) Q := by
  skip <;> exact m_wp_of 26 [5, 18, 57] h
set_option maxHeartbeats 4000000 in
set_option maxRecDepth 20000 in
theorem E_M_packed {Ls p : Nat}  {I L : Nat → Nat → Int} {a0 a1 : Int} {Q : List mV → mM → Prop}
    (h : m_Wp i_M_packed 5 0 0 [(0, .inr (.inr 98)), (1, .inl a0), (2, .inl a1), (3, .inl 0), (4, .inl a0)] [] (mem Ls p I L) Q) :
    m_Call i_M_packed [.inr (.inr 98), .inl a0, .inl a1] (mem Ls p I L) Q := by
  have he : m_ent 0 ([.inr (.inr 98), .inl a0, .inl a1] : List mV) = [(0, .inr (.inr 98)), (1, .inl a0), (2, .inl a1)] := rfl
  skip <;> exact m_call_at 5 [5] he h
set_option maxHeartbeats 4000000 in
set_option maxRecDepth 20000 in
theorem T_M_packed_5 {Ls p kc ks : Nat}  {I L : Nat → Nat → Int} {x1 x2 x3 x4 : Int} {Q : List mV → mM → Prop}
    (h : (((wr (x1 + 6)) ≤ x4 →
    Q [.inl x3] (mem Ls p I L)) ∧
   (¬ ((wr (x1 + 6)) ≤ x4) →
    ((x2 ≤ x4 →
      m_Wp i_M_packed 5 kc ks [(0, .inr (.inr 98)), (1, .inl x1), (2, .inl x2), (3, .inl (m_or (m_shl x3 5) 0)), (4, .inl (wr (x4 + 1)))] [] (mem Ls p I L) Q) ∧
     (¬ (x2 ≤ x4) →
      (0 ≤ x4 ∧ x4 < 700) ∧
      m_Wp i_M_packed 5 kc ks [(0, .inr (.inr 98)), (1, .inl x1), (2, .inl x2), (3, .inl (m_or (m_shl x3 5) (wr ((I 99 (Int.toNat x4)) - 96)))), (4, .inl (wr (x4 + 1)))] [] (mem Ls p I L) Q))))) :
    m_Wp i_M_packed 5 kc ks [(0, .inr (.inr 98)), (1, .inl x1), (2, .inl x2), (3, .inl x3), (4, .inl x4)] [] (mem Ls p I L) Q := by
  skip <;> exact m_wp_of 25 [5] h
set_option maxHeartbeats 4000000 in
set_option maxRecDepth 20000 in
theorem E_M_isDigit {Ls p : Nat}  {I L : Nat → Nat → Int} {a0 : Int} {Q : List mV → mM → Prop}
    (h : (((I 98 6) ≤ a0 →
    ((0 : Int) = 0 ∨ (0 : Int) = 1) ∧
    Q [.inl 0] (mem Ls p I L)) ∧
   (¬ ((I 98 6) ≤ a0) →
    (0 ≤ a0 ∧ a0 < 700) ∧
    (((I 99 (Int.toNat a0)) < (48 : Int) →
      ((0 : Int) = 0 ∨ (0 : Int) = 1) ∧
      Q [.inl 0] (mem Ls p I L)) ∧
     (¬ ((I 99 (Int.toNat a0)) < (48 : Int)) →
      (0 ≤ a0 ∧ a0 < 700) ∧
      (((57 : Int) < (I 99 (Int.toNat a0)) →
        ((0 : Int) = 0 ∨ (0 : Int) = 1) ∧
        Q [.inl 0] (mem Ls p I L)) ∧
       (¬ ((57 : Int) < (I 99 (Int.toNat a0))) →
        ((1 : Int) = 0 ∨ (1 : Int) = 1) ∧
        Q [.inl 1] (mem Ls p I L)))))))) :
    m_Call i_M_isDigit [.inr (.inr 98), .inl a0] (mem Ls p I L) Q := by
  have he : m_ent 0 ([.inr (.inr 98), .inl a0] : List mV) = [(0, .inr (.inr 98)), (1, .inl a0)] := rfl
  skip <;> exact m_call_at 20 [] he h
set_option maxHeartbeats 4000000 in
set_option maxRecDepth 20000 in
theorem E_M_signToken {Ls p : Nat}  {I L : Nat → Nat → Int} {Q : List mV → mM → Prop}
    (h : (0 ≤ (I 98 7) ∧ (I 98 7) < 700) ∧
  (((I 99 (Int.toNat (I 98 7))) = (60 : Int) →
    m_Wp i_M_signToken 50 0 0 [(0, .inr (.inr 98))] [] (mem Ls p (mup (mup I 98 9 (I 99 (Int.toNat (I 98 7)))) 98 7 (wr ((I 98 7) + 1))) L) Q) ∧
   (¬ ((I 99 (Int.toNat (I 98 7))) = (60 : Int)) →
    (((I 99 (Int.toNat (I 98 7))) = (62 : Int) →
      m_Wp i_M_signToken 50 0 0 [(0, .inr (.inr 98))] [] (mem Ls p (mup (mup I 98 9 (I 99 (Int.toNat (I 98 7)))) 98 7 (wr ((I 98 7) + 1))) L) Q) ∧
     (¬ ((I 99 (Int.toNat (I 98 7))) = (62 : Int)) →
      ((¬ (I 99 (Int.toNat (I 98 7))) = (61 : Int) →
        (((I 99 (Int.toNat (I 98 7))) = (59 : Int) →
          m_Wp i_M_signToken 270 0 0 [(0, .inr (.inr 98))] [] (mem Ls p (mup (mup I 98 9 (I 99 (Int.toNat (I 98 7)))) 98 7 (wr ((I 98 7) + 1))) L) Q) ∧
         (¬ ((I 99 (Int.toNat (I 98 7))) = (59 : Int)) →
          (((I 99 (Int.toNat (I 98 7))) = (40 : Int) →
            m_Wp i_M_signToken 270 0 0 [(0, .inr (.inr 98))] [] (mem Ls p (mup (mup I 98 9 (I 99 (Int.toNat (I 98 7)))) 98 7 (wr ((I 98 7) + 1))) L) Q) ∧
           (¬ ((I 99 (Int.toNat (I 98 7))) = (40 : Int)) →
            (((I 99 (Int.toNat (I 98 7))) = (41 : Int) →
              m_Wp i_M_signToken 270 0 0 [(0, .inr (.inr 98))] [] (mem Ls p (mup (mup I 98 9 (I 99 (Int.toNat (I 98 7)))) 98 7 (wr ((I 98 7) + 1))) L) Q) ∧
             (¬ ((I 99 (Int.toNat (I 98 7))) = (41 : Int)) →
              (((I 99 (Int.toNat (I 98 7))) = (43 : Int) →
                m_Wp i_M_signToken 270 0 0 [(0, .inr (.inr 98))] [] (mem Ls p (mup (mup I 98 9 (I 99 (Int.toNat (I 98 7)))) 98 7 (wr ((I 98 7) + 1))) L) Q) ∧
               (¬ ((I 99 (Int.toNat (I 98 7))) = (43 : Int)) →
                (((I 99 (Int.toNat (I 98 7))) = (45 : Int) →
                  m_Wp i_M_signToken 270 0 0 [(0, .inr (.inr 98))] [] (mem Ls p (mup (mup I 98 9 (I 99 (Int.toNat (I 98 7)))) 98 7 (wr ((I 98 7) + 1))) L) Q) ∧
                 (¬ ((I 99 (Int.toNat (I 98 7))) = (45 : Int)) →
                  (((I 99 (Int.toNat (I 98 7))) = (42 : Int) →
                    m_Wp i_M_signToken 270 0 0 [(0, .inr (.inr 98))] [] (mem Ls p (mup (mup I 98 9 (I 99 (Int.toNat (I 98 7)))) 98 7 (wr ((I 98 7) + 1))) L) Q) ∧
                   (¬ ((I 99 (Int.toNat (I 98 7))) = (42 : Int)) →
                    (((I 99 (Int.toNat (I 98 7))) = (47 : Int) →
                      m_Wp i_M_signToken 270 0 0 [(0, .inr (.inr 98))] [] (mem Ls p (mup (mup I 98 9 (I 99 (Int.toNat (I 98 7)))) 98 7 (wr ((I 98 7) + 1))) L) Q) ∧
                     (¬ ((I 99 (Int.toNat (I 98 7))) = (47 : Int)) →
                      ((¬ (I 99 (Int.toNat (I 98 7))) = (37 : Int) →
                        m_Wp i_M_signToken 275 0 0 [(0, .inr (.inr 98))] [.inl 0] (mem Ls p (mup (mup I 98 9 (I 99 (Int.toNat (I 98 7)))) 98 7 (wr ((I 98 7) + 1))) L) Q) ∧
                       (¬ (¬ (I 99 (Int.toNat (I 98 7))) = (37 : Int)) →
                        m_Wp i_M_signToken 270 0 0 [(0, .inr (.inr 98))] [] (mem Ls p (mup (mup I 98 9 (I 99 (Int.toNat (I 98 7)))) 98 7 (wr ((I 98 7) + 1))) L) Q))))))))))))))))) ∧
       (¬ (¬ (I 99 (Int.toNat (I 98 7))) = (61 : Int)) →
        m_Wp i_M_signToken 50 0 0 [(0, .inr (.inr 98))] [] (mem Ls p (mup (mup I 98 9 (I 99 (Int.toNat (I 98 7)))) 98 7 (wr ((I 98 7) + 1))) L) Q))))))) :
    m_Call i_M_signToken [.inr (.inr 98)] (mem Ls p I L) Q := by
  have he : m_ent 0 ([.inr (.inr 98)] : List mV) = [(0, .inr (.inr 98))] := rfl
  skip <;> exact m_call_at 59 [50, 74, 94, 95, 115, 116, 125, 135, 192, 270, 275, 287, 290] he h
set_option maxHeartbeats 4000000 in
set_option maxRecDepth 20000 in
theorem T_M_signToken_50 {Ls p kc ks : Nat}  {I L : Nat → Nat → Int} {Q : List mV → mM → Prop}
    (h : (((I 98 6) ≤ (I 98 7) →
    m_Wp i_M_signToken 74 kc ks [(0, .inr (.inr 98))] [.inl 0] (mem Ls p I L) Q) ∧
   (¬ ((I 98 6) ≤ (I 98 7)) →
    (0 ≤ (I 98 7) ∧ (I 98 7) < 700) ∧
    m_Wp i_M_signToken 74 kc ks [(0, .inr (.inr 98))] [.inl (I 99 (Int.toNat (I 98 7)))] (mem Ls p I L) Q))) :
    m_Wp i_M_signToken 50 kc ks [(0, .inr (.inr 98))] [] (mem Ls p I L) Q := by
  skip <;> exact m_wp_of 13 [50, 74, 94, 95, 115, 116, 125, 135, 192, 270, 275, 287, 290] h
set_option maxHeartbeats 4000000 in
set_option maxRecDepth 20000 in
theorem T_M_signToken_270 {Ls p kc ks : Nat}  {I L : Nat → Nat → Int} {Q : List mV → mM → Prop}
    (h : m_Wp i_M_signToken 275 kc ks [(0, .inr (.inr 98))] [.inl 1] (mem Ls p I L) Q) :
    m_Wp i_M_signToken 270 kc ks [(0, .inr (.inr 98))] [] (mem Ls p I L) Q := by
  skip <;> exact m_wp_of 4 [50, 74, 94, 95, 115, 116, 125, 135, 192, 270, 275, 287, 290] h
set_option maxHeartbeats 4000000 in
set_option maxRecDepth 20000 in
theorem T_M_signToken_275 {Ls p kc ks : Nat}  {I L : Nat → Nat → Int} {y0 : Int} {Q : List mV → mM → Prop}
    (h : ((y0 = (0 : Int) →
    m_Wp i_M_signToken 287 kc ks [] [.inl 6, .inr (.inr 98)] (mem Ls p I L) Q) ∧
   (¬ (y0 = (0 : Int)) →
    m_Wp i_M_signToken 287 kc ks [] [.inl 4, .inr (.inr 98)] (mem Ls p I L) Q))) :
    m_Wp i_M_signToken 275 kc ks [(0, .inr (.inr 98))] [.inl y0] (mem Ls p I L) Q := by
  skip <;> exact m_wp_of 8 [50, 74, 94, 95, 115, 116, 125, 135, 192, 270, 275, 287, 290] h
set_option maxHeartbeats 4000000 in
set_option maxRecDepth 20000 in
theorem T_M_signToken_74 {Ls p kc ks : Nat}  {I L : Nat → Nat → Int} {y0 : Int} {Q : List mV → mM → Prop}
    (h : (((I 98 9) = (61 : Int) →
    m_Wp i_M_signToken 94 kc ks [(0, .inr (.inr 98)), (1, .inl y0)] [] (mem Ls p I L) Q) ∧
   (¬ ((I 98 9) = (61 : Int)) →
    ((¬ y0 = (61 : Int) →
      m_Wp i_M_signToken 94 kc ks [(0, .inr (.inr 98)), (1, .inl y0)] [] (mem Ls p I L) Q) ∧
     (¬ (¬ y0 = (61 : Int)) →
      m_Wp i_M_signToken 95 kc ks [(0, .inr (.inr 98)), (1, .inl y0)] [.inl 1] (mem Ls p I L) Q))))) :
    m_Wp i_M_signToken 74 kc ks [(0, .inr (.inr 98))] [.inl y0] (mem Ls p I L) Q := by
  skip <;> exact m_wp_of 12 [50, 74, 94, 95, 115, 116, 125, 135, 192, 270, 275, 287, 290] h
set_option maxHeartbeats 4000000 in
set_option maxRecDepth 20000 in
theorem T_M_signToken_287 {Ls p kc ks : Nat}  {I L : Nat → Nat → Int} {y1 : Int} {Q : List mV → mM → Prop}
    (h : m_Wp i_M_signToken 290 kc ks [] [] (mem Ls p (mup I 98 8 y1) L) Q) :
    m_Wp i_M_signToken 287 kc ks [] [.inl y1, .inr (.inr 98)] (mem Ls p I L) Q := by
  skip <;> exact m_wp_of 3 [50, 74, 94, 95, 115, 116, 125, 135, 192, 270, 275, 287, 290] h
set_option maxHeartbeats 4000000 in
set_option maxRecDepth 20000 in
theorem T_M_signToken_94 {Ls p kc ks : Nat}  {I L : Nat → Nat → Int} {x1 : Int} {Q : List mV → mM → Prop}
    (h : m_Wp i_M_signToken 95 kc ks [(0, .inr (.inr 98)), (1, .inl x1)] [.inl 0] (mem Ls p I L) Q) :
    m_Wp i_M_signToken 94 kc ks [(0, .inr (.inr 98)), (1, .inl x1)] [] (mem Ls p I L) Q := by
  skip <;> exact m_wp_of 3 [50, 74, 94, 95, 115, 116, 125, 135, 192, 270, 275, 287, 290] h
set_option maxHeartbeats 4000000 in
set_option maxRecDepth 20000 in
theorem T_M_signToken_95 {Ls p kc ks : Nat}  {I L : Nat → Nat → Int} {x1 y0 : Int} {Q : List mV → mM → Prop}
    (h : ((¬ (I 98 9) = (60 : Int) →
    m_Wp i_M_signToken 115 kc ks [(0, .inr (.inr 98)), (2, .inl y0)] [] (mem Ls p I L) Q) ∧
   (¬ (¬ (I 98 9) = (60 : Int)) →
    ((¬ x1 = (62 : Int) →
      m_Wp i_M_signToken 115 kc ks [(0, .inr (.inr 98)), (2, .inl y0)] [] (mem Ls p I L) Q) ∧
     (¬ (¬ x1 = (62 : Int)) →
      m_Wp i_M_signToken 116 kc ks [(0, .inr (.inr 98)), (2, .inl y0)] [.inl 1] (mem Ls p I L) Q))))) :
    m_Wp i_M_signToken 95 kc ks [(0, .inr (.inr 98)), (1, .inl x1)] [.inl y0] (mem Ls p I L) Q := by
  skip <;> exact m_wp_of 12 [50, 74, 94, 95, 115, 116, 125, 135, 192, 270, 275, 287, 290] h
set_option maxHeartbeats 4000000 in
set_option maxRecDepth 20000 in
theorem T_M_signToken_290 {Ls p kc ks : Nat}  {I L : Nat → Nat → Int} {Q : List mV → mM → Prop}
    (h : Q [] (mem Ls p I L)) :
    m_Wp i_M_signToken 290 kc ks [] [] (mem Ls p I L) Q := by
  skip <;> exact m_wp_of 2 [50, 74, 94, 95, 115, 116, 125, 135, 192, 270, 275, 287, 290] h
set_option maxHeartbeats 4000000 in
set_option maxRecDepth 20000 in
theorem T_M_signToken_115 {Ls p kc ks : Nat}  {I L : Nat → Nat → Int} {x2 : Int} {Q : List mV → mM → Prop}
    (h : m_Wp i_M_signToken 116 kc ks [(0, .inr (.inr 98)), (2, .inl x2)] [.inl 0] (mem Ls p I L) Q) :
    m_Wp i_M_signToken 115 kc ks [(0, .inr (.inr 98)), (2, .inl x2)] [] (mem Ls p I L) Q := by
  skip <;> exact m_wp_of 3 [50, 74, 94, 95, 115, 116, 125, 135, 192, 270, 275, 287, 290] h
set_option maxHeartbeats 4000000 in
set_option maxRecDepth 20000 in
theorem T_M_signToken_116 {Ls p kc ks : Nat}  {I L : Nat → Nat → Int} {x2 y0 : Int} {Q : List mV → mM → Prop}
    (h : ((¬ x2 = (0 : Int) →
    m_Wp i_M_signToken 125 kc ks [(0, .inr (.inr 98)), (2, .inl x2), (3, .inl y0)] [] (mem Ls p I L) Q) ∧
   (¬ (¬ x2 = (0 : Int)) →
    ((y0 = (0 : Int) →
      m_Wp i_M_signToken 135 kc ks [(0, .inr (.inr 98)), (2, .inl x2), (3, .inl y0)] [] (mem Ls p I L) Q) ∧
     (¬ (y0 = (0 : Int)) →
      m_Wp i_M_signToken 125 kc ks [(0, .inr (.inr 98)), (2, .inl x2), (3, .inl y0)] [] (mem Ls p I L) Q))))) :
    m_Wp i_M_signToken 116 kc ks [(0, .inr (.inr 98)), (2, .inl x2)] [.inl y0] (mem Ls p I L) Q := by
  skip <;> exact m_wp_of 7 [50, 74, 94, 95, 115, 116, 125, 135, 192, 270, 275, 287, 290] h
set_option maxHeartbeats 4000000 in
set_option maxRecDepth 20000 in
theorem T_M_signToken_125 {Ls p kc ks : Nat}  {I L : Nat → Nat → Int} {x2 x3 : Int} {Q : List mV → mM → Prop}
    (h : m_Wp i_M_signToken 135 kc ks [(0, .inr (.inr 98)), (2, .inl x2), (3, .inl x3)] [] (mem Ls p (mup I 98 7 (wr ((I 98 7) + 1))) L) Q) :
    m_Wp i_M_signToken 125 kc ks [(0, .inr (.inr 98)), (2, .inl x2), (3, .inl x3)] [] (mem Ls p I L) Q := by
  skip <;> exact m_wp_of 8 [50, 74, 94, 95, 115, 116, 125, 135, 192, 270, 275, 287, 290] h
set_option maxHeartbeats 4000000 in
set_option maxRecDepth 20000 in
theorem T_M_signToken_135 {Ls p kc ks : Nat}  {I L : Nat → Nat → Int} {x2 x3 : Int} {Q : List mV → mM → Prop}
    (h : ((¬ (I 98 9) = (61 : Int) →
    ((¬ (I 98 9) = (60 : Int) →
      ((x2 = (0 : Int) →
        m_Wp i_M_signToken 192 kc ks [] [.inl 5, .inr (.inr 98)] (mem Ls p (mup I 98 8 5) L) Q) ∧
       (¬ (x2 = (0 : Int)) →
        m_Wp i_M_signToken 192 kc ks [] [.inl 4, .inr (.inr 98)] (mem Ls p (mup I 98 8 5) L) Q))) ∧
     (¬ (¬ (I 98 9) = (60 : Int)) →
      ((x2 = (0 : Int) →
        ((x3 = (0 : Int) →
          m_Wp i_M_signToken 192 kc ks [] [.inl 0, .inr (.inr 98)] (mem Ls p (mup I 98 8 5) L) Q) ∧
         (¬ (x3 = (0 : Int)) →
          m_Wp i_M_signToken 192 kc ks [] [.inl 3, .inr (.inr 98)] (mem Ls p (mup I 98 8 5) L) Q))) ∧
       (¬ (x2 = (0 : Int)) →
        m_Wp i_M_signToken 192 kc ks [] [.inl 1, .inr (.inr 98)] (mem Ls p (mup I 98 8 5) L) Q))))) ∧
   (¬ (¬ (I 98 9) = (61 : Int)) →
    m_Wp i_M_signToken 192 kc ks [] [.inl 2, .inr (.inr 98)] (mem Ls p (mup I 98 8 5) L) Q))) :
    m_Wp i_M_signToken 135 kc ks [(0, .inr (.inr 98)), (2, .inl x2), (3, .inl x3)] [] (mem Ls p I L) Q := by
  skip <;> exact m_wp_of 20 [50, 74, 94, 95, 115, 116, 125, 135, 192, 270, 275, 287, 290] h
set_option maxHeartbeats 4000000 in
set_option maxRecDepth 20000 in
theorem T_M_signToken_192 {Ls p kc ks : Nat}  {I L : Nat → Nat → Int} {y1 : Int} {Q : List mV → mM → Prop}
    (h : m_Wp i_M_signToken 290 kc ks [] [] (mem Ls p (mup I 98 9 y1) L) Q) :
    m_Wp i_M_signToken 192 kc ks [] [.inl y1, .inr (.inr 98)] (mem Ls p I L) Q := by
  skip <;> exact m_wp_of 4 [50, 74, 94, 95, 115, 116, 125, 135, 192, 270, 275, 287, 290] h
set_option maxHeartbeats 4000000 in
set_option maxRecDepth 20000 in
theorem E_M_token {Ls p : Nat}  {I L : Nat → Nat → Int} {Q : List mV → mM → Prop}
    (h : (((I 98 6) ≤ (I 98 7) →
    ((¬ (I 98 7) = (I 98 6) →
      m_Call i_M_isSmall [.inr (.inr 98), .inl (I 98 7)] (mem Ls p (mup I 98 10 (I 98 7)) L) (fun v M' =>
        m_Wp i_M_token 87 0 0 [(0, .inr (.inr 98))] (v ++ []) M' Q)) ∧
     (¬ (¬ (I 98 7) = (I 98 6)) →
      Q [] (mem Ls p (mup (mup I 98 10 (I 98 7)) 98 8 0) L)))) ∧
   (¬ ((I 98 6) ≤ (I 98 7)) →
    (0 ≤ (I 98 7) ∧ (I 98 7) < 700) ∧
    (((I 99 (Int.toNat (I 98 7))) = (10 : Int) →
      m_Wp i_M_token 0 0 0 [(0, .inr (.inr 98))] [] (mem Ls p (mup I 98 7 (wr ((I 98 7) + 1))) L) Q) ∧
     (¬ ((I 99 (Int.toNat (I 98 7))) = (10 : Int)) →
      (0 ≤ (I 98 7) ∧ (I 98 7) < 700) ∧
      ((¬ (I 99 (Int.toNat (I 98 7))) = (32 : Int) →
        ((¬ (I 98 7) = (I 98 6) →
          m_Call i_M_isSmall [.inr (.inr 98), .inl (I 98 7)] (mem Ls p (mup I 98 10 (I 98 7)) L) (fun v M' =>
            m_Wp i_M_token 87 0 0 [(0, .inr (.inr 98))] (v ++ []) M' Q)) ∧
         (¬ (¬ (I 98 7) = (I 98 6)) →
          Q [] (mem Ls p (mup (mup I 98 10 (I 98 7)) 98 8 0) L)))) ∧
       (¬ (¬ (I 99 (Int.toNat (I 98 7))) = (32 : Int)) →
        m_Wp i_M_token 0 0 0 [(0, .inr (.inr 98))] [] (mem Ls p (mup I 98 7 (wr ((I 98 7) + 1))) L) Q))))))) :
    m_Call i_M_token [.inr (.inr 98)] (mem Ls p I L) Q := by
  have he : m_ent 0 ([.inr (.inr 98)] : List mV) = [(0, .inr (.inr 98))] := rfl
  skip <;> exact m_call_at 36 [0, 90, 213] he h
set_option maxHeartbeats 4000000 in
set_option maxRecDepth 20000 in
theorem T_M_token_87 {Ls p kc ks : Nat}  {I L : Nat → Nat → Int} {y0 : Int} {Q : List mV → mM → Prop}
    (h : ((y0 = (0 : Int) →
    m_Call i_M_isDigit [.inr (.inr 98), .inl (I 98 7)] (mem Ls p I L) (fun v M' =>
      m_Wp i_M_token 200 kc ks [(0, .inr (.inr 98))] (v ++ []) M' Q)) ∧
   (¬ (y0 = (0 : Int)) →
    m_Wp i_M_token 90 kc ks [(0, .inr (.inr 98))] [] (mem Ls p I L) Q))) :
    m_Wp i_M_token 87 kc ks [(0, .inr (.inr 98))] [.inl y0] (mem Ls p I L) Q := by
  skip <;> exact m_wp_of 5 [0, 90, 213] h
set_option maxHeartbeats 4000000 in
set_option maxRecDepth 20000 in
theorem T_M_token_0 {Ls p kc ks : Nat}  {I L : Nat → Nat → Int} {Q : List mV → mM → Prop}
    (h : (((I 98 6) ≤ (I 98 7) →
    ((¬ (I 98 7) = (I 98 6) →
      m_Call i_M_isSmall [.inr (.inr 98), .inl (I 98 7)] (mem Ls p (mup I 98 10 (I 98 7)) L) (fun v M' =>
        m_Wp i_M_token 87 kc ks [(0, .inr (.inr 98))] (v ++ []) M' Q)) ∧
     (¬ (¬ (I 98 7) = (I 98 6)) →
      Q [] (mem Ls p (mup (mup I 98 10 (I 98 7)) 98 8 0) L)))) ∧
   (¬ ((I 98 6) ≤ (I 98 7)) →
    (0 ≤ (I 98 7) ∧ (I 98 7) < 700) ∧
    (((I 99 (Int.toNat (I 98 7))) = (10 : Int) →
      m_Wp i_M_token 0 kc ks [(0, .inr (.inr 98))] [] (mem Ls p (mup I 98 7 (wr ((I 98 7) + 1))) L) Q) ∧
     (¬ ((I 99 (Int.toNat (I 98 7))) = (10 : Int)) →
      (0 ≤ (I 98 7) ∧ (I 98 7) < 700) ∧
      ((¬ (I 99 (Int.toNat (I 98 7))) = (32 : Int) →
        ((¬ (I 98 7) = (I 98 6) →
          m_Call i_M_isSmall [.inr (.inr 98), .inl (I 98 7)] (mem Ls p (mup I 98 10 (I 98 7)) L) (fun v M' =>
            m_Wp i_M_token 87 kc ks [(0, .inr (.inr 98))] (v ++ []) M' Q)) ∧
         (¬ (¬ (I 98 7) = (I 98 6)) →
          Q [] (mem Ls p (mup (mup I 98 10 (I 98 7)) 98 8 0) L)))) ∧
       (¬ (¬ (I 99 (Int.toNat (I 98 7))) = (32 : Int)) →
        m_Wp i_M_token 0 kc ks [(0, .inr (.inr 98))] [] (mem Ls p (mup I 98 7 (wr ((I 98 7) + 1))) L) Q))))))) :
    m_Wp i_M_token 0 kc ks [(0, .inr (.inr 98))] [] (mem Ls p I L) Q := by
  skip <;> exact m_wp_of 36 [0, 90, 213] h
set_option maxHeartbeats 4000000 in
set_option maxRecDepth 20000 in
theorem T_M_token_200 {Ls p kc ks : Nat}  {I L : Nat → Nat → Int} {y0 : Int} {Q : List mV → mM → Prop}
    (h : ((y0 = (0 : Int) →
    m_Call i_M_signToken [.inr (.inr 98)] (mem Ls p I L) (fun v M' =>
      m_Wp i_M_token 281 kc ks [(0, .inr (.inr 98))] (v ++ []) M' Q)) ∧
   (¬ (y0 = (0 : Int)) →
    m_Wp i_M_token 213 kc ks [(0, .inr (.inr 98))] [] (mem Ls p (mup (mup I 98 8 3) 98 9 0) L) Q))) :
    m_Wp i_M_token 200 kc ks [(0, .inr (.inr 98))] [.inl y0] (mem Ls p I L) Q := by
  skip <;> exact m_wp_of 8 [0, 90, 213] h
set_option maxHeartbeats 4000000 in
set_option maxRecDepth 20000 in
theorem T_M_token_90 {Ls p kc ks : Nat}  {I L : Nat → Nat → Int} {Q : List mV → mM → Prop}
    (h : m_Call i_M_isSmall [.inr (.inr 98), .inl (I 98 7)] (mem Ls p I L) (fun v M' =>
    m_Wp i_M_token 98 kc ks [(0, .inr (.inr 98))] (v ++ []) M' Q)) :
    m_Wp i_M_token 90 kc ks [(0, .inr (.inr 98))] [] (mem Ls p I L) Q := by
  skip <;> exact m_wp_of 5 [0, 90, 213] h
set_option maxHeartbeats 4000000 in
set_option maxRecDepth 20000 in
theorem T_M_token_281 {Ls p kc ks : Nat}  {I L : Nat → Nat → Int} {Q : List mV → mM → Prop}
    (h : Q [] (mem Ls p I L)) :
    m_Wp i_M_token 281 kc ks [(0, .inr (.inr 98))] [] (mem Ls p I L) Q := by
  skip <;> exact m_wp_of 2 [0, 90, 213] h
set_option maxHeartbeats 4000000 in
set_option maxRecDepth 20000 in
theorem T_M_token_213 {Ls p kc ks : Nat}  {I L : Nat → Nat → Int} {Q : List mV → mM → Prop}
    (h : m_Call i_M_isDigit [.inr (.inr 98), .inl (I 98 7)] (mem Ls p I L) (fun v M' =>
    m_Wp i_M_token 221 kc ks [(0, .inr (.inr 98))] (v ++ []) M' Q)) :
    m_Wp i_M_token 213 kc ks [(0, .inr (.inr 98))] [] (mem Ls p I L) Q := by
  skip <;> exact m_wp_of 5 [0, 90, 213] h
set_option maxHeartbeats 4000000 in
set_option maxRecDepth 20000 in
theorem T_M_token_98 {Ls p kc ks : Nat}  {I L : Nat → Nat → Int} {y0 : Int} {Q : List mV → mM → Prop}
    (h : ((y0 = (0 : Int) →
    m_Call i_M_wordAt [.inr (.inr 98), .inl (I 98 10), .inl (I 98 7)] (mem Ls p I L) (fun v M' =>
      m_Wp i_M_token 127 kc ks [(0, .inr (.inr 98))] (v ++ [.inr (.inr 98)]) M' Q)) ∧
   (¬ (y0 = (0 : Int)) →
    m_Wp i_M_token 90 kc ks [(0, .inr (.inr 98))] [] (mem Ls p (mup I 98 7 (wr ((I 98 7) + 1))) L) Q))) :
    m_Wp i_M_token 98 kc ks [(0, .inr (.inr 98))] [.inl y0] (mem Ls p I L) Q := by
  skip <;> exact m_wp_of 9 [0, 90, 213] h
set_option maxHeartbeats 4000000 in
set_option maxRecDepth 20000 in
theorem T_M_token_221 {Ls p kc ks : Nat}  {I L : Nat → Nat → Int} {y0 : Int} {Q : List mV → mM → Prop}
    (h : ((y0 = (0 : Int) →
    Q [] (mem Ls p I L)) ∧
   (¬ (y0 = (0 : Int)) →
    (((I 98 9) ≤ (99999 : Int) →
      (0 ≤ (I 98 7) ∧ (I 98 7) < 700) ∧
      m_Wp i_M_token 213 kc ks [(0, .inr (.inr 98))] [] (mem Ls p (mup (mup I 98 9 (wr ((wr ((wr (10 * (I 98 9))) + (I 99 (Int.toNat (I 98 7))))) - 48))) 98 7 (wr ((I 98 7) + 1))) L) Q) ∧
     (¬ ((I 98 9) ≤ (99999 : Int)) →
      m_Wp i_M_token 213 kc ks [(0, .inr (.inr 98))] [] (mem Ls p (mup (mup I 98 9 (I 98 9)) 98 7 (wr ((I 98 7) + 1))) L) Q))))) :
    m_Wp i_M_token 221 kc ks [(0, .inr (.inr 98))] [.inl y0] (mem Ls p I L) Q := by
  skip <;> exact m_wp_of 28 [0, 90, 213] h
set_option maxHeartbeats 4000000 in
set_option maxRecDepth 20000 in
theorem T_M_token_127 {Ls p kc ks : Nat}  {I L : Nat → Nat → Int} {y1 : Int} {Q : List mV → mM → Prop}
    (h : ((y1 < (0 : Int) →
    (((wr ((I 98 7) - (I 98 10))) ≤ (6 : Int) →
      ((¬ (2 : Int) = (2 : Int) →
        Q [] (mem Ls p (mup (mup I 98 9 y1) 98 8 2) L)) ∧
       (¬ (¬ (2 : Int) = (2 : Int)) →
        m_Call i_M_packed [.inr (.inr 98), .inl (I 98 10), .inl (I 98 7)] (mem Ls p (mup (mup I 98 9 y1) 98 8 2) L) (fun v M' =>
          m_Wp i_M_token 186 kc ks [(0, .inr (.inr 98))] (v ++ [.inr (.inr 98)]) M' Q)))) ∧
     (¬ ((wr ((I 98 7) - (I 98 10))) ≤ (6 : Int)) →
      ((¬ (6 : Int) = (2 : Int) →
        Q [] (mem Ls p (mup (mup I 98 9 y1) 98 8 6) L)) ∧
       (¬ (¬ (6 : Int) = (2 : Int)) →
        m_Call i_M_packed [.inr (.inr 98), .inl (I 98 10), .inl (I 98 7)] (mem Ls p (mup (mup I 98 9 y1) 98 8 6) L) (fun v M' =>
          m_Wp i_M_token 186 kc ks [(0, .inr (.inr 98))] (v ++ [.inr (.inr 98)]) M' Q)))))) ∧
   (¬ (y1 < (0 : Int)) →
    ((¬ (1 : Int) = (2 : Int) →
      Q [] (mem Ls p (mup (mup I 98 9 y1) 98 8 1) L)) ∧
     (¬ (¬ (1 : Int) = (2 : Int)) →
      m_Call i_M_packed [.inr (.inr 98), .inl (I 98 10), .inl (I 98 7)] (mem Ls p (mup (mup I 98 9 y1) 98 8 1) L) (fun v M' =>
        m_Wp i_M_token 186 kc ks [(0, .inr (.inr 98))] (v ++ [.inr (.inr 98)]) M' Q)))))) :
    m_Wp i_M_token 127 kc ks [(0, .inr (.inr 98))] [.inl y1, .inr (.inr 98)] (mem Ls p I L) Q := by
  skip <;> exact m_wp_of 27 [0, 90, 213] h
set_option maxHeartbeats 4000000 in
set_option maxRecDepth 20000 in
theorem T_M_token_186 {Ls p kc ks : Nat}  {I L : Nat → Nat → Int} {y1 : Int} {Q : List mV → mM → Prop}
    (h : Q [] (mem Ls p (mup I 98 9 y1) L)) :
    m_Wp i_M_token 186 kc ks [(0, .inr (.inr 98))] [.inl y1, .inr (.inr 98)] (mem Ls p I L) Q := by
  skip <;> exact m_wp_of 4 [0, 90, 213] h
set_option maxHeartbeats 4000000 in
set_option maxRecDepth 20000 in
theorem E_M_wrong {Ls p : Nat}  {I L : Nat → Nat → Int} {a0 : Int} {Q : List mV → mM → Prop}
    (h : ((0 : Int) = 0 ∨ (0 : Int) = 1) ∧
  Q [.inl 0] (mem Ls p (mup (mup I 98 4 a0) 98 5 (I 98 10)) L)) :
    m_Call i_M_wrong [.inr (.inr 98), .inl a0] (mem Ls p I L) Q := by
  have he : m_ent 0 ([.inr (.inr 98), .inl a0] : List mV) = [(0, .inr (.inr 98)), (1, .inl a0)] := rfl
  skip <;> exact m_call_at 9 [] he h
set_option maxHeartbeats 4000000 in
set_option maxRecDepth 20000 in
theorem E_M_find {Ls p : Nat}  {I L : Nat → Nat → Int} {a1 a2 a3 : Int} {Q : List mV → mM → Prop}
    (h : m_Wp i_M_find 3 0 0 [(0, .inr (.inr 103)), (1, .inl a1), (2, .inl a2), (3, .inl a3), (4, .inl 0)] [] (mem Ls p I L) Q) :
    m_Call i_M_find [.inr (.inr 103), .inl a1, .inl a2, .inl a3] (mem Ls p I L) Q := by
  have he : m_ent 0 ([.inr (.inr 103), .inl a1, .inl a2, .inl a3] : List mV) = [(0, .inr (.inr 103)), (1, .inl a1), (2, .inl a2), (3, .inl a3)] := rfl
  skip <;> exact m_call_at 3 [3] he h
set_option maxHeartbeats 4000000 in
set_option maxRecDepth 20000 in
theorem T_M_find_3 {Ls p kc ks : Nat}  {I L : Nat → Nat → Int} {x1 x2 x3 x4 : Int} {Q : List mV → mM → Prop}
    (h : ((x2 ≤ x4 →
    Q [.inl (-1)] (mem Ls p I L)) ∧
   (¬ (x2 ≤ x4) →
    (0 ≤ (wr (x1 + x4)) ∧ (wr (x1 + x4)) < 12) ∧
    ((¬ (I 103 (Int.toNat (wr (x1 + x4)))) = x3 →
      m_Wp i_M_find 3 kc ks [(0, .inr (.inr 103)), (1, .inl x1), (2, .inl x2), (3, .inl x3), (4, .inl (wr (x4 + 1)))] [] (mem Ls p I L) Q) ∧
     (¬ (¬ (I 103 (Int.toNat (wr (x1 + x4)))) = x3) →
      Q [.inl x4] (mem Ls p I L)))))) :
    m_Wp i_M_find 3 kc ks [(0, .inr (.inr 103)), (1, .inl x1), (2, .inl x2), (3, .inl x3), (4, .inl x4)] [] (mem Ls p I L) Q := by
  skip <;> exact m_wp_of 14 [3] h
set_option maxHeartbeats 4000000 in
set_option maxRecDepth 20000 in
theorem E_M_isIn {Ls p : Nat}  {I L : Nat → Nat → Int} {a0 a1 a2 : Int} {Q : List mV → mM → Prop}
    (h : ((a0 < a1 →
    ((0 : Int) = 0 ∨ (0 : Int) = 1) ∧
    Q [.inl 0] (mem Ls p I L)) ∧
   (¬ (a0 < a1) →
    ((a2 < a0 →
      ((0 : Int) = 0 ∨ (0 : Int) = 1) ∧
      Q [.inl 0] (mem Ls p I L)) ∧
     (¬ (a2 < a0) →
      ((1 : Int) = 0 ∨ (1 : Int) = 1) ∧
      Q [.inl 1] (mem Ls p I L)))))) :
    m_Call i_M_isIn [.inl a0, .inl a1, .inl a2] (mem Ls p I L) Q := by
  have he : m_ent 0 ([.inl a0, .inl a1, .inl a2] : List mV) = [(0, .inl a0), (1, .inl a1), (2, .inl a2)] := rfl
  skip <;> exact m_call_at 10 [] he h
set_option maxHeartbeats 4000000 in
set_option maxRecDepth 20000 in
theorem E_M_number {Ls p : Nat}  {I L : Nat → Nat → Int} {a0 a1 : Int} {Q : List mV → mM → Prop}
    (h : (((I 98 8) = (3 : Int) →
    m_Call i_M_isIn [.inl (I 98 9), .inl a0, .inl a1] (mem Ls p I L) (fun v M' =>
      m_Wp i_M_number 23 0 0 [(0, .inr (.inr 98)), (1, .inl a0), (2, .inl a1)] (v ++ []) M' Q)) ∧
   (¬ ((I 98 8) = (3 : Int)) →
    m_Call i_M_wrong [.inr (.inr 98), .inl 1] (mem Ls p I L) (fun v M' =>
      m_Wp i_M_number 13 0 0 [(0, .inr (.inr 98)), (1, .inl a0), (2, .inl a1)] (v ++ []) M' Q)))) :
    m_Call i_M_number [.inr (.inr 98), .inl a0, .inl a1] (mem Ls p I L) Q := by
  have he : m_ent 0 ([.inr (.inr 98), .inl a0, .inl a1] : List mV) = [(0, .inr (.inr 98)), (1, .inl a0), (2, .inl a1)] := rfl
  skip <;> exact m_call_at 9 [] he h
set_option maxHeartbeats 4000000 in
set_option maxRecDepth 20000 in
theorem T_M_number_23 {Ls p kc ks : Nat}  {I L : Nat → Nat → Int} {x1 x2 y0 : Int} {Q : List mV → mM → Prop}
    (h : ((¬ y0 = (0 : Int) →
    m_Call i_M_token [.inr (.inr 98)] (mem Ls p (mup I 98 11 (I 98 9)) L) (fun v M' =>
      m_Wp i_M_number 44 kc ks [(0, .inr (.inr 98)), (1, .inl x1), (2, .inl x2)] (v ++ []) M' Q)) ∧
   (¬ (¬ y0 = (0 : Int)) →
    m_Call i_M_wrong [.inr (.inr 98), .inl 2] (mem Ls p I L) (fun v M' =>
      m_Wp i_M_number 31 kc ks [(0, .inr (.inr 98)), (1, .inl x1), (2, .inl x2)] (v ++ []) M' Q)))) :
    m_Wp i_M_number 23 kc ks [(0, .inr (.inr 98)), (1, .inl x1), (2, .inl x2)] [.inl y0] (mem Ls p I L) Q := by
  skip <;> exact m_wp_of 7 [] h
set_option maxHeartbeats 4000000 in
set_option maxRecDepth 20000 in
theorem T_M_number_13 {Ls p kc ks : Nat}  {I L : Nat → Nat → Int} {x1 x2 y0 : Int} {Q : List mV → mM → Prop}
    (h : (y0 = 0 ∨ y0 = 1) ∧
  Q [.inl y0] (mem Ls p I L)) :
    m_Wp i_M_number 13 kc ks [(0, .inr (.inr 98)), (1, .inl x1), (2, .inl x2)] [.inl y0] (mem Ls p I L) Q := by
  skip <;> exact m_wp_of 1 [] h
set_option maxHeartbeats 4000000 in
set_option maxRecDepth 20000 in
theorem T_M_number_44 {Ls p kc ks : Nat}  {I L : Nat → Nat → Int} {x1 x2 : Int} {Q : List mV → mM → Prop}
    (h : ((1 : Int) = 0 ∨ (1 : Int) = 1) ∧
  Q [.inl 1] (mem Ls p I L)) :
    m_Wp i_M_number 44 kc ks [(0, .inr (.inr 98)), (1, .inl x1), (2, .inl x2)] [] (mem Ls p I L) Q := by
  skip <;> exact m_wp_of 2 [] h
set_option maxHeartbeats 4000000 in
set_option maxRecDepth 20000 in
theorem T_M_number_31 {Ls p kc ks : Nat}  {I L : Nat → Nat → Int} {x1 x2 y0 : Int} {Q : List mV → mM → Prop}
    (h : (y0 = 0 ∨ y0 = 1) ∧
  Q [.inl y0] (mem Ls p I L)) :
    m_Wp i_M_number 31 kc ks [(0, .inr (.inr 98)), (1, .inl x1), (2, .inl x2)] [.inl y0] (mem Ls p I L) Q := by
  skip <;> exact m_wp_of 1 [] h
set_option maxHeartbeats 4000000 in
set_option maxRecDepth 20000 in
theorem E_M_isSign {Ls p : Nat}  {I L : Nat → Nat → Int} {a0 : Int} {Q : List mV → mM → Prop}
    (h : ((¬ (I 98 8) = (4 : Int) →
    ((0 : Int) = 0 ∨ (0 : Int) = 1) ∧
    Q [.inl 0] (mem Ls p I L)) ∧
   (¬ (¬ (I 98 8) = (4 : Int)) →
    ((¬ (I 98 9) = a0 →
      ((0 : Int) = 0 ∨ (0 : Int) = 1) ∧
      Q [.inl 0] (mem Ls p I L)) ∧
     (¬ (¬ (I 98 9) = a0) →
      ((1 : Int) = 0 ∨ (1 : Int) = 1) ∧
      Q [.inl 1] (mem Ls p I L)))))) :
    m_Call i_M_isSign [.inr (.inr 98), .inl a0] (mem Ls p I L) Q := by
  have he : m_ent 0 ([.inr (.inr 98), .inl a0] : List mV) = [(0, .inr (.inr 98)), (1, .inl a0)] := rfl
  skip <;> exact m_call_at 12 [] he h
set_option maxHeartbeats 4000000 in
set_option maxRecDepth 20000 in
theorem E_M_signed {Ls p : Nat}  {I L : Nat → Nat → Int} {a0 : Int} {Q : List mV → mM → Prop}
    (h : m_Call i_M_isSign [.inr (.inr 98), .inl 45] (mem Ls p I L) (fun v M' =>
    m_Wp i_M_signed 6 0 0 [(0, .inr (.inr 98)), (1, .inl a0)] (v ++ []) M' Q)) :
    m_Call i_M_signed [.inr (.inr 98), .inl a0] (mem Ls p I L) Q := by
  have he : m_ent 0 ([.inr (.inr 98), .inl a0] : List mV) = [(0, .inr (.inr 98)), (1, .inl a0)] := rfl
  skip <;> exact m_call_at 3 [] he h
set_option maxHeartbeats 4000000 in
set_option maxRecDepth 20000 in
theorem T_M_signed_6 {Ls p kc ks : Nat}  {I L : Nat → Nat → Int} {x1 y0 : Int} {Q : List mV → mM → Prop}
    (h : ((y0 = (0 : Int) →
    m_Call i_M_number [.inr (.inr 98), .inl 0, .inl x1] (mem Ls p I L) (fun v M' =>
      m_Wp i_M_signed 21 kc ks [(0, .inr (.inr 98)), (1, .inl x1), (2, .inl y0)] (v ++ []) M' Q)) ∧
   (¬ (y0 = (0 : Int)) →
    m_Call i_M_token [.inr (.inr 98)] (mem Ls p I L) (fun v M' =>
      m_Wp i_M_signed 15 kc ks [(0, .inr (.inr 98)), (1, .inl x1), (2, .inl y0)] (v ++ []) M' Q)))) :
    m_Wp i_M_signed 6 kc ks [(0, .inr (.inr 98)), (1, .inl x1)] [.inl y0] (mem Ls p I L) Q := by
  skip <;> exact m_wp_of 8 [] h
set_option maxHeartbeats 4000000 in
set_option maxRecDepth 20000 in
theorem T_M_signed_21 {Ls p kc ks : Nat}  {I L : Nat → Nat → Int} {x1 x2 y0 : Int} {Q : List mV → mM → Prop}
    (h : ((¬ y0 = (0 : Int) →
    ((x2 = (0 : Int) →
      ((1 : Int) = 0 ∨ (1 : Int) = 1) ∧
      Q [.inl 1] (mem Ls p (mup I 98 11 (I 98 11)) L)) ∧
     (¬ (x2 = (0 : Int)) →
      ((1 : Int) = 0 ∨ (1 : Int) = 1) ∧
      Q [.inl 1] (mem Ls p (mup I 98 11 (wr (-(I 98 11)))) L)))) ∧
   (¬ (¬ y0 = (0 : Int)) →
    ((0 : Int) = 0 ∨ (0 : Int) = 1) ∧
    Q [.inl 0] (mem Ls p I L)))) :
    m_Wp i_M_signed 21 kc ks [(0, .inr (.inr 98)), (1, .inl x1), (2, .inl x2)] [.inl y0] (mem Ls p I L) Q := by
  skip <;> exact m_wp_of 12 [] h
set_option maxHeartbeats 4000000 in
set_option maxRecDepth 20000 in
theorem T_M_signed_15 {Ls p kc ks : Nat}  {I L : Nat → Nat → Int} {x1 x2 : Int} {Q : List mV → mM → Prop}
    (h : m_Call i_M_number [.inr (.inr 98), .inl 0, .inl x1] (mem Ls p I L) (fun v M' =>
    m_Wp i_M_signed 21 kc ks [(0, .inr (.inr 98)), (1, .inl x1), (2, .inl x2)] (v ++ []) M' Q)) :
    m_Wp i_M_signed 15 kc ks [(0, .inr (.inr 98)), (1, .inl x1), (2, .inl x2)] [] (mem Ls p I L) Q := by
  skip <;> exact m_wp_of 5 [] h
set_option maxHeartbeats 4000000 in
set_option maxRecDepth 20000 in
theorem E_M_manLine {Ls p : Nat}  {I L : Nat → Nat → Int} {Q : List mV → mM → Prop}
    (h : ((¬ (I 98 17) = (6 : Int) →
    m_Call i_M_token [.inr (.inr 98)] (mem Ls p I L) (fun v M' =>
      m_Wp i_M_manLine 19 0 0 [(0, .inr (.inr 98))] (v ++ []) M' Q)) ∧
   (¬ (¬ (I 98 17) = (6 : Int)) →
    m_Call i_M_wrong [.inr (.inr 98), .inl 2] (mem Ls p I L) (fun v M' =>
      m_Wp i_M_manLine 14 0 0 [(0, .inr (.inr 98))] (v ++ []) M' Q)))) :
    m_Call i_M_manLine [.inr (.inr 98)] (mem Ls p I L) Q := by
  have he : m_ent 0 ([.inr (.inr 98)] : List mV) = [(0, .inr (.inr 98))] := rfl
  skip <;> exact m_call_at 7 [] he h
set_option maxHeartbeats 4000000 in
set_option maxRecDepth 20000 in
theorem T_M_manLine_19 {Ls p kc ks : Nat}  {I L : Nat → Nat → Int} {Q : List mV → mM → Prop}
    (h : (((I 98 8) = (2 : Int) →
    m_Call i_M_find [.inr (.inr 103), .inl 6, .inl (I 98 17), .inl (I 98 9)] (mem Ls p I L) (fun v M' =>
      m_Wp i_M_manLine 50 kc ks [(0, .inr (.inr 98))] (v ++ []) M' Q)) ∧
   (¬ ((I 98 8) = (2 : Int)) →
    m_Call i_M_wrong [.inr (.inr 98), .inl 1] (mem Ls p I L) (fun v M' =>
      m_Wp i_M_manLine 32 kc ks [(0, .inr (.inr 98))] (v ++ []) M' Q)))) :
    m_Wp i_M_manLine 19 kc ks [(0, .inr (.inr 98))] [] (mem Ls p I L) Q := by
  skip <;> exact m_wp_of 12 [] h
set_option maxHeartbeats 4000000 in
set_option maxRecDepth 20000 in
theorem T_M_manLine_14 {Ls p kc ks : Nat}  {I L : Nat → Nat → Int} {y0 : Int} {Q : List mV → mM → Prop}
    (h : (y0 = 0 ∨ y0 = 1) ∧
  Q [.inl y0] (mem Ls p I L)) :
    m_Wp i_M_manLine 14 kc ks [(0, .inr (.inr 98))] [.inl y0] (mem Ls p I L) Q := by
  skip <;> exact m_wp_of 1 [] h
set_option maxHeartbeats 4000000 in
set_option maxRecDepth 20000 in
theorem T_M_manLine_50 {Ls p kc ks : Nat}  {I L : Nat → Nat → Int} {y0 : Int} {Q : List mV → mM → Prop}
    (h : ((y0 < (0 : Int) →
    (0 ≤ (wr (6 + (I 98 17))) ∧ (wr (6 + (I 98 17))) < 12) ∧
    m_Call i_M_token [.inr (.inr 98)] (mem Ls p (mup I 103 (Int.toNat (wr (6 + (I 98 17)))) (I 98 9)) L) (fun v M' =>
      m_Wp i_M_manLine 81 kc ks [(0, .inr (.inr 98)), (1, .inl (wr (6 + (I 98 17))))] (v ++ []) M' Q)) ∧
   (¬ (y0 < (0 : Int)) →
    m_Call i_M_wrong [.inr (.inr 98), .inl 3] (mem Ls p I L) (fun v M' =>
      m_Wp i_M_manLine 58 kc ks [(0, .inr (.inr 98))] (v ++ []) M' Q)))) :
    m_Wp i_M_manLine 50 kc ks [(0, .inr (.inr 98))] [.inl y0] (mem Ls p I L) Q := by
  skip <;> exact m_wp_of 14 [] h
set_option maxHeartbeats 4000000 in
set_option maxRecDepth 20000 in
theorem T_M_manLine_32 {Ls p kc ks : Nat}  {I L : Nat → Nat → Int} {y0 : Int} {Q : List mV → mM → Prop}
    (h : (y0 = 0 ∨ y0 = 1) ∧
  Q [.inl y0] (mem Ls p I L)) :
    m_Wp i_M_manLine 32 kc ks [(0, .inr (.inr 98))] [.inl y0] (mem Ls p I L) Q := by
  skip <;> exact m_wp_of 1 [] h
set_option maxHeartbeats 4000000 in
set_option maxRecDepth 20000 in
theorem T_M_manLine_81 {Ls p kc ks : Nat}  {I L : Nat → Nat → Int} {x1 : Int} {Q : List mV → mM → Prop}
    (h : m_Call i_M_number [.inr (.inr 98), .inl 1, .inl 9] (mem Ls p I L) (fun v M' =>
    m_Wp i_M_manLine 88 kc ks [(0, .inr (.inr 98)), (1, .inl x1)] (v ++ []) M' Q)) :
    m_Wp i_M_manLine 81 kc ks [(0, .inr (.inr 98)), (1, .inl x1)] [] (mem Ls p I L) Q := by
  skip <;> exact m_wp_of 4 [] h
set_option maxHeartbeats 4000000 in
set_option maxRecDepth 20000 in
theorem T_M_manLine_58 {Ls p kc ks : Nat}  {I L : Nat → Nat → Int} {y0 : Int} {Q : List mV → mM → Prop}
    (h : (y0 = 0 ∨ y0 = 1) ∧
  Q [.inl y0] (mem Ls p I L)) :
    m_Wp i_M_manLine 58 kc ks [(0, .inr (.inr 98))] [.inl y0] (mem Ls p I L) Q := by
  skip <;> exact m_wp_of 1 [] h
set_option maxHeartbeats 4000000 in
set_option maxRecDepth 20000 in
theorem T_M_manLine_88 {Ls p kc ks : Nat}  {I L : Nat → Nat → Int} {x1 y0 : Int} {Q : List mV → mM → Prop}
    (h : ((¬ y0 = (0 : Int) →
    (0 ≤ x1 ∧ x1 < 12) ∧
    m_Call i_M_number [.inr (.inr 98), .inl 0, .inl 30] (mem Ls p (mup I 104 (Int.toNat x1) (I 98 11)) L) (fun v M' =>
      m_Wp i_M_manLine 110 kc ks [(0, .inr (.inr 98)), (1, .inl x1)] (v ++ []) M' Q)) ∧
   (¬ (¬ y0 = (0 : Int)) →
    ((0 : Int) = 0 ∨ (0 : Int) = 1) ∧
    Q [.inl 0] (mem Ls p I L)))) :
    m_Wp i_M_manLine 88 kc ks [(0, .inr (.inr 98)), (1, .inl x1)] [.inl y0] (mem Ls p I L) Q := by
  skip <;> exact m_wp_of 11 [] h
set_option maxHeartbeats 4000000 in
set_option maxRecDepth 20000 in
theorem T_M_manLine_110 {Ls p kc ks : Nat}  {I L : Nat → Nat → Int} {x1 y0 : Int} {Q : List mV → mM → Prop}
    (h : ((¬ y0 = (0 : Int) →
    (0 ≤ x1 ∧ x1 < 12) ∧
    m_Call i_M_signed [.inr (.inr 98), .inl 30] (mem Ls p (mup I 105 (Int.toNat x1) (I 98 11)) L) (fun v M' =>
      m_Wp i_M_manLine 131 kc ks [(0, .inr (.inr 98)), (1, .inl x1)] (v ++ []) M' Q)) ∧
   (¬ (¬ y0 = (0 : Int)) →
    ((0 : Int) = 0 ∨ (0 : Int) = 1) ∧
    Q [.inl 0] (mem Ls p I L)))) :
    m_Wp i_M_manLine 110 kc ks [(0, .inr (.inr 98)), (1, .inl x1)] [.inl y0] (mem Ls p I L) Q := by
  skip <;> exact m_wp_of 10 [] h
set_option maxHeartbeats 4000000 in
set_option maxRecDepth 20000 in
theorem T_M_manLine_131 {Ls p kc ks : Nat}  {I L : Nat → Nat → Int} {x1 y0 : Int} {Q : List mV → mM → Prop}
    (h : ((¬ y0 = (0 : Int) →
    (0 ≤ x1 ∧ x1 < 12) ∧
    m_Call i_M_signed [.inr (.inr 98), .inl 9] (mem Ls p (mup I 106 (Int.toNat x1) (I 98 11)) L) (fun v M' =>
      m_Wp i_M_manLine 152 kc ks [(0, .inr (.inr 98)), (1, .inl x1)] (v ++ []) M' Q)) ∧
   (¬ (¬ y0 = (0 : Int)) →
    ((0 : Int) = 0 ∨ (0 : Int) = 1) ∧
    Q [.inl 0] (mem Ls p I L)))) :
    m_Wp i_M_manLine 131 kc ks [(0, .inr (.inr 98)), (1, .inl x1)] [.inl y0] (mem Ls p I L) Q := by
  skip <;> exact m_wp_of 10 [] h
set_option maxHeartbeats 4000000 in
set_option maxRecDepth 20000 in
theorem T_M_manLine_152 {Ls p kc ks : Nat}  {I L : Nat → Nat → Int} {x1 y0 : Int} {Q : List mV → mM → Prop}
    (h : ((¬ y0 = (0 : Int) →
    (0 ≤ x1 ∧ x1 < 12) ∧
    ((1 : Int) = 0 ∨ (1 : Int) = 1) ∧
    Q [.inl 1] (mem Ls p (mup (mup I 107 (Int.toNat x1) (I 98 11)) 98 17 (wr ((I 98 17) + 1))) L)) ∧
   (¬ (¬ y0 = (0 : Int)) →
    ((0 : Int) = 0 ∨ (0 : Int) = 1) ∧
    Q [.inl 0] (mem Ls p I L)))) :
    m_Wp i_M_manLine 152 kc ks [(0, .inr (.inr 98)), (1, .inl x1)] [.inl y0] (mem Ls p I L) Q := by
  skip <;> exact m_wp_of 15 [] h
set_option maxHeartbeats 4000000 in
set_option maxRecDepth 20000 in
theorem E_M_manThere {Ls p : Nat}  {I L : Nat → Nat → Int} {Q : List mV → mM → Prop}
    (h : (((I 98 8) = (2 : Int) →
    m_Call i_M_find [.inr (.inr 103), .inl 6, .inl (I 98 17), .inl (I 98 9)] (mem Ls p I L) (fun v M' =>
      m_Wp i_M_manThere 31 0 0 [(0, .inr (.inr 98))] (v ++ []) M' Q)) ∧
   (¬ ((I 98 8) = (2 : Int)) →
    m_Call i_M_wrong [.inr (.inr 98), .inl 1] (mem Ls p I L) (fun v M' =>
      m_Wp i_M_manThere 13 0 0 [(0, .inr (.inr 98))] (v ++ []) M' Q)))) :
    m_Call i_M_manThere [.inr (.inr 98)] (mem Ls p I L) Q := by
  have he : m_ent 0 ([.inr (.inr 98)] : List mV) = [(0, .inr (.inr 98))] := rfl
  skip <;> exact m_call_at 12 [] he h
set_option maxHeartbeats 4000000 in
set_option maxRecDepth 20000 in
theorem T_M_manThere_31 {Ls p kc ks : Nat}  {I L : Nat → Nat → Int} {y0 : Int} {Q : List mV → mM → Prop}
    (h : (((0 : Int) ≤ y0 →
    m_Call i_M_token [.inr (.inr 98)] (mem Ls p I L) (fun v M' =>
      m_Wp i_M_manThere 46 kc ks [(0, .inr (.inr 98)), (1, .inl y0)] (v ++ []) M' Q)) ∧
   (¬ ((0 : Int) ≤ y0) →
    m_Call i_M_wrong [.inr (.inr 98), .inl 4] (mem Ls p I L) (fun v M' =>
      m_Wp i_M_manThere 41 kc ks [(0, .inr (.inr 98)), (1, .inl y0)] (v ++ []) M' Q)))) :
    m_Wp i_M_manThere 31 kc ks [(0, .inr (.inr 98))] [.inl y0] (mem Ls p I L) Q := by
  skip <;> exact m_wp_of 6 [] h
set_option maxHeartbeats 4000000 in
set_option maxRecDepth 20000 in
theorem T_M_manThere_13 {Ls p kc ks : Nat}  {I L : Nat → Nat → Int} {y0 : Int} {Q : List mV → mM → Prop}
    (h : (y0 = 0 ∨ y0 = 1) ∧
  Q [.inl y0] (mem Ls p I L)) :
    m_Wp i_M_manThere 13 kc ks [(0, .inr (.inr 98))] [.inl y0] (mem Ls p I L) Q := by
  skip <;> exact m_wp_of 1 [] h
set_option maxHeartbeats 4000000 in
set_option maxRecDepth 20000 in
theorem T_M_manThere_46 {Ls p kc ks : Nat}  {I L : Nat → Nat → Int} {x1 : Int} {Q : List mV → mM → Prop}
    (h : ((1 : Int) = 0 ∨ (1 : Int) = 1) ∧
  Q [.inl 1] (mem Ls p (mup I 98 11 x1) L)) :
    m_Wp i_M_manThere 46 kc ks [(0, .inr (.inr 98)), (1, .inl x1)] [] (mem Ls p I L) Q := by
  skip <;> exact m_wp_of 5 [] h
set_option maxHeartbeats 4000000 in
set_option maxRecDepth 20000 in
theorem T_M_manThere_41 {Ls p kc ks : Nat}  {I L : Nat → Nat → Int} {x1 y0 : Int} {Q : List mV → mM → Prop}
    (h : (y0 = 0 ∨ y0 = 1) ∧
  Q [.inl y0] (mem Ls p I L)) :
    m_Wp i_M_manThere 41 kc ks [(0, .inr (.inr 98)), (1, .inl x1)] [.inl y0] (mem Ls p I L) Q := by
  skip <;> exact m_wp_of 1 [] h
set_option maxHeartbeats 4000000 in
set_option maxRecDepth 20000 in
theorem E_M_ringLine {Ls p : Nat}  {I L : Nat → Nat → Int} {Q : List mV → mM → Prop}
    (h : ((¬ (I 98 18) = (10 : Int) →
    m_Call i_M_token [.inr (.inr 98)] (mem Ls p I L) (fun v M' =>
      m_Wp i_M_ringLine 19 0 0 [(0, .inr (.inr 98))] (v ++ []) M' Q)) ∧
   (¬ (¬ (I 98 18) = (10 : Int)) →
    m_Call i_M_wrong [.inr (.inr 98), .inl 2] (mem Ls p I L) (fun v M' =>
      m_Wp i_M_ringLine 14 0 0 [(0, .inr (.inr 98))] (v ++ []) M' Q)))) :
    m_Call i_M_ringLine [.inr (.inr 98)] (mem Ls p I L) Q := by
  have he : m_ent 0 ([.inr (.inr 98)] : List mV) = [(0, .inr (.inr 98))] := rfl
  skip <;> exact m_call_at 7 [] he h
set_option maxHeartbeats 4000000 in
set_option maxRecDepth 20000 in
theorem T_M_ringLine_19 {Ls p kc ks : Nat}  {I L : Nat → Nat → Int} {Q : List mV → mM → Prop}
    (h : m_Call i_M_manThere [.inr (.inr 98)] (mem Ls p I L) (fun v M' =>
    m_Wp i_M_ringLine 23 kc ks [(0, .inr (.inr 98))] (v ++ []) M' Q)) :
    m_Wp i_M_ringLine 19 kc ks [(0, .inr (.inr 98))] [] (mem Ls p I L) Q := by
  skip <;> exact m_wp_of 2 [] h
set_option maxHeartbeats 4000000 in
set_option maxRecDepth 20000 in
theorem T_M_ringLine_14 {Ls p kc ks : Nat}  {I L : Nat → Nat → Int} {y0 : Int} {Q : List mV → mM → Prop}
    (h : (y0 = 0 ∨ y0 = 1) ∧
  Q [.inl y0] (mem Ls p I L)) :
    m_Wp i_M_ringLine 14 kc ks [(0, .inr (.inr 98))] [.inl y0] (mem Ls p I L) Q := by
  skip <;> exact m_wp_of 1 [] h
set_option maxHeartbeats 4000000 in
set_option maxRecDepth 20000 in
theorem T_M_ringLine_23 {Ls p kc ks : Nat}  {I L : Nat → Nat → Int} {y0 : Int} {Q : List mV → mM → Prop}
    (h : ((¬ y0 = (0 : Int) →
    (0 ≤ (wr (10 + (I 98 18))) ∧ (wr (10 + (I 98 18))) < 20) ∧
    m_Call i_M_number [.inr (.inr 98), .inl 0, .inl 200] (mem Ls p (mup I 108 (Int.toNat (wr (10 + (I 98 18)))) (I 98 11)) L) (fun v M' =>
      m_Wp i_M_ringLine 52 kc ks [(0, .inr (.inr 98))] (v ++ []) M' Q)) ∧
   (¬ (¬ y0 = (0 : Int)) →
    ((0 : Int) = 0 ∨ (0 : Int) = 1) ∧
    Q [.inl 0] (mem Ls p I L)))) :
    m_Wp i_M_ringLine 23 kc ks [(0, .inr (.inr 98))] [.inl y0] (mem Ls p I L) Q := by
  skip <;> exact m_wp_of 14 [] h
set_option maxHeartbeats 4000000 in
set_option maxRecDepth 20000 in
theorem T_M_ringLine_52 {Ls p kc ks : Nat}  {I L : Nat → Nat → Int} {y0 : Int} {Q : List mV → mM → Prop}
    (h : ((¬ y0 = (0 : Int) →
    (0 ≤ (wr (10 + (I 98 18))) ∧ (wr (10 + (I 98 18))) < 20) ∧
    ((1 : Int) = 0 ∨ (1 : Int) = 1) ∧
    Q [.inl 1] (mem Ls p (mup (mup I 109 (Int.toNat (wr (10 + (I 98 18)))) (I 98 11)) 98 18 (wr ((I 98 18) + 1))) L)) ∧
   (¬ (¬ y0 = (0 : Int)) →
    ((0 : Int) = 0 ∨ (0 : Int) = 1) ∧
    Q [.inl 0] (mem Ls p I L)))) :
    m_Wp i_M_ringLine 52 kc ks [(0, .inr (.inr 98))] [.inl y0] (mem Ls p I L) Q := by
  skip <;> exact m_wp_of 18 [] h
set_option maxHeartbeats 4000000 in
set_option maxRecDepth 20000 in
theorem E_M_meetLine {Ls p : Nat}  {I L : Nat → Nat → Int} {Q : List mV → mM → Prop}
    (h : ((¬ (I 98 19) = (6 : Int) →
    m_Call i_M_token [.inr (.inr 98)] (mem Ls p I L) (fun v M' =>
      m_Wp i_M_meetLine 19 0 0 [(0, .inr (.inr 98))] (v ++ []) M' Q)) ∧
   (¬ (¬ (I 98 19) = (6 : Int)) →
    m_Call i_M_wrong [.inr (.inr 98), .inl 2] (mem Ls p I L) (fun v M' =>
      m_Wp i_M_meetLine 14 0 0 [(0, .inr (.inr 98))] (v ++ []) M' Q)))) :
    m_Call i_M_meetLine [.inr (.inr 98)] (mem Ls p I L) Q := by
  have he : m_ent 0 ([.inr (.inr 98)] : List mV) = [(0, .inr (.inr 98))] := rfl
  skip <;> exact m_call_at 7 [] he h
set_option maxHeartbeats 4000000 in
set_option maxRecDepth 20000 in
theorem T_M_meetLine_19 {Ls p kc ks : Nat}  {I L : Nat → Nat → Int} {Q : List mV → mM → Prop}
    (h : m_Call i_M_manThere [.inr (.inr 98)] (mem Ls p I L) (fun v M' =>
    m_Wp i_M_meetLine 23 kc ks [(0, .inr (.inr 98))] (v ++ []) M' Q)) :
    m_Wp i_M_meetLine 19 kc ks [(0, .inr (.inr 98))] [] (mem Ls p I L) Q := by
  skip <;> exact m_wp_of 2 [] h
set_option maxHeartbeats 4000000 in
set_option maxRecDepth 20000 in
theorem T_M_meetLine_14 {Ls p kc ks : Nat}  {I L : Nat → Nat → Int} {y0 : Int} {Q : List mV → mM → Prop}
    (h : (y0 = 0 ∨ y0 = 1) ∧
  Q [.inl y0] (mem Ls p I L)) :
    m_Wp i_M_meetLine 14 kc ks [(0, .inr (.inr 98))] [.inl y0] (mem Ls p I L) Q := by
  skip <;> exact m_wp_of 1 [] h
set_option maxHeartbeats 4000000 in
set_option maxRecDepth 20000 in
theorem T_M_meetLine_23 {Ls p kc ks : Nat}  {I L : Nat → Nat → Int} {y0 : Int} {Q : List mV → mM → Prop}
    (h : ((¬ y0 = (0 : Int) →
    m_Call i_M_manThere [.inr (.inr 98)] (mem Ls p I L) (fun v M' =>
      m_Wp i_M_meetLine 42 kc ks [(0, .inr (.inr 98)), (1, .inl (I 98 11)), (2, .inl (I 98 10))] (v ++ []) M' Q)) ∧
   (¬ (¬ y0 = (0 : Int)) →
    ((0 : Int) = 0 ∨ (0 : Int) = 1) ∧
    Q [.inl 0] (mem Ls p I L)))) :
    m_Wp i_M_meetLine 23 kc ks [(0, .inr (.inr 98))] [.inl y0] (mem Ls p I L) Q := by
  skip <;> exact m_wp_of 9 [] h
set_option maxHeartbeats 4000000 in
set_option maxRecDepth 20000 in
theorem T_M_meetLine_42 {Ls p kc ks : Nat}  {I L : Nat → Nat → Int} {x1 x2 y0 : Int} {Q : List mV → mM → Prop}
    (h : ((¬ y0 = (0 : Int) →
    ((¬ x1 = (I 98 11) →
      (0 ≤ (wr (6 + (I 98 19))) ∧ (wr (6 + (I 98 19))) < 12) ∧
      (0 ≤ (wr (6 + (I 98 19))) ∧ (wr (6 + (I 98 19))) < 12) ∧
      m_Call i_M_number [.inr (.inr 98), .inl 0, .inl 300] (mem Ls p (mup (mup I 110 (Int.toNat (wr (6 + (I 98 19)))) x1) 111 (Int.toNat (wr (6 + (I 98 19)))) (I 98 11)) L) (fun v M' =>
        m_Wp i_M_meetLine 103 kc ks [(0, .inr (.inr 98)), (1, .inl x1), (2, .inl x2)] (v ++ []) M' Q)) ∧
     (¬ (¬ x1 = (I 98 11)) →
      m_Call i_M_wrong [.inr (.inr 98), .inl 5] (mem Ls p (mup I 98 10 x2) L) (fun v M' =>
        m_Wp i_M_meetLine 65 kc ks [(0, .inr (.inr 98)), (1, .inl x1), (2, .inl x2)] (v ++ []) M' Q)))) ∧
   (¬ (¬ y0 = (0 : Int)) →
    ((0 : Int) = 0 ∨ (0 : Int) = 1) ∧
    Q [.inl 0] (mem Ls p I L)))) :
    m_Wp i_M_meetLine 42 kc ks [(0, .inr (.inr 98)), (1, .inl x1), (2, .inl x2)] [.inl y0] (mem Ls p I L) Q := by
  skip <;> exact m_wp_of 26 [] h
set_option maxHeartbeats 4000000 in
set_option maxRecDepth 20000 in
theorem T_M_meetLine_103 {Ls p kc ks : Nat}  {I L : Nat → Nat → Int} {x1 x2 y0 : Int} {Q : List mV → mM → Prop}
    (h : ((¬ y0 = (0 : Int) →
    (0 ≤ (wr (6 + (I 98 19))) ∧ (wr (6 + (I 98 19))) < 12) ∧
    ((1 : Int) = 0 ∨ (1 : Int) = 1) ∧
    Q [.inl 1] (mem Ls p (mup (mup I 112 (Int.toNat (wr (6 + (I 98 19)))) (I 98 11)) 98 19 (wr ((I 98 19) + 1))) L)) ∧
   (¬ (¬ y0 = (0 : Int)) →
    ((0 : Int) = 0 ∨ (0 : Int) = 1) ∧
    Q [.inl 0] (mem Ls p I L)))) :
    m_Wp i_M_meetLine 103 kc ks [(0, .inr (.inr 98)), (1, .inl x1), (2, .inl x2)] [.inl y0] (mem Ls p I L) Q := by
  skip <;> exact m_wp_of 18 [] h
set_option maxHeartbeats 4000000 in
set_option maxRecDepth 20000 in
theorem T_M_meetLine_65 {Ls p kc ks : Nat}  {I L : Nat → Nat → Int} {x1 x2 y0 : Int} {Q : List mV → mM → Prop}
    (h : (y0 = 0 ∨ y0 = 1) ∧
  Q [.inl y0] (mem Ls p I L)) :
    m_Wp i_M_meetLine 65 kc ks [(0, .inr (.inr 98)), (1, .inl x1), (2, .inl x2)] [.inl y0] (mem Ls p I L) Q := by
  skip <;> exact m_wp_of 1 [] h
set_option maxHeartbeats 4000000 in
set_option maxRecDepth 20000 in
theorem E_M_coldLine {Ls p : Nat}  {I L : Nat → Nat → Int} {Q : List mV → mM → Prop}
    (h : ((¬ (I 98 20) = (3 : Int) →
    m_Call i_M_token [.inr (.inr 98)] (mem Ls p I L) (fun v M' =>
      m_Wp i_M_coldLine 18 0 0 [(0, .inr (.inr 98))] (v ++ []) M' Q)) ∧
   (¬ (¬ (I 98 20) = (3 : Int)) →
    m_Call i_M_wrong [.inr (.inr 98), .inl 2] (mem Ls p I L) (fun v M' =>
      m_Wp i_M_coldLine 13 0 0 [(0, .inr (.inr 98))] (v ++ []) M' Q)))) :
    m_Call i_M_coldLine [.inr (.inr 98)] (mem Ls p I L) Q := by
  have he : m_ent 0 ([.inr (.inr 98)] : List mV) = [(0, .inr (.inr 98))] := rfl
  skip <;> exact m_call_at 7 [] he h
set_option maxHeartbeats 4000000 in
set_option maxRecDepth 20000 in
theorem T_M_coldLine_18 {Ls p kc ks : Nat}  {I L : Nat → Nat → Int} {Q : List mV → mM → Prop}
    (h : m_Call i_M_number [.inr (.inr 98), .inl 0, .inl 200] (mem Ls p I L) (fun v M' =>
    m_Wp i_M_coldLine 26 kc ks [(0, .inr (.inr 98))] (v ++ []) M' Q)) :
    m_Wp i_M_coldLine 18 kc ks [(0, .inr (.inr 98))] [] (mem Ls p I L) Q := by
  skip <;> exact m_wp_of 4 [] h
set_option maxHeartbeats 4000000 in
set_option maxRecDepth 20000 in
theorem T_M_coldLine_13 {Ls p kc ks : Nat}  {I L : Nat → Nat → Int} {y0 : Int} {Q : List mV → mM → Prop}
    (h : (y0 = 0 ∨ y0 = 1) ∧
  Q [.inl y0] (mem Ls p I L)) :
    m_Wp i_M_coldLine 13 kc ks [(0, .inr (.inr 98))] [.inl y0] (mem Ls p I L) Q := by
  skip <;> exact m_wp_of 1 [] h
set_option maxHeartbeats 4000000 in
set_option maxRecDepth 20000 in
theorem T_M_coldLine_26 {Ls p kc ks : Nat}  {I L : Nat → Nat → Int} {y0 : Int} {Q : List mV → mM → Prop}
    (h : ((¬ y0 = (0 : Int) →
    (0 ≤ (wr (3 + (I 98 20))) ∧ (wr (3 + (I 98 20))) < 6) ∧
    m_Call i_M_number [.inr (.inr 98), .inl (I 98 11), .inl 200] (mem Ls p (mup I 113 (Int.toNat (wr (3 + (I 98 20)))) (I 98 11)) L) (fun v M' =>
      m_Wp i_M_coldLine 56 kc ks [(0, .inr (.inr 98)), (1, .inl (I 98 11))] (v ++ []) M' Q)) ∧
   (¬ (¬ y0 = (0 : Int)) →
    ((0 : Int) = 0 ∨ (0 : Int) = 1) ∧
    Q [.inl 0] (mem Ls p I L)))) :
    m_Wp i_M_coldLine 26 kc ks [(0, .inr (.inr 98))] [.inl y0] (mem Ls p I L) Q := by
  skip <;> exact m_wp_of 16 [] h
set_option maxHeartbeats 4000000 in
set_option maxRecDepth 20000 in
theorem T_M_coldLine_56 {Ls p kc ks : Nat}  {I L : Nat → Nat → Int} {x1 y0 : Int} {Q : List mV → mM → Prop}
    (h : ((¬ y0 = (0 : Int) →
    (0 ≤ (wr (3 + (I 98 20))) ∧ (wr (3 + (I 98 20))) < 6) ∧
    ((1 : Int) = 0 ∨ (1 : Int) = 1) ∧
    Q [.inl 1] (mem Ls p (mup (mup I 114 (Int.toNat (wr (3 + (I 98 20)))) (I 98 11)) 98 20 (wr ((I 98 20) + 1))) L)) ∧
   (¬ (¬ y0 = (0 : Int)) →
    ((0 : Int) = 0 ∨ (0 : Int) = 1) ∧
    Q [.inl 0] (mem Ls p I L)))) :
    m_Wp i_M_coldLine 56 kc ks [(0, .inr (.inr 98)), (1, .inl x1)] [.inl y0] (mem Ls p I L) Q := by
  skip <;> exact m_wp_of 18 [] h
set_option maxHeartbeats 4000000 in
set_option maxRecDepth 20000 in
theorem E_M_onceLine {Ls p : Nat}  {I L : Nat → Nat → Int} {a0 a1 : Int} {Q : List mV → mM → Prop}
    (h : (0 ≤ a0 ∧ a0 < 2) ∧
  (((I 101 (Int.toNat a0)) = (0 : Int) →
    ((0 ≤ a0 ∧ a0 < 2) ∧ ((1 : Int) = 0 ∨ (1 : Int) = 1)) ∧
    m_Call i_M_token [.inr (.inr 98)] (mem Ls p (mup I 101 (Int.toNat a0) 1) L) (fun v M' =>
      m_Wp i_M_onceLine 26 0 0 [(0, .inr (.inr 98)), (1, .inl a0), (2, .inl a1)] (v ++ []) M' Q)) ∧
   (¬ ((I 101 (Int.toNat a0)) = (0 : Int)) →
    m_Call i_M_wrong [.inr (.inr 98), .inl 3] (mem Ls p I L) (fun v M' =>
      m_Wp i_M_onceLine 14 0 0 [(0, .inr (.inr 98)), (1, .inl a0), (2, .inl a1)] (v ++ []) M' Q)))) :
    m_Call i_M_onceLine [.inr (.inr 98), .inl a0, .inl a1] (mem Ls p I L) Q := by
  have he : m_ent 0 ([.inr (.inr 98), .inl a0, .inl a1] : List mV) = [(0, .inr (.inr 98)), (1, .inl a0), (2, .inl a1)] := rfl
  skip <;> exact m_call_at 12 [] he h
set_option maxHeartbeats 4000000 in
set_option maxRecDepth 20000 in
theorem T_M_onceLine_26 {Ls p kc ks : Nat}  {I L : Nat → Nat → Int} {x1 x2 : Int} {Q : List mV → mM → Prop}
    (h : m_Call i_M_number [.inr (.inr 98), .inl 0, .inl x2] (mem Ls p I L) (fun v M' =>
    m_Wp i_M_onceLine 32 kc ks [(0, .inr (.inr 98)), (1, .inl x1), (2, .inl x2)] (v ++ []) M' Q)) :
    m_Wp i_M_onceLine 26 kc ks [(0, .inr (.inr 98)), (1, .inl x1), (2, .inl x2)] [] (mem Ls p I L) Q := by
  skip <;> exact m_wp_of 4 [] h
set_option maxHeartbeats 4000000 in
set_option maxRecDepth 20000 in
theorem T_M_onceLine_14 {Ls p kc ks : Nat}  {I L : Nat → Nat → Int} {x1 x2 y0 : Int} {Q : List mV → mM → Prop}
    (h : (y0 = 0 ∨ y0 = 1) ∧
  Q [.inl y0] (mem Ls p I L)) :
    m_Wp i_M_onceLine 14 kc ks [(0, .inr (.inr 98)), (1, .inl x1), (2, .inl x2)] [.inl y0] (mem Ls p I L) Q := by
  skip <;> exact m_wp_of 1 [] h
set_option maxHeartbeats 4000000 in
set_option maxRecDepth 20000 in
theorem T_M_onceLine_32 {Ls p kc ks : Nat}  {I L : Nat → Nat → Int} {x1 x2 y0 : Int} {Q : List mV → mM → Prop}
    (h : ((¬ y0 = (0 : Int) →
    (0 ≤ (wr (2 + x1)) ∧ (wr (2 + x1)) < 4) ∧
    ((1 : Int) = 0 ∨ (1 : Int) = 1) ∧
    Q [.inl 1] (mem Ls p (mup I 102 (Int.toNat (wr (2 + x1))) (I 98 11)) L)) ∧
   (¬ (¬ y0 = (0 : Int)) →
    ((0 : Int) = 0 ∨ (0 : Int) = 1) ∧
    Q [.inl 0] (mem Ls p I L)))) :
    m_Wp i_M_onceLine 32 kc ks [(0, .inr (.inr 98)), (1, .inl x1), (2, .inl x2)] [.inl y0] (mem Ls p I L) Q := by
  skip <;> exact m_wp_of 11 [] h
set_option maxHeartbeats 4000000 in
set_option maxRecDepth 20000 in
theorem E_M_waitsFor {Ls p : Nat}  {I L : Nat → Nat → Int} {a0 : Int} {Q : List mV → mM → Prop}
    (h : (0 ≤ (I 98 44) ∧ (I 98 44) < 96) ∧
  Q [] (mem Ls p (mup (mup I 121 (Int.toNat (I 98 44)) a0) 98 44 (wr ((I 98 44) + 1))) L)) :
    m_Call i_M_waitsFor [.inr (.inr 98), .inl a0] (mem Ls p I L) Q := by
  have he : m_ent 0 ([.inr (.inr 98), .inl a0] : List mV) = [(0, .inr (.inr 98)), (1, .inl a0)] := rfl
  skip <;> exact m_call_at 13 [] he h
set_option maxHeartbeats 4000000 in
set_option maxRecDepth 20000 in
theorem E_M_isKey {Ls p : Nat}  {I L : Nat → Nat → Int} {a0 : Int} {Q : List mV → mM → Prop}
    (h : ((¬ (I 98 8) = (1 : Int) →
    ((0 : Int) = 0 ∨ (0 : Int) = 1) ∧
    Q [.inl 0] (mem Ls p I L)) ∧
   (¬ (¬ (I 98 8) = (1 : Int)) →
    ((¬ (I 98 9) = a0 →
      ((0 : Int) = 0 ∨ (0 : Int) = 1) ∧
      Q [.inl 0] (mem Ls p I L)) ∧
     (¬ (¬ (I 98 9) = a0) →
      ((1 : Int) = 0 ∨ (1 : Int) = 1) ∧
      Q [.inl 1] (mem Ls p I L)))))) :
    m_Call i_M_isKey [.inr (.inr 98), .inl a0] (mem Ls p I L) Q := by
  have he : m_ent 0 ([.inr (.inr 98), .inl a0] : List mV) = [(0, .inr (.inr 98)), (1, .inl a0)] := rfl
  skip <;> exact m_call_at 12 [] he h
set_option maxHeartbeats 4000000 in
set_option maxRecDepth 20000 in
theorem E_M_isCounted {Ls p : Nat}  {I L : Nat → Nat → Int} {Q : List mV → mM → Prop}
    (h : ((¬ (I 98 47) = (64 : Int) →
    ((1 : Int) = 0 ∨ (1 : Int) = 1) ∧
    Q [.inl 1] (mem Ls p (mup I 98 47 (wr ((I 98 47) + 1))) L)) ∧
   (¬ (¬ (I 98 47) = (64 : Int)) →
    m_Call i_M_wrong [.inr (.inr 98), .inl 2] (mem Ls p I L) (fun v M' =>
      m_Wp i_M_isCounted 14 0 0 [(0, .inr (.inr 98))] (v ++ []) M' Q)))) :
    m_Call i_M_isCounted [.inr (.inr 98)] (mem Ls p I L) Q := by
  have he : m_ent 0 ([.inr (.inr 98)] : List mV) = [(0, .inr (.inr 98))] := rfl
  skip <;> exact m_call_at 12 [] he h
set_option maxHeartbeats 4000000 in
set_option maxRecDepth 20000 in
theorem T_M_isCounted_14 {Ls p kc ks : Nat}  {I L : Nat → Nat → Int} {y0 : Int} {Q : List mV → mM → Prop}
    (h : (y0 = 0 ∨ y0 = 1) ∧
  Q [.inl y0] (mem Ls p I L)) :
    m_Wp i_M_isCounted 14 kc ks [(0, .inr (.inr 98))] [.inl y0] (mem Ls p I L) Q := by
  skip <;> exact m_wp_of 1 [] h
set_option maxHeartbeats 4000000 in
set_option maxRecDepth 20000 in
theorem E_M_nameMet {Ls p : Nat}  {I L : Nat → Nat → Int} {Q : List mV → mM → Prop}
    (h : ((¬ (I 98 8) = (1 : Int) →
    Q [.inl (-1)] (mem Ls p I L)) ∧
   (¬ (¬ (I 98 8) = (1 : Int)) →
    (((I 98 9) < (13 : Int) →
      Q [.inl (-1)] (mem Ls p I L)) ∧
     (¬ ((I 98 9) < (13 : Int)) →
      Q [.inl (wr ((I 98 9) - 13))] (mem Ls p I L)))))) :
    m_Call i_M_nameMet [.inr (.inr 98)] (mem Ls p I L) Q := by
  have he : m_ent 0 ([.inr (.inr 98)] : List mV) = [(0, .inr (.inr 98))] := rfl
  skip <;> exact m_call_at 15 [] he h
set_option maxHeartbeats 4000000 in
set_option maxRecDepth 20000 in
theorem E_M_grown {Ls p : Nat}  {I L : Nat → Nat → Int} {a0 a1 a2 : Int} {Q : List mV → mM → Prop}
    (h : (0 ≤ (wr (64 + (I 98 21))) ∧ (wr (64 + (I 98 21))) < 128) ∧
  (0 ≤ (wr (64 + (I 98 21))) ∧ (wr (64 + (I 98 21))) < 128) ∧
  (0 ≤ (wr (64 + (I 98 21))) ∧ (wr (64 + (I 98 21))) < 128) ∧
  (0 ≤ (I 98 45) ∧ (I 98 45) < 96) ∧
  Q [] (mem Ls p (mup (mup (mup (mup (mup (mup I 118 (Int.toNat (wr (64 + (I 98 21)))) a0) 119 (Int.toNat (wr (64 + (I 98 21)))) a1) 120 (Int.toNat (wr (64 + (I 98 21)))) a2) 122 (Int.toNat (I 98 45)) (I 98 21)) 98 45 (wr ((I 98 45) + 1))) 98 21 (wr ((I 98 21) + 1))) L)) :
    m_Call i_M_grown [.inr (.inr 98), .inl a0, .inl a1, .inl a2] (mem Ls p I L) Q := by
  have he : m_ent 0 ([.inr (.inr 98), .inl a0, .inl a1, .inl a2] : List mV) = [(0, .inr (.inr 98)), (1, .inl a0), (2, .inl a1), (3, .inl a2)] := rfl
  skip <;> exact m_call_at 44 [] he h
set_option maxHeartbeats 4000000 in
set_option maxRecDepth 20000 in
theorem E_M_leafRead {Ls p : Nat}  {I L : Nat → Nat → Int} {Q : List mV → mM → Prop}
    (h : m_Call i_M_isSign [.inr (.inr 98), .inl 40] (mem Ls p I L) (fun v M' =>
    m_Wp i_M_leafRead 6 0 0 [(0, .inr (.inr 98))] (v ++ []) M' Q)) :
    m_Call i_M_leafRead [.inr (.inr 98)] (mem Ls p I L) Q := by
  have he : m_ent 0 ([.inr (.inr 98)] : List mV) = [(0, .inr (.inr 98))] := rfl
  skip <;> exact m_call_at 3 [] he h
set_option maxHeartbeats 4000000 in
set_option maxRecDepth 20000 in
theorem T_M_leafRead_6 {Ls p kc ks : Nat}  {I L : Nat → Nat → Int} {y0 : Int} {Q : List mV → mM → Prop}
    (h : ((y0 = (0 : Int) →
    m_Call i_M_isKey [.inr (.inr 98), .inl 12] (mem Ls p I L) (fun v M' =>
      m_Wp i_M_leafRead 56 kc ks [(0, .inr (.inr 98))] (v ++ []) M' Q)) ∧
   (¬ (y0 = (0 : Int)) →
    ((¬ (I 98 46) = (8 : Int) →
      m_Call i_M_waitsFor [.inr (.inr 98), .inl 0] (mem Ls p (mup I 98 46 (wr ((I 98 46) + 1))) L) (fun v M' =>
        m_Wp i_M_leafRead 39 kc ks [(0, .inr (.inr 98))] (v ++ []) M' Q)) ∧
     (¬ (¬ (I 98 46) = (8 : Int)) →
      m_Call i_M_wrong [.inr (.inr 98), .inl 2] (mem Ls p I L) (fun v M' =>
        m_Wp i_M_leafRead 23 kc ks [(0, .inr (.inr 98))] (v ++ []) M' Q)))))) :
    m_Wp i_M_leafRead 6 kc ks [(0, .inr (.inr 98))] [.inl y0] (mem Ls p I L) Q := by
  skip <;> exact m_wp_of 14 [] h
set_option maxHeartbeats 4000000 in
set_option maxRecDepth 20000 in
theorem T_M_leafRead_56 {Ls p kc ks : Nat}  {I L : Nat → Nat → Int} {y0 : Int} {Q : List mV → mM → Prop}
    (h : ((y0 = (0 : Int) →
    m_Call i_M_nameMet [.inr (.inr 98)] (mem Ls p I L) (fun v M' =>
      m_Wp i_M_leafRead 90 kc ks [(0, .inr (.inr 98))] (v ++ []) M' Q)) ∧
   (¬ (y0 = (0 : Int)) →
    (((I 98 49) = (0 : Int) →
      m_Call i_M_nameMet [.inr (.inr 98)] (mem Ls p I L) (fun v M' =>
        m_Wp i_M_leafRead 90 kc ks [(0, .inr (.inr 98))] (v ++ []) M' Q)) ∧
     (¬ ((I 98 49) = (0 : Int)) →
      m_Call i_M_isCounted [.inr (.inr 98)] (mem Ls p I L) (fun v M' =>
        m_Wp i_M_leafRead 70 kc ks [(0, .inr (.inr 98))] (v ++ []) M' Q)))))) :
    m_Wp i_M_leafRead 56 kc ks [(0, .inr (.inr 98))] [.inl y0] (mem Ls p I L) Q := by
  skip <;> exact m_wp_of 7 [] h
set_option maxHeartbeats 4000000 in
set_option maxRecDepth 20000 in
theorem T_M_leafRead_39 {Ls p kc ks : Nat}  {I L : Nat → Nat → Int} {Q : List mV → mM → Prop}
    (h : ((1 : Int) = (0 : Int) ∨ (1 : Int) = (1 : Int)) ∧
  m_Call i_M_token [.inr (.inr 98)] (mem Ls p (mup I 98 49 1) L) (fun v M' =>
    m_Wp i_M_leafRead 48 kc ks [(0, .inr (.inr 98))] (v ++ []) M' Q)) :
    m_Wp i_M_leafRead 39 kc ks [(0, .inr (.inr 98))] [] (mem Ls p I L) Q := by
  skip <;> exact m_wp_of 5 [] h
set_option maxHeartbeats 4000000 in
set_option maxRecDepth 20000 in
theorem T_M_leafRead_23 {Ls p kc ks : Nat}  {I L : Nat → Nat → Int} {y0 : Int} {Q : List mV → mM → Prop}
    (h : (y0 = 0 ∨ y0 = 1) ∧
  Q [.inl y0] (mem Ls p I L)) :
    m_Wp i_M_leafRead 23 kc ks [(0, .inr (.inr 98))] [.inl y0] (mem Ls p I L) Q := by
  skip <;> exact m_wp_of 1 [] h
set_option maxHeartbeats 4000000 in
set_option maxRecDepth 20000 in
theorem T_M_leafRead_90 {Ls p kc ks : Nat}  {I L : Nat → Nat → Int} {y0 : Int} {Q : List mV → mM → Prop}
    (h : (((0 : Int) ≤ y0 →
    (((0 : Int) ≤ y0 →
      m_Call i_M_isCounted [.inr (.inr 98)] (mem Ls p I L) (fun v M' =>
        m_Wp i_M_leafRead 133 kc ks [(0, .inr (.inr 98)), (1, .inl y0)] (v ++ []) M' Q)) ∧
     (¬ ((0 : Int) ≤ y0) →
      (((I 98 9) ≤ (9999 : Int) →
        m_Call i_M_isCounted [.inr (.inr 98)] (mem Ls p I L) (fun v M' =>
          m_Wp i_M_leafRead 133 kc ks [(0, .inr (.inr 98)), (1, .inl y0)] (v ++ []) M' Q)) ∧
       (¬ ((I 98 9) ≤ (9999 : Int)) →
        m_Call i_M_wrong [.inr (.inr 98), .inl 2] (mem Ls p I L) (fun v M' =>
          m_Wp i_M_leafRead 128 kc ks [(0, .inr (.inr 98)), (1, .inl y0)] (v ++ []) M' Q)))))) ∧
   (¬ ((0 : Int) ≤ y0) →
    (((I 98 8) = (3 : Int) →
      (((0 : Int) ≤ y0 →
        m_Call i_M_isCounted [.inr (.inr 98)] (mem Ls p I L) (fun v M' =>
          m_Wp i_M_leafRead 133 kc ks [(0, .inr (.inr 98)), (1, .inl y0)] (v ++ []) M' Q)) ∧
       (¬ ((0 : Int) ≤ y0) →
        (((I 98 9) ≤ (9999 : Int) →
          m_Call i_M_isCounted [.inr (.inr 98)] (mem Ls p I L) (fun v M' =>
            m_Wp i_M_leafRead 133 kc ks [(0, .inr (.inr 98)), (1, .inl y0)] (v ++ []) M' Q)) ∧
         (¬ ((I 98 9) ≤ (9999 : Int)) →
          m_Call i_M_wrong [.inr (.inr 98), .inl 2] (mem Ls p I L) (fun v M' =>
            m_Wp i_M_leafRead 128 kc ks [(0, .inr (.inr 98)), (1, .inl y0)] (v ++ []) M' Q)))))) ∧
     (¬ ((I 98 8) = (3 : Int)) →
      m_Call i_M_wrong [.inr (.inr 98), .inl 1] (mem Ls p I L) (fun v M' =>
        m_Wp i_M_leafRead 108 kc ks [(0, .inr (.inr 98)), (1, .inl y0)] (v ++ []) M' Q)))))) :
    m_Wp i_M_leafRead 90 kc ks [(0, .inr (.inr 98))] [.inl y0] (mem Ls p I L) Q := by
  skip <;> exact m_wp_of 17 [] h
set_option maxHeartbeats 4000000 in
set_option maxRecDepth 20000 in
theorem T_M_leafRead_70 {Ls p kc ks : Nat}  {I L : Nat → Nat → Int} {y0 : Int} {Q : List mV → mM → Prop}
    (h : ((¬ y0 = (0 : Int) →
    m_Call i_M_waitsFor [.inr (.inr 98), .inl 2] (mem Ls p I L) (fun v M' =>
      m_Wp i_M_leafRead 80 kc ks [(0, .inr (.inr 98))] (v ++ []) M' Q)) ∧
   (¬ (¬ y0 = (0 : Int)) →
    ((0 : Int) = 0 ∨ (0 : Int) = 1) ∧
    Q [.inl 0] (mem Ls p I L)))) :
    m_Wp i_M_leafRead 70 kc ks [(0, .inr (.inr 98))] [.inl y0] (mem Ls p I L) Q := by
  skip <;> exact m_wp_of 4 [] h
set_option maxHeartbeats 4000000 in
set_option maxRecDepth 20000 in
theorem T_M_leafRead_48 {Ls p kc ks : Nat}  {I L : Nat → Nat → Int} {Q : List mV → mM → Prop}
    (h : ((1 : Int) = 0 ∨ (1 : Int) = 1) ∧
  Q [.inl 1] (mem Ls p I L)) :
    m_Wp i_M_leafRead 48 kc ks [(0, .inr (.inr 98))] [] (mem Ls p I L) Q := by
  skip <;> exact m_wp_of 2 [] h
set_option maxHeartbeats 4000000 in
set_option maxRecDepth 20000 in
theorem T_M_leafRead_133 {Ls p kc ks : Nat}  {I L : Nat → Nat → Int} {x1 y0 : Int} {Q : List mV → mM → Prop}
    (h : ((¬ y0 = (0 : Int) →
    ((x1 < (0 : Int) →
      ((x1 < (0 : Int) →
        m_Call i_M_grown [.inr (.inr 98), .inl 0, .inl (I 98 9), .inl 0] (mem Ls p I L) (fun v M' =>
          m_Wp i_M_leafRead 164 kc ks [(0, .inr (.inr 98))] (v ++ []) M' Q)) ∧
       (¬ (x1 < (0 : Int)) →
        m_Call i_M_grown [.inr (.inr 98), .inl 0, .inl x1, .inl 0] (mem Ls p I L) (fun v M' =>
          m_Wp i_M_leafRead 164 kc ks [(0, .inr (.inr 98))] (v ++ []) M' Q)))) ∧
     (¬ (x1 < (0 : Int)) →
      ((x1 < (0 : Int) →
        m_Call i_M_grown [.inr (.inr 98), .inl 1, .inl (I 98 9), .inl 0] (mem Ls p I L) (fun v M' =>
          m_Wp i_M_leafRead 164 kc ks [(0, .inr (.inr 98))] (v ++ []) M' Q)) ∧
       (¬ (x1 < (0 : Int)) →
        m_Call i_M_grown [.inr (.inr 98), .inl 1, .inl x1, .inl 0] (mem Ls p I L) (fun v M' =>
          m_Wp i_M_leafRead 164 kc ks [(0, .inr (.inr 98))] (v ++ []) M' Q)))))) ∧
   (¬ (¬ y0 = (0 : Int)) →
    ((0 : Int) = 0 ∨ (0 : Int) = 1) ∧
    Q [.inl 0] (mem Ls p I L)))) :
    m_Wp i_M_leafRead 133 kc ks [(0, .inr (.inr 98)), (1, .inl x1)] [.inl y0] (mem Ls p I L) Q := by
  skip <;> exact m_wp_of 14 [] h
set_option maxHeartbeats 4000000 in
set_option maxRecDepth 20000 in
theorem T_M_leafRead_128 {Ls p kc ks : Nat}  {I L : Nat → Nat → Int} {x1 y0 : Int} {Q : List mV → mM → Prop}
    (h : (y0 = 0 ∨ y0 = 1) ∧
  Q [.inl y0] (mem Ls p I L)) :
    m_Wp i_M_leafRead 128 kc ks [(0, .inr (.inr 98)), (1, .inl x1)] [.inl y0] (mem Ls p I L) Q := by
  skip <;> exact m_wp_of 1 [] h
set_option maxHeartbeats 4000000 in
set_option maxRecDepth 20000 in
theorem T_M_leafRead_108 {Ls p kc ks : Nat}  {I L : Nat → Nat → Int} {x1 y0 : Int} {Q : List mV → mM → Prop}
    (h : (y0 = 0 ∨ y0 = 1) ∧
  Q [.inl y0] (mem Ls p I L)) :
    m_Wp i_M_leafRead 108 kc ks [(0, .inr (.inr 98)), (1, .inl x1)] [.inl y0] (mem Ls p I L) Q := by
  skip <;> exact m_wp_of 1 [] h
set_option maxHeartbeats 4000000 in
set_option maxRecDepth 20000 in
theorem T_M_leafRead_80 {Ls p kc ks : Nat}  {I L : Nat → Nat → Int} {Q : List mV → mM → Prop}
    (h : m_Call i_M_token [.inr (.inr 98)] (mem Ls p I L) (fun v M' =>
    m_Wp i_M_leafRead 84 kc ks [(0, .inr (.inr 98))] (v ++ []) M' Q)) :
    m_Wp i_M_leafRead 80 kc ks [(0, .inr (.inr 98))] [] (mem Ls p I L) Q := by
  skip <;> exact m_wp_of 2 [] h
