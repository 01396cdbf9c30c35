/-! ===== the reader's own plan ===== -/
set_option maxHeartbeats 4000000 in
set_option maxRecDepth 20000 in
theorem E_Plan_clear_o {Ls p o : Nat} (hp : (p = 68 ∧ o = 9) ∨ (p = 9 ∧ o = 68)) {I L : Nat → Nat → Int} {Q : List mV → mM → Prop}
    (h : m_Call i_Laws_clear [.inr (.inr (o + 13))] (mem Ls p (mup (mup (mup (mup (mup (mup I o 13 0) o 14 0) o 15 0) o 16 0) o 17 0) o 18 0) L) (fun v M' =>
    m_Wp i_Plan_clear 37 0 0 [(0, .inr (.inr o))] (v ++ []) M' Q)) :
    m_Call i_Plan_clear [.inr (.inr o)] (mem Ls p I L) Q := by
  have he : m_ent 0 ([.inr (.inr o)] : List mV) = [(0, .inr (.inr o))] := rfl
  rcases hp with ⟨rfl, rfl⟩ | ⟨rfl, rfl⟩ <;> exact m_call_at 21 [] he h
set_option maxHeartbeats 4000000 in
set_option maxRecDepth 20000 in
theorem T_Plan_clear_37_o {Ls p o kc ks : Nat} (hp : (p = 68 ∧ o = 9) ∨ (p = 9 ∧ o = 68)) {I L : Nat → Nat → Int} {Q : List mV → mM → Prop}
    (h : Q [] (mem Ls p I L)) :
    m_Wp i_Plan_clear 37 kc ks [(0, .inr (.inr o))] [] (mem Ls p I L) Q := by
  rcases hp with ⟨rfl, rfl⟩ | ⟨rfl, rfl⟩ <;> exact m_wp_of 1 [] h
set_option maxHeartbeats 4000000 in
set_option maxRecDepth 20000 in
theorem E_Plan_numberOf_o {Ls p o : Nat} (hp : (p = 68 ∧ o = 9) ∨ (p = 9 ∧ o = 68)) {I L : Nat → Nat → Int} {a0 : Int} {Q : List mV → mM → Prop}
    (h : m_Wp i_Plan_numberOf 2 0 0 [(0, .inr (.inr o)), (1, .inl a0), (2, .inl 0)] [] (mem Ls p I L) Q) :
    m_Call i_Plan_numberOf [.inr (.inr o), .inl a0] (mem Ls p I L) Q := by
  have he : m_ent 0 ([.inr (.inr o), .inl a0] : List mV) = [(0, .inr (.inr o)), (1, .inl a0)] := rfl
  rcases hp with ⟨rfl, rfl⟩ | ⟨rfl, rfl⟩ <;> exact m_call_at 3 [2] he h
set_option maxHeartbeats 4000000 in
set_option maxRecDepth 20000 in
theorem T_Plan_numberOf_2_o {Ls p o kc ks : Nat} (hp : (p = 68 ∧ o = 9) ∨ (p = 9 ∧ o = 68)) {I L : Nat → Nat → Int} {x1 x2 : Int} {Q : List mV → mM → Prop}
    (h : (((I o 13) ≤ x2 →
    Q [.inl (-1)] (mem Ls p I L)) ∧
   (¬ ((I o 13) ≤ x2) →
    (0 ≤ x2 ∧ x2 < 6) ∧
    ((¬ (I (o + 1) (Int.toNat x2)) = x1 →
      m_Wp i_Plan_numberOf 2 kc ks [(0, .inr (.inr o)), (1, .inl x1), (2, .inl (wr (x2 + 1)))] [] (mem Ls p I L) Q) ∧
     (¬ (¬ (I (o + 1) (Int.toNat x2)) = x1) →
      Q [.inl x2] (mem Ls p I L)))))) :
    m_Wp i_Plan_numberOf 2 kc ks [(0, .inr (.inr o)), (1, .inl x1), (2, .inl x2)] [] (mem Ls p I L) Q := by
  rcases hp with ⟨rfl, rfl⟩ | ⟨rfl, rfl⟩ <;> exact m_wp_of 14 [2] h
