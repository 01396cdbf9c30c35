/-! ===== one run, one end; the bits of a number, counted by the class ===== -/
theorem m_Call_det {m : Nat} {as : List mV} {M : mM} {Q Q' : List mV → mM → Prop} (h : m_Call m as M Q) (h' : m_Call m as M Q') : ∃ v M', Q v M' ∧ Q' v M' := by
  obtain ⟨n, q, e, k⟩ := h
  obtain ⟨n', q', e', k'⟩ := h'
  have hq := m_det e e'
  subst hq
  exact ⟨q.1, q.2, k, k'⟩
def bc1 (i : Int) : Int := wr (i - m_and (m_ushr i 1) 1431655765)
def bc2 (i : Int) : Int := wr (m_and i 858993459 + m_and (m_ushr i 2) 858993459)
def bc3 (i : Int) : Int := m_and (wr (i + m_ushr i 4)) 252645135
def bc4 (i : Int) : Int := wr (i + m_ushr i 8)
def bc5 (i : Int) : Int := wr (i + m_ushr i 16)
def bcE (i : Int) : Int := m_and (bc5 (bc4 (bc3 (bc2 (bc1 i))))) 63
theorem E_J_bitCount {Ls p : Nat} {I L : Nat → Nat → Int} {a0 : Int} {Q : List mV → mM → Prop} (h : Q [.inl (bcE a0)] (mem Ls p I L)) : m_Call i_J_bitCount [.inl a0] (mem Ls p I L) Q := by
  have he : m_ent 0 ([.inl a0] : List mV) = [(0, .inl a0)] := rfl
  exact m_call_at 60 [] he h
