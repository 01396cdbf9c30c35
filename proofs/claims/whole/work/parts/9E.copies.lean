/-! ===== phase 2: a TEXT kept: the upper halves copied down ===== -/
/-- the rows 102 .. m - 1 copied down, and k places of row m -/
def cpp (Y : Nat → Nat → Int) (m k : Nat) : Nat → Nat → Int := fun a => if 102 ≤ a ∧ a < m then (fun j => if j < half a then Y a (half a + j) else Y a j) else if a = m then (fun j => if j < k then Y a (half a + j) else Y a j) else Y a
theorem cpp_next {Y : Nat → Nat → Int} {m k : Nat} (hm : 102 ≤ m) (hk : half m = k) : cpp Y m k = cpp Y (m + 1) 0 := by
  subst hk
  funext a; unfold cpp
  by_cases h1 : 102 ≤ a ∧ a < m
  · rw [if_pos h1, if_pos (by omega)]
  · rw [if_neg h1]
    by_cases h2 : a = m
    · rw [if_pos h2, if_pos (by omega), h2]
    · rw [if_neg h2, if_neg (by omega)]
      by_cases h3 : a = m + 1
      · rw [if_pos h3]; funext j; rw [if_neg (by omega)]
      · rw [if_neg h3]
theorem cpp_at {Y : Nat → Nat → Int} {m k j : Nat} (hj : k ≤ j) : cpp Y m k m j = Y m j := by
  unfold cpp; rw [if_neg (by omega), if_pos rfl, if_neg (by omega)]
theorem cpp_step {Y : Nat → Nat → Int} {m k h : Nat} (hk : half m = h) : mup (cpp Y m k) m k (cpp Y m k m (h + k)) = cpp Y m (k + 1) := by
  rw [cpp_at (by omega)]
  funext a j; rw [mup_app]
  unfold cpp
  by_cases h1 : 102 ≤ a ∧ a < m
  · rw [if_neg (by omega), if_pos h1, if_pos h1]
  · rw [if_neg h1, if_neg h1]
    by_cases h2 : a = m
    · subst h2
      simp only [if_true, true_and]
      by_cases h3 : j = k
      · rw [if_pos h3, if_pos (by omega), h3, hk]
      · rw [if_neg h3]
        by_cases h4 : j < k
        · rw [if_pos h4, if_pos (by omega)]
        · rw [if_neg h4, if_neg (by omega)]
    · rw [if_neg (by omega), if_neg h2, if_neg h2]
theorem cpp_0 {Y : Nat → Nat → Int} : cpp Y 102 0 = Y := by
  funext a; unfold cpp
  rw [if_neg (by omega)]
  split
  · funext j; rw [if_neg (by omega)]
  · rfl
section K19
variable {Ls p kc ks : Nat} {L Y : Nat → Nat → Int} {Q : List mV → mM → Prop}
theorem cl_102 (hQ : Q [] (mem Ls p (cpp Y 103 0) L)) : ∀ t k : Nat, k + t = 2 → m_Wp i_M_copies 2 kc ks [(0, .inr (.inr 102)), (1, .inl 2), (2, .inl (k : Int))] [] (mem Ls p (cpp Y 102 k) L) Q := by
  intro t
  induction t with
  | zero => intro k hk; rw [cpp_next (m := 102) (by omega) (show half 102 = k by rw [show k = 2 by omega]; rfl)]; exact T_M_copies_2_r102 ⟨fun _ => hQ, fun z => by omega⟩
  | succ t ih =>
    intro k hk
    refine T_M_copies_2_r102 ?_
    rw [show wr (2 + (k : Int)) = ((2 + k : Nat) : Int) by rw [wr_of] <;> omega, show wr ((k : Int) + 1) = ((k + 1 : Nat) : Int) by rw [wr_of] <;> omega, Int.toNat_natCast, Int.toNat_natCast, cpp_step (show half 102 = 2 from rfl)]
    exact ⟨fun z => by omega, fun _ => ⟨by omega, by omega, ih (k + 1) (by omega)⟩⟩
theorem cp_102 (hQ : Q [] (mem Ls p (cpp Y 103 0) L)) : m_Call i_M_copies [.inr (.inr 102), .inl 2] (mem Ls p (cpp Y 102 0) L) Q := E_M_copies_r102 (cl_102 hQ 2 0 (by omega))
theorem cl_103 (hQ : Q [] (mem Ls p (cpp Y 104 0) L)) : ∀ t k : Nat, k + t = 6 → m_Wp i_M_copies 2 kc ks [(0, .inr (.inr 103)), (1, .inl 6), (2, .inl (k : Int))] [] (mem Ls p (cpp Y 103 k) L) Q := by
  intro t
  induction t with
  | zero => intro k hk; rw [cpp_next (m := 103) (by omega) (show half 103 = k by rw [show k = 6 by omega]; rfl)]; exact T_M_copies_2_r103 ⟨fun _ => hQ, fun z => by omega⟩
  | succ t ih =>
    intro k hk
    refine T_M_copies_2_r103 ?_
    rw [show wr (6 + (k : Int)) = ((6 + k : Nat) : Int) by rw [wr_of] <;> omega, show wr ((k : Int) + 1) = ((k + 1 : Nat) : Int) by rw [wr_of] <;> omega, Int.toNat_natCast, Int.toNat_natCast, cpp_step (show half 103 = 6 from rfl)]
    exact ⟨fun z => by omega, fun _ => ⟨by omega, by omega, ih (k + 1) (by omega)⟩⟩
theorem cp_103 (hQ : Q [] (mem Ls p (cpp Y 104 0) L)) : m_Call i_M_copies [.inr (.inr 103), .inl 6] (mem Ls p (cpp Y 103 0) L) Q := E_M_copies_r103 (cl_103 hQ 6 0 (by omega))
theorem cl_104 (hQ : Q [] (mem Ls p (cpp Y 105 0) L)) : ∀ t k : Nat, k + t = 6 → m_Wp i_M_copies 2 kc ks [(0, .inr (.inr 104)), (1, .inl 6), (2, .inl (k : Int))] [] (mem Ls p (cpp Y 104 k) L) Q := by
  intro t
  induction t with
  | zero => intro k hk; rw [cpp_next (m := 104) (by omega) (show half 104 = k by rw [show k = 6 by omega]; rfl)]; exact T_M_copies_2_r104 ⟨fun _ => hQ, fun z => by omega⟩
  | succ t ih =>
    intro k hk
    refine T_M_copies_2_r104 ?_
    rw [show wr (6 + (k : Int)) = ((6 + k : Nat) : Int) by rw [wr_of] <;> omega, show wr ((k : Int) + 1) = ((k + 1 : Nat) : Int) by rw [wr_of] <;> omega, Int.toNat_natCast, Int.toNat_natCast, cpp_step (show half 104 = 6 from rfl)]
    exact ⟨fun z => by omega, fun _ => ⟨by omega, by omega, ih (k + 1) (by omega)⟩⟩
theorem cp_104 (hQ : Q [] (mem Ls p (cpp Y 105 0) L)) : m_Call i_M_copies [.inr (.inr 104), .inl 6] (mem Ls p (cpp Y 104 0) L) Q := E_M_copies_r104 (cl_104 hQ 6 0 (by omega))
theorem cl_105 (hQ : Q [] (mem Ls p (cpp Y 106 0) L)) : ∀ t k : Nat, k + t = 6 → m_Wp i_M_copies 2 kc ks [(0, .inr (.inr 105)), (1, .inl 6), (2, .inl (k : Int))] [] (mem Ls p (cpp Y 105 k) L) Q := by
  intro t
  induction t with
  | zero => intro k hk; rw [cpp_next (m := 105) (by omega) (show half 105 = k by rw [show k = 6 by omega]; rfl)]; exact T_M_copies_2_r105 ⟨fun _ => hQ, fun z => by omega⟩
  | succ t ih =>
    intro k hk
    refine T_M_copies_2_r105 ?_
    rw [show wr (6 + (k : Int)) = ((6 + k : Nat) : Int) by rw [wr_of] <;> omega, show wr ((k : Int) + 1) = ((k + 1 : Nat) : Int) by rw [wr_of] <;> omega, Int.toNat_natCast, Int.toNat_natCast, cpp_step (show half 105 = 6 from rfl)]
    exact ⟨fun z => by omega, fun _ => ⟨by omega, by omega, ih (k + 1) (by omega)⟩⟩
theorem cp_105 (hQ : Q [] (mem Ls p (cpp Y 106 0) L)) : m_Call i_M_copies [.inr (.inr 105), .inl 6] (mem Ls p (cpp Y 105 0) L) Q := E_M_copies_r105 (cl_105 hQ 6 0 (by omega))
theorem cl_106 (hQ : Q [] (mem Ls p (cpp Y 107 0) L)) : ∀ t k : Nat, k + t = 6 → m_Wp i_M_copies 2 kc ks [(0, .inr (.inr 106)), (1, .inl 6), (2, .inl (k : Int))] [] (mem Ls p (cpp Y 106 k) L) Q := by
  intro t
  induction t with
  | zero => intro k hk; rw [cpp_next (m := 106) (by omega) (show half 106 = k by rw [show k = 6 by omega]; rfl)]; exact T_M_copies_2_r106 ⟨fun _ => hQ, fun z => by omega⟩
  | succ t ih =>
    intro k hk
    refine T_M_copies_2_r106 ?_
    rw [show wr (6 + (k : Int)) = ((6 + k : Nat) : Int) by rw [wr_of] <;> omega, show wr ((k : Int) + 1) = ((k + 1 : Nat) : Int) by rw [wr_of] <;> omega, Int.toNat_natCast, Int.toNat_natCast, cpp_step (show half 106 = 6 from rfl)]
    exact ⟨fun z => by omega, fun _ => ⟨by omega, by omega, ih (k + 1) (by omega)⟩⟩
theorem cp_106 (hQ : Q [] (mem Ls p (cpp Y 107 0) L)) : m_Call i_M_copies [.inr (.inr 106), .inl 6] (mem Ls p (cpp Y 106 0) L) Q := E_M_copies_r106 (cl_106 hQ 6 0 (by omega))
theorem cl_107 (hQ : Q [] (mem Ls p (cpp Y 108 0) L)) : ∀ t k : Nat, k + t = 6 → m_Wp i_M_copies 2 kc ks [(0, .inr (.inr 107)), (1, .inl 6), (2, .inl (k : Int))] [] (mem Ls p (cpp Y 107 k) L) Q := by
  intro t
  induction t with
  | zero => intro k hk; rw [cpp_next (m := 107) (by omega) (show half 107 = k by rw [show k = 6 by omega]; rfl)]; exact T_M_copies_2_r107 ⟨fun _ => hQ, fun z => by omega⟩
  | succ t ih =>
    intro k hk
    refine T_M_copies_2_r107 ?_
    rw [show wr (6 + (k : Int)) = ((6 + k : Nat) : Int) by rw [wr_of] <;> omega, show wr ((k : Int) + 1) = ((k + 1 : Nat) : Int) by rw [wr_of] <;> omega, Int.toNat_natCast, Int.toNat_natCast, cpp_step (show half 107 = 6 from rfl)]
    exact ⟨fun z => by omega, fun _ => ⟨by omega, by omega, ih (k + 1) (by omega)⟩⟩
theorem cp_107 (hQ : Q [] (mem Ls p (cpp Y 108 0) L)) : m_Call i_M_copies [.inr (.inr 107), .inl 6] (mem Ls p (cpp Y 107 0) L) Q := E_M_copies_r107 (cl_107 hQ 6 0 (by omega))
theorem cl_108 (hQ : Q [] (mem Ls p (cpp Y 109 0) L)) : ∀ t k : Nat, k + t = 10 → m_Wp i_M_copies 2 kc ks [(0, .inr (.inr 108)), (1, .inl 10), (2, .inl (k : Int))] [] (mem Ls p (cpp Y 108 k) L) Q := by
  intro t
  induction t with
  | zero => intro k hk; rw [cpp_next (m := 108) (by omega) (show half 108 = k by rw [show k = 10 by omega]; rfl)]; exact T_M_copies_2_r108 ⟨fun _ => hQ, fun z => by omega⟩
  | succ t ih =>
    intro k hk
    refine T_M_copies_2_r108 ?_
    rw [show wr (10 + (k : Int)) = ((10 + k : Nat) : Int) by rw [wr_of] <;> omega, show wr ((k : Int) + 1) = ((k + 1 : Nat) : Int) by rw [wr_of] <;> omega, Int.toNat_natCast, Int.toNat_natCast, cpp_step (show half 108 = 10 from rfl)]
    exact ⟨fun z => by omega, fun _ => ⟨by omega, by omega, ih (k + 1) (by omega)⟩⟩
theorem cp_108 (hQ : Q [] (mem Ls p (cpp Y 109 0) L)) : m_Call i_M_copies [.inr (.inr 108), .inl 10] (mem Ls p (cpp Y 108 0) L) Q := E_M_copies_r108 (cl_108 hQ 10 0 (by omega))
theorem cl_109 (hQ : Q [] (mem Ls p (cpp Y 110 0) L)) : ∀ t k : Nat, k + t = 10 → m_Wp i_M_copies 2 kc ks [(0, .inr (.inr 109)), (1, .inl 10), (2, .inl (k : Int))] [] (mem Ls p (cpp Y 109 k) L) Q := by
  intro t
  induction t with
  | zero => intro k hk; rw [cpp_next (m := 109) (by omega) (show half 109 = k by rw [show k = 10 by omega]; rfl)]; exact T_M_copies_2_r109 ⟨fun _ => hQ, fun z => by omega⟩
  | succ t ih =>
    intro k hk
    refine T_M_copies_2_r109 ?_
    rw [show wr (10 + (k : Int)) = ((10 + k : Nat) : Int) by rw [wr_of] <;> omega, show wr ((k : Int) + 1) = ((k + 1 : Nat) : Int) by rw [wr_of] <;> omega, Int.toNat_natCast, Int.toNat_natCast, cpp_step (show half 109 = 10 from rfl)]
    exact ⟨fun z => by omega, fun _ => ⟨by omega, by omega, ih (k + 1) (by omega)⟩⟩
theorem cp_109 (hQ : Q [] (mem Ls p (cpp Y 110 0) L)) : m_Call i_M_copies [.inr (.inr 109), .inl 10] (mem Ls p (cpp Y 109 0) L) Q := E_M_copies_r109 (cl_109 hQ 10 0 (by omega))
theorem cl_110 (hQ : Q [] (mem Ls p (cpp Y 111 0) L)) : ∀ t k : Nat, k + t = 6 → m_Wp i_M_copies 2 kc ks [(0, .inr (.inr 110)), (1, .inl 6), (2, .inl (k : Int))] [] (mem Ls p (cpp Y 110 k) L) Q := by
  intro t
  induction t with
  | zero => intro k hk; rw [cpp_next (m := 110) (by omega) (show half 110 = k by rw [show k = 6 by omega]; rfl)]; exact T_M_copies_2_r110 ⟨fun _ => hQ, fun z => by omega⟩
  | succ t ih =>
    intro k hk
    refine T_M_copies_2_r110 ?_
    rw [show wr (6 + (k : Int)) = ((6 + k : Nat) : Int) by rw [wr_of] <;> omega, show wr ((k : Int) + 1) = ((k + 1 : Nat) : Int) by rw [wr_of] <;> omega, Int.toNat_natCast, Int.toNat_natCast, cpp_step (show half 110 = 6 from rfl)]
    exact ⟨fun z => by omega, fun _ => ⟨by omega, by omega, ih (k + 1) (by omega)⟩⟩
theorem cp_110 (hQ : Q [] (mem Ls p (cpp Y 111 0) L)) : m_Call i_M_copies [.inr (.inr 110), .inl 6] (mem Ls p (cpp Y 110 0) L) Q := E_M_copies_r110 (cl_110 hQ 6 0 (by omega))
theorem cl_111 (hQ : Q [] (mem Ls p (cpp Y 112 0) L)) : ∀ t k : Nat, k + t = 6 → m_Wp i_M_copies 2 kc ks [(0, .inr (.inr 111)), (1, .inl 6), (2, .inl (k : Int))] [] (mem Ls p (cpp Y 111 k) L) Q := by
  intro t
  induction t with
  | zero => intro k hk; rw [cpp_next (m := 111) (by omega) (show half 111 = k by rw [show k = 6 by omega]; rfl)]; exact T_M_copies_2_r111 ⟨fun _ => hQ, fun z => by omega⟩
  | succ t ih =>
    intro k hk
    refine T_M_copies_2_r111 ?_
    rw [show wr (6 + (k : Int)) = ((6 + k : Nat) : Int) by rw [wr_of] <;> omega, show wr ((k : Int) + 1) = ((k + 1 : Nat) : Int) by rw [wr_of] <;> omega, Int.toNat_natCast, Int.toNat_natCast, cpp_step (show half 111 = 6 from rfl)]
    exact ⟨fun z => by omega, fun _ => ⟨by omega, by omega, ih (k + 1) (by omega)⟩⟩
theorem cp_111 (hQ : Q [] (mem Ls p (cpp Y 112 0) L)) : m_Call i_M_copies [.inr (.inr 111), .inl 6] (mem Ls p (cpp Y 111 0) L) Q := E_M_copies_r111 (cl_111 hQ 6 0 (by omega))
theorem cl_112 (hQ : Q [] (mem Ls p (cpp Y 113 0) L)) : ∀ t k : Nat, k + t = 6 → m_Wp i_M_copies 2 kc ks [(0, .inr (.inr 112)), (1, .inl 6), (2, .inl (k : Int))] [] (mem Ls p (cpp Y 112 k) L) Q := by
  intro t
  induction t with
  | zero => intro k hk; rw [cpp_next (m := 112) (by omega) (show half 112 = k by rw [show k = 6 by omega]; rfl)]; exact T_M_copies_2_r112 ⟨fun _ => hQ, fun z => by omega⟩
  | succ t ih =>
    intro k hk
    refine T_M_copies_2_r112 ?_
    rw [show wr (6 + (k : Int)) = ((6 + k : Nat) : Int) by rw [wr_of] <;> omega, show wr ((k : Int) + 1) = ((k + 1 : Nat) : Int) by rw [wr_of] <;> omega, Int.toNat_natCast, Int.toNat_natCast, cpp_step (show half 112 = 6 from rfl)]
    exact ⟨fun z => by omega, fun _ => ⟨by omega, by omega, ih (k + 1) (by omega)⟩⟩
theorem cp_112 (hQ : Q [] (mem Ls p (cpp Y 113 0) L)) : m_Call i_M_copies [.inr (.inr 112), .inl 6] (mem Ls p (cpp Y 112 0) L) Q := E_M_copies_r112 (cl_112 hQ 6 0 (by omega))
theorem cl_113 (hQ : Q [] (mem Ls p (cpp Y 114 0) L)) : ∀ t k : Nat, k + t = 3 → m_Wp i_M_copies 2 kc ks [(0, .inr (.inr 113)), (1, .inl 3), (2, .inl (k : Int))] [] (mem Ls p (cpp Y 113 k) L) Q := by
  intro t
  induction t with
  | zero => intro k hk; rw [cpp_next (m := 113) (by omega) (show half 113 = k by rw [show k = 3 by omega]; rfl)]; exact T_M_copies_2_r113 ⟨fun _ => hQ, fun z => by omega⟩
  | succ t ih =>
    intro k hk
    refine T_M_copies_2_r113 ?_
    rw [show wr (3 + (k : Int)) = ((3 + k : Nat) : Int) by rw [wr_of] <;> omega, show wr ((k : Int) + 1) = ((k + 1 : Nat) : Int) by rw [wr_of] <;> omega, Int.toNat_natCast, Int.toNat_natCast, cpp_step (show half 113 = 3 from rfl)]
    exact ⟨fun z => by omega, fun _ => ⟨by omega, by omega, ih (k + 1) (by omega)⟩⟩
theorem cp_113 (hQ : Q [] (mem Ls p (cpp Y 114 0) L)) : m_Call i_M_copies [.inr (.inr 113), .inl 3] (mem Ls p (cpp Y 113 0) L) Q := E_M_copies_r113 (cl_113 hQ 3 0 (by omega))
theorem cl_114 (hQ : Q [] (mem Ls p (cpp Y 115 0) L)) : ∀ t k : Nat, k + t = 3 → m_Wp i_M_copies 2 kc ks [(0, .inr (.inr 114)), (1, .inl 3), (2, .inl (k : Int))] [] (mem Ls p (cpp Y 114 k) L) Q := by
  intro t
  induction t with
  | zero => intro k hk; rw [cpp_next (m := 114) (by omega) (show half 114 = k by rw [show k = 3 by omega]; rfl)]; exact T_M_copies_2_r114 ⟨fun _ => hQ, fun z => by omega⟩
  | succ t ih =>
    intro k hk
    refine T_M_copies_2_r114 ?_
    rw [show wr (3 + (k : Int)) = ((3 + k : Nat) : Int) by rw [wr_of] <;> omega, show wr ((k : Int) + 1) = ((k + 1 : Nat) : Int) by rw [wr_of] <;> omega, Int.toNat_natCast, Int.toNat_natCast, cpp_step (show half 114 = 3 from rfl)]
    exact ⟨fun z => by omega, fun _ => ⟨by omega, by omega, ih (k + 1) (by omega)⟩⟩
theorem cp_114 (hQ : Q [] (mem Ls p (cpp Y 115 0) L)) : m_Call i_M_copies [.inr (.inr 114), .inl 3] (mem Ls p (cpp Y 114 0) L) Q := E_M_copies_r114 (cl_114 hQ 3 0 (by omega))
theorem cl_116 (hQ : Q [] (mem Ls p (cpp Y 117 0) L)) : ∀ t k : Nat, k + t = 3 → m_Wp i_M_copies 2 kc ks [(0, .inr (.inr 116)), (1, .inl 3), (2, .inl (k : Int))] [] (mem Ls p (cpp Y 116 k) L) Q := by
  intro t
  induction t with
  | zero => intro k hk; rw [cpp_next (m := 116) (by omega) (show half 116 = k by rw [show k = 3 by omega]; rfl)]; exact T_M_copies_2_r116 ⟨fun _ => hQ, fun z => by omega⟩
  | succ t ih =>
    intro k hk
    refine T_M_copies_2_r116 ?_
    rw [show wr (3 + (k : Int)) = ((3 + k : Nat) : Int) by rw [wr_of] <;> omega, show wr ((k : Int) + 1) = ((k + 1 : Nat) : Int) by rw [wr_of] <;> omega, Int.toNat_natCast, Int.toNat_natCast, cpp_step (show half 116 = 3 from rfl)]
    exact ⟨fun z => by omega, fun _ => ⟨by omega, by omega, ih (k + 1) (by omega)⟩⟩
theorem cp_116 (hQ : Q [] (mem Ls p (cpp Y 117 0) L)) : m_Call i_M_copies [.inr (.inr 116), .inl 3] (mem Ls p (cpp Y 116 0) L) Q := E_M_copies_r116 (cl_116 hQ 3 0 (by omega))
theorem cl_117 (hQ : Q [] (mem Ls p (cpp Y 118 0) L)) : ∀ t k : Nat, k + t = 3 → m_Wp i_M_copies 2 kc ks [(0, .inr (.inr 117)), (1, .inl 3), (2, .inl (k : Int))] [] (mem Ls p (cpp Y 117 k) L) Q := by
  intro t
  induction t with
  | zero => intro k hk; rw [cpp_next (m := 117) (by omega) (show half 117 = k by rw [show k = 3 by omega]; rfl)]; exact T_M_copies_2_r117 ⟨fun _ => hQ, fun z => by omega⟩
  | succ t ih =>
    intro k hk
    refine T_M_copies_2_r117 ?_
    rw [show wr (3 + (k : Int)) = ((3 + k : Nat) : Int) by rw [wr_of] <;> omega, show wr ((k : Int) + 1) = ((k + 1 : Nat) : Int) by rw [wr_of] <;> omega, Int.toNat_natCast, Int.toNat_natCast, cpp_step (show half 117 = 3 from rfl)]
    exact ⟨fun z => by omega, fun _ => ⟨by omega, by omega, ih (k + 1) (by omega)⟩⟩
theorem cp_117 (hQ : Q [] (mem Ls p (cpp Y 118 0) L)) : m_Call i_M_copies [.inr (.inr 117), .inl 3] (mem Ls p (cpp Y 117 0) L) Q := E_M_copies_r117 (cl_117 hQ 3 0 (by omega))
theorem cl_118 (hQ : Q [] (mem Ls p (cpp Y 119 0) L)) : ∀ t k : Nat, k + t = 64 → m_Wp i_M_copies 2 kc ks [(0, .inr (.inr 118)), (1, .inl 64), (2, .inl (k : Int))] [] (mem Ls p (cpp Y 118 k) L) Q := by
  intro t
  induction t with
  | zero => intro k hk; rw [cpp_next (m := 118) (by omega) (show half 118 = k by rw [show k = 64 by omega]; rfl)]; exact T_M_copies_2_r118 ⟨fun _ => hQ, fun z => by omega⟩
  | succ t ih =>
    intro k hk
    refine T_M_copies_2_r118 ?_
    rw [show wr (64 + (k : Int)) = ((64 + k : Nat) : Int) by rw [wr_of] <;> omega, show wr ((k : Int) + 1) = ((k + 1 : Nat) : Int) by rw [wr_of] <;> omega, Int.toNat_natCast, Int.toNat_natCast, cpp_step (show half 118 = 64 from rfl)]
    exact ⟨fun z => by omega, fun _ => ⟨by omega, by omega, ih (k + 1) (by omega)⟩⟩
theorem cp_118 (hQ : Q [] (mem Ls p (cpp Y 119 0) L)) : m_Call i_M_copies [.inr (.inr 118), .inl 64] (mem Ls p (cpp Y 118 0) L) Q := E_M_copies_r118 (cl_118 hQ 64 0 (by omega))
theorem cl_119 (hQ : Q [] (mem Ls p (cpp Y 120 0) L)) : ∀ t k : Nat, k + t = 64 → m_Wp i_M_copies 2 kc ks [(0, .inr (.inr 119)), (1, .inl 64), (2, .inl (k : Int))] [] (mem Ls p (cpp Y 119 k) L) Q := by
  intro t
  induction t with
  | zero => intro k hk; rw [cpp_next (m := 119) (by omega) (show half 119 = k by rw [show k = 64 by omega]; rfl)]; exact T_M_copies_2_r119 ⟨fun _ => hQ, fun z => by omega⟩
  | succ t ih =>
    intro k hk
    refine T_M_copies_2_r119 ?_
    rw [show wr (64 + (k : Int)) = ((64 + k : Nat) : Int) by rw [wr_of] <;> omega, show wr ((k : Int) + 1) = ((k + 1 : Nat) : Int) by rw [wr_of] <;> omega, Int.toNat_natCast, Int.toNat_natCast, cpp_step (show half 119 = 64 from rfl)]
    exact ⟨fun z => by omega, fun _ => ⟨by omega, by omega, ih (k + 1) (by omega)⟩⟩
theorem cp_119 (hQ : Q [] (mem Ls p (cpp Y 120 0) L)) : m_Call i_M_copies [.inr (.inr 119), .inl 64] (mem Ls p (cpp Y 119 0) L) Q := E_M_copies_r119 (cl_119 hQ 64 0 (by omega))
theorem cl_120 (hQ : Q [] (mem Ls p (cpp Y 121 0) L)) : ∀ t k : Nat, k + t = 64 → m_Wp i_M_copies 2 kc ks [(0, .inr (.inr 120)), (1, .inl 64), (2, .inl (k : Int))] [] (mem Ls p (cpp Y 120 k) L) Q := by
  intro t
  induction t with
  | zero => intro k hk; rw [cpp_next (m := 120) (by omega) (show half 120 = k by rw [show k = 64 by omega]; rfl)]; exact T_M_copies_2_r120 ⟨fun _ => hQ, fun z => by omega⟩
  | succ t ih =>
    intro k hk
    refine T_M_copies_2_r120 ?_
    rw [show wr (64 + (k : Int)) = ((64 + k : Nat) : Int) by rw [wr_of] <;> omega, show wr ((k : Int) + 1) = ((k + 1 : Nat) : Int) by rw [wr_of] <;> omega, Int.toNat_natCast, Int.toNat_natCast, cpp_step (show half 120 = 64 from rfl)]
    exact ⟨fun z => by omega, fun _ => ⟨by omega, by omega, ih (k + 1) (by omega)⟩⟩
theorem cp_120 (hQ : Q [] (mem Ls p (cpp Y 121 0) L)) : m_Call i_M_copies [.inr (.inr 120), .inl 64] (mem Ls p (cpp Y 120 0) L) Q := E_M_copies_r120 (cl_120 hQ 64 0 (by omega))
end K19
