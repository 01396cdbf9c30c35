/-! ===== the law: what a method answers is an int ===== -/
def okr (e : mE) : Bool := match e.2.1 with
  | .lreturn => false
  | .return_ => false
  | _ => true
def PS (sr : mSR) : Prop := (sr.1 = 4 ∨ sr.1 = 7 → ∃ x, sr.2.2.2.2.2 = [.inl x]) ∧ (∀ e ∈ sr.2.2.1.1, okr e = true) ∧ (∀ e ∈ sr.2.2.2.1.1, okr e = true)
section AS
variable {m e1 e2 e3 kc ks i kd : Nat} {r : List mE} {lv : List (Nat × mV)} {st : List mV} {M : mM} {c : mCn}
theorem ps_mk {t m' : Nat} {s1 s2 : mF} {as : List mV} (ht : t ≠ 4 ∧ t ≠ 7) (h1 : ∀ e ∈ s1.1, okr e = true) (h2 : ∀ e ∈ s2.1, okr e = true) : PS (t, c, s1, s2, m', as) := ⟨fun h => by rcases h with h | h; exact absurd h ht.1; exact absurd h ht.2, h1, h2⟩
theorem ps_go (hr : ∀ e ∈ r, okr e = true) : PS (mgo r kc ks lv st M) := ps_mk (by decide) hr hr
theorem ps_if (hr : ∀ e ∈ r, okr e = true) : PS (mif c r kc ks lv st M) := ps_mk (by decide) hr hr
theorem ps_no : PS (mno M) := ps_mk (by decide) (fun _ h => by cases h) (fun _ h => by cases h)
theorem ps_bif {b : Bool} {x y : mSR} (h1 : PS x) (h2 : PS y) : PS (bif b then x else y) := by cases b; exact h2; exact h1
theorem ps_bin {f : Int → Int → Int} (hr : ∀ e ∈ r, okr e = true) : PS (m_bin f r kc ks lv st M) := by unfold m_bin; split <;> first | exact ps_go hr | exact ps_no
theorem ps_binL {f : Int → Int → Int} (hr : ∀ e ∈ r, okr e = true) : PS (m_binL f r kc ks lv st M) := by unfold m_binL; split <;> first | exact ps_go hr | exact ps_no
theorem ps_ildx (hr : ∀ e ∈ r, okr e = true) : PS (m_ildx i r kc ks lv st M) := by unfold m_ildx; split <;> first | exact ps_go hr | exact ps_no
theorem ps_lldx (hr : ∀ e ∈ r, okr e = true) : PS (m_lldx i r kc ks lv st M) := by unfold m_lldx; split <;> first | exact ps_go hr | exact ps_no
theorem ps_aldx (hr : ∀ e ∈ r, okr e = true) : PS (m_aldx i r kc ks lv st M) := by unfold m_aldx; split <;> first | exact ps_go hr | exact ps_no
theorem ps_istx (hr : ∀ e ∈ r, okr e = true) : PS (m_istx i r kc ks lv st M) := by unfold m_istx; split <;> first | exact ps_go hr | exact ps_no
theorem ps_lstx (hr : ∀ e ∈ r, okr e = true) : PS (m_lstx i r kc ks lv st M) := by unfold m_lstx; split <;> first | exact ps_go hr | exact ps_no
theorem ps_astx (hr : ∀ e ∈ r, okr e = true) : PS (m_astx i r kc ks lv st M) := by unfold m_astx; split <;> first | exact ps_go hr | exact ps_no
theorem ps_getf (hr : ∀ e ∈ r, okr e = true) : PS (m_getf e1 e2 e3 r kc ks lv st M) := by
  unfold m_getf; repeat' (first | exact ps_go hr | exact ps_no | refine ps_bif ?_ ?_ | split)
theorem ps_putf (hr : ∀ e ∈ r, okr e = true) : PS (m_putf e1 e2 e3 r kc ks lv st M) := by
  unfold m_putf; repeat' (first | exact ps_go hr | exact ps_if hr | exact ps_no | refine ps_bif ?_ ?_ | split)
theorem ps_ald (hr : ∀ e ∈ r, okr e = true) : PS (m_ald kd r kc ks lv st M) := by
  unfold m_ald; repeat' (first | exact ps_go hr | exact ps_if hr | exact ps_no | refine ps_bif ?_ ?_ | split)
theorem ps_ast (hr : ∀ e ∈ r, okr e = true) : PS (m_ast kd r kc ks lv st M) := by
  unfold m_ast; repeat' (first | exact ps_go hr | exact ps_if hr | exact ps_no | refine ps_bif ?_ ?_ | split)
theorem ps_len (hr : ∀ e ∈ r, okr e = true) : PS (m_len r kc ks lv st M) := by
  unfold m_len; repeat' (first | exact ps_go hr | exact ps_no | refine ps_bif ?_ ?_ | split)
theorem ps_cpy (hr : ∀ e ∈ r, okr e = true) : PS (m_cpy r kc ks lv st M) := by
  unfold m_cpy; repeat' (first | exact ps_if hr | exact ps_no | refine ps_bif ?_ ?_ | split)
theorem ps_call {ck : List mV → Bool} (hr : ∀ e ∈ r, okr e = true) : PS (m_call m e1 e2 ck r kc ks lv st M) := by
  unfold m_call; repeat' (first | exact ps_no | exact ps_mk (by decide) hr hr | refine ps_bif ?_ ?_ | split)
theorem ps_special (hr : ∀ e ∈ r, okr e = true) : PS (m_special m e1 e2 r kc ks lv st M) := by
  unfold m_special; repeat' (first | exact ps_go hr | exact ps_no | exact ps_call hr | refine ps_bif ?_ ?_ | split)
theorem ps_virtual (hr : ∀ e ∈ r, okr e = true) : PS (m_virtual m e1 e2 e3 r kc ks lv st M) := by
  unfold m_virtual; repeat' (first | exact ps_if hr | exact ps_no | exact ps_call hr | refine ps_bif ?_ ?_ | split)
theorem ps_static (hr : ∀ e ∈ r, okr e = true) : PS (m_static m e1 e2 r kc ks lv st M) := by
  unfold m_static; repeat' (first | exact ps_go hr | exact ps_no | exact ps_cpy hr | exact ps_call hr | refine ps_bif ?_ ?_ | split)
theorem ps_new (hr : ∀ e ∈ r, okr e = true) : PS (m_new m e1 e2 r kc ks lv st M) := by
  unfold m_new; repeat' (first | exact ps_if hr | exact ps_no | refine ps_bif ?_ ?_ | split)
theorem ps_newa (hr : ∀ e ∈ r, okr e = true) : PS (m_newa m e1 r kc ks lv st M) := by
  unfold m_newa; repeat' (first | exact ps_if hr | exact ps_no | refine ps_bif ?_ ?_ | split)
theorem seek_all {P : mE → Prop} {t : Nat} : ∀ {l : List mE}, (∀ e ∈ l, P e) → ∀ e ∈ m_seek l t, P e := by
  intro l
  induction l with
  | nil => intro h; exact h
  | cons a b ih =>
    intro h
    unfold m_seek
    cases Nat.beq a.1 t
    · exact ih (fun e he => h e (List.mem_cons_of_mem _ he))
    · exact h
theorem ps_step {e : mE} (hm : ∀ e ∈ mcd m, okr e = true) (he : okr e = true) (hr : ∀ e ∈ r, okr e = true) : PS (m_step m e r kc ks lv st M) := by
  obtain ⟨pc, i, ln, e1, e2, e3, z⟩ := e
  unfold m_step
  cases i <;> dsimp only <;> first
    | exact ps_go hr
    | exact ps_no
    | exact ps_go (seek_all hm)
    | exact ps_bif (ps_go hr) (ps_go hr)
    | exact ps_ildx hr
    | exact ps_lldx hr
    | exact ps_aldx hr
    | exact ps_istx hr
    | exact ps_lstx hr
    | exact ps_astx hr
    | exact ps_bin hr
    | exact ps_binL hr
    | exact ps_getf hr
    | exact ps_putf hr
    | exact ps_ald hr
    | exact ps_ast hr
    | exact ps_len hr
    | exact ps_new hr
    | exact ps_newa hr
    | exact ps_special hr
    | exact ps_virtual hr
    | exact ps_static hr
    | (cases he; done)
    | (repeat' (first | exact ps_go hr | exact ps_if hr | exact ps_no | exact ps_mk (by decide) (seek_all hm) hr | exact ps_mk (by decide) hr hr | exact ⟨fun _ => ⟨_, rfl⟩, hr, hr⟩ | refine ps_bif ?_ ?_ | split))
theorem exec_shape (hm : ∀ e ∈ mcd m, okr e = true) : ∀ (n : Nat) (f : mF) (q : List mV × mM), (∀ e ∈ f.1, okr e = true) → m_exec n m f = some q → ∃ x, q.1 = [.inl x] := by
  intro n
  induction n with
  | zero => intro f q _ h; cases h
  | succ n ih =>
    intro f q hf h
    obtain ⟨r, kc, ks, lv, st, M⟩ := f
    cases r with
    | nil => cases h
    | cons e r' =>
      have hp := ps_step (m := m) (e := e) (r := r') (kc := kc) (ks := ks) (lv := lv) (st := st) (M := M) hm (hf e List.mem_cons_self) (fun e' he => hf e' (List.mem_cons_of_mem _ he))
      rw [exec_disp] at h
      generalize m_step m e r' kc ks lv st M = sr at h hp
      obtain ⟨t, c, ⟨s11, s12, s13, s14, s15, s16⟩, s2, m', as⟩ := sr
      obtain ⟨p1, p2, p3⟩ := hp
      unfold m_disp at h
      match t, p1, h with
      | 0, p1, h => exact ih _ _ p2 h
      | 1, p1, h =>
        dsimp only at h
        cases hc : m_holdsB c
        · rw [hc] at h; exact ih _ _ p3 h
        · rw [hc] at h; exact ih _ _ p2 h
      | 2, p1, h =>
        dsimp only at h
        cases hc : m_holdsB c
        · rw [hc] at h; cases h
        · rw [hc] at h; exact ih _ _ p2 h
      | 3, p1, h =>
        dsimp only at h
        cases hc : m_holdsB c
        · rw [hc] at h; cases h
        · rw [hc] at h
          obtain ⟨z, h1, h2⟩ := Option.bind_eq_some_iff.mp h
          exact ih (m_push (_, _, _, _, _, _) z.1 z.2) q p2 h2
      | 4, p1, h =>
        dsimp only at h
        cases hc : m_holdsB c
        · rw [hc] at h; cases h
        · rw [hc] at h
          have h : some (as, s16) = some q := h
          cases h
          exact p1 (Or.inl rfl)
      | 5, p1, h => exact ih _ _ (seek_all hm) h
      | 6, p1, h =>
        obtain ⟨z, h1, h2⟩ := Option.bind_eq_some_iff.mp h
        exact ih (m_push (_, _, _, _, _, _) z.1 z.2) q p2 h2
      | 7, p1, h =>
        have h : some (as, s16) = some q := h
        cases h
        exact p1 (Or.inr rfl)
      | t + 8, p1, h => cases h
theorem call_shape {as : List mV} {Q : List mV → mM → Prop} (hm : (mcd m).all okr = true) (h : m_Call m as M Q) : m_Call m as M (fun v M' => (∃ x, v = [.inl x]) ∧ Q v M') := by
  have hm' := List.all_eq_true.mp hm
  obtain ⟨n, q, h1, h2⟩ := h
  exact ⟨n, q, h1, exec_shape hm' n _ q hm' h1, h2⟩
end AS
