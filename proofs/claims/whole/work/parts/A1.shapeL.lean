/-! ===== the law: what a method answers is a long ===== -/
def okrLg (e : mE) : Bool := match e.2.1 with
  | .ireturn => false
  | .return_ => false
  | _ => true
def PSLg (sr : mSR) : Prop := (sr.1 = 4 ∨ sr.1 = 7 → ∃ x, sr.2.2.2.2.2 = [.inr (.inl x)]) ∧ (∀ e ∈ sr.2.2.1.1, okrLg e = true) ∧ (∀ e ∈ sr.2.2.2.1.1, okrLg e = true)
section ASL
variable {m e1 e2 e3 kc ks i kd : Nat} {r : List mE} {lv : List (Nat × mV)} {st : List mV} {M : mM} {c : mCn}
theorem ps_mkLg {t m' : Nat} {s1 s2 : mF} {as : List mV} (ht : t ≠ 4 ∧ t ≠ 7) (h1 : ∀ e ∈ s1.1, okrLg e = true) (h2 : ∀ e ∈ s2.1, okrLg e = true) : PSLg (t, c, s1, s2, m', as) := ⟨fun h => by rcases h with h | h; exact absurd h ht.1; exact absurd h ht.2, h1, h2⟩
theorem ps_goLg (hr : ∀ e ∈ r, okrLg e = true) : PSLg (mgo r kc ks lv st M) := ps_mkLg (by decide) hr hr
theorem ps_ifLg (hr : ∀ e ∈ r, okrLg e = true) : PSLg (mif c r kc ks lv st M) := ps_mkLg (by decide) hr hr
theorem ps_noLg : PSLg (mno M) := ps_mkLg (by decide) (fun _ h => by cases h) (fun _ h => by cases h)
theorem ps_bifLg {b : Bool} {x y : mSR} (h1 : PSLg x) (h2 : PSLg y) : PSLg (bif b then x else y) := by cases b; exact h2; exact h1
theorem ps_binLg {f : Int → Int → Int} (hr : ∀ e ∈ r, okrLg e = true) : PSLg (m_bin f r kc ks lv st M) := by unfold m_bin; split <;> first | exact ps_goLg hr | exact ps_noLg
theorem ps_binLLg {f : Int → Int → Int} (hr : ∀ e ∈ r, okrLg e = true) : PSLg (m_binL f r kc ks lv st M) := by unfold m_binL; split <;> first | exact ps_goLg hr | exact ps_noLg
theorem ps_ildxLg (hr : ∀ e ∈ r, okrLg e = true) : PSLg (m_ildx i r kc ks lv st M) := by unfold m_ildx; split <;> first | exact ps_goLg hr | exact ps_noLg
theorem ps_lldxLg (hr : ∀ e ∈ r, okrLg e = true) : PSLg (m_lldx i r kc ks lv st M) := by unfold m_lldx; split <;> first | exact ps_goLg hr | exact ps_noLg
theorem ps_aldxLg (hr : ∀ e ∈ r, okrLg e = true) : PSLg (m_aldx i r kc ks lv st M) := by unfold m_aldx; split <;> first | exact ps_goLg hr | exact ps_noLg
theorem ps_istxLg (hr : ∀ e ∈ r, okrLg e = true) : PSLg (m_istx i r kc ks lv st M) := by unfold m_istx; split <;> first | exact ps_goLg hr | exact ps_noLg
theorem ps_lstxLg (hr : ∀ e ∈ r, okrLg e = true) : PSLg (m_lstx i r kc ks lv st M) := by unfold m_lstx; split <;> first | exact ps_goLg hr | exact ps_noLg
theorem ps_astxLg (hr : ∀ e ∈ r, okrLg e = true) : PSLg (m_astx i r kc ks lv st M) := by unfold m_astx; split <;> first | exact ps_goLg hr | exact ps_noLg
theorem ps_getfLg (hr : ∀ e ∈ r, okrLg e = true) : PSLg (m_getf e1 e2 e3 r kc ks lv st M) := by
  unfold m_getf; repeat' (first | exact ps_goLg hr | exact ps_noLg | refine ps_bifLg ?_ ?_ | split)
theorem ps_putfLg (hr : ∀ e ∈ r, okrLg e = true) : PSLg (m_putf e1 e2 e3 r kc ks lv st M) := by
  unfold m_putf; repeat' (first | exact ps_goLg hr | exact ps_ifLg hr | exact ps_noLg | refine ps_bifLg ?_ ?_ | split)
theorem ps_aldLg (hr : ∀ e ∈ r, okrLg e = true) : PSLg (m_ald kd r kc ks lv st M) := by
  unfold m_ald; repeat' (first | exact ps_goLg hr | exact ps_ifLg hr | exact ps_noLg | refine ps_bifLg ?_ ?_ | split)
theorem ps_astLg (hr : ∀ e ∈ r, okrLg e = true) : PSLg (m_ast kd r kc ks lv st M) := by
  unfold m_ast; repeat' (first | exact ps_goLg hr | exact ps_ifLg hr | exact ps_noLg | refine ps_bifLg ?_ ?_ | split)
theorem ps_lenLg (hr : ∀ e ∈ r, okrLg e = true) : PSLg (m_len r kc ks lv st M) := by
  unfold m_len; repeat' (first | exact ps_goLg hr | exact ps_noLg | refine ps_bifLg ?_ ?_ | split)
theorem ps_cpyLg (hr : ∀ e ∈ r, okrLg e = true) : PSLg (m_cpy r kc ks lv st M) := by
  unfold m_cpy; repeat' (first | exact ps_ifLg hr | exact ps_noLg | refine ps_bifLg ?_ ?_ | split)
theorem ps_callLg {ck : List mV → Bool} (hr : ∀ e ∈ r, okrLg e = true) : PSLg (m_call m e1 e2 ck r kc ks lv st M) := by
  unfold m_call; repeat' (first | exact ps_noLg | exact ps_mkLg (by decide) hr hr | refine ps_bifLg ?_ ?_ | split)
theorem ps_specialLg (hr : ∀ e ∈ r, okrLg e = true) : PSLg (m_special m e1 e2 r kc ks lv st M) := by
  unfold m_special; repeat' (first | exact ps_goLg hr | exact ps_noLg | exact ps_callLg hr | refine ps_bifLg ?_ ?_ | split)
theorem ps_virtualLg (hr : ∀ e ∈ r, okrLg e = true) : PSLg (m_virtual m e1 e2 e3 r kc ks lv st M) := by
  unfold m_virtual; repeat' (first | exact ps_ifLg hr | exact ps_noLg | exact ps_callLg hr | refine ps_bifLg ?_ ?_ | split)
theorem ps_staticLg (hr : ∀ e ∈ r, okrLg e = true) : PSLg (m_static m e1 e2 r kc ks lv st M) := by
  unfold m_static; repeat' (first | exact ps_goLg hr | exact ps_noLg | exact ps_cpyLg hr | exact ps_callLg hr | refine ps_bifLg ?_ ?_ | split)
theorem ps_newLg (hr : ∀ e ∈ r, okrLg e = true) : PSLg (m_new m e1 e2 r kc ks lv st M) := by
  unfold m_new; repeat' (first | exact ps_ifLg hr | exact ps_noLg | refine ps_bifLg ?_ ?_ | split)
theorem ps_newaLg (hr : ∀ e ∈ r, okrLg e = true) : PSLg (m_newa m e1 r kc ks lv st M) := by
  unfold m_newa; repeat' (first | exact ps_ifLg hr | exact ps_noLg | refine ps_bifLg ?_ ?_ | split)
theorem ps_stepLg {e : mE} (hm : ∀ e ∈ mcd m, okrLg e = true) (he : okrLg e = true) (hr : ∀ e ∈ r, okrLg e = true) : PSLg (m_step m e r kc ks lv st M) := by
  obtain ⟨pc, i, ln, e1, e2, e3, z⟩ := e
  unfold m_step
  cases i <;> dsimp only <;> first
    | exact ps_goLg hr
    | exact ps_noLg
    | exact ps_goLg (seek_all hm)
    | exact ps_bifLg (ps_goLg hr) (ps_goLg hr)
    | exact ps_ildxLg hr
    | exact ps_lldxLg hr
    | exact ps_aldxLg hr
    | exact ps_istxLg hr
    | exact ps_lstxLg hr
    | exact ps_astxLg hr
    | exact ps_binLg hr
    | exact ps_binLLg hr
    | exact ps_getfLg hr
    | exact ps_putfLg hr
    | exact ps_aldLg hr
    | exact ps_astLg hr
    | exact ps_lenLg hr
    | exact ps_newLg hr
    | exact ps_newaLg hr
    | exact ps_specialLg hr
    | exact ps_virtualLg hr
    | exact ps_staticLg hr
    | (cases he; done)
    | (repeat' (first | exact ps_goLg hr | exact ps_ifLg hr | exact ps_noLg | exact ps_mkLg (by decide) (seek_all hm) hr | exact ps_mkLg (by decide) hr hr | exact ⟨fun _ => ⟨_, rfl⟩, hr, hr⟩ | refine ps_bifLg ?_ ?_ | split))
theorem exec_shapeLg (hm : ∀ e ∈ mcd m, okrLg e = true) : ∀ (n : Nat) (f : mF) (q : List mV × mM), (∀ e ∈ f.1, okrLg e = true) → m_exec n m f = some q → ∃ x, q.1 = [.inr (.inl x)] := by
  intro n
  induction n with
  | zero => intro f q _ h; cases h
  | succ n ih =>
    intro f q hf h
    obtain ⟨r, kc, ks, lv, st, M⟩ := f
    cases r with
    | nil => cases h
    | cons e r' =>
      have hp := ps_stepLg (m := m) (e := e) (r := r') (kc := kc) (ks := ks) (lv := lv) (st := st) (M := M) hm (hf e List.mem_cons_self) (fun e' he => hf e' (List.mem_cons_of_mem _ he))
      rw [exec_disp] at h
      generalize m_step m e r' kc ks lv st M = sr at h hp
      obtain ⟨t, c, ⟨s11, s12, s13, s14, s15, s16⟩, s2, m', as⟩ := sr
      obtain ⟨p1, p2, p3⟩ := hp
      unfold m_disp at h
      match t, p1, h with
      | 0, p1, h => exact ih _ _ p2 h
      | 1, p1, h =>
        dsimp only at h
        cases hc : m_holdsB c
        · rw [hc] at h; exact ih _ _ p3 h
        · rw [hc] at h; exact ih _ _ p2 h
      | 2, p1, h =>
        dsimp only at h
        cases hc : m_holdsB c
        · rw [hc] at h; cases h
        · rw [hc] at h; exact ih _ _ p2 h
      | 3, p1, h =>
        dsimp only at h
        cases hc : m_holdsB c
        · rw [hc] at h; cases h
        · rw [hc] at h
          obtain ⟨z, h1, h2⟩ := Option.bind_eq_some_iff.mp h
          exact ih (m_push (_, _, _, _, _, _) z.1 z.2) q p2 h2
      | 4, p1, h =>
        dsimp only at h
        cases hc : m_holdsB c
        · rw [hc] at h; cases h
        · rw [hc] at h
          have h : some (as, s16) = some q := h
          cases h
          exact p1 (Or.inl rfl)
      | 5, p1, h => exact ih _ _ (seek_all hm) h
      | 6, p1, h =>
        obtain ⟨z, h1, h2⟩ := Option.bind_eq_some_iff.mp h
        exact ih (m_push (_, _, _, _, _, _) z.1 z.2) q p2 h2
      | 7, p1, h =>
        have h : some (as, s16) = some q := h
        cases h
        exact p1 (Or.inr rfl)
      | t + 8, p1, h => cases h
theorem call_shapeLg {as : List mV} {Q : List mV → mM → Prop} (hm : (mcd m).all okrLg = true) (h : m_Call m as M Q) : m_Call m as M (fun v M' => (∃ x, v = [.inr (.inl x)]) ∧ Q v M') := by
  have hm' := List.all_eq_true.mp hm
  obtain ⟨n, q, h1, h2⟩ := h
  exact ⟨n, q, h1, exec_shapeLg hm' n _ q hm' h1, h2⟩
end ASL
