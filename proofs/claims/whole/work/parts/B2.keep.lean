/-! ===== once all is made: a run keeps the shapes and the script ===== -/
def KM (M M' : mM) : Prop := M'.1 = M.1 ∧ M'.2.1 = M.2.1 ∧ M'.2.2.2.1 1 = M.2.2.2.1 1
theorem KM.rf {M : mM} : KM M M := ⟨rfl, rfl, rfl⟩
theorem KM.tr {M M' M2 : mM} (h : KM M M') (g : KM M' M2) : KM M M2 := ⟨g.1.trans h.1, g.2.1.trans h.2.1, g.2.2.trans h.2.2⟩
def PK (M : mM) (sr : mSR) : Prop := KM M (m_mem sr.2.2.1) ∧ KM M (m_mem sr.2.2.2.1)
section BK
variable {m e1 e2 e3 kc ks i kd : Nat} {r : List mE} {lv : List (Nat × mV)} {st : List mV} {M M' : mM} {c : mCn} {nn : Nat} {sh : Nat → Nat × Nat} {RR RR' : Nat → Nat → Nat} {I L L' : Nat → Nat → Int}
theorem km_L : KM (nn, sh, RR, I, L) (nn, sh, RR', I, L') := ⟨rfl, rfl, rfl⟩
theorem km_up {k j : Nat} {x : Int} : KM (nn, sh, RR, I, L) (nn, sh, RR', mup I (k + 2) j x, L') := ⟨rfl, rfl, by show mup I (k + 2) j x 1 = I 1; unfold mup; rw [if_neg (by omega)]⟩
theorem km_cpy {a d x : Nat} : KM (nn, sh, RR, I, L) (nn, sh, RR', mcpy I a (d + 2) x, L') := ⟨rfl, rfl, by show mcpy I a (d + 2) x 1 = I 1; unfold mcpy; rw [if_neg (by omega)]⟩
theorem kp_go (h : KM M M') : PK M (mgo r kc ks lv st M') := ⟨h, h⟩
theorem kp_if (h : KM M M') : PK M (mif c r kc ks lv st M') := ⟨h, h⟩
theorem kp_no : PK M (mno M) := ⟨KM.rf, KM.rf⟩
theorem kp_mk {t m' : Nat} {r1 r2 : List mE} {kc1 ks1 kc2 ks2 : Nat} {lv1 lv2 : List (Nat × mV)} {st1 st2 as : List mV} : PK M (t, c, (r1, kc1, ks1, lv1, st1, M), (r2, kc2, ks2, lv2, st2, M), m', as) := ⟨KM.rf, KM.rf⟩
theorem kp_bif {b : Bool} {x y : mSR} (h1 : PK M x) (h2 : PK M y) : PK M (bif b then x else y) := by cases b; exact h2; exact h1
theorem kp_bin {f : Int → Int → Int} : PK M (m_bin f r kc ks lv st M) := by unfold m_bin; split <;> first | exact kp_go KM.rf | exact kp_no
theorem kp_binL {f : Int → Int → Int} : PK M (m_binL f r kc ks lv st M) := by unfold m_binL; split <;> first | exact kp_go KM.rf | exact kp_no
theorem kp_ildx : PK M (m_ildx i r kc ks lv st M) := by unfold m_ildx; split <;> first | exact kp_go KM.rf | exact kp_no
theorem kp_lldx : PK M (m_lldx i r kc ks lv st M) := by unfold m_lldx; split <;> first | exact kp_go KM.rf | exact kp_no
theorem kp_aldx : PK M (m_aldx i r kc ks lv st M) := by unfold m_aldx; split <;> first | exact kp_go KM.rf | exact kp_no
theorem kp_istx : PK M (m_istx i r kc ks lv st M) := by unfold m_istx; split <;> first | exact kp_go KM.rf | exact kp_no
theorem kp_lstx : PK M (m_lstx i r kc ks lv st M) := by unfold m_lstx; split <;> first | exact kp_go KM.rf | exact kp_no
theorem kp_astx : PK M (m_astx i r kc ks lv st M) := by unfold m_astx; split <;> first | exact kp_go KM.rf | exact kp_no
theorem kp_getf : PK M (m_getf e1 e2 e3 r kc ks lv st M) := by
  unfold m_getf; repeat' (first | exact kp_go KM.rf | exact kp_no | refine kp_bif ?_ ?_ | split)
theorem kp_putf : PK M (m_putf e1 e2 e3 r kc ks lv st M) := by
  unfold m_putf; repeat' (first | exact kp_go km_up | exact kp_if km_up | exact kp_go km_L | exact kp_no | refine kp_bif ?_ ?_ | split)
theorem kp_ald : PK M (m_ald kd r kc ks lv st M) := by
  unfold m_ald; repeat' (first | exact kp_go KM.rf | exact kp_if KM.rf | exact kp_no | refine kp_bif ?_ ?_ | split)
theorem kp_ast : PK M (m_ast kd r kc ks lv st M) := by
  unfold m_ast; repeat' (first | exact kp_if km_up | exact kp_if km_L | exact kp_no | refine kp_bif ?_ ?_ | split)
theorem kp_len : PK M (m_len r kc ks lv st M) := by
  unfold m_len; repeat' (first | exact kp_go KM.rf | exact kp_no | refine kp_bif ?_ ?_ | split)
theorem kp_cpy : PK M (m_cpy r kc ks lv st M) := by
  unfold m_cpy; repeat' (first | exact kp_if km_cpy | exact kp_no | refine kp_bif ?_ ?_ | split)
theorem kp_call {ck : List mV → Bool} : PK M (m_call m e1 e2 ck r kc ks lv st M) := by
  unfold m_call; repeat' (first | exact kp_no | exact kp_mk | refine kp_bif ?_ ?_ | split)
theorem kp_special : PK M (m_special m e1 e2 r kc ks lv st M) := by
  unfold m_special; repeat' (first | exact kp_go KM.rf | exact kp_no | exact kp_call | refine kp_bif ?_ ?_ | split)
theorem kp_virtual : PK M (m_virtual m e1 e2 e3 r kc ks lv st M) := by
  unfold m_virtual; repeat' (first | exact kp_if KM.rf | exact kp_no | exact kp_call | refine kp_bif ?_ ?_ | split)
theorem kp_static : PK M (m_static m e1 e2 r kc ks lv st M) := by
  unfold m_static; repeat' (first | exact kp_go KM.rf | exact kp_no | exact kp_cpy | exact kp_call | refine kp_bif ?_ ?_ | split)
theorem kp_new (hM : M.1 = 144) : PK M (m_new m e1 e2 r kc ks lv st M) := by
  obtain ⟨nn, sh, RR, I, L⟩ := M
  have hM : nn = 144 := hM
  subst hM
  exact kp_no
theorem kp_newa (hM : M.1 = 144) : PK M (m_newa m e1 r kc ks lv st M) := by
  obtain ⟨nn, sh, RR, I, L⟩ := M
  have hM : nn = 144 := hM
  subst hM
  rcases st with _ | ⟨(x | x | x), st⟩ <;> exact kp_no
theorem kp_step {e : mE} (hM : M.1 = 144) : PK M (m_step m e r kc ks lv st M) := by
  obtain ⟨pc, i, ln, e1, e2, e3, z⟩ := e
  unfold m_step
  cases i <;> dsimp only <;> first
    | exact kp_go KM.rf
    | exact kp_no
    | exact kp_bif (kp_go KM.rf) (kp_go KM.rf)
    | exact kp_ildx
    | exact kp_lldx
    | exact kp_aldx
    | exact kp_istx
    | exact kp_lstx
    | exact kp_astx
    | exact kp_bin
    | exact kp_binL
    | exact kp_getf
    | exact kp_putf
    | exact kp_ald
    | exact kp_ast
    | exact kp_len
    | exact kp_new hM
    | exact kp_newa hM
    | exact kp_special
    | exact kp_virtual
    | exact kp_static
    | (repeat' (first | exact kp_go KM.rf | exact kp_if KM.rf | exact kp_no | exact kp_mk | refine kp_bif ?_ ?_ | split))
theorem man_keep {ex : mF → mO} {as : List mV} {q : List mV × mM} (hM : M.1 = 144) (hx : ∀ f q, (m_mem f).1 = 144 → ex f = some q → KM (m_mem f) q.2) (h : m_man ex as M = some q) : KM M q.2 := by
  unfold m_man at h
  split at h
  · next x a b o n sh R I L =>
    try dsimp only at h
    cases c1 : (Nat.beq n 144 && Nat.beq (sh (x + 2)).1 13 && Nat.beq (sh (R (x + 2) 9)).1 9 && Nat.beq (sh (o + 2)).1 1 && Nat.beq (sh (o + 2)).2 1)
    · rw [c1] at h; cases h
    · rw [c1] at h
      try dsimp only [cond_true] at h
      cases c2 : decide (0 ≤ a ∧ a < I (R (x + 2) 9) 13)
      · rw [c2] at h; cases h; exact KM.rf
      · rw [c2] at h
        try dsimp only [cond_true] at h
        cases c3 : decide (0 ≤ b ∧ b ≤ 7)
        · rw [c3] at h; cases h; exact KM.rf
        · rw [c3] at h
          try dsimp only [cond_true] at h
          obtain ⟨z, h1, h2⟩ := Option.bind_eq_some_iff.mp h
          have k := hx (mcd mMan, 0, 0, m_ent 0 [.inr (.inr (x + 2)), .inl a, .inl b], [], (n, sh, R, I, L)) _ hM h1
          split at h2
          · cases h2; exact k
          · cases h2
  · cases h
theorem exec_keep : ∀ (n m : Nat) (f : mF) (q : List mV × mM), (m_mem f).1 = 144 → m_exec n m f = some q → KM (m_mem f) q.2 := by
  intro n
  induction n with
  | zero => intro m f q _ h; cases h
  | succ n ih =>
    intro m f q hf h
    obtain ⟨r, kc, ks, lv, st, M⟩ := f
    have hf : M.1 = 144 := hf
    show KM M q.2
    cases r with
    | nil => cases h
    | cons e r' =>
      have hp := kp_step (m := m) (e := e) (r := r') (kc := kc) (ks := ks) (lv := lv) (st := st) (M := M) hf
      rw [exec_disp] at h
      generalize m_step m e r' kc ks lv st M = sr at h hp
      obtain ⟨t, c, ⟨s11, s12, s13, s14, s15, s16⟩, ⟨s21, s22, s23, s24, s25, s26⟩, m', as⟩ := sr
      obtain ⟨p2, p3⟩ := hp
      have p2 : KM M s16 := p2
      have p3 : KM M s26 := p3
      have g2 : s16.1 = 144 := p2.1.trans hf
      have g3 : s26.1 = 144 := p3.1.trans hf
      unfold m_disp at h
      match t, h with
      | 0, h => exact p2.tr (ih _ _ _ g2 h)
      | 1, h =>
        dsimp only at h
        cases hc : m_holdsB c
        · rw [hc] at h; exact p3.tr (ih _ _ _ g3 h)
        · rw [hc] at h; exact p2.tr (ih _ _ _ g2 h)
      | 2, h =>
        dsimp only at h
        cases hc : m_holdsB c
        · rw [hc] at h; cases h
        · rw [hc] at h; exact p2.tr (ih _ _ _ g2 h)
      | 3, h =>
        dsimp only at h
        cases hc : m_holdsB c
        · rw [hc] at h; cases h
        · rw [hc] at h
          obtain ⟨z, h1, h2⟩ := Option.bind_eq_some_iff.mp h
          have hz : KM s16 z.2 := by
            cases hm : Nat.beq m' mLman
            · rw [hm] at h1; exact ih m' (mcd m', 0, 0, m_ent 0 as, [], s16) z g2 h1
            · rw [hm] at h1; exact man_keep g2 (fun f q => ih _ f q) h1
          exact p2.tr (hz.tr (ih _ (s11, s12, s13, s14, z.1 ++ s15, z.2) _ (hz.1.trans g2) h2))
      | 4, h =>
        dsimp only at h
        cases hc : m_holdsB c
        · rw [hc] at h; cases h
        · rw [hc] at h
          have h : some (as, s16) = some q := h
          cases h
          exact p2
      | 5, h => exact p2.tr (ih _ (m_seek (mcd m) (m_sel (mSw m') c.2.1 c.1), s12, s13, s14, s15, s16) _ g2 h)
      | 6, h =>
        obtain ⟨z, h1, h2⟩ := Option.bind_eq_some_iff.mp h
        have hz : KM s16 z.2 := ih m' (mcd m', 0, 0, m_ent 0 as, [], s16) z g2 h1
        exact p2.tr (hz.tr (ih _ (s11, s12, s13, s14, z.1 ++ s15, z.2) _ (hz.1.trans g2) h2))
      | 7, h =>
        have h : some (as, s16) = some q := h
        cases h
        exact p2
      | t + 8, h => cases h
theorem call_keep {as : List mV} {Q : List mV → mM → Prop} (hM : M.1 = 144) (h : m_Call m as M Q) : m_Call m as M (fun v M' => KM M M' ∧ Q v M') := by
  obtain ⟨n, q, h1, h2⟩ := h
  exact ⟨n, q, h1, exec_keep n m (mcd m, 0, 0, m_ent 0 as, [], M) q hM h1, h2⟩
end BK
