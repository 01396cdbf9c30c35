/-! ===== .. step by step, and as a whole ===== -/
section CT
variable {Ls : Nat} {xs : Nat → Int}
theorem okm_lt {k : Nat} (h : okm k = true) : k < 259 ∧ ¬ k = 98 := by
  unfold okm at h
  rw [Bool.and_eq_true] at h
  refine ⟨Nat.le_of_ble_eq_true h.1, fun z => ?_⟩
  subst z
  cases h.2
theorem sr_step {m kc ks : Nat} {e : mE} {r : List mE} {lv : List (Nat × mV)} {st : List mV} {M M' : mM} (hm : ∀ e ∈ mcd m, okp e = true) (he : okp e = true) (h : RLs Ls xs M M') (hr : ∀ e ∈ r, okp e = true) : SRs Ls xs (m_step m e r kc ks lv st M) (m_step m e r kc ks lv st M') := by
  obtain ⟨pc, i, ln, e1, e2, e3, z⟩ := e
  cases i <;> first
    | exact sr_go h hr
    | exact sr_no
    | exact sr_go h (seek_all hm)
    | exact sr_bif (sr_go h hr) (sr_go h hr)
    | exact sr_ildx h hr
    | exact sr_lldx h hr
    | exact sr_aldx h hr
    | exact sr_istx h hr
    | exact sr_lstx h hr
    | exact sr_astx h hr
    | exact sr_bin h hr
    | exact sr_binL h hr
    | exact sr_getf h hr
    | exact sr_putf h hr he
    | exact sr_ald h hr
    | exact sr_ast h hr
    | exact sr_len h hr
    | exact sr_new h hr
    | exact sr_newa h hr
    | exact sr_special h hr he
    | exact sr_virtual h hr he
    | exact sr_static h hr he
    | (unfold m_step; dsimp only
       first
       | (rcases m_lk lv _ with _ | (y | y | y) <;> first | exact sr_no | exact sr_go h hr)
       | (rcases st with _ | ⟨(x | x | x), _ | ⟨(y | y | y), s⟩⟩ <;> first | exact sr_no | exact sr_go h hr | exact sr_if h hr | exact sr_mk h (seek_all hm) hr (fun z => by rcases z with z | z <;> cases z) | exact sr_mk h hr hr (fun z => by rcases z with z | z <;> cases z) | exact sr_bif (sr_mk h hr hr (fun z => by rcases z with z | z <;> cases z)) (sr_mk h hr hr (fun z => by rcases z with z | z <;> cases z))))
theorem exec_rl : ∀ (n m : Nat) (r : List mE) (kc ks : Nat) (lv : List (Nat × mV)) (st : List mV) (M M' : mM) (q : List mV × mM), okm m = true → (∀ e ∈ r, okp e = true) → RLs Ls xs M M' → m_exec n m (r, kc, ks, lv, st, M) = some q → ∃ M2, m_exec n m (r, kc, ks, lv, st, M') = some (q.1, M2) ∧ RLs Ls xs q.2 M2 := by
  intro n
  induction n with
  | zero => intro m r kc ks lv st M M' q _ _ _ h; cases h
  | succ n ih =>
    intro m r kc ks lv st M M' q hm hr hR h
    cases r with
    | nil => cases h
    | cons e r' =>
      have hcd := okp_cd (okm_lt hm).1
      have hp := sr_step (m := m) (e := e) (r := r') (kc := kc) (ks := ks) (lv := lv) (st := st) hcd (hr e List.mem_cons_self) hR (fun e' he => hr e' (List.mem_cons_of_mem _ he))
      rw [exec_disp] at h ⊢
      generalize m_step m e r' kc ks lv st M = sr at h hp
      generalize m_step m e r' kc ks lv st M' = sr' at hp ⊢
      obtain ⟨t, c, ⟨s11, s12, s13, s14, s15, s16⟩, ⟨s21, s22, s23, s24, s25, s26⟩, m', as⟩ := sr
      obtain ⟨t', c', ⟨u11, u12, u13, u14, u15, u16⟩, ⟨u21, u22, u23, u24, u25, u26⟩, m2', as'⟩ := sr'
      rcases hp with hp | ⟨p1, p2, ⟨a1, a2, a3, a4, a5, a6, a7⟩, ⟨b1, b2, b3, b4, b5, b6, b7⟩, p5, p6, p7⟩
      · have hp : t = 9 := hp
        subst hp
        cases h
      · have p1 : t' = t := p1
        have p2 : c' = c := p2
        have p5 : m2' = m' := p5
        have p6 : as' = as := p6
        have a1 : u11 = s11 := a1
        have a2 : u12 = s12 := a2
        have a3 : u13 = s13 := a3
        have a4 : u14 = s14 := a4
        have a5 : u15 = s15 := a5
        have b1 : u21 = s21 := b1
        have b2 : u22 = s22 := b2
        have b3 : u23 = s23 := b3
        have b4 : u24 = s24 := b4
        have b5 : u25 = s25 := b5
        subst p1 p2 p5 p6 a1 a2 a3 a4 a5 b1 b2 b3 b4 b5
        have a6 : RLs Ls xs s16 u16 := a6
        have b6 : RLs Ls xs s26 u26 := b6
        unfold m_disp at h ⊢
        match t', p7, h with
        | 0, p7, h => exact ih _ _ _ _ _ _ _ _ _ hm a7 a6 h
        | 1, p7, h =>
          dsimp only at h ⊢
          cases hc : m_holdsB c'
          · rw [hc] at h; exact ih _ _ _ _ _ _ _ _ _ hm b7 b6 h
          · rw [hc] at h; exact ih _ _ _ _ _ _ _ _ _ hm a7 a6 h
        | 2, p7, h =>
          dsimp only at h ⊢
          cases hc : m_holdsB c'
          · rw [hc] at h; cases h
          · rw [hc] at h; exact ih _ _ _ _ _ _ _ _ _ hm a7 a6 h
        | 3, p7, h =>
          dsimp only at h ⊢
          have hm' := p7 (Or.inl rfl)
          have hm' : okm m2' = true := hm'
          have hn98 : Nat.beq m2' mLman = false := by
            cases hz : Nat.beq m2' mLman
            · rfl
            · exact absurd (Nat.eq_of_beq_eq_true hz) (okm_lt hm').2
          cases hc : m_holdsB c'
          · rw [hc] at h; cases h
          · rw [hc, hn98] at h
            rw [hn98]
            obtain ⟨z, h1, h2⟩ := Option.bind_eq_some_iff.mp h
            obtain ⟨M2, k1, k2⟩ := ih m2' (mcd m2') 0 0 (m_ent 0 as') [] s16 u16 z hm' (okp_cd (okm_lt hm').1) a6 h1
            obtain ⟨M3, k3, k4⟩ := ih m u11 u12 u13 u14 (z.1 ++ u15) z.2 M2 q hm a7 k2 h2
            exact ⟨M3, Option.bind_eq_some_iff.mpr ⟨(z.1, M2), k1, k3⟩, k4⟩
        | 4, p7, h =>
          dsimp only at h ⊢
          cases hc : m_holdsB c'
          · rw [hc] at h; cases h
          · rw [hc] at h
            have h : some (as', s16) = some q := h
            cases h
            exact ⟨u16, rfl, a6⟩
        | 5, p7, h => exact ih m (m_seek (mcd m) (m_sel (mSw m2') c'.2.1 c'.1)) u12 u13 u14 u15 s16 u16 q hm (seek_all hcd) a6 h
        | 6, p7, h =>
          have hm' : okm m2' = true := p7 (Or.inr rfl)
          obtain ⟨z, h1, h2⟩ := Option.bind_eq_some_iff.mp h
          obtain ⟨M2, k1, k2⟩ := ih m2' (mcd m2') 0 0 (m_ent 0 as') [] s16 u16 z hm' (okp_cd (okm_lt hm').1) a6 h1
          obtain ⟨M3, k3, k4⟩ := ih m u11 u12 u13 u14 (z.1 ++ u15) z.2 M2 q hm a7 k2 h2
          exact ⟨M3, Option.bind_eq_some_iff.mpr ⟨(z.1, M2), k1, k3⟩, k4⟩
        | 7, p7, h =>
          have h : some (as', s16) = some q := h
          cases h
          exact ⟨u16, rfl, a6⟩
        | t + 8, p7, h => cases h
end CT
