/-! ===== calls ===== -/
def mW (m : Nat) : List Cond := Cond.code (mY m) (mB m) (mL m) (mRt m) :: gT
def mRm (m : Nat) : Room := { frames := mFr m, cells := mC m, slots := mS m, locals := mLo m }
def QR (G : mGl) (q : List mV × mM) : Array Value → State → Outcome → State → Prop := match q.1 with
  | [] => va_Qv (S := Unit) (fun _ => True) (fun _ t => Wd G q.2 t) (g_A G)
  | [.inl x] => va_Qi (S := Unit) (fun v _ => v = Int32.ofInt x ∧ wr x = x) (fun _ t => Wd G q.2 t) (g_A G)
  | [.inr (.inl x)] => va_Ql (S := Unit) (fun v _ => v = Int64.ofInt x ∧ wl x = x) (fun _ t => Wd G q.2 t) (g_A G)
  | _ => fun _ _ _ _ => False
/-- a method's contract: from the memory M with the arguments as, it answers q -/
def Con (G : mGl) (l : Launch) (m : Nat) (as : List mV) (M : mM) (q : List mV × mM) : Prop := Met l (mY m) (mW m) (mRm m) (va_Pc (as.map (tr G)) (Wd G M)) (QR G q) (mC m) (mS m) (g_A G)
theorem Wd.moved {G : mGl} (hG : StrOK G) {M : mM} {s U : State} (h : Base G s) (hW : s.WarmedH U.vm) {H : Heap} {locs : List Loc} (hU : U.heap = H) (hm : wfM G M) (hP : va_P (g_D G) vwCl (wsM G M) H) (hD : va_D (g_A G) (wsM G M)) (hS : va_S (g_A G) s.heap H locs) (hz : M.1 < 144 → H.size = g_z G + (M.1 - 2)) : Wd G M U := by
  subst hU
  exact ⟨h.moved hG hW hS.1 hS.2.1, hm, hP, hD, hz⟩
theorem Wd.blind {G : mGl} (hG : StrOK G) {M : mM} {as : List Value} : FrameBlind (va_Pc as (Wd G M)) := by
  intro a U g mk h
  obtain ⟨h1, h2, h3, h4, h5, h6⟩ := h
  exact ⟨h1, Base.moved hG h2 (State.WarmedH.refl U) (Nat.le_refl _) (fun _ _ _ => rfl), h3, h4, h5, h6⟩
theorem pop_spec : ∀ (n : Nat) {st acc as s' : List mV}, m_pop n st acc = some (as, s') → ∃ pre : List mV, st = pre ++ s' ∧ as = pre.reverse ++ acc ∧ pre.length = n := by
  intro n
  induction n with
  | zero =>
    intro st acc as s' h
    cases h
    exact ⟨[], rfl, rfl, rfl⟩
  | succ n ih =>
    intro st acc as s' h
    cases st with
    | nil => cases h
    | cons v st =>
      obtain ⟨pre, h1, h2, h3⟩ := ih (show m_pop n st (v :: acc) = some (as, s') from h)
      exact ⟨v :: pre, by rw [h1]; rfl, by rw [h2]; simp, by simp [h3]⟩
theorem cats_eq (G : mGl) : ∀ st : List mV, ((st.map (tr G)).map fun v => v.category).sum = m_cats st := by
  intro st
  induction st with
  | nil => rfl
  | cons v t ih =>
    simp only [List.map_cons, List.sum_cons, m_cats, ih]
    cases h : m_isL v
    · rw [tr_cat v h]; rfl
    · rw [tr_catL v h]; rfl
theorem gG : GoodIn gT gT := fun _ h => ⟨h, good_of_word (gT_good h)⟩
theorem mW_good {m : Nat} (h : m_okC m) : GoodIn gT (mW m) := by
  intro w hw
  rcases List.mem_cons.mp hw with rfl | hw
  · exact gG _ h
  · exact gG _ hw
section CL1
variable {p : Program} {l : Launch} {e : Env} {R : Room} {s : State} {m : MethodId} {args : Array Value} {below : List Frame} {meth : Method} {c : Code} {Q : State → Prop} {G : mGl} {mid n : Nat} {q q1 : List mV × mM} {r : List mE} {pc kc ks : Nat} {lv : List (Nat × mV)} {st st' : List mV} {M : mM} {H : Heap} {locs : List Loc} {ls : Array Slot}
/-- behind a call: the answer on the stack, the memory as the callee left it -/
theorem s_back {a : Array Value} {c1 : Nat} {stv : List Value} (hC : Ctx G mid p R s m args meth c) (hF : Frm G mid s kc ks lv st M H locs ls) (hst : ∀ v ∈ st', wfV v) (hr1 : kc + mC c1 ≤ mC mid) (hr2 : ks + mS c1 ≤ mS mid)
    (hrun : va_Run p l e R s m args below meth c H locs kc ks (mC c1) (mS c1) (F0 m pc ls stv) (st'.map (tr G)) (QR G q1 a) (g_A G))
    (go : GoP p l e R s m args below meth c Q G mid n q r (pc + 3)) (h : m_exec n mid (r, kc + mC c1, ks + mS c1, lv, q1.1 ++ st', q1.2) = some q) : W p l e R s m args below meth c H locs kc ks Q (F0 m pc ls stv) := by
  obtain ⟨f1, f2, f3, f4, f5, f6, f7, f8, f9⟩ := hF
  obtain ⟨res, M'⟩ := q1
  have fin : ∀ (H1 : Heap) (locs1 : List Loc) (t : State), t.heap = H1 → Wd G M' t → va_S (g_A G) s.heap H1 locs1 → (∀ v ∈ res, wfV v) → W p l e R s m args below meth c H1 locs1 (kc + mC c1) (ks + mS c1) Q (F0 m (pc + 3) ls ((res ++ st').map (tr G))) := by
    intro H1 locs1 t ht hW hS hres
    subst ht
    obtain ⟨-, w2, w3, w4, w5⟩ := hW
    exact go _ _ _ _ _ _ _ _ h ⟨f1, f2, fun v hv => (List.mem_append.mp hv).elim (hres v) (hst v), w2, w3, w4, hS, w5, hr1, hr2⟩
  match res, hrun, fin with
  | [], hrun, fin =>
    exact va_callv (a := a) (S := Unit) hrun f7 (fun _ _ z => z) (fun _ z => z) (fun u t H1 locs1 ht _ _ hB _ _ hS => fin H1 locs1 t ht hB hS (fun v hv => by cases hv))
  | [.inl x], hrun, fin =>
    refine va_calli (a := a) (S := Unit) hrun f7 (fun _ _ z => z) (fun _ z => z) (fun v u t H1 locs1 ht _ hp hB _ _ hS => ?_)
    obtain ⟨rfl, hw⟩ := hp
    exact fin H1 locs1 t ht hB hS (fun v hv => by rw [List.mem_singleton.mp hv]; exact hw)
  | [.inr (.inl x)], hrun, fin =>
    refine va_calll (a := a) (S := Unit) hrun f7 (fun _ _ z => z) (fun _ z => z) (fun v u t H1 locs1 ht _ hp hB _ _ hS => ?_)
    obtain ⟨rfl, hw⟩ := hp
    exact fin H1 locs1 t ht hB hS (fun v hv => by rw [List.mem_singleton.mp hv]; exact hw)
  | [.inr (.inr x)], hrun, fin =>
    intro T hT X
    obtain ⟨v, st0, t, T', L, -, -, -, -, -, hf, -⟩ := hrun T hT X
    exact hf.elim
  | a :: b :: t, hrun, fin =>
    intro T hT X
    obtain ⟨v, st0, t, T', L, -, -, -, -, -, hf, -⟩ := hrun T hT X
    exact (show False from by
      unfold QR at hf
      rcases a with a | a | a <;> exact hf).elim
theorem s_cb {c1 idx : Nat} (hN : m_okN c1 = true) (hO : m_okC c1) (hC : Ctx G mid p R s m args meth c) (hr : m_okRoom mid c1 = true) (hlink : (Cond.methodLink (mY mid).cls idx (mY c1)).before args s = true) : CallB R s args (mY mid).cls idx (mY c1) (mB c1) (mL c1) (mRt c1) (mW c1) (mRm c1) (mC c1) (mS c1) (mN c1) := by
  obtain ⟨hx, hb, hml, hown, hts, hR, hin2, hB⟩ := hC
  unfold m_okN at hN
  simp only [Bool.and_eq_true, decide_eq_true_eq] at hN
  unfold m_okRoom at hr
  simp only [Bool.and_eq_true] at hr
  have r1 := Nat.le_of_ble_eq_true hr.1
  have r2 := Nat.le_of_ble_eq_true hr.2
  exact callB_of (mN c1) hts (mW_good hO) rfl rfl rfl (hts _ (m_has_in hN.1.1.1.1.1)) hlink ⟨hN.1.1.1.2, hN.1.1.2, hN.1.2⟩ ⟨Nat.le_trans r1 hR.2.2.1, Nat.le_trans r2 hR.2.2.2⟩
theorem s_ev (hC : Ctx G mid p R s m args meth c) (hG : StrOK G) (hF : Frm G mid s kc ks lv st M H locs ls) : ∀ U : State, U.heap = H → s.WarmedH U.vm → Wd G M U := fun U hU hW => Wd.moved hG hC.2.2.2.2.2.2.2 hW hU hF.2.2.2.1 hF.2.2.2.2.1 hF.2.2.2.2.2.1 hF.2.2.2.2.2.2.1 hF.2.2.2.2.2.2.2.1
theorem s_callV {c1 idx kd e2 : Nat} {as : List mV} (hG : StrOK G) (hN : m_okN c1 = true) (hO : m_okC c1) (hst : mSt c1 = false) (hni : ¬ (mY c1).name = "<init>") (hC : Ctx G mid p R s m args meth c) (hr : m_okRoom mid c1 = true) (hw : Cond.methodLink (mY mid).cls idx (mY c1) ∈ gT) (hd : decode (mB mid) pc = .ok (.invokevirtual idx, 3)) (hkd : 4 ≤ kd ∧ kd < 15) (hcl : (m_cl (kd - 4)).1 = (mY c1).cls) (he2 : e2 = mN c1 + 1)
    (hpop : m_pop e2 st [] = some (as, st')) (hck : m_ckV kd M as = true) (hcat : m_cats st' ≤ 8) (hF : Frm G mid s kc ks lv st M H locs ls) (hr1 : kc + mC c1 ≤ mC mid) (hr2 : ks + mS c1 ≤ mS mid) (hM : Con G l c1 as M q1)
    (go : GoP p l e R s m args below meth c Q G mid n q r (pc + 3)) (h : m_exec n mid (r, kc + mC c1, ks + mS c1, lv, q1.1 ++ st', q1.2) = some q) : W p l e R s m args below meth c H locs kc ks Q (F0 m pc ls (st.map (tr G))) := by
  obtain ⟨hx, hb, hml, hown, hts, hR, hin2, hB⟩ := id hC
  obtain ⟨nn, sh, RR, I, L⟩ := M
  rcases as with _ | ⟨(k | k | (_ | _ | k)), as'⟩ <;> first | (cases hck; done) | skip
  · have hck : Nat.beq (sh (k + 2)).1 kd = true := hck
    have hsh := Nat.eq_of_beq_eq_true hck
    obtain ⟨pre, h1, h2, h3⟩ := pop_spec _ hpop
    rw [List.append_nil] at h2
    have hpre : pre = as'.reverse ++ [.inr (.inr (k + 2))] := by
      have := congrArg List.reverse h2
      rw [List.reverse_reverse, List.reverse_cons] at this
      exact this.symm
    have hlen : as'.length = mN c1 := by
      have := congrArg List.length hpre
      rw [h3, he2] at this
      simp at this
      omega
    have hlt : k + 2 < nn := (wf_in (M := (nn, sh, RR, I, L)) hF.2.2.2.1 (by show (sh (k + 2)).1 < 15; omega)).1
    have hci : kd - 4 < 11 := by omega
    have hrecv := va_recv (D := g_D G) hB.1 hF.2.2.2.2.1 (ci := kd - 4) (q0 := k) (cl_get _ hci) (by rw [wsM_get hlt, ent_obj (c := kd - 4) (by show (sh (k + 2)).1 = _; omega)])
    rw [hcl] at hrecv
    have hN2 := hN
    unfold m_okN at hN2
    simp only [Bool.and_eq_true, decide_eq_true_eq, hst, cond_false, Bool.or_eq_true] at hN2
    have hsel : Cond.selects (mY c1).cls (mY c1) (mY c1) ∈ gT := by
      rcases hN2.1.1.1.1.2.2 with z | z
      · exact absurd z hni
      · exact m_has_in z
    have hrun := va_runV (l := l) (e := e) (below := below) (meth := meth) (b := g_a G k) (As := as'.map (tr G)) (rest := st'.map (tr G)) (H := H) (locs := locs) (cells := kc) (slots := ks) (g := F0 m pc ls (st.map (tr G))) ⟨hx, hb, hml, hown, hts⟩ hM ⟨s_cb hN hO hC hr (hts _ hw), hts _ (m_has_in hN2.1.1.1.1.2.1), hts _ hsel⟩
      ⟨Wd.blind hG, hrecv, fun U hU hW => ⟨rfl, s_ev hC hG hF U hU hW⟩⟩ rfl (by rw [List.length_map]; exact hlen) hF.1.1 (by
        show st.map (tr G) = _
        rw [h1, hpre]
        simp only [List.map_append, List.map_reverse, List.map_cons, List.map_nil, List.append_assoc]
        rfl) (lv_room (by rw [cats_eq]; exact hcat)) hd ⟨by rw [hR.1]; exact hr1, by rw [hR.2.1]; exact hr2⟩
    exact s_back hC hF (fun v hv => hF.2.2.1 v (by rw [h1]; exact List.mem_append_right _ hv)) hr1 hr2 hrun go h
theorem s_callS {c1 idx e2 : Nat} {as : List mV} (hG : StrOK G) (hN : m_okN c1 = true) (hO : m_okC c1) (hst : mSt c1 = true) (hC : Ctx G mid p R s m args meth c) (hr : m_okRoom mid c1 = true) (hw : Cond.methodLink (mY mid).cls idx (mY c1) ∈ gT) (hd : decode (mB mid) pc = .ok (.invokestatic idx, 3)) (he2 : e2 = mN c1)
    (hpop : m_pop e2 st [] = some (as, st')) (hcat : m_cats st' ≤ 8) (hF : Frm G mid s kc ks lv st M H locs ls) (hr1 : kc + mC c1 ≤ mC mid) (hr2 : ks + mS c1 ≤ mS mid) (hM : Con G l c1 as M q1)
    (go : GoP p l e R s m args below meth c Q G mid n q r (pc + 3)) (h : m_exec n mid (r, kc + mC c1, ks + mS c1, lv, q1.1 ++ st', q1.2) = some q) : W p l e R s m args below meth c H locs kc ks Q (F0 m pc ls (st.map (tr G))) := by
  obtain ⟨hx, hb, hml, hown, hts, hR, hin2, hB⟩ := id hC
  obtain ⟨pre, h1, h2, h3⟩ := pop_spec _ hpop
  rw [List.append_nil] at h2
  have hpre : pre = as.reverse := by rw [h2, List.reverse_reverse]
  have hlen : as.length = mN c1 := by rw [h2, List.length_reverse, h3, he2]
  have hN2 := hN
  unfold m_okN at hN2
  simp only [Bool.and_eq_true, decide_eq_true_eq, hst, cond_true] at hN2
  have hrun := va_runS (l := l) (e := e) (below := below) (meth := meth) (As := as.map (tr G)) (rest := st'.map (tr G)) (H := H) (locs := locs) (cells := kc) (slots := ks) (g := F0 m pc ls (st.map (tr G))) ⟨hx, hb, hml, hown, hts⟩ hM ⟨s_cb hN hO hC hr (hts _ hw), hts _ (m_has_in hN2.1.1.1.1.2)⟩
    ⟨Wd.blind hG, fun U hU hW => ⟨rfl, s_ev hC hG hF U hU hW⟩⟩ rfl (by rw [List.length_map]; exact hlen) hF.1.1 (by
      show st.map (tr G) = _
      rw [h1, hpre]
      simp only [List.map_append, List.map_reverse]) (lv_room (by rw [cats_eq]; exact hcat)) hd ⟨by rw [hR.1]; exact hr1, by rw [hR.2.1]; exact hr2⟩
  exact s_back hC hF (fun v hv => hF.2.2.1 v (by rw [h1]; exact List.mem_append_right _ hv)) hr1 hr2 hrun go h
theorem s_cn {c1 idx : Nat} (hN : m_okN c1 = true) (hO : m_okC c1) (hC : Ctx G mid p R s m args meth c) (hr : m_okRoom mid c1 = true) (hlink : va_Nw (.methodLinkNest (mY mid).cls idx (mY c1) "SpeakClock") s) : va_CN R s args (mY mid).cls idx (mY c1) "SpeakClock" (mB c1) (mL c1) (mRt c1) (mW c1) (mRm c1) (mC c1) (mS c1) (mN c1) := by
  obtain ⟨hx, hb, hml, hown, hts, hR, hin2, hB⟩ := hC
  unfold m_okN at hN
  simp only [Bool.and_eq_true, decide_eq_true_eq] at hN
  unfold m_okRoom at hr
  simp only [Bool.and_eq_true] at hr
  have r1 := Nat.le_of_ble_eq_true hr.1
  have r2 := Nat.le_of_ble_eq_true hr.2
  exact va_cnB (mN c1) hts (mW_good hO) rfl rfl rfl hlink (hts _ (m_has_in hN.1.1.1.1.1)) ⟨hN.1.1.1.2, hN.1.1.2, hN.1.2⟩ ⟨Nat.le_trans r1 hR.2.2.1, Nat.le_trans r2 hR.2.2.2⟩
theorem nst_in {w : Cond} (h : w ∈ lw_tbl) (hb : nstB w = true) : w ∈ nstW := List.mem_filter.mpr ⟨h, hb⟩
theorem s_callSN {c1 idx e2 : Nat} {as : List mV} (hG : StrOK G) (hN : m_okN c1 = true) (hO : m_okC c1) (hst : mSt c1 = true) (hC : Ctx G mid p R s m args meth c) (hr : m_okRoom mid c1 = true) (hw : Cond.methodLinkNest (mY mid).cls idx (mY c1) "SpeakClock" ∈ lw_tbl) (hd : decode (mB mid) pc = .ok (.invokestatic idx, 3)) (he2 : e2 = mN c1)
    (hpop : m_pop e2 st [] = some (as, st')) (hcat : m_cats st' ≤ 8) (hF : Frm G mid s kc ks lv st M H locs ls) (hr1 : kc + mC c1 ≤ mC mid) (hr2 : ks + mS c1 ≤ mS mid) (hM : Con G l c1 as M q1)
    (go : GoP p l e R s m args below meth c Q G mid n q r (pc + 3)) (h : m_exec n mid (r, kc + mC c1, ks + mS c1, lv, q1.1 ++ st', q1.2) = some q) : W p l e R s m args below meth c H locs kc ks Q (F0 m pc ls (st.map (tr G))) := by
  obtain ⟨hx, hb, hml, hown, hts, hR, hin2, hB⟩ := id hC
  obtain ⟨pre, h1, h2, h3⟩ := pop_spec _ hpop
  rw [List.append_nil] at h2
  have hpre : pre = as.reverse := by rw [h2, List.reverse_reverse]
  have hlen : as.length = mN c1 := by rw [h2, List.length_reverse, h3, he2]
  have hN2 := hN
  unfold m_okN at hN2
  simp only [Bool.and_eq_true, decide_eq_true_eq, hst, cond_true] at hN2
  have hrun := va_runSN (l := l) (e := e) (below := below) (meth := meth) (As := as.map (tr G)) (rest := st'.map (tr G)) (H := H) (locs := locs) (cells := kc) (slots := ks) (g := F0 m pc ls (st.map (tr G))) ⟨hx, hb, hml, hown, hts⟩ hM ⟨s_cn hN hO hC hr (hB.2.2.2.2.1 _ (nst_in hw rfl)), hts _ (m_has_in hN2.1.1.1.1.2), trivial⟩
    ⟨Wd.blind hG, fun U hU hW => ⟨rfl, s_ev hC hG hF U hU hW⟩⟩ rfl (by rw [List.length_map]; exact hlen) hF.1.1 (by
      show st.map (tr G) = _
      rw [h1, hpre]
      simp only [List.map_append, List.map_reverse]) (lv_room (by rw [cats_eq]; exact hcat)) hd ⟨by rw [hR.1]; exact hr1, by rw [hR.2.1]; exact hr2⟩
  exact s_back hC hF (fun v hv => hF.2.2.1 v (by rw [h1]; exact List.mem_append_right _ hv)) hr1 hr2 hrun go h
theorem s_callI {c1 idx e2 : Nat} {as : List mV} (hG : StrOK G) (hN : m_okN c1 = true) (hO : m_okC c1) (hst : mSt c1 = false) (hni : (mY c1).name = "<init>") (hrt : mRt c1 = none) (hC : Ctx G mid p R s m args meth c) (hr : m_okRoom mid c1 = true) (hw : Cond.methodLink (mY mid).cls idx (mY c1) ∈ gT ∨ Cond.methodLinkNest (mY mid).cls idx (mY c1) "SpeakClock" ∈ lw_tbl) (hd : decode (mB mid) pc = .ok (.invokespecial idx, 3)) (he2 : e2 = mN c1 + 1)
    (hpop : m_pop e2 st [] = some (as, st')) (hck : m_ckI as = true) (hcat : m_cats st' ≤ 8) (hF : Frm G mid s kc ks lv st M H locs ls) (hr1 : kc + mC c1 ≤ mC mid) (hr2 : ks + mS c1 ≤ mS mid) (hM : Con G l c1 as M q1)
    (go : GoP p l e R s m args below meth c Q G mid n q r (pc + 3)) (h : m_exec n mid (r, kc + mC c1, ks + mS c1, lv, q1.1 ++ st', q1.2) = some q) : W p l e R s m args below meth c H locs kc ks Q (F0 m pc ls (st.map (tr G))) := by
  obtain ⟨hx, hb, hml, hown, hts, hR, hin2, hB⟩ := id hC
  rcases as with _ | ⟨(k | k | (_ | _ | k)), as'⟩ <;> first | (cases hck; done) | skip
  · skip
    obtain ⟨pre, h1, h2, h3⟩ := pop_spec _ hpop
    rw [List.append_nil] at h2
    have hpre : pre = as'.reverse ++ [.inr (.inr (k + 2))] := by
      have := congrArg List.reverse h2
      rw [List.reverse_reverse, List.reverse_cons] at this
      exact this.symm
    have hlen : as'.length = mN c1 := by
      have := congrArg List.length hpre
      rw [h3, he2] at this
      simp at this
      omega
    have hN2 := hN
    unfold m_okN at hN2
    simp only [Bool.and_eq_true, decide_eq_true_eq, hst, cond_false, Bool.or_eq_true] at hN2
    have hstk : (F0 m pc ls (st.map (tr G))).stack = (as'.map (tr G)).reverse ++ .ref (g_a G k) :: st'.map (tr G) := by
      show st.map (tr G) = _
      rw [h1, hpre]
      simp only [List.map_append, List.map_reverse, List.map_cons, List.map_nil, List.append_assoc]
      rfl
    rcases hw with hw | hw
    · have hcb := s_cb hN hO hC hr (hts _ hw)
      rw [hrt] at hcb
      have hrun := va_runI (l := l) (e := e) (below := below) (meth := meth) (b := g_a G k) (As := as'.map (tr G)) (rest := st'.map (tr G)) (H := H) (locs := locs) (cells := kc) (slots := ks) (g := F0 m pc ls (st.map (tr G))) ⟨hx, hb, hml, hown, hts⟩ hM ⟨hcb, hni, hts _ (m_has_in hN2.1.1.1.1.2.1)⟩
        ⟨Wd.blind hG, fun U hU hW => ⟨rfl, s_ev hC hG hF U hU hW⟩⟩ rfl (by rw [List.length_map]; exact hlen) hF.1.1 hstk (lv_room (by rw [cats_eq]; exact hcat)) hd ⟨by rw [hR.1]; exact hr1, by rw [hR.2.1]; exact hr2⟩
      exact s_back hC hF (fun v hv => hF.2.2.1 v (by rw [h1]; exact List.mem_append_right _ hv)) hr1 hr2 hrun go h
    · have hcb := s_cn hN hO hC hr (hB.2.2.2.2.1 _ (nst_in hw rfl))
      rw [hrt] at hcb
      have hrun := va_runIN (l := l) (e := e) (below := below) (meth := meth) (b := g_a G k) (As := as'.map (tr G)) (rest := st'.map (tr G)) (H := H) (locs := locs) (cells := kc) (slots := ks) (g := F0 m pc ls (st.map (tr G))) ⟨hx, hb, hml, hown, hts⟩ hM ⟨hcb, hni, hts _ (m_has_in hN2.1.1.1.1.2.1)⟩
        ⟨Wd.blind hG, fun U hU hW => ⟨rfl, s_ev hC hG hF U hU hW⟩⟩ rfl (by rw [List.length_map]; exact hlen) hF.1.1 hstk (lv_room (by rw [cats_eq]; exact hcat)) hd ⟨by rw [hR.1]; exact hr1, by rw [hR.2.1]; exact hr2⟩
      exact s_back hC hF (fun v hv => hF.2.2.1 v (by rw [h1]; exact List.mem_append_right _ hv)) hr1 hr2 hrun go h
end CL1
