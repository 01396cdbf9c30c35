/-! ===== the law's own man: it catches ===== -/
theorem met_ofWH {l : Launch} {y : MethodName} {ws ws' : List Cond} {rm : Room} {Pc : Array Value → State → Prop} {Qc : Array Value → State → Outcome → State → Prop} {mc ms : Nat} {free : Addr → Prop} {cc : ByteArray} {maxL : Nat} {ret : Option FieldType} {hh : List (Nat × Nat × Nat × Nat)}
    (hy : plainName y.cls = true) (hw : ws = Cond.codeWith y cc maxL ret hh :: ws')
    (body : ∀ p e s m args below meth c s₁, BodyLoose p l y (headSpec ws rm) cc maxL ret e s m args below meth c s₁ → c.maxLocals = maxL → Pc args s →
      W p l e (headSpec ws rm).room s m args below meth c s.heap [] 0 0 (MQ below Qc args s mc ms free) (entryFrame m args maxL)) : Met l y ws rm Pc Qc mc ms free := by
  refine MetFree.of_bodyS (code := cc) (maxLocals := maxL) (ret := ret) hy ?_ ?_
  · intro args s m h hn
    obtain ⟨m9, meth, c, hn9, h1, h2, h3, h4, -, h5, h6, -⟩ := Cond.codeWith_spec (atoms_spec (ws := ws) h _ (by rw [hw]; exact List.mem_cons_self))
    cases hn.symm.trans hn9
    exact ⟨meth, c, h1, h2, h3, h4, h5, h6⟩
  · intro p e s m args below meth c s₁ B hml hP _
    have hh0 : s₁.heap = s.heap := by rw [B.state]; rfl
    obtain ⟨t, a1, o, b1, b2, b3⟩ := body p e s m args below meth c s₁ B hml hP s₁ hh0 (Stand.of_body B)
    exact ⟨t, o, a1, b1, b2, b3⟩
def lmH : List (Nat × Nat × Nat × Nat) := [(0, 10, 13, 13), (0, 10, 17, 15)]
def lmW : List Cond := Cond.codeWith (mY 98) (mB 98) 5 (some .int) lmH :: gT
theorem lm_code : Cond.codeWith (mY 98) (mB 98) 5 (some .int) lmH ∈ gT := m_has_in (p := 50137) (by decide +kernel)
theorem lmW_good : GoodIn gT lmW := by
  intro w hw
  rcases List.mem_cons.mp hw with rfl | hw
  · exact gG _ lm_code
  · exact gG _ hw
theorem man_cases {ex : mF → mO} {as : List mV} {M : mM} {q : List mV × mM} (h : m_man ex as M = some q) : ∃ (x o : Nat) (a b : Int) (sh : Nat → Nat × Nat) (RR : Nat → Nat → Nat) (I L : Nat → Nat → Int), as = [.inr (.inr (x + 2)), .inl a, .inl b, .inr (.inr (o + 2))] ∧ M = (144, sh, RR, I, L) ∧ (sh (x + 2)).1 = 13 ∧ (sh (RR (x + 2) 9)).1 = 9 ∧ (sh (o + 2)).1 = 1 ∧ (sh (o + 2)).2 = 1 ∧
    (((0 ≤ a ∧ a < I (RR (x + 2) 9) 13) ∧ (0 ≤ b ∧ b ≤ 7) ∧ ∃ (v : Int) (n' : Nat) (sh' : Nat → Nat × Nat) (R' : Nat → Nat → Nat) (I' L' : Nat → Nat → Int), ex (mcd mMan, 0, 0, m_ent 0 [.inr (.inr (x + 2)), .inl a, .inl b], [], (144, sh, RR, I, L)) = some ([.inl v], (n', sh', R', I', L')) ∧ q = ([.inl 0], (n', sh', R', I', mup L' (o + 2) 0 v))) ∨
     (¬ (0 ≤ a ∧ a < I (RR (x + 2) 9) 13) ∧ q = ([.inl 1], (144, sh, RR, I, L))) ∨ ((0 ≤ a ∧ a < I (RR (x + 2) 9) 13) ∧ ¬ (0 ≤ b ∧ b ≤ 7) ∧ q = ([.inl 2], (144, sh, RR, I, L)))) := by
  unfold m_man at h
  split at h
  · next x a b o n sh R I L =>
    try dsimp only at h
    cases c1 : (Nat.beq n 144 && Nat.beq (sh (x + 2)).1 13 && Nat.beq (sh (R (x + 2) 9)).1 9 && Nat.beq (sh (o + 2)).1 1 && Nat.beq (sh (o + 2)).2 1)
    · rw [c1] at h; cases h
    · rw [c1] at h
      try dsimp only [cond_true] at h
      simp only [Bool.and_eq_true] at c1
      have hn := Nat.eq_of_beq_eq_true c1.1.1.1.1
      subst hn
      refine ⟨x, o, a, b, sh, R, I, L, rfl, rfl, Nat.eq_of_beq_eq_true c1.1.1.1.2, Nat.eq_of_beq_eq_true c1.1.1.2, Nat.eq_of_beq_eq_true c1.1.2, Nat.eq_of_beq_eq_true c1.2, ?_⟩
      cases c2 : decide (0 ≤ a ∧ a < I (R (x + 2) 9) 13)
      · rw [c2] at h; cases h; exact Or.inr (Or.inl ⟨of_decide_eq_false c2, rfl⟩)
      · rw [c2] at h
        try dsimp only [cond_true] at h
        cases c3 : decide (0 ≤ b ∧ b ≤ 7)
        · rw [c3] at h; cases h; exact Or.inr (Or.inr ⟨of_decide_eq_true c2, of_decide_eq_false c3, rfl⟩)
        · rw [c3] at h
          try dsimp only [cond_true] at h
          obtain ⟨z, h1, h2⟩ := Option.bind_eq_some_iff.mp h
          split at h2
          · next v n' sh' R' I' L' => cases h2; exact Or.inl ⟨of_decide_eq_true c2, of_decide_eq_true c3, v, n', sh', R', I', L', h1, rfl⟩
          · cases h2
  · cases h
theorem ret_exec {r : mE} {mid kc ks : Nat} {lv : List (Nat × mV)} {st : List mV} {M M2 : mM} (hr : r = (0, .return_, 1, 0, 0, 0, 0)) (h : m_exec 1 mid ([r], kc, ks, lv, st, M) = some ([], M2)) : st = [] ∧ M = M2 := by
  subst hr
  cases st with
  | nil => exact ⟨rfl, (Prod.mk.inj (Option.some.inj (show some (([] : List mV), M) = some ([], M2) from h))).2⟩
  | cons a b => exact noEx h
section BL
variable {G : mGl} {l : Launch} {n : Nat} {aV aP aW : Nat}
theorem pLman (hl0 : l.stackTraces = false) (hs : StrIs G aV aP aW) (hS2 : S2 G l n) {as : List mV} {M : mM} {q : List mV × mM} (hwf : ∀ v ∈ as, wfV v) (h : m_man (m_exec n mMan) as M = some q) : Met l (mY 98) lmW (mRm 98) (va_Pc (as.map (tr G)) (Wd G M)) (QR G q) 1 6 (g_A G) := by
  have hG := str_ok hs
  obtain ⟨x, o, a, b, sh, RR, I, L, rfl, rfl, h13, h9, ho1, ho2, hcs⟩ := man_cases h
  have hwa : wr a = a := hwf (.inl a) (by simp)
  have hwb : wr b = b := hwf (.inl b) (by simp)
  refine met_ofWH (cc := mB 98) (maxL := 5) (ret := some .int) (hh := lmH) (by decide +kernel) rfl ?_
  intro p e s m args below meth c s₁ B hml hv
  obtain ⟨rfl, hB, hm, hP, hD, hz⟩ := hv
  have hts0 := atoms_spec (ws := lmW) B.pre
  have hts : ∀ w ∈ gT, w.before (([.inr (.inr (x + 2)), .inl a, .inl b, .inr (.inr (o + 2))] : List mV).map (tr G)).toArray s = true := fun w hw => hts0 w (List.mem_cons_of_mem _ hw)
  have htab := vx_table (x := mY 98) B (hts0 _ List.mem_cons_self)
  have hown : s.vm.findClass "SpeakClockLaw" = some m.cls := findClass_of_methodNamed B.named
  have hx := B.exec
  have hb := B.bytes
  have hr : meth.sig.returnType = some .int := B.returns
  have hlocks := B.notSynchronized
  have hstr := hB.2.2.2.2.2
  rw [hs] at hstr
  have hl := lv_entry (([.inr (.inr (x + 2)), .inl a, .inl b, .inr (.inr (o + 2))] : List mV).map (tr G)) (n := 5) (by rw [sl_len]; exact Nat.le_of_ble_eq_true rfl)
  rw [lg_entry_eq]
  generalize (lg_sl (([.inr (.inr (x + 2)), .inl a, .inl b, .inr (.inr (o + 2))] : List mV).map (tr G)) ++ List.replicate (5 - (lg_sl (([.inr (.inr (x + 2)), .inl a, .inl b, .inr (.inr (o + 2))] : List mV).map (tr G))).length) Slot.unset).toArray = ls at hl ⊢
  have hl : lv_has ls 5 [(0, .ref (g_a G x)), (1, .int (Int32.ofInt a)), (2, .int (Int32.ofInt b)), (3, .ref (g_a G o))] := hl
  have hS : va_S (g_A G) s.heap s.heap [] := va_S.rf
  have hlt : x + 2 < 144 := (wf_in (M := (144, sh, RR, I, L)) hm (by show (sh (x + 2)).1 < 15; omega)).1
  have hrecv := va_recv (D := g_D G) hB.1 hP (ci := 9) (q0 := x) (cl_get 9 (by decide)) (by rw [wsM_get (M := (144, sh, RR, I, L)) hlt, ent_obj (c := 9) (by show (sh (x + 2)).1 = _; omega)])
  refine lv_aload_n hx hb (show decode (mB 98) 0 = .ok (.aload_n 3, 1) by decide +kernel) rfl (lv_at hl 3 rfl) ?_
  refine lv_iconst (v := 0) hx hb (show decode (mB 98) 1 = .ok (.iconst 0, 1) by decide +kernel) (by decide) ?_
  refine lv_aload_n hx hb (show decode (mB 98) 2 = .ok (.aload_n 0, 1) by decide +kernel) rfl (lv_at hl 0 rfl) ?_
  refine lv_iload_n hx hb (show decode (mB 98) 3 = .ok (.iload_n 1, 1) by decide +kernel) rfl (lv_at hl 1 rfl) ?_
  refine lv_iload_n hx hb (show decode (mB 98) 4 = .ok (.iload_n 2, 1) by decide +kernel) rfl (lv_at hl 2 rfl) ?_
  have d5 : decode (mB 98) 5 = .ok (.invokevirtual 7, 3) := by decide +kernel
  have hlink := hts (.methodLink "SpeakClockLaw" 7 (mY 97)) (m_has_in (p := 50140) (by decide +kernel))
  have hinst := hts (.instanceMethod (mY 97)) (m_has_in (p := 50141) (by decide +kernel))
  have hsel := hts (.selects "SpeakClock" (mY 97) (mY 97)) (m_has_in (p := 50142) (by decide +kernel))
  have hini := hts (.initialized (mY 97).cls) (m_has_in (p := 10001) (by decide +kernel))
  have hgood := mW_good (okM_all 97 (by decide) (by decide) (by decide)).2
  /- where the call throws: the handler answers k -/
  have thrown : ∀ (E : String) (k : Int) (q' : List mV × mM), q' = ([.inl k], (144, sh, RR, I, L)) → wr k = k → ((¬ (0 ≤ a ∧ a < I (RR (x + 2) 9) 13) ∧ E = xIO) ∨ ((0 ≤ a ∧ a < I (RR (x + 2) 9) 13) ∧ ¬ (0 ≤ b ∧ b ≤ 7) ∧ E = xNS)) →
      (∀ (ce : Cell) (q9 : Addr) (H1 : Heap) (locs1 : List Loc), H1[q9]? = some ce → ce.vm = .none → s.vm.findClass E = some ce.cls →
        (∀ ls1 : Array Slot, W p l e (headSpec lmW (mRm 98)).room s m (([.inr (.inr (x + 2)), .inl a, .inl b, .inr (.inr (o + 2))] : List mV).map (tr G)).toArray below meth c H1 locs1 (0 + 1) (0 + 6) (MQ below (QR G q') (([.inr (.inr (x + 2)), .inl a, .inl b, .inr (.inr (o + 2))] : List mV).map (tr G)).toArray s 1 6 (g_A G)) (F0 m (if k = 1 then 16 else 20) ls1 [.int (Int32.ofInt k)])) →
        vx_W p l e (headSpec lmW (mRm 98)).room s m (([.inr (.inr (x + 2)), .inl a, .inl b, .inr (.inr (o + 2))] : List mV).map (tr G)).toArray below meth c H1 locs1 (0 + 1) (0 + 6) (MQ below (QR G q') (([.inr (.inr (x + 2)), .inl a, .inl b, .inr (.inr (o + 2))] : List mV).map (tr G)).toArray s 1 6 (g_A G)) (F0 m 5 ls [.int 0, .ref (g_a G o)]) q9) →
      decode (mB 98) (if k = 1 then 16 else 20) = .ok (.ireturn, 1) →
      W p l e (headSpec lmW (mRm 98)).room s m (([.inr (.inr (x + 2)), .inl a, .inl b, .inr (.inr (o + 2))] : List mV).map (tr G)).toArray below meth c s.heap [] 0 0 (MQ below (QR G q') (([.inr (.inr (x + 2)), .inl a, .inl b, .inr (.inr (o + 2))] : List mV).map (tr G)).toArray s 1 6 (g_A G)) (F0 m 5 ls [.int (Int32.ofInt b), .int (Int32.ofInt a), .ref (g_a G x), .int 0, .ref (g_a G o)]) := by
    intro E k q' hq hk hE hcatch hdr
    subst hq
    have hrun := vx_runV (l := l) (e := e) (R := (headSpec lmW (mRm 98)).room) (below := below) (meth := meth) (C := "SpeakClock") (b := g_a G x) (As := [.int (Int32.ofInt a), .int (Int32.ofInt b)]) (rest := [.int 0, .ref (g_a G o)]) (H := s.heap) (locs := []) (cells := 0) (slots := 0) (g := F0 m 5 ls [.int (Int32.ofInt b), .int (Int32.ofInt a), .ref (g_a G x), .int 0, .ref (g_a G o)]) ⟨hx, hb, hml, hown, hts⟩ (pMan (l := l) (L := L) hl0 hs hwa hwb h13 h9 hE)
      ⟨callB_of (index := 7) 2 hts hgood rfl rfl rfl hini hlink ⟨by decide +kernel, by decide +kernel, by decide +kernel⟩ ⟨Nat.le_of_ble_eq_true rfl, Nat.le_of_ble_eq_true rfl⟩, hinst, hsel⟩
      ⟨Wd.blind hG, hrecv, fun U hU hW => ⟨rfl, Wd.moved hG hB hW hU hm hP hD hS hz⟩⟩ rfl rfl hl.1 rfl (lv_room (Nat.le_of_ble_eq_true rfl)) d5 ⟨Nat.le_of_ble_eq_true rfl, Nat.le_of_ble_eq_true rfl⟩
    refine vx_calli (S := Unit) (SX := Unit) hrun hS (fun _ _ h => h) (fun _ h => h) (fun _ _ h => h) (fun E' ce q9 u t H1 locs1 ht _ _ hbx _ _ hS1 hce hcv hcl => ?_) (fun r u t H1 locs1 _ _ hp _ _ _ _ => hp.elim)
    obtain ⟨rfl, hP1⟩ := hbx
    rw [ht] at hP1
    refine hcatch ce q9 H1 locs1 hce hcv hcl (fun ls1 => ?_)
    exact W.iret hx hb hr (fun t ht hW => ⟨⟨_, (), rfl, ⟨rfl, hk⟩, Wd.moved hG hB hW ht hm hP1 hD hS1 (fun z => absurd z (Nat.lt_irrefl _))⟩, hS1.F ht⟩) hS1.2.2 hdr
  rcases hcs with ⟨hpa, hpb, v, n', sh', R', I', L', hex, rfl⟩ | ⟨hpa, rfl⟩ | ⟨hpa, hpb, rfl⟩
  · have hcon := hS2 97 [.inr (.inr (x + 2)), .inl a, .inl b] (144, sh, RR, I, L) ([.inl v], (n', sh', R', I', L')) (by decide) (by decide) (by decide) hex (fun w hw => hwf w (by simp only [List.mem_cons, List.not_mem_nil, or_false] at hw ⊢; rcases hw with h | h | h <;> simp [h])) (Nat.le_of_ble_eq_true rfl)
    have hkp := exec_keep n 97 (mcd mMan, 0, 0, m_ent 0 [.inr (.inr (x + 2)), .inl a, .inl b], [], (144, sh, RR, I, L)) _ rfl hex
    have hn' : n' = 144 := hkp.1
    have hsh' : sh' = sh := hkp.2.1
    subst hn'
    subst hsh'
    have hrun := va_runV (l := l) (e := e) (R := (headSpec lmW (mRm 98)).room) (below := below) (meth := meth) (C := "SpeakClock") (b := g_a G x) (As := [.int (Int32.ofInt a), .int (Int32.ofInt b)]) (rest := [.int 0, .ref (g_a G o)]) (H := s.heap) (locs := []) (cells := 0) (slots := 0) (g := F0 m 5 ls [.int (Int32.ofInt b), .int (Int32.ofInt a), .ref (g_a G x), .int 0, .ref (g_a G o)]) ⟨hx, hb, hml, hown, hts⟩ hcon
      ⟨callB_of (index := 7) 2 hts hgood rfl rfl rfl hini hlink ⟨by decide +kernel, by decide +kernel, by decide +kernel⟩ ⟨Nat.le_of_ble_eq_true rfl, Nat.le_of_ble_eq_true rfl⟩, hinst, hsel⟩
      ⟨Wd.blind hG, hrecv, fun U hU hW => ⟨rfl, Wd.moved hG hB hW hU hm hP hD hS hz⟩⟩ rfl rfl hl.1 rfl (lv_room (Nat.le_of_ble_eq_true rfl)) d5 ⟨Nat.zero_le _, Nat.zero_le _⟩
    refine va_calli (a := #[.ref (g_a G x), .int (Int32.ofInt a), .int (Int32.ofInt b)]) (S := Unit) hrun hS (fun _ _ h => h) (fun _ h => h) (fun r u t H1 locs1 ht _ hp hB1 _ _ hS1 => ?_)
    obtain ⟨rfl, hwv⟩ := hp
    obtain ⟨-, hm1, hP1, hD1, hz1⟩ := hB1
    rw [ht] at hP1
    refine lv_i2l (v := Int64.ofInt v) hx hb (show decode (mB 98) 8 = .ok (.i2l, 1) by decide +kernel) (by
      rw [← Int64.toInt_inj, Int32.toInt_toInt64]
      exact ((wl_of_wr hwv).trans (show wr v = v from hwv).symm).symm) ?_
    have hC : Ctx G 98 p (headSpec lmW (mRm 98)).room s m (([.inr (.inr (x + 2)), .inl a, .inl b, .inr (.inr (o + 2))] : List mV).map (tr G)).toArray meth c := ⟨hx, hb, hml, hown, hts, ⟨rfl, rfl, Nat.le_refl _, Nat.le_refl _⟩, fun hi => absurd hi (by decide +kernel), hB⟩
    have hF : Frm G 98 s 0 0 [] [.inr (.inl v), .inl 0, .inr (.inr (o + 2))] (144, sh', R', I', L') H1 locs1 ls := ⟨⟨hl.1, hl.2.1, fun q h => absurd h List.not_mem_nil⟩, fun q h => absurd h List.not_mem_nil, (fun w hw => by
      simp only [List.mem_cons, List.not_mem_nil, or_false] at hw
      rcases hw with rfl | rfl | rfl
      · exact wl_of_wr hwv
      · show wr 0 = 0
        decide +kernel
      · trivial), hm1, hP1, hD1, hS1, fun z => absurd z (Nat.lt_irrefl _), Nat.zero_le _, Nat.zero_le _⟩
    refine s_astL (pc := 9) (n := 1) (q := ([], (144, sh', R', I', mup L' (o + 2) 0 v))) (r := [(0, .return_, 1, 0, 0, 0, 0)]) (kc := 0) (ks := 0) (lv := []) (st := []) (k := o) (i := 0) (x := v) hC (by rw [ho2]; decide) hF ho1 (show decode (mB 98) 9 = .ok (.lastore, 1) by decide +kernel) ?_ rfl
    intro kc ks lv st M2 H2 locs2 ls2 hh hF2
    obtain ⟨rfl, rfl⟩ := ret_exec rfl hh
    obtain ⟨g1, g2, g3, g4, g5, g6, g7, g8, g9, g10⟩ := hF2
    refine W.widen (k := 1) (n := 6) g9 g10 ?_
    refine lv_goto (tgt := 21) hx hb (show decode (mB 98) 10 = .ok (.goto 11, 3) by decide +kernel) (by decide) ?_
    refine lv_iconst (v := Int32.ofInt 0) hx hb (show decode (mB 98) 21 = .ok (.iconst 0, 1) by decide +kernel) rfl ?_
    exact W.iret hx hb hr (fun t ht hW => ⟨⟨_, (), rfl, ⟨rfl, by decide +kernel⟩, Wd.moved hG hB hW ht g4 g5 g6 g7 g8⟩, g7.F ht⟩) g7.2.2 (show decode (mB 98) 22 = .ok (.ireturn, 1) by decide +kernel)
  · refine thrown xIO 1 _ rfl (by decide +kernel) (Or.inl ⟨hpa, rfl⟩) (fun ce q9 H1 locs1 hce hcv hcl kk => ?_) (by decide +kernel)
    refine vx_catch (name := xIO) (E := xIO) hown [] ⟨0, 10, 13, 13⟩ [⟨0, 10, 17, 15⟩] htab (fun z hz => absurd hz List.not_mem_nil) (by decide +kernel) (by decide) (hts _ (m_has_in (p := 50138) (by decide +kernel))) (cast_of (hts _ io_inst)) hce hcv hcl ?_
    refine lv_astore (nL := 5) hx hb (show decode (mB 98) 13 = .ok (.astore 4, 2) by decide +kernel) hl (by decide) rfl (fun ls1 _ => ?_)
    exact lv_iconst (v := Int32.ofInt 1) hx hb (show decode (mB 98) 15 = .ok (.iconst 1, 1) by decide +kernel) rfl (kk ls1)
  · refine thrown xNS 2 _ rfl (by decide +kernel) (Or.inr ⟨hpa, hpb, rfl⟩) (fun ce q9 H1 locs1 hce hcv hcl kk => ?_) (by decide +kernel)
    refine vx_catch (name := xNS) (E := xNS) hown [⟨0, 10, 13, 13⟩] ⟨0, 10, 17, 15⟩ [] htab (fun z hz => Or.inr ?_) (by decide +kernel) (by decide) (hts _ (m_has_in (p := 50139) (by decide +kernel))) (cast_of (hts _ ns_inst)) hce hcv hcl ?_
    · rw [List.mem_singleton.mp hz]
      exact ⟨by decide, xIO, hts _ (m_has_in (p := 50138) (by decide +kernel)), hstr.2.2.2.2.2.2.2.2⟩
    · refine lv_astore (nL := 5) hx hb (show decode (mB 98) 17 = .ok (.astore 4, 2) by decide +kernel) hl (by decide) rfl (fun ls1 _ => ?_)
      exact lv_iconst (v := Int32.ofInt 2) hx hb (show decode (mB 98) 19 = .ok (.iconst 2, 1) by decide +kernel) rfl (kk ls1)
theorem lman_ok (hl0 : l.stackTraces = false) (hs : StrIs G aV aP aW) (hS2 : S2 G l n) : LmanP G l n := by
  intro p e R s m args below meth c Q mid q q1 r pc kc ks idx lv st st' as M H locs ls hC hd hw hrm hpop hcat hF hr1 hr2 hman go h
  have hG := str_ok hs
  obtain ⟨hx, hb, hml, hown, hts, hR, hin2, hB⟩ := id hC
  have hwf := pop_wf hpop hF.2.2.1
  obtain ⟨pre, h1, h2, h3⟩ := pop_spec _ hpop
  rw [List.append_nil] at h2
  have hpre : pre = as.reverse := by rw [h2, List.reverse_reverse]
  have hlen : as.length = 4 := by rw [h2, List.length_reverse, h3]
  unfold m_okRoom at hrm
  simp only [Bool.and_eq_true] at hrm
  have r1 := Nat.le_of_ble_eq_true hrm.1
  have r2 := Nat.le_of_ble_eq_true hrm.2
  have hrun := vx_runSW (l := l) (e := e) (R := R) (below := below) (meth := meth) (hh := lmH) (bytes := mB 98) (maxL := 5) (ret := some .int) (n := 4) (index := idx) (own := (mY mid).cls) (As := as.map (tr G)) (rest := st'.map (tr G)) (H := H) (locs := locs) (cells := kc) (slots := ks) (g := F0 m pc ls (st.map (tr G))) ⟨hx, hb, hml, hown, hts⟩ (pLman hl0 hs hS2 hwf hman)
    ⟨⟨rfl, rfl, Nat.le_trans r1 hR.2.2.1, Nat.le_trans r2 hR.2.2.2, pay_in hts lmW_good, List.mem_cons_self⟩, hts _ lm_code, hts _ (m_has_in (p := 10000) (by decide +kernel)), ⟨by decide +kernel, by decide +kernel⟩, fun sig hsig => by
      have h5 : (parseMethodDescriptor (mY 98).desc).map (fun d => d.parameters.length) = some 4 := by decide +kernel
      rw [hsig] at h5
      exact (Option.some.inj h5).symm, hts _ hw, hts _ (m_has_in (p := 50136) (by decide +kernel))⟩
    ⟨Wd.blind hG, fun U hU hW => ⟨rfl, s_ev hC hG hF U hU hW⟩⟩ rfl (by rw [List.length_map]; exact hlen) hF.1.1 (by
      show st.map (tr G) = _
      rw [h1, hpre]
      simp only [List.map_append, List.map_reverse]) (lv_room (by rw [cats_eq]; exact hcat)) hd ⟨by rw [hR.1]; exact hr1, by rw [hR.2.1]; exact hr2⟩
  exact s_back (c1 := 98) hC hF (fun v hv => hF.2.2.1 v (by rw [h1]; exact List.mem_append_right _ hv)) hr1 hr2 hrun go h
/-- a run of the mini machine is a run of the machine -/
theorem sound_all (hl0 : l.stackTraces = false) (hs : StrIs G aV aP aW) (hA : AdOK G) : ∀ n, S1 G l n :=
  sound (str_ok hs) hA cl_ok lib_ok (ch_ok hs) (ld_ok hs) (fun n h => lman_ok hl0 hs h)
end BL
