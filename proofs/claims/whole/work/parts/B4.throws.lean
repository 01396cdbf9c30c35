/-! ===== SpeakClock.man where it throws ===== -/
def xIO : String := "java/lang/IndexOutOfBoundsException"
def xNS : String := "java/util/NoSuchElementException"
def xUp : List String := ["java/lang/RuntimeException", "java/lang/Exception"]
theorem decl_of {y : MethodName} {bytes : ByteArray} {maxL : Nat} {ret : Option FieldType} {args : Array Value} {s : State} (h1 : (Cond.instanceMethod y).before args s = true) (h2 : (Cond.code y bytes maxL ret).before args s = true) : (Cond.declares y).before args s = true := by
  obtain ⟨m, meth, hn, hm, hst, -⟩ := Cond.instanceMethod_spec h1
  obtain ⟨meth', c, hm', -, -, -, -, -, -, hsig⟩ := Cond.code_spec hn h2
  cases hm.symm.trans hm'
  simp [Cond.before, Cond.holds, Cond.value, hn, hm, hst, hsig]
theorem cast_of {X : String} {n : Nat} {args : Array Value} {s : State} (h : (Cond.instantiable X n).before args s = true) : (Cond.castable X X).before args s = true := by
  obtain ⟨c, k, hc, -⟩ := Cond.instantiable_spec h
  simp [Cond.before, Cond.holds, Cond.value, hc, va_asg]
theorem io_in : ∀ w ∈ (vx_atS "SpeakClock" 124 xIO xUp).filter goodWord, w ∈ lw_tbl := by decide +kernel
theorem ns_in : ∀ w ∈ (xAt "SpeakClock" 156 xNS 13 prog_28_method_4_code "java/lang/RuntimeException" ["java/lang/Exception"]).filter goodWord, w ∈ lw_tbl := by decide +kernel
def xBad (X : String) : List Cond := [.castable X X, .declares (Bundle.initS "java/lang/RuntimeException"), .declares (Bundle.initS "java/lang/Exception"), .declares (Bundle.initS Bundle.tN)]
theorem io_bad : ∀ w ∈ (vx_atS "SpeakClock" 124 xIO xUp).filter (fun w => !goodWord w), w ∈ xBad xIO := by decide +kernel
theorem ns_bad : ∀ w ∈ (xAt "SpeakClock" 156 xNS 13 prog_28_method_4_code "java/lang/RuntimeException" ["java/lang/Exception"]).filter (fun w => !goodWord w), w ∈ xBad xNS := by decide +kernel
theorem gT_mem {L : List Cond} (h : ∀ w ∈ L.filter goodWord, w ∈ lw_tbl) : ∀ w ∈ L.filter goodWord, w ∈ gT := fun w hw => List.mem_filter.mpr ⟨h w hw, (List.mem_filter.mp hw).2⟩
theorem x_bad {X : String} {args : Array Value} {s : State} (hts : ∀ w ∈ gT, w.before args s = true) (hi : Cond.instantiable X 6 ∈ gT) : ∀ w ∈ xBad X, w.before args s = true :=
  vx_c (cast_of (hts _ hi)) (vx_c (decl_of (bytes := prog_20_method_2_code) (maxL := 2) (ret := none) (hts _ (m_has_in (p := 50189) (by decide +kernel))) (hts _ (m_has_in (p := 50190) (by decide +kernel)))) (vx_c (decl_of (bytes := prog_16_method_2_code) (maxL := 2) (ret := none) (hts _ (m_has_in (p := 50192) (by decide +kernel))) (hts _ (m_has_in (p := 50193) (by decide +kernel)))) (vx_c (decl_of (bytes := prog_25_method_2_code) (maxL := 2) (ret := none) (hts _ (m_has_in (p := 50195) (by decide +kernel))) (hts _ (m_has_in (p := 50196) (by decide +kernel)))) vx_n)))
theorem x_at {X : String} {L : List Cond} {args : Array Value} {s : State} (hts : ∀ w ∈ gT, w.before args s = true) (h1 : ∀ w ∈ L.filter goodWord, w ∈ lw_tbl) (h2 : ∀ w ∈ L.filter (fun w => !goodWord w), w ∈ xBad X) (hi : Cond.instantiable X 6 ∈ gT) : ∀ w ∈ L, w.before args s = true :=
  vx_hat (B := xBad X) (fun w hw => hts w (gT_mem h1 w hw)) h2 (x_bad hts hi)
theorem io_inst : Cond.instantiable xIO 6 ∈ gT := m_has_in (p := 50145) (by decide +kernel)
theorem ns_inst : Cond.instantiable xNS 6 ∈ gT := m_has_in (p := 50212) (by decide +kernel)
section BT
variable {G : mGl} {l : Launch} {x : Nat} {a b : Int} {sh : Nat → Nat × Nat} {RR : Nat → Nat → Nat} {I L : Nat → Nat → Int}
theorem pIP (hG : StrOK G) (hwa : wr a = a) (h13 : (sh (x + 2)).1 = 13) (h9 : (sh (RR (x + 2) 9)).1 = 9) : Met l (mY 94) (mW 94) (mRm 94) (va_Pc (([.inr (.inr (x + 2)), .inl a] : List mV).map (tr G)) (Wd G (144, sh, RR, I, L))) (va_Qi (S := Unit) (fun v _ => v = Int32.ofInt (if 0 ≤ a ∧ a < I (RR (x + 2) 9) 13 then 1 else 0)) (fun _ t => Wd G (144, sh, RR, I, L) t) (g_A G)) 0 0 (g_A G) := by
  refine Met.ofW (cc := mB 94) (maxL := mL 94) (ret := mRt 94) (by decide +kernel) rfl ?_
  intro p e s m args below meth c s₁ B hml hv
  obtain ⟨rfl, hB, hm, hP, hD, hz⟩ := hv
  have hts0 := atoms_spec (ws := mW 94) B.pre
  have hts : ∀ w ∈ gT, w.before (([.inr (.inr (x + 2)), .inl a] : List mV).map (tr G)).toArray s = true := fun w hw => hts0 w (List.mem_cons_of_mem _ hw)
  have hown : s.vm.findClass (mY 94).cls = some m.cls := findClass_of_methodNamed B.named
  have hx := B.exec
  have hb := B.bytes
  have hr : meth.sig.returnType = some .boolean := B.returns
  have hlocks := B.notSynchronized
  have hC : Ctx G 94 p (headSpec (mW 94) (mRm 94)).room s m (([.inr (.inr (x + 2)), .inl a] : List mV).map (tr G)).toArray meth c := ⟨B.exec, B.bytes, hml, hown, hts, ⟨rfl, rfl, Nat.le_refl _, Nat.le_refl _⟩, fun hi => (name_of_methodNamed B.named B.method).1.trans hi, hB⟩
  have hl := lv_entry (([.inr (.inr (x + 2)), .inl a] : List mV).map (tr G)) (n := mL 94) (by rw [sl_len]; exact Nat.le_of_ble_eq_true rfl)
  rw [lg_entry_eq]
  generalize (lg_sl (([.inr (.inr (x + 2)), .inl a] : List mV).map (tr G)) ++ List.replicate (mL 94 - (lg_sl (([.inr (.inr (x + 2)), .inl a] : List mV).map (tr G))).length) Slot.unset).toArray = ls at hl ⊢
  have hl : lv_has ls (mL 94) [(0, .ref (g_a G x)), (1, .int (Int32.ofInt a))] := hl
  obtain ⟨k, hk⟩ : ∃ k, RR (x + 2) 9 = k + 2 := ⟨RR (x + 2) 9 - 2, by have := (wf_in (M := (144, sh, RR, I, L)) hm (k := RR (x + 2) 9) (by show (sh _).1 < 15; omega)).2; omega⟩
  rw [hk] at h9 ⊢
  have hPw : wr (I (k + 2) 13) = I (k + 2) 13 := hm.2.2.2.2.2.2.1 _ _
  have hS : va_S (g_A G) s.heap s.heap [] := va_S.rf
  have fin : ∀ v : Int, (v = 0 ∨ v = 1) → v = (if 0 ≤ a ∧ a < I (k + 2) 13 then 1 else 0) → W p l e (headSpec (mW 94) (mRm 94)).room s m (([.inr (.inr (x + 2)), .inl a] : List mV).map (tr G)).toArray below meth c s.heap [] 0 0 (MQ below (va_Qi (S := Unit) (fun v _ => v = Int32.ofInt (if 0 ≤ a ∧ a < I (k + 2) 13 then 1 else 0)) (fun _ t => Wd G (144, sh, RR, I, L) t) (g_A G)) (([.inr (.inr (x + 2)), .inl a] : List mV).map (tr G)).toArray s 0 0 (g_A G)) (F0 m 20 ls [.int (Int32.ofInt v)]) := by
    intro v h01 hv
    exact W.zret hx hb hr (nar_b (G := G) h01) (fun t ht hW => ⟨⟨_, (), rfl, by rw [hv], Wd.moved hG hB hW ht hm hP hD hS hz⟩, hS.F ht⟩) hS.2.2 (show decode (mB 94) 20 = .ok (.ireturn, 1) by decide +kernel)
  refine lv_iload_n hx hb (show decode (mB 94) 0 = .ok (.iload_n 1, 1) by decide +kernel) rfl (lv_at hl 1 rfl) ?_
  refine lv_if_lt (tgt := 19) hx hb (show decode (mB 94) 1 = .ok (.ifCond .lt 18, 3) by decide +kernel) (by decide) (fun h => ?_) (fun h => ?_)
  · have h0 : a < 0 := (i_lt hwa (show wr 0 = 0 by decide +kernel)).mp h
    refine lv_iconst (v := Int32.ofInt 0) hx hb (show decode (mB 94) 19 = .ok (.iconst 0, 1) by decide +kernel) rfl ?_
    exact fin 0 (Or.inl rfl) (by rw [if_neg (by omega)])
  · have h0 : ¬ a < 0 := fun z => h ((i_lt hwa (show wr 0 = 0 by decide +kernel)).mpr z)
    refine lv_iload_n hx hb (show decode (mB 94) 4 = .ok (.iload_n 1, 1) by decide +kernel) rfl (lv_at hl 1 rfl) ?_
    refine lv_aload_n hx hb (show decode (mB 94) 5 = .ok (.aload_n 0, 1) by decide +kernel) rfl (lv_at hl 0 rfl) ?_
    have hF : ∀ y : Nat, Frm G 94 s 0 0 [] [.inr (.inr y), .inl a] (144, sh, RR, I, L) s.heap [] ls := fun y => ⟨⟨hl.1, hl.2.1, fun q h => absurd h List.not_mem_nil⟩, fun q h => absurd h List.not_mem_nil, (fun v hv => by
      rcases List.mem_cons.mp hv with rfl | hv
      · trivial
      · rw [List.mem_singleton.mp hv]; exact hwa), hm, hP, hD, hS, hz, Nat.zero_le _, Nat.zero_le _⟩
    refine s_getf (pc := 6) cl_ok hC (ci := 9) (j := 9) (k := x) (st := [.inl a]) (show decode (mB 94) 6 = .ok (.getfield 70, 3) by decide +kernel) (by decide) (by decide) (m_has_in (p := 30028) (by decide +kernel)) (hF (x + 2)) h13 ?_
    have e1 : fv G (RR (x + 2)) (I (x + 2)) (L (x + 2)) 9 (m_tc (m_ty 9 9)) = tr G (.inr (.inr (k + 2))) := by
      show trr G (RR (x + 2) 9) = _
      rw [hk]; rfl
    rw [e1]
    refine s_getf (pc := 9) cl_ok hC (ci := 5) (j := 13) (k := k) (st := [.inl a]) (show decode (mB 94) 9 = .ok (.getfield 235, 3) by decide +kernel) (by decide) (by decide) (m_has_in (p := 10230) (by decide +kernel)) (hF (k + 2)) h9 ?_
    show W p l e (headSpec (mW 94) (mRm 94)).room s m _ below meth c s.heap [] 0 0 _ (F0 m 12 ls [.int (Int32.ofInt (I (k + 2) 13)), .int (Int32.ofInt a)])
    refine lv_icmp_ge (tgt := 19) hx hb (show decode (mB 94) 12 = .ok (.if_icmp .ge 7, 3) by decide +kernel) (by decide) (fun h => ?_) (fun h => ?_)
    · have h1 := (i_le hPw hwa).mp h
      refine lv_iconst (v := Int32.ofInt 0) hx hb (show decode (mB 94) 19 = .ok (.iconst 0, 1) by decide +kernel) rfl ?_
      exact fin 0 (Or.inl rfl) (by rw [if_neg (by omega)])
    · have h1 : ¬ I (k + 2) 13 ≤ a := fun z => h ((i_le hPw hwa).mpr z)
      refine lv_iconst (v := Int32.ofInt 1) hx hb (show decode (mB 94) 15 = .ok (.iconst 1, 1) by decide +kernel) rfl ?_
      refine lv_goto (tgt := 20) hx hb (show decode (mB 94) 16 = .ok (.goto 4, 3) by decide +kernel) (by decide) ?_
      exact fin 1 (Or.inr rfl) (by rw [if_pos (by omega)])
/-- the world behind a throw: the class by its name, the cells as they were -/
def XB (G : mGl) (M : mM) (E : String) (E' : String) (_ : Unit) (t : State) : Prop := E' = E ∧ va_P (g_D G) vwCl (wsM G M) t.heap
theorem pMan {aV aP aW : Nat} (hl0 : l.stackTraces = false) (hs : StrIs G aV aP aW) (hwa : wr a = a) (hwb : wr b = b) (h13 : (sh (x + 2)).1 = 13) (h9 : (sh (RR (x + 2) 9)).1 = 9) {E : String}
    (hE : (¬ (0 ≤ a ∧ a < I (RR (x + 2) 9) 13) ∧ E = xIO) ∨ ((0 ≤ a ∧ a < I (RR (x + 2) 9) 13) ∧ ¬ (0 ≤ b ∧ b ≤ 7) ∧ E = xNS)) :
    vx_Met l (mY 97) (mW 97) { frames := 6, cells := 1, slots := 6, locals := 120 } (va_Pc (([.inr (.inr (x + 2)), .inl a, .inl b] : List mV).map (tr G)) (Wd G (144, sh, RR, I, L))) (va_Qi (S := Unit) (fun _ _ => False) (fun _ _ => False) (g_A G)) (vx_X (S := Unit) (fun _ => True) (XB G (144, sh, RR, I, L) E) (g_A G)) 1 6 (g_A G) := by
  have hG := str_ok hs
  refine vx_ofW (cc := mB 97) (maxL := mL 97) (ret := mRt 97) (by decide +kernel) rfl ?_
  intro p e s m args below meth c s₁ B hml hno hv
  obtain ⟨rfl, hB, hm, hP, hD, hz⟩ := hv
  have hts0 := atoms_spec (ws := mW 97) B.pre
  have hts : ∀ w ∈ gT, w.before (([.inr (.inr (x + 2)), .inl a, .inl b] : List mV).map (tr G)).toArray s = true := fun w hw => hts0 w (List.mem_cons_of_mem _ hw)
  have hown : s.vm.findClass "SpeakClock" = some m.cls := findClass_of_methodNamed B.named
  have hx := B.exec
  have hb := B.bytes
  have hlocks := B.notSynchronized
  have hstr := hB.2.2.2.2.2
  rw [hs] at hstr
  have hl := lv_entry (([.inr (.inr (x + 2)), .inl a, .inl b] : List mV).map (tr G)) (n := mL 97) (by rw [sl_len]; exact Nat.le_of_ble_eq_true rfl)
  rw [lg_entry_eq]
  generalize (lg_sl (([.inr (.inr (x + 2)), .inl a, .inl b] : List mV).map (tr G)) ++ List.replicate (mL 97 - (lg_sl (([.inr (.inr (x + 2)), .inl a, .inl b] : List mV).map (tr G))).length) Slot.unset).toArray = ls at hl ⊢
  have hl : lv_has ls (mL 97) [(0, .ref (g_a G x)), (1, .int (Int32.ofInt a)), (2, .int (Int32.ofInt b))] := hl
  have hS : va_S (g_A G) s.heap s.heap [] := va_S.rf
  have hlt : x + 2 < 144 := (wf_in (M := (144, sh, RR, I, L)) hm (by show (sh (x + 2)).1 < 15; omega)).1
  have hrecv := va_recv (D := g_D G) hB.1 hP (ci := 9) (q0 := x) (cl_get 9 (by decide)) (by rw [wsM_get (M := (144, sh, RR, I, L)) hlt, ent_obj (c := 9) (by show (sh (x + 2)).1 = _; omega)])
  refine lv_aload_n hx hb (show decode (mB 97) 0 = .ok (.aload_n 0, 1) by decide +kernel) rfl (lv_at hl 0 rfl) ?_
  refine lv_iload_n hx hb (show decode (mB 97) 1 = .ok (.iload_n 1, 1) by decide +kernel) rfl (lv_at hl 1 rfl) ?_
  have hrun := va_runV (l := l) (e := e) (R := (headSpec (mW 97) { frames := 6, cells := 1, slots := 6, locals := 120 }).room) (below := below) (meth := meth) (C := "SpeakClock") (b := g_a G x) (As := [.int (Int32.ofInt a)]) (rest := []) (H := s.heap) (locs := []) (cells := 0) (slots := 0) (g := F0 m 2 ls [.int (Int32.ofInt a), .ref (g_a G x)]) ⟨hx, hb, hml, hown, hts⟩ (pIP (l := l) (I := I) (L := L) hG hwa h13 h9)
    ⟨callB_of (index := 117) 1 hts (mW_good (okM_all 94 (by decide) (by decide) (by decide)).2) rfl rfl rfl (hts _ (m_has_in (p := 10001) (by decide +kernel))) (hts _ (m_has_in (p := 40012) (by decide +kernel))) ⟨by decide +kernel, by decide +kernel, by decide +kernel⟩ ⟨Nat.le_of_ble_eq_true rfl, Nat.le_of_ble_eq_true rfl⟩, hts _ (m_has_in (p := 40014) (by decide +kernel)), hts _ (m_has_in (p := 27) (by decide +kernel))⟩
    ⟨Wd.blind hG, hrecv, fun U hU hW => ⟨rfl, Wd.moved hG hB hW hU hm hP hD hS hz⟩⟩ rfl rfl hl.1 rfl (lv_room (Nat.le_of_ble_eq_true rfl)) (show decode (mB 97) 2 = .ok (.invokevirtual 117, 3) by decide +kernel) ⟨Nat.zero_le _, Nat.zero_le _⟩
  refine va_calli (S := Unit) hrun hS (fun _ _ h => h) (fun _ h => h) (fun v u t H1 locs1 ht _ hv hB1 _ _ hS1 => ?_)
  subst hv
  obtain ⟨-, -, hP1, -, -⟩ := hB1
  rw [ht] at hP1
  have hXC : ∀ (cls : String), cls = E → ∀ t : State, s.vm.Alike t.vm → H1.size ≤ t.heap.size → (∀ q : Nat, q < H1.size → t.heap[q]? = H1[q]?) → vx_X (S := Unit) (fun _ => True) (XB G (144, sh, RR, I, L) E) (g_A G) cls s t :=
    fun cls hc t _ h1 h2 => ⟨(), trivial, ⟨hc, hP1.kept (fun k q hk => h2 q.1 (hP1 k q hk).lt)⟩, Nat.le_trans hS1.1 h1, fun q z1 z2 => by rw [h2 q (Nat.lt_of_lt_of_le z1 hS1.1)]; exact hS1.2.1 q z1 z2⟩
  rcases hE with ⟨hn, rfl⟩ | ⟨hp, hn, rfl⟩
  · rw [if_neg hn]
    refine lv_if_ne (tgt := 18) hx hb (show decode (mB 97) 5 = .ok (.ifCond .ne 13, 3) by decide +kernel) (by decide) (fun h => absurd rfl h) (fun _ => ?_)
    exact vx_throwS (pc := 8) (names := xUp) (cls := xIO) (own := "SpeakClock") (ik := 120) (is := 122) (ic := 124) (sa := aP) (text := "no such PERSON") (A := g_A G) hx hb hl0 hown (by decide +kernel) (by decide +kernel) (hts _ (m_has_in (p := 50144) (by decide +kernel))) (hts _ (m_has_in (p := 10020) (by decide +kernel))) hstr.2.1 (x_at hts io_in io_bad io_inst) (by decide +kernel)
      hstr.2.2.2.2.2.2.1 hstr.2.2.2.2.2.2.2.1 hS1 (hl.1.trans hml.symm) (by decide +kernel) (by decide +kernel) (by decide +kernel) (by decide +kernel) (by decide +kernel) (fun z hz => (hno z hz).elim) (Nat.le_of_ble_eq_true rfl) (Nat.le_of_ble_eq_true rfl) (Nat.le_of_ble_eq_true rfl) (Nat.le_of_ble_eq_true rfl) hlocks (hXC xIO rfl) hS1.2.2 (Nat.le_of_ble_eq_true rfl) (Nat.le_of_ble_eq_true rfl)
  · rw [if_pos hp]
    refine lv_if_ne (tgt := 18) hx hb (show decode (mB 97) 5 = .ok (.ifCond .ne 13, 3) by decide +kernel) (by decide) (fun _ => ?_) (fun h => absurd h (by decide))
    refine lv_iload_n hx hb (show decode (mB 97) 18 = .ok (.iload_n 2, 1) by decide +kernel) rfl (lv_at hl 2 rfl) ?_
    refine lv_tableOut (tgt := 142) hx hb (show decode (mB 97) 19 = .ok (.tableswitch 123 0 7 #[45, 55, 65, 75, 85, 94, 104, 114], 45) by decide +kernel) (by show wr b < 0 ∨ 7 < wr b; rw [hwb]; omega) (by decide) ?_
    exact x_throwS (pc := 142) (Y := "java/lang/RuntimeException") (nr := ["java/lang/Exception"]) (ix := 13) (rx := prog_28_method_4_code) (cls := xNS) (own := "SpeakClock") (ik := 152) (is := 154) (ic := 156) (sa := aW) (text := "no such what") (A := g_A G) hx hb hl0 (by decide +kernel) (by decide +kernel) (by decide +kernel) (by decide +kernel) hown (by decide +kernel) (by decide +kernel) (hts _ (m_has_in (p := 50211) (by decide +kernel))) (hts _ (m_has_in (p := 10021) (by decide +kernel))) hstr.2.2.1 (x_at hts ns_in ns_bad ns_inst) (by decide +kernel)
      hstr.2.2.2.2.2.2.1 hstr.2.2.2.2.2.2.2.1 hS1 (hl.1.trans hml.symm) (by decide +kernel) (by decide +kernel) (by decide +kernel) (by decide +kernel) (by decide +kernel) (fun z hz => (hno z hz).elim) (Nat.le_of_ble_eq_true rfl) (Nat.le_of_ble_eq_true rfl) (Nat.le_of_ble_eq_true rfl) (Nat.le_of_ble_eq_true rfl) hlocks (hXC xNS rfl) hS1.2.2 (Nat.le_of_ble_eq_true rfl) (Nat.le_of_ble_eq_true rfl)
end BT
