/-! ===== texts: the words as a constant, their signs (the JDK's charAt, walked) ===== -/
def wordsT : String := "man   ring  meet  cold  crowd seed  law   talk  late  drift or    and   not   talks waits off   rate  queue told  minute"
def yCA : MethodName := ⟨"java/lang/String", "charAt", "(I)C"⟩
def yIL : MethodName := ⟨"java/lang/String", "isLatin1", "()Z"⟩
def yL1 : MethodName := ⟨"java/lang/StringLatin1", "charAt", "([BI)C"⟩
def yCI : MethodName := ⟨"java/lang/String", "checkIndex", "(II)V"⟩
def yPC : MethodName := ⟨"jdk/internal/util/Preconditions", "checkIndex", "(IILjava/util/function/BiFunction;)I"⟩
def xwJ (y : MethodName) (cc : ByteArray) (n : Nat) (ret : Option FieldType) : List Cond := Cond.code y cc n ret :: gT
theorem xwJ_good {y : MethodName} {cc : ByteArray} {n : Nat} {ret : Option FieldType} (h : Cond.code y cc n ret ∈ gT) : GoodIn gT (xwJ y cc n ret) := by
  intro w hw
  rcases List.mem_cons.mp hw with rfl | hw
  · exact gG _ h
  · exact gG _ hw
def strC (aK aV : Nat) (A : Nat → Prop) (U : State) : Prop := va_O "java/lang/String" aK A U U.heap ∧ va_OF "java/lang/String" "coder" "B" (.int 0) aK A U U.heap ∧ va_OF "java/lang/String" "value" "[B" (.ref aV) aK A U U.heap ∧ va_T .byte aV 120 (fun j => .int (Int32.ofInt (m_words.getD j 0))) A U U.heap
/-- what is known of texts and of the JDK's statics, and stays -/
def strP (z aK aV aP aW : Nat) (U : State) : Prop := vk_R "SpeakClock$Tokens" 38 wordsT aK U ∧ vk_R "SpeakClock" 122 "no such PERSON" aP U ∧ vk_R "SpeakClock" 154 "no such what" aW U ∧ strC aK aV (fun q => z ≤ q) U ∧
  va_Z "java/lang/String" "COMPACT_STRINGS" "Z" (.int 1) (fun q => z ≤ q) U U.heap ∧ va_Zq "jdk/internal/util/Preconditions" "SIOOBE_FORMATTER" "Ljava/util/function/BiFunction;" (fun q => z ≤ q) U U.heap ∧
  vx_Zq Bundle.tN "UNASSIGNED_STACK" Bundle.steD (fun q => z ≤ q) U U.heap ∧ vx_Zq Bundle.tN "SUPPRESSED_SENTINEL" Bundle.listD (fun q => z ≤ q) U U.heap ∧ va_Nc "java/util/NoSuchElementException" "java/lang/IndexOutOfBoundsException" U
theorem strP.moved {z aK aV aP aW : Nat} {s U : State} (h : strP z aK aV aP aW s) (hW : s.WarmedH U.vm) (hk : ∀ q : Nat, q < s.heap.size → ¬ z ≤ q → U.heap[q]? = s.heap[q]?) : strP z aK aV aP aW U := by
  obtain ⟨h1, h2, h3, ⟨h4, h5, h6, h7⟩, h8, h9, h10, h11, h12⟩ := h
  exact ⟨vk_R.warm hW h1, vk_R.warm hW h2, vk_R.warm hW h3, ⟨va_O.moved hW.alike (h4.kept hk), va_OF.moved hW.alike (h5.kept hk), va_OF.moved hW.alike (h6.kept hk), va_T.moved hW.alike (h7.kept hk)⟩, va_Z.moved hW.alike (h8.kept hk), va_Zq.moved hW.alike (h9.kept hk), vx_Zq.moved hW.alike (h10.kept hk), vx_Zq.moved hW.alike (h11.kept hk), va_Nc.moved hW.alike h12⟩
/-- a method that only looks: the heap is H before and behind -/
def SP (H : Heap) (z aK aV aP aW : Nat) (U : State) : Prop := U.heap = H ∧ strP z aK aV aP aW U
theorem SP.blind {H : Heap} {z aK aV aP aW : Nat} {vs : List Value} : FrameBlind (va_Pc vs (SP H z aK aV aP aW)) := by
  intro a U g mk h
  obtain ⟨h1, h2, h3⟩ := h
  exact ⟨h1, h2, strP.moved h3 (State.WarmedH.refl U) (fun _ _ _ => rfl)⟩
theorem SP.at {s U : State} {z aK aV aP aW : Nat} (h : strP z aK aV aP aW s) (hU : U.heap = s.heap) (hW : s.WarmedH U.vm) : SP s.heap z aK aV aP aW U := ⟨hU, strP.moved h hW (fun q _ _ => by rw [hU])⟩
theorem no_S {A : Nat → Prop} {s : State} {locs : List Loc} (h : va_S (fun _ => False) s.heap s.heap locs) : va_S A s.heap s.heap locs := ⟨Nat.le_refl _, fun _ _ _ => rfl, fun l hl => (h.2.2 l hl).elim⟩
theorem g_PC : Cond.code yPC prog_29_method_11_code 3 (some .int) ∈ gT := m_has_in (p := 10071) (by decide +kernel)
theorem g_CI : Cond.code yCI prog_21_method_155_code 2 none ∈ gT := m_has_in (p := 10066) (by decide +kernel)
theorem g_L1 : Cond.code yL1 prog_22_method_2_code 2 (some .char) ∈ gT := m_has_in (p := 10063) (by decide +kernel)
theorem g_IL : Cond.code yIL prog_21_method_154_code 1 (some .boolean) ∈ gT := m_has_in (p := 10058) (by decide +kernel)
theorem g_CA : Cond.code yCA prog_21_method_56_code 2 (some .char) ∈ gT := m_has_in (p := 10054) (by decide +kernel)
theorem jPC (l : Launch) {H : Heap} {i n : Int32} {f : Value} (hf : f = .null ∨ ∃ t, f = .ref t) (h0 : ¬ i < 0) (h1 : i < n) : Met l yPC (xwJ yPC prog_29_method_11_code 3 (some .int)) { frames := 0, cells := 0, slots := 0, locals := 0 } (va_Pc [.int i, .int n, f] (fun U => U.heap = H)) (va_Qi (S := Unit) (fun _ _ => True) (fun _ t => t.heap = H) (fun _ => False)) 0 0 (fun _ => False) := by
  refine Met.ofW (cc := prog_29_method_11_code) (maxL := 3) (ret := some .int) (by decide) rfl ?_
  intro p e s m args below meth c s₁ B hml hv
  obtain ⟨rfl, rfl⟩ := hv
  have hx := B.exec
  have hb := B.bytes
  have hr := B.returns
  have hlocks := B.notSynchronized
  have hS : va_S (fun _ => False) s.heap s.heap [] := va_S.rf
  have hl : ∃ ls, (entryFrame m ([.int i, .int n, f] : List Value).toArray 3 = F0 m 0 ls []) ∧ lv_has ls 3 [(0, .int i), (1, .int n), (2, f)] := by
    rcases hf with rfl | ⟨t, rfl⟩
    · exact ⟨_, lg_entry_eq .., lv_entry ([.int i, .int n, .null]) (n := 3) (Nat.le_of_ble_eq_true rfl)⟩
    · exact ⟨_, lg_entry_eq .., lv_entry ([.int i, .int n, .ref t]) (n := 3) (Nat.le_of_ble_eq_true rfl)⟩
  obtain ⟨ls, hE, hl⟩ := hl
  rw [hE]
  refine lv_iload_n hx hb (show decode prog_29_method_11_code 0 = .ok (.iload_n 0, 1) by decide +kernel) rfl (lv_at hl 0 rfl) ?_
  refine lv_if_lt (tgt := 9) hx hb (show decode prog_29_method_11_code 1 = .ok (.ifCond .lt 8, 3) by decide +kernel) (by decide) (fun h => absurd h h0) (fun _ => ?_)
  refine lv_iload_n hx hb (show decode prog_29_method_11_code 4 = .ok (.iload_n 0, 1) by decide +kernel) rfl (lv_at hl 0 rfl) ?_
  refine lv_iload_n hx hb (show decode prog_29_method_11_code 5 = .ok (.iload_n 1, 1) by decide +kernel) rfl (lv_at hl 1 rfl) ?_
  refine lv_icmp_lt (tgt := 16) hx hb (show decode prog_29_method_11_code 6 = .ok (.if_icmp .lt 10, 3) by decide +kernel) (by decide) (fun _ => ?_) (fun h => absurd h1 h)
  refine lv_iload_n hx hb (show decode prog_29_method_11_code 16 = .ok (.iload_n 0, 1) by decide +kernel) rfl (lv_at hl 0 rfl) ?_
  exact W.iret hx hb hr (fun t ht hW => ⟨⟨_, (), rfl, trivial, ht⟩, hS.F ht⟩) hS.2.2 (show decode prog_29_method_11_code 17 = .ok (.ireturn, 1) by decide +kernel)
section JT
variable {z aK aV aP aW : Nat} {H : Heap}
theorem jCI (l : Launch) {i n : Int32} (h0 : ¬ i < 0) (h1 : i < n) : Met l yCI (xwJ yCI prog_21_method_155_code 2 none) { frames := 1, cells := 0, slots := 0, locals := 22 } (va_Pc [.int i, .int n] (SP H z aK aV aP aW)) (va_Qv (S := Unit) (fun _ => True) (fun _ t => t.heap = H) (fun _ => False)) 0 0 (fun _ => False) := by
  refine Met.ofW (cc := prog_21_method_155_code) (maxL := 2) (ret := none) (by decide) rfl ?_
  intro p e s m args below meth c s₁ B hml hv
  obtain ⟨rfl, rfl, hs⟩ := hv
  have hx := B.exec
  have hb := B.bytes
  have hr := B.returns
  have hlocks := B.notSynchronized
  have hts0 := atoms_spec (ws := xwJ yCI prog_21_method_155_code 2 none) B.pre
  have hts : ∀ w ∈ gT, w.before ([.int i, .int n] : List Value).toArray s = true := fun w hw => hts0 w (List.mem_cons_of_mem _ hw)
  have hown : s.vm.findClass "java/lang/String" = some m.cls := findClass_of_methodNamed B.named
  have hS : va_S (fun _ => False) s.heap s.heap [] := va_S.rf
  have hl : lv_has _ 2 [(0, .int i), (1, .int n)] := lv_entry ([.int i, .int n]) (n := 2) (Nat.le_of_ble_eq_true rfl)
  rw [lg_entry_eq]
  generalize (lg_sl ([.int i, .int n]) ++ List.replicate (2 - (lg_sl ([.int i, .int n])).length) Slot.unset).toArray = ls at hl ⊢
  refine lv_iload_n hx hb (show decode prog_21_method_155_code 0 = .ok (.iload_n 0, 1) by decide +kernel) rfl (lv_at hl 0 rfl) ?_
  refine lv_iload_n hx hb (show decode prog_21_method_155_code 1 = .ok (.iload_n 1, 1) by decide +kernel) rfl (lv_at hl 1 rfl) ?_
  have go : ∀ f : Value, (f = .null ∨ ∃ t, f = .ref t) → W p l e (headSpec (xwJ yCI prog_21_method_155_code 2 none) { frames := 1, cells := 0, slots := 0, locals := 22 }).room s m ([.int i, .int n] : List Value).toArray below meth c s.heap [] 0 0 (MQ below (va_Qv (S := Unit) (fun _ => True) (fun _ t => t.heap = s.heap) (fun _ => False)) ([.int i, .int n] : List Value).toArray s 0 0 (fun _ => False)) (F0 m 5 ls [f, .int n, .int i]) := by
    intro f hf
    have hrun := va_runS (l := l) (e := e) (R := (headSpec (xwJ yCI prog_21_method_155_code 2 none) { frames := 1, cells := 0, slots := 0, locals := 22 }).room) (below := below) (meth := meth) (As := [.int i, .int n, f]) (rest := []) (H := s.heap) (locs := []) (cells := 0) (slots := 0) (g := F0 m 5 ls [f, .int n, .int i]) ⟨hx, hb, hml, hown, hts⟩ (jPC l (H := s.heap) hf h0 h1)
      ⟨callB_of (index := 1059) 3 hts (xwJ_good g_PC) rfl rfl rfl (hts _ (m_has_in (p := 10007) (by decide +kernel))) (hts _ (m_has_in (p := 10069) (by decide +kernel))) ⟨by decide, by decide, by decide +kernel⟩ ⟨Nat.le_of_ble_eq_true rfl, Nat.le_of_ble_eq_true rfl⟩, hts _ (m_has_in (p := 10070) (by decide +kernel))⟩
      ⟨fun a U g mk h => h, fun U hU hW => ⟨rfl, hU⟩⟩ rfl rfl hl.1 rfl (lv_room (Nat.le_of_ble_eq_true rfl)) (show decode prog_21_method_155_code 5 = .ok (.invokestatic 1059, 3) by decide +kernel) ⟨Nat.le_refl _, Nat.le_refl _⟩
    refine va_calli (S := Unit) hrun hS (fun _ _ h => h) (fun _ h => h) (fun v u t H1 locs1 ht _ _ hB _ _ hS1 => ?_)
    have hH : H1 = s.heap := ht.symm.trans hB
    subst hH
    refine lv_pop hx hb (show decode prog_21_method_155_code 8 = .ok (.pop, 1) by decide +kernel) rfl ?_
    exact W.vret hx hb hr (fun t ht hW => ⟨⟨(), rfl, trivial, ht⟩, hS1.F ht⟩) hS1.2.2 (show decode prog_21_method_155_code 9 = .ok (.return_, 1) by decide +kernel)
  have hd2 : decode prog_21_method_155_code 2 = .ok (.getstatic 1053, 3) := by decide +kernel
  have hlk := hts _ (m_has_in (p := 10067) (w := .fieldLink "java/lang/String" 1053 "jdk/internal/util/Preconditions" "SIOOBE_FORMATTER" "Ljava/util/function/BiFunction;") (by decide +kernel))
  rcases hs.2.2.2.2.2.1 with hZ | ⟨t, hZ⟩
  · exact va_gets hx hb hZ (no_S hS) hown hlk (fun _ h => h) hd2 (go _ (Or.inl rfl))
  · exact va_gets hx hb hZ (no_S hS) hown hlk (fun _ h => h) hd2 (go _ (Or.inr ⟨t, rfl⟩))
theorem words_char : ∀ k, k < 120 → (((Int32.ofInt (m_words.getD k 0) &&& 255).toUInt32 % 65536).toInt32 = Int32.ofInt (m_words.getD k 0) ∧ (Int32.ofInt (m_words.getD k 0)).toUInt32.toUInt16.toUInt32.toInt32 = Int32.ofInt (m_words.getD k 0)) := by decide +kernel
theorem idx_clamp : ∀ k, k < 120 → ((Int32.ofInt (Int.ofNat k)).toNatClampNeg = k ∧ ¬ (Int32.ofInt (Int.ofNat k)) < 0 ∧ Int32.ofInt (Int.ofNat k) < Int32.ofNat 120) := by decide +kernel
theorem jL1 (l : Launch) {k : Nat} (hk : k < 120) : Met l yL1 (xwJ yL1 prog_22_method_2_code 2 (some .char)) { frames := 2, cells := 0, slots := 0, locals := 43 } (va_Pc [.ref aV, .int (Int32.ofInt (Int.ofNat k))] (SP H z aK aV aP aW)) (va_Qi (S := Unit) (fun v _ => v = Int32.ofInt (m_words.getD k 0)) (fun _ t => t.heap = H) (fun _ => False)) 0 0 (fun _ => False) := by
  refine Met.ofW (cc := prog_22_method_2_code) (maxL := 2) (ret := some .char) (by decide) rfl ?_
  intro p e s m args below meth c s₁ B hml hv
  obtain ⟨rfl, rfl, hs⟩ := hv
  obtain ⟨c1, c2, c3⟩ := idx_clamp k hk
  obtain ⟨w1, w2⟩ := words_char k hk
  generalize Int32.ofInt (Int.ofNat k) = i at c1 c2 c3 B ⊢
  have hx := B.exec
  have hb := B.bytes
  have hr := B.returns
  have hlocks := B.notSynchronized
  have hts0 := atoms_spec (ws := xwJ yL1 prog_22_method_2_code 2 (some .char)) B.pre
  have hts : ∀ w ∈ gT, w.before ([.ref aV, .int i] : List Value).toArray s = true := fun w hw => hts0 w (List.mem_cons_of_mem _ hw)
  have hown : s.vm.findClass "java/lang/StringLatin1" = some m.cls := findClass_of_methodNamed B.named
  have hS : va_S (fun _ => False) s.heap s.heap [] := va_S.rf
  have hT := hs.2.2.2.1.2.2.2
  have hl : lv_has _ 2 [(0, .ref aV), (1, .int i)] := lv_entry ([.ref aV, .int i]) (n := 2) (Nat.le_of_ble_eq_true rfl)
  rw [lg_entry_eq]
  generalize (lg_sl ([.ref aV, .int i]) ++ List.replicate (2 - (lg_sl ([.ref aV, .int i])).length) Slot.unset).toArray = ls at hl ⊢
  refine lv_iload_n hx hb (show decode prog_22_method_2_code 0 = .ok (.iload_n 1, 1) by decide +kernel) rfl (lv_at hl 1 rfl) ?_
  refine lv_aload_n hx hb (show decode prog_22_method_2_code 1 = .ok (.aload_n 0, 1) by decide +kernel) rfl (lv_at hl 0 rfl) ?_
  refine va_tlen hx hb hT (no_S hS) rfl (show decode prog_22_method_2_code 2 = .ok (.arraylength, 1) by decide +kernel) ?_
  have hrun := va_runS (l := l) (e := e) (R := (headSpec (xwJ yL1 prog_22_method_2_code 2 (some .char)) { frames := 2, cells := 0, slots := 0, locals := 43 }).room) (below := below) (meth := meth) (As := [.int i, .int (Int32.ofNat 120)]) (rest := []) (H := s.heap) (locs := []) (cells := 0) (slots := 0) (g := F0 m 3 ls [.int (Int32.ofNat 120), .int i]) ⟨hx, hb, hml, hown, hts⟩ (jCI l (H := s.heap) (z := z) (aK := aK) (aV := aV) (aP := aP) (aW := aW) c2 c3)
    ⟨callB_of (index := 9) 2 hts (xwJ_good g_CI) rfl rfl rfl (hts _ (m_has_in (p := 10005) (by decide +kernel))) (hts _ (m_has_in (p := 10064) (by decide +kernel))) ⟨by decide, by decide, by decide +kernel⟩ ⟨Nat.le_of_ble_eq_true rfl, Nat.le_of_ble_eq_true rfl⟩, hts _ (m_has_in (p := 10065) (by decide +kernel))⟩
    ⟨SP.blind, fun U hU hW => ⟨rfl, SP.at hs hU hW⟩⟩ rfl rfl hl.1 rfl (lv_room (Nat.le_of_ble_eq_true rfl)) (show decode prog_22_method_2_code 3 = .ok (.invokestatic 9, 3) by decide +kernel) ⟨Nat.le_refl _, Nat.le_refl _⟩
  refine va_callv (S := Unit) hrun hS (fun _ _ h => h) (fun _ h => h) (fun u t H1 locs1 ht _ _ hB _ _ hS1 => ?_)
  have hH : H1 = s.heap := ht.symm.trans hB
  subst hH
  refine lv_aload_n hx hb (show decode prog_22_method_2_code 6 = .ok (.aload_n 0, 1) by decide +kernel) rfl (lv_at hl 0 rfl) ?_
  refine lv_iload_n hx hb (show decode prog_22_method_2_code 7 = .ok (.iload_n 1, 1) by decide +kernel) rfl (lv_at hl 1 rfl) ?_
  refine va_tb hx hb hT (no_S hS1) (show vp_in i 120 from fun h => by rcases h with h | h; exact c2 h; rw [c1] at h; omega) (v := .int (Int32.ofInt (m_words.getD k 0))) (by rw [c1]) (show decode prog_22_method_2_code 8 = .ok (.baload, 1) by decide +kernel) ?_
  refine lv_sipush (v := 255) hx hb (show decode prog_22_method_2_code 9 = .ok (.sipush 255, 3) by decide +kernel) (by decide) ?_
  refine lv_iand hx hb (show decode prog_22_method_2_code 12 = .ok (.iand, 1) by decide +kernel) ?_
  refine lv_i2c hx hb (show decode prog_22_method_2_code 13 = .ok (.i2c, 1) by decide +kernel) w1 ?_
  exact W.zret hx hb hr (show narrow .char (.int (Int32.ofInt (m_words.getD k 0))) = .int (Int32.ofInt (m_words.getD k 0)) from congrArg Value.int w2) (fun t ht hW => ⟨⟨_, (), rfl, rfl, ht⟩, hS1.F ht⟩) hS1.2.2 (show decode prog_22_method_2_code 14 = .ok (.ireturn, 1) by decide +kernel)
theorem jIL (l : Launch) : Met l yIL (xwJ yIL prog_21_method_154_code 1 (some .boolean)) { frames := 0, cells := 0, slots := 0, locals := 0 } (va_Pc [.ref aK] (SP H z aK aV aP aW)) (va_Qi (S := Unit) (fun v _ => v = 1) (fun _ t => t.heap = H) (fun _ => False)) 0 0 (fun _ => False) := by
  refine Met.ofW (cc := prog_21_method_154_code) (maxL := 1) (ret := some .boolean) (by decide) rfl ?_
  intro p e s m args below meth c s₁ B hml hv
  obtain ⟨rfl, rfl, hs⟩ := hv
  have hx := B.exec
  have hb := B.bytes
  have hr := B.returns
  have hlocks := B.notSynchronized
  have hts0 := atoms_spec (ws := xwJ yIL prog_21_method_154_code 1 (some .boolean)) B.pre
  have hts : ∀ w ∈ gT, w.before ([.ref aK] : List Value).toArray s = true := fun w hw => hts0 w (List.mem_cons_of_mem _ hw)
  have hown : s.vm.findClass "java/lang/String" = some m.cls := findClass_of_methodNamed B.named
  have hS : va_S (fun _ => False) s.heap s.heap [] := va_S.rf
  have hl : lv_has _ 1 [(0, .ref aK)] := lv_entry ([.ref aK]) (n := 1) (Nat.le_of_ble_eq_true rfl)
  rw [lg_entry_eq]
  generalize (lg_sl ([.ref aK]) ++ List.replicate (1 - (lg_sl ([.ref aK])).length) Slot.unset).toArray = ls at hl ⊢
  refine va_gets hx hb hs.2.2.2.2.1 (no_S hS) hown (hts _ (m_has_in (p := 10059) (w := .fieldLink "java/lang/String" 38 "java/lang/String" "COMPACT_STRINGS" "Z") (by decide +kernel))) (fun _ h => h) (show decode prog_21_method_154_code 0 = .ok (.getstatic 38, 3) by decide +kernel) ?_
  refine lv_if_eq (tgt := 17) hx hb (show decode prog_21_method_154_code 3 = .ok (.ifCond .eq 14, 3) by decide +kernel) (by decide) (fun h => absurd h (by decide)) (fun _ => ?_)
  refine lv_aload_n hx hb (show decode prog_21_method_154_code 6 = .ok (.aload_n 0, 1) by decide +kernel) rfl (lv_at hl 0 rfl) ?_
  refine vk_getf hx hb hs.2.2.2.1.2.1 (no_S hS) hown (hts _ (m_has_in (p := 90029) (w := .fieldLink "java/lang/String" 15 "java/lang/String" "coder" "B") (by decide +kernel))) (fun _ h => h) (show decode prog_21_method_154_code 7 = .ok (.getfield 15, 3) by decide +kernel) ?_
  refine lv_if_ne (tgt := 17) hx hb (show decode prog_21_method_154_code 10 = .ok (.ifCond .ne 7, 3) by decide +kernel) (by decide) (fun h => absurd rfl h) (fun _ => ?_)
  refine lv_iconst (v := 1) hx hb (show decode prog_21_method_154_code 13 = .ok (.iconst 1, 1) by decide +kernel) (by decide) ?_
  refine lv_goto (tgt := 18) hx hb (show decode prog_21_method_154_code 14 = .ok (.goto 4, 3) by decide +kernel) (by decide) ?_
  exact W.zret hx hb hr (by decide) (fun t ht hW => ⟨⟨_, (), rfl, rfl, ht⟩, hS.F ht⟩) hS.2.2 (show decode prog_21_method_154_code 18 = .ok (.ireturn, 1) by decide +kernel)
theorem jCA (l : Launch) {k : Nat} (hk : k < 120) : Met l yCA (xwJ yCA prog_21_method_56_code 2 (some .char)) { frames := 3, cells := 0, slots := 0, locals := 64 } (va_Pc [.ref aK, .int (Int32.ofInt (Int.ofNat k))] (SP H z aK aV aP aW)) (va_Qi (S := Unit) (fun v _ => v = Int32.ofInt (m_words.getD k 0)) (fun _ t => t.heap = H) (fun _ => False)) 0 0 (fun _ => False) := by
  refine Met.ofW (cc := prog_21_method_56_code) (maxL := 2) (ret := some .char) (by decide) rfl ?_
  intro p e s m args below meth c s₁ B hml hv
  obtain ⟨rfl, rfl, hs⟩ := hv
  obtain ⟨w1, w2⟩ := words_char k hk
  have hx := B.exec
  have hb := B.bytes
  have hr := B.returns
  have hlocks := B.notSynchronized
  have hts0 := atoms_spec (ws := xwJ yCA prog_21_method_56_code 2 (some .char)) B.pre
  have hts : ∀ w ∈ gT, w.before ([.ref aK, .int (Int32.ofInt (Int.ofNat k))] : List Value).toArray s = true := fun w hw => hts0 w (List.mem_cons_of_mem _ hw)
  have hown : s.vm.findClass "java/lang/String" = some m.cls := findClass_of_methodNamed B.named
  have hS : va_S (fun _ => False) s.heap s.heap [] := va_S.rf
  have hl : lv_has _ 2 [(0, .ref aK), (1, .int (Int32.ofInt (Int.ofNat k)))] := lv_entry ([.ref aK, .int (Int32.ofInt (Int.ofNat k))]) (n := 2) (Nat.le_of_ble_eq_true rfl)
  rw [lg_entry_eq]
  generalize (lg_sl ([.ref aK, .int (Int32.ofInt (Int.ofNat k))]) ++ List.replicate (2 - (lg_sl ([.ref aK, .int (Int32.ofInt (Int.ofNat k))])).length) Slot.unset).toArray = ls at hl ⊢
  refine lv_aload_n hx hb (show decode prog_21_method_56_code 0 = .ok (.aload_n 0, 1) by decide +kernel) rfl (lv_at hl 0 rfl) ?_
  have hrecv : ∃ cell : Cell, s.heap[aK]? = some cell ∧ cell.vm.isStatics = false ∧ s.vm.findClass "java/lang/String" = some cell.cls := by
    obtain ⟨cell, q1, q2, q3, -⟩ := hs.2.2.2.1.1
    exact ⟨cell, q1, q2, q3⟩
  have hrun := va_runV (l := l) (e := e) (R := (headSpec (xwJ yCA prog_21_method_56_code 2 (some .char)) { frames := 3, cells := 0, slots := 0, locals := 64 }).room) (below := below) (meth := meth) (b := aK) (As := []) (rest := []) (H := s.heap) (locs := []) (cells := 0) (slots := 0) (g := F0 m 1 ls [.ref aK]) ⟨hx, hb, hml, hown, hts⟩ (jIL l (H := s.heap) (z := z) (aK := aK) (aV := aV) (aP := aP) (aW := aW))
    ⟨callB_of (index := 492) 0 hts (xwJ_good g_IL) rfl rfl rfl (hts _ (m_has_in (p := 10005) (by decide +kernel))) (hts _ (m_has_in (p := 10055) (by decide +kernel))) ⟨by decide, by decide, by decide +kernel⟩ ⟨Nat.le_of_ble_eq_true rfl, Nat.le_of_ble_eq_true rfl⟩, hts _ (m_has_in (p := 10056) (by decide +kernel)), hts _ (m_has_in (p := 10057) (by decide +kernel))⟩
    ⟨SP.blind, hrecv, fun U hU hW => ⟨rfl, SP.at hs hU hW⟩⟩ rfl rfl hl.1 rfl (lv_room (Nat.le_of_ble_eq_true rfl)) (show decode prog_21_method_56_code 1 = .ok (.invokevirtual 492, 3) by decide +kernel) ⟨Nat.le_refl _, Nat.le_refl _⟩
  refine va_calli (S := Unit) hrun hS (fun _ _ h => h) (fun _ h => h) (fun v u t H1 locs1 ht _ hv hB _ _ hS1 => ?_)
  have hH : H1 = s.heap := ht.symm.trans hB
  subst hH
  subst hv
  refine lv_if_eq (tgt := 16) hx hb (show decode prog_21_method_56_code 4 = .ok (.ifCond .eq 12, 3) by decide +kernel) (by decide) (fun h => absurd h (by decide)) (fun _ => ?_)
  refine lv_aload_n hx hb (show decode prog_21_method_56_code 7 = .ok (.aload_n 0, 1) by decide +kernel) rfl (lv_at hl 0 rfl) ?_
  refine vk_getf hx hb hs.2.2.2.1.2.2.1 (no_S hS1) hown (hts _ (m_has_in (p := 90030) (w := .fieldLink "java/lang/String" 9 "java/lang/String" "value" "[B") (by decide +kernel))) (fun _ h => h) (show decode prog_21_method_56_code 8 = .ok (.getfield 9, 3) by decide +kernel) ?_
  refine lv_iload_n hx hb (show decode prog_21_method_56_code 11 = .ok (.iload_n 1, 1) by decide +kernel) rfl (lv_at hl 1 rfl) ?_
  have hrun2 := va_runS (l := l) (e := e) (R := (headSpec (xwJ yCA prog_21_method_56_code 2 (some .char)) { frames := 3, cells := 0, slots := 0, locals := 64 }).room) (below := below) (meth := meth) (As := [.ref aV, .int (Int32.ofInt (Int.ofNat k))]) (rest := []) (H := s.heap) (locs := locs1) (cells := 0 + 0) (slots := 0 + 0) (g := F0 m 12 ls [.int (Int32.ofInt (Int.ofNat k)), .ref aV]) ⟨hx, hb, hml, hown, hts⟩ (jL1 l (H := s.heap) (z := z) (aK := aK) (aV := aV) (aP := aP) (aW := aW) hk)
    ⟨callB_of (index := 495) 2 hts (xwJ_good g_L1) rfl rfl rfl (hts _ (m_has_in (p := 10006) (by decide +kernel))) (hts _ (m_has_in (p := 10061) (by decide +kernel))) ⟨by decide, by decide, by decide +kernel⟩ ⟨Nat.le_of_ble_eq_true rfl, Nat.le_of_ble_eq_true rfl⟩, hts _ (m_has_in (p := 10062) (by decide +kernel))⟩
    ⟨SP.blind, fun U hU hW => ⟨rfl, SP.at hs hU hW⟩⟩ rfl rfl hl.1 rfl (lv_room (Nat.le_of_ble_eq_true rfl)) (show decode prog_21_method_56_code 12 = .ok (.invokestatic 495, 3) by decide +kernel) ⟨Nat.le_refl _, Nat.le_refl _⟩
  refine va_calli (S := Unit) hrun2 hS1 (fun _ _ h => h) (fun _ h => h) (fun v u t H2 locs2 ht2 _ hv hB2 _ _ hS2 => ?_)
  have hH2 : H2 = s.heap := ht2.symm.trans hB2
  subst hH2
  subst hv
  exact W.zret hx hb hr (show narrow .char (.int (Int32.ofInt (m_words.getD k 0))) = .int (Int32.ofInt (m_words.getD k 0)) from congrArg Value.int w2) (fun t ht hW => ⟨⟨_, (), rfl, rfl, ht⟩, hS2.F ht⟩) hS2.2.2 (show decode prog_21_method_56_code 15 = .ok (.ireturn, 1) by decide +kernel)
end JT
/-- the texts of a world -/
def StrIs (G : mGl) (aV aP aW : Nat) : Prop := g_S G = strP (g_z G) (g_a G 999998) aV aP aW
theorem str_ok {G : mGl} {aV aP aW : Nat} (h : StrIs G aV aP aW) : StrOK G := by
  intro s U hs hW hk
  rw [h] at hs ⊢
  exact strP.moved hs hW hk
theorem ld_ok {G : mGl} {l : Launch} {aV aP aW : Nat} (h : StrIs G aV aP aW) : LdP G l := by
  intro p e R s m args below meth c Q mid pc kc ks st H locs ls hC hcls hd k
  obtain ⟨hx, hb, hml, hown, hts, hR, hin2, hB⟩ := hC
  rw [hcls] at hown
  have hs := hB.2.2.2.2.2
  rw [h] at hs
  exact va_ldcS hx hb hown hs.1 hd k
theorem ch_ok {G : mGl} {l : Launch} {aV aP aW : Nat} (h : StrIs G aV aP aW) : ChP G l := by
  intro p e R s m args below meth c Q mid pc kc ks idx lv st M H locs ls i hC hd hw hf1 hf2 hcat h0 h1 hF k
  obtain ⟨hx, hb, hml, hown, hts, hR, hin2, hB⟩ := id hC
  have hs := hB.2.2.2.2.2
  rw [h] at hs
  have hk : i.toNat < 120 := by omega
  have hi : i = Int.ofNat i.toNat := by show i = ((i.toNat : Nat) : Int); omega
  have hS : va_S (g_A G) s.heap H locs := hF.2.2.2.2.2.2.1
  have hrecv : ∃ cell : Cell, H[g_a G 999998]? = some cell ∧ cell.vm.isStatics = false ∧ s.vm.findClass "java/lang/String" = some cell.cls := by
    obtain ⟨cell, q1, q2, q3, -⟩ := hs.2.2.2.1.1.kept hS.2.1
    exact ⟨cell, q1, q2, q3⟩
  have hrun := va_runV (l := l) (e := e) (R := R) (below := below) (meth := meth) (b := g_a G 999998) (As := [.int (Int32.ofInt i)]) (rest := st.map (tr G)) (H := H) (locs := locs) (cells := kc) (slots := ks) (g := F0 m pc ls ((.inl i :: .inr (.inr 1000000) :: st).map (tr G))) ⟨hx, hb, hml, hown, hts⟩ (jCA l (H := H) (z := g_z G) (aK := g_a G 999998) (aV := aV) (aP := aP) (aW := aW) hk)
    ⟨callB_of (index := idx) 1 hts (xwJ_good g_CA) rfl rfl rfl (hts _ (m_has_in (p := 10005) (by decide +kernel))) (hts _ hw) ⟨by decide, by decide, by decide +kernel⟩ ⟨Nat.le_trans (Nat.le_trans (Nat.le_of_ble_eq_true rfl) hf1) hR.2.2.1, Nat.le_trans (Nat.le_trans (Nat.le_of_ble_eq_true rfl) hf2) hR.2.2.2⟩, hts _ (m_has_in (p := 10052) (by decide +kernel)), hts _ (m_has_in (p := 10053) (by decide +kernel))⟩
    ⟨SP.blind, hrecv, fun U hU hW => ⟨by rw [hi]; rfl, hU, strP.moved hs hW (fun q z1 z2 => by rw [hU]; exact hS.2.1 q z1 z2)⟩⟩ rfl rfl hF.1.1 rfl (lv_room (by rw [cats_eq]; exact hcat)) hd ⟨by rw [hR.1]; exact hF.2.2.2.2.2.2.2.2.1, by rw [hR.2.1]; exact hF.2.2.2.2.2.2.2.2.2⟩
  intro T hT X
  obtain ⟨v, st0, t, T', L, g0, X', hL, e1, e2, ⟨⟨r, u, q1, q2, q3⟩, -⟩, go⟩ := hrun T hT X
  have hL0 : L = [] := by
    cases L with
    | nil => rfl
    | cons a b => exact (hL a List.mem_cons_self).elim
  subst hL0
  rw [List.append_nil] at X'
  cases q1
  subst q2
  obtain ⟨t2, b1, b2⟩ := k T' (by rw [e1]; exact q3) X'
  exact ⟨t2, go t2 b1, b2⟩
