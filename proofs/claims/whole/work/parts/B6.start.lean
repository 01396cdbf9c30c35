/-! THE CLAIM OUT OF ONE WALK OF THE LAW'S BODY. Your part is whole_start (and what it stands on); all else here is the same for every law, but numbers. -/
def R_law : String := "SpeakClockLaw"
def lw_P (b : Addr) (xs : List Int32) (args : Array Value) (s : State) : Prop := args = #[.ref b] ∧ s.IntsAt b xs ∧ xs.length ≤ 3072 ∧ (Jvm.Cond.and given_1 narrow_1).before args s = true
def lw_Q (_ : Array Value) (s : State) (o : Outcome) (t : State) : Prop := o = .returned (some (.int 1)) ∧ Framed s o t [] 1168 13168
def lw_Z (below : List Frame) (a : Array Value) (s : State) : State → Prop := fun t => ∃ o, t.status = .running ∧ Ended t below o ∧ lw_Q a s o t
/-- the law's own end, with 1 on the stack, nothing written that was there before, its room as the claim has it -/
theorem lw_ret {p : Program} {l : Launch} {e : Env} {s : State} {m : MethodId} {below : List Frame} {meth : Method} {c : Code} {b : Nat} (hx : p.tables.exec = Jvm.exec) (hb : c.code = code) (hr : meth.sig.returnType = ret) (hlocks : meth.locks = false) {pc : Nat} {H : Heap} {ls : Array Slot} (hdg : decode code pc = .ok (.ireturn, 1)) : W p l e room_1 s m #[Value.ref b] below meth c H [] 1168 13168 (lw_Z below #[Value.ref b] s) (F0 m pc ls [.int 1]) := by
  intro T hT X
  obtain ⟨fs, hret, hrun, hended, hW, hframe⟩ := X.leave (v := some (.int 1)) (hlocks := hlocks) (fun h => by rw [hr] at h; cases h)
  have hmeth' : T.vm.method? m = some meth := X.method'
  refine ⟨T.setFrames fs, ?_, .returned (some (.int 1)), hrun, hended, rfl, ⟨_, rfl⟩, hW, hframe⟩
  jvm_step X.here [X.here.top, hx, hb, hdg, hmeth', hr, ret, narrow_b1]
  (try refine ⟨rfl, ?_⟩); (try refine ⟨rfl, ?_⟩)
  first | (intro acts; rw [hret _ acts rfl rfl rfl]) | rw [hret _ _ rfl rfl rfl]
  exact Steps.refl _
/-- what holds at the law's entry: the machine, the code, the tables' words (any of lw_tbl by 'hts w (by decide +kernel)'), the script of L ints xs at the cell b, what the Statement gives of the start (any of its parts by flat_of_before) -/
def lw_At (p : Program) (s : State) (m : MethodId) (meth : Method) (c : Code) (b L : Nat) (xs : Nat → Int32) : Prop :=
  p.tables.exec = Jvm.exec ∧ c.code = code ∧ meth.sig.returnType = ret ∧ c.maxLocals = 7 ∧ s.vm.findClass R_law = some m.cls ∧ (∀ w ∈ lw_tbl, w.before #[Value.ref b] s = true) ∧ va_X b L xs s s.heap ∧ b < s.heap.size ∧ meth.locks = false ∧ (Jvm.Cond.and given_1 narrow_1).before #[Value.ref b] s = true
/-! ===== the start ===== -/
def shE (Ls k : Nat) : Nat × Nat := if k = 1 then (98, Ls) else (99, 0)
/-- the memory before anything is made: the script alone -/
def ME (Ls : Nat) (xs : Nat → Int) : mM := (2, shE Ls, fun _ _ => 0, fun k j => if k = 1 then xs j else 0, fun _ _ => 0)
theorem fl_el : ∀ j, j < 120 → Cond.eq (.elem (.field (.string "SpeakClock$Tokens" 38) "java/lang/String" "value" "[B") (.int (Int32.ofNat j))) (.int ((([m_words.map Int32.ofInt] : List (List Int32)).getD 0 []).getD j 0)) ∈ flatC (Jvm.Cond.and given_1 narrow_1) := by decide +kernel
theorem w_map (j : Nat) : (m_words.map Int32.ofInt).getD j 0 = Int32.ofInt (m_words.getD j 0) := by
  rw [List.getD_eq_getElem?_getD, List.getElem?_map, List.getD_eq_getElem?_getD]
  cases m_words[j]? with
  | none => rfl
  | some x => rfl
theorem str_start {s : State} {args : Array Value} (hts : ∀ w ∈ lw_tbl, w.before args s = true) (hg : (Jvm.Cond.and given_1 narrow_1).before args s = true) : ∃ aK aV aP aW : Nat, strP s.heap.size aK aV aP aW s := by
  have hs := flat_of_before _ hg
  have hA : ∀ a : Nat, a < s.heap.size → ¬ (fun q => s.heap.size ≤ q) a := fun a h1 h2 => absurd h1 (Nat.not_lt.mpr h2)
  obtain ⟨adK, adV, hS, hev⟩ := vk_Sof (args := args) (s := s) (N := 1) (tm := fun _ => Term.string "SpeakClock$Tokens" 38) (len := [120]) (byt := [m_words.map Int32.ofInt]) (A := fun q => s.heap.size ≤ q)
    (fun i hi => by rw [show i = 0 by omega]; decide) (fun i hi => hs _ (by decide +kernel)) (fun i hi => hs _ (by decide +kernel)) (fun i hi => hs _ (by decide +kernel)) (fun i hi => by rw [show i = 0 by omega]; exact hs _ (by decide +kernel))
    (fun i hi j hj => by rw [show i = 0 by omega] at hj ⊢; exact hs _ (fl_el j hj)) (fun i j hi hj hij => absurd (show i = j by omega) hij) hA
  obtain ⟨aP, -, -, -, eP, -⟩ := Cond.exactly_spec (args := args) (first := s) (o := none) (s := s) (idx := []) (t := .string "SpeakClock" 122) (cls := "java/lang/String") (hs _ (by decide +kernel))
  obtain ⟨aW, -, -, -, eW, -⟩ := Cond.exactly_spec (args := args) (first := s) (o := none) (s := s) (idx := []) (t := .string "SpeakClock" 154) (cls := "java/lang/String") (hs _ (by decide +kernel))
  obtain ⟨h1, h2, h3, h4⟩ := hS.1 0 (by omega)
  have hk : ∀ w : Cond, w ∈ gT → w.before args s = true := fun w hw => hts w (gT_in hw)
  refine ⟨adK 0, adV 0, aP, aW, vk_R.of (hts _ (m_hasN_in (p := 10050) (by decide +kernel))) (hev 0 (by omega)), vk_R.of (hts _ (m_hasN_in (p := 50184) (by decide +kernel))) eP, vk_R.of (hts _ (m_hasN_in (p := 50220) (by decide +kernel))) eW, ⟨h1, h2, h3, ?_⟩, ?_, ?_, ?_, ?_, ?_⟩
  · obtain ⟨cell, c1, c2, c3, c4, c5, c6, c7⟩ := h4
    exact ⟨cell, c1, c2, c3, c4, c5, fun j hj => by rw [c6 j hj]; exact congrArg (fun z => some (Value.int z)) (w_map j), c7⟩
  · exact va_Zof (hts _ (m_hasN_in (p := 10060) (by decide +kernel))) (hk _ (m_has_in (p := 10005) (by decide +kernel))) (va_eqt (hs _ (by decide +kernel))) hA
  · exact va_Zqof (hts _ (m_hasN_in (p := 10068) (by decide +kernel))) (hk _ (m_has_in (p := 10007) (by decide +kernel))) (hs _ (by decide +kernel)) hA
  · exact vx_Zqof (hts _ (m_hasN_in (p := 50171) (by decide +kernel))) (hk _ (m_has_in (p := 10017) (by decide +kernel))) (hs _ (by decide +kernel)) hA
  · exact vx_Zqof (hts _ (m_hasN_in (p := 50173) (by decide +kernel))) (hk _ (m_has_in (p := 10017) (by decide +kernel))) (hs _ (by decide +kernel)) hA
  · exact va_Nc.of (hs _ (by decide +kernel))
theorem fl_tr (l : Launch) (h : l.flags = flags0) : l.stackTraces = false := by
  unfold Launch.stackTraces
  rw [h]
  decide +kernel
/-- the law comes to its end with true, if the mini machine does -/
theorem start_of {p : Program} {e : Env} {s : State} {m : MethodId} {below : List Frame} {meth : Method} {c : Code} (l : Launch) (hflags : l.flags = flags0) {b L : Nat} {xs : Nat → Int32} (C0 : lw_At p s m meth c b L xs)
    (hrun : m_Call 259 [.inr (.inr 1)] (ME L (fun j => (xs j).toInt)) (fun v _ => v = [.inl 1])) : W p l e room_1 s m #[Value.ref b] below meth c s.heap [] 0 0 (lw_Z below #[Value.ref b] s) (entryFrame m ([Value.ref b] : List Value).toArray 7) := by
  obtain ⟨hx, hb, hr, hml, hown, hts, hX, hbl, hlocks, hgv⟩ := C0
  obtain ⟨aK, aV, aP, aW, hstr⟩ := str_start hts hgv
  obtain ⟨D, cs, hB⟩ := start_base (aK := aK) (Str := strP s.heap.size aK aV aP aW) hstr hts hX hbl
  have hs : StrIs (b, L, s.heap.size, xs, (fun k => if k = 999998 then aK else s.heap.size + k), D, cs, strP s.heap.size aK aV aP aW) aV aP aW := by
    show strP s.heap.size aK aV aP aW = strP s.heap.size (if 999998 = 999998 then aK else s.heap.size + 999998) aV aP aW
    rw [if_pos rfl]
  have hA : AdOK (b, L, s.heap.size, xs, (fun k => if k = 999998 then aK else s.heap.size + k), D, cs, strP s.heap.size aK aV aP aW) := start_ad s.heap.size aK
  generalize hGe : ((b, L, s.heap.size, xs, (fun k => if k = 999998 then aK else s.heap.size + k), D, cs, strP s.heap.size aK aV aP aW) : mGl) = G at hs hA hB
  have gb : g_b G = b := by rw [← hGe]
  have gL : g_L G = L := by rw [← hGe]
  have gz : g_z G = s.heap.size := by rw [← hGe]
  have gx : g_x G = xs := by rw [← hGe]
  obtain ⟨n, q, hex, hq⟩ := hrun
  have hs1 : S1 G l n := sound_all (fl_tr l hflags) hs hA n
  have hC : Ctx G 259 p room_1 s m #[Value.ref b] meth c := ⟨hx, hb, hml, hown, fun w hw => hts w (gT_in hw), ⟨rfl, rfl, Nat.le_of_ble_eq_true rfl, Nat.le_of_ble_eq_true rfl⟩, fun hi => absurd hi (by decide +kernel), hB⟩
  have hend : EndP p l e room_1 s m #[Value.ref b] below meth c (lw_Z below #[Value.ref b] s) G 259 q := by
    intro pc kc ks H locs ls k1 k2 w1 w2 w3 w4 w5 w6
    rw [hq] at w6 ⊢
    refine va_forget (fun z hz => by rw [← gz]; exact w4.2.2 z hz) (W.widen k1 k2 ?_)
    exact lw_ret hx hb hr hlocks w6.2.1
  have hl := lv_entry ([Value.ref b]) (n := 7) (Nat.le_of_ble_eq_true rfl)
  rw [lg_entry_eq]
  generalize (lg_sl ([Value.ref b]) ++ List.replicate (7 - (lg_sl ([Value.ref b])).length) Slot.unset).toArray = ls at hl ⊢
  have hwM : wfM G (ME L (fun j => (xs j).toInt)) := by
    refine ⟨Nat.le_refl _, (show (2 : Nat) ≤ 144 by decide), fun k hk => ?_, rfl, by rw [gL]; rfl, fun j => by rw [gx]; rfl, fun k j => ?_, fun k j => ?_, fun k h1 h2 => absurd h2 (Nat.not_lt.mpr h1)⟩
    · have hk : 2 ≤ k := hk
      show (shE L k).1 = 99
      unfold shE
      rw [if_neg (by omega)]
    · show wr (if k = 1 then (xs j).toInt else 0) = if k = 1 then (xs j).toInt else 0
      by_cases h1 : k = 1
      · rw [if_pos h1]; exact wr_toInt _
      · rw [if_neg h1]; decide +kernel
    · show wl 0 = 0
      decide +kernel
  have hF : Frm G 259 s 0 0 (m_ent 0 [.inr (.inr 1)]) [] (ME L (fun j => (xs j).toInt)) s.heap [] ls :=
    ⟨by
      have hl : lv_has ls 7 [(0, Value.ref b)] := hl
      have e1 : (m_ent 0 ([.inr (.inr 1)] : List mV)).map (trq G) = [(0, Value.ref b)] := by
        show [(0, Value.ref (g_b G))] = _
        rw [gb]
      rw [e1]; exact hl, fun q hq => by rw [List.mem_singleton.mp hq]; trivial, fun v hv => absurd hv List.not_mem_nil, hwM, fun k q hk => (by cases hk), ⟨fun i j x y hi => (by cases hi), fun i x hi => (by cases hi)⟩, va_S.rf, fun _ => by rw [gz]; rfl, Nat.zero_le _, Nat.zero_le _⟩
  have kk := hs1 (by decide) (by decide) (okL_all 259 (by decide) (by decide)) hC hend hex hF
  rw [pcOf0 (by decide) (by decide)] at kk
  exact kk
