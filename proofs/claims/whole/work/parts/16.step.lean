/-! ===== the step, an instruction a row ===== -/
theorem lrem_mod (x y : Int64) : x - x / y * y = x % y := by
  apply Int64.toInt_inj.mp
  have h1 := Int64.le_toInt (x % y)
  have h2 := Int64.toInt_lt (x % y)
  rw [Int64.toInt_sub, Int64.toInt_mul, Int64.toInt_div, Int.bmod_mul_bmod, Int.sub_bmod_bmod, Int.mul_comm (x.toInt.tdiv y.toInt), ← Int.tmod_def, ← Int64.toInt_mod]
  exact Int.bmod_eq_of_le_mul_two (by omega) (by omega)
theorem l_rem {x y : Int} (hx : wl x = x) (hy : wl y = y) : (Int64.ofInt x - Int64.ofInt x / Int64.ofInt y * Int64.ofInt y).toInt = x.tmod y := by
  rw [lrem_mod, Int64.toInt_mod]
  show (wl x).tmod (wl y) = _
  rw [hx, hy]
theorem nar_b {G : mGl} {v : Int} (h : v = 0 ∨ v = 1) : narrow .boolean (tr G (.inl v)) = tr G (.inl v) := by
  show narrow .boolean (.int (Int32.ofInt v)) = .int (Int32.ofInt v)
  rcases h with rfl | rfl <;> decide +kernel
theorem fit_b {G : mGl} {v : Int} (h : v = 0 ∨ v = 1) : fits .boolean (tr G (.inl v)) = true := by
  show fits .boolean (.int (Int32.ofInt v)) = true
  rcases h with rfl | rfl <;> decide +kernel
theorem okF_spec {own : String} {idx e1 e2 e3 p : Nat} (h : m_okF own idx e1 e2 e3 p = true) : ∃ ci, e1 = ci + 4 ∧ ci < 11 ∧ e2 < (m_cl ci).2.2 ∧ e3 = m_tc (m_ty ci e2) ∧ Cond.fieldLink own idx ((m_cl ci).2.1 e2).1 ((m_cl ci).2.1 e2).2.1 ((m_cl ci).2.1 e2).2.2.1 ∈ gT := by
  unfold m_okF at h
  simp only [Bool.and_eq_true] at h
  obtain ⟨⟨⟨⟨h1, h2⟩, h3⟩, h4⟩, h5⟩ := h
  have h1 := Nat.le_of_ble_eq_true h1
  have h2 : e1 < 15 := Nat.le_of_ble_eq_true h2
  exact ⟨e1 - 4, by omega, by omega, Nat.le_of_ble_eq_true h3, Nat.eq_of_beq_eq_true h4, m_has_in h5⟩
theorem okFin_spec {m ci e2 : Nat} (h : m_okFin m (ci + 4) e2 = true) : ((m_cl ci).2.1 e2).2.2.2 = false ∨ ((mY m).name = "<init>" ∧ ((m_cl ci).2.1 e2).1 = (mY m).cls) := by
  unfold m_okFin at h
  rw [Nat.add_sub_cancel] at h
  simp only [Bool.or_eq_true, Bool.and_eq_true, decide_eq_true_eq, Bool.not_eq_true'] at h
  exact h
theorem newa_spec {m pc len e1 e2 e3 : Nat} {z : Int} {a : ArrayType} (h : m_okX m (pc, .newarray a, len, e1, e2, e3, z) = true) : ((e1 = 0 ∧ newarray.typeOf a = .int) ∨ (e1 = 1 ∧ newarray.typeOf a = .long) ∨ (e1 = 2 ∧ newarray.typeOf a = .byte) ∨ (e1 = 3 ∧ newarray.typeOf a = .boolean)) ∧ Cond.arrayClass (newarray.typeOf a) ∈ gT := by
  unfold m_okX at h
  dsimp only at h
  rw [Bool.and_eq_true] at h
  refine ⟨?_, m_has_in h.2⟩
  have h1 := h.1
  match e1, h1 with
  | 0, h1 => exact Or.inl ⟨rfl, of_decide_eq_true h1⟩
  | 1, h1 => exact Or.inr (Or.inl ⟨rfl, of_decide_eq_true h1⟩)
  | 2, h1 => exact Or.inr (Or.inr (Or.inl ⟨rfl, of_decide_eq_true h1⟩))
  | 3, h1 => exact Or.inr (Or.inr (Or.inr ⟨rfl, of_decide_eq_true h1⟩))
  | _ + 4, h1 => cases h1
theorem link_spec {m idx e1 e3 : Nat} {z : Int} (h : m_okLink m idx e1 e3 z = true) : Cond.methodLink (mY m).cls idx (mY e1) ∈ gT ∨ Cond.methodLinkNest (mY m).cls idx (mY e1) "SpeakClock" ∈ lw_tbl := by
  unfold m_okLink at h
  cases hb : Nat.blt e3 1000
  · rw [hb] at h; exact Or.inr (m_hasN_in h)
  · rw [hb] at h; exact Or.inl (m_has_in h)
theorem pop_wf {n : Nat} {st as st' : List mV} (h : m_pop n st [] = some (as, st')) (hw : ∀ v ∈ st, wfV v) : ∀ v ∈ as, wfV v := by
  obtain ⟨pre, h1, h2, -⟩ := pop_spec n h
  intro v hv
  rw [h2, List.append_nil] at hv
  exact hw v (by rw [h1]; exact List.mem_append_left _ (List.mem_reverse.mp hv))
theorem words_wr (i : Nat) : wr (m_words.getD i 0) = m_words.getD i 0 := by
  have h : ∀ x ∈ m_words, wr x = x := by decide +kernel
  rw [List.getD_eq_getElem?_getD]
  cases hx : m_words[i]? with
  | none => exact wr0
  | some x => exact h x (List.mem_of_getElem? hx)
theorem charAt_spec {n m kc ks : Nat} {r : List mE} {lv : List (Nat × mV)} {st : List mV} {M : mM} {q : List mV × mM} (h : m_disp n m (match st with
    | .inl i :: .inr (.inr w) :: s => bif Nat.beq w 1000000 && Nat.ble (m_cats s) 8 then mif (6, i, 120, 0, 0) r kc ks lv (.inl (m_words.getD i.toNat 0) :: s) M else mno M
    | _ => mno M) = some q) : ∃ (i : Int) (s : List mV), st = .inl i :: .inr (.inr 1000000) :: s ∧ m_cats s ≤ 8 ∧ 0 ≤ i ∧ i < 120 ∧ m_exec n m (r, kc, ks, lv, .inl (m_words.getD i.toNat 0) :: s, M) = some q := by
  rcases st with _ | ⟨(i | i | i), _ | ⟨(w | w | w), s⟩⟩ <;> first | exact noEx h | skip
  obtain ⟨h8, h⟩ := bd_chk h rfl
  rw [Bool.and_eq_true] at h8
  have hw := Nat.eq_of_beq_eq_true h8.1
  obtain ⟨hin, h⟩ := m_chk h
  exact ⟨i, s, by rw [hw], Nat.le_of_ble_eq_true h8.2, hin.1, hin.2, h⟩
section MTH
variable {p : Program} {l : Launch} {e : Env} {R : Room} {s : State} {m : MethodId} {args : Array Value} {below : List Frame} {meth : Method} {c : Code} {Q : State → Prop} {G : mGl} {mid n : Nat} {q q1 : List mV × mM} {r : List mE} {pc pc' kc ks : Nat} {lv : List (Nat × mV)} {st st' : List mV} {M : mM} {H : Heap} {locs : List Loc} {ls : Array Slot}
theorem s_math {b idx : Nat} (hLib : LibOK) (hC : Ctx G mid p R s m args meth c) (hd : decode (mB mid) pc = .ok (.invokestatic idx, 3)) (h0 : 1000 ≤ b) (h5 : b ≤ 1005) (hw : Cond.methodLink (mY mid).cls idx (m_mY b).1 ∈ gT) (hf1 : 1 ≤ mFr mid) (hf2 : 24 ≤ mLo mid)
    (hF : Frm G mid s kc ks lv st M H locs ls) (go : GoP p l e R s m args below meth c Q G mid n q r (pc + 3))
    (h : m_disp n mid (bif Nat.blt 8 (m_cats st) then mno M
  else (bif Nat.beq b 1000 then (match st with
      | .inl y :: .inl x :: s => mgo r kc ks lv (.inl (m_max x y) :: s) M
      | _ => mno M)
    else bif Nat.beq b 1001 then (match st with
      | .inl y :: .inl x :: s => mgo r kc ks lv (.inl (m_min x y) :: s) M
      | _ => mno M)
    else bif Nat.beq b 1002 then (match st with
      | .inl x :: s => mgo r kc ks lv (.inl (if 0 ≤ x then x else wr (0 - x)) :: s) M
      | _ => mno M)
    else bif Nat.beq b 1003 then (match st with
      | .inr (.inl y) :: .inr (.inl x) :: s => mgo r kc ks lv (.inr (.inl (m_max x y)) :: s) M
      | _ => mno M)
    else bif Nat.beq b 1004 then (match st with
      | .inr (.inl y) :: .inr (.inl x) :: s => mgo r kc ks lv (.inr (.inl (m_min x y)) :: s) M
      | _ => mno M)
    else bif Nat.beq b 1005 then (match st with
      | .inr (.inl x) :: s => mgo r kc ks lv (.inr (.inl (if 0 ≤ x then x else wl (0 - x))) :: s) M
      | _ => mno M)
    else mno M)) = some q) : W p l e R s m args below meth c H locs kc ks Q (F0 m pc ls (st.map (tr G))) := by
  obtain ⟨hx, hb, hml, hown, hts, hR, hin2, hB⟩ := id hC
  have hst := hF.2.2.1
  have hls : c.maxLocals = ls.size := hml.trans hF.1.1.symm
  have hkc : kc ≤ R.cells := by rw [hR.1]; exact hF.2.2.2.2.2.2.2.2.1
  have hks : ks ≤ R.slots := by rw [hR.2.1]; exact hF.2.2.2.2.2.2.2.2.2
  have hfr : 1 ≤ R.frames := Nat.le_trans hf1 hR.2.2.1
  cases hb8 : Nat.blt 8 (m_cats st)
  · rw [hb8] at h
    dsimp only [cond_false] at h
    have h8 : m_cats st ≤ 8 := by
      rcases Nat.lt_or_ge 8 (m_cats st) with w | w
      · rw [show Nat.blt 8 (m_cats st) = true from Nat.ble_eq_true_of_le w] at hb8; cases hb8
      · exact w
    have hini := hts _ hLib.2.2.1
    obtain ⟨hs1, hs2⟩ := hLib.2.1 b h0 h5
    have hs1 := hts _ hs1
    have hs2 := hts _ hs2
    have hw := hts _ hw
    have hlo := hR.2.2.2
    have wl0 : wl 0 = 0 := wl_of (by omega) (by omega)
    rcases (by omega : b = 1000 ∨ b = 1001 ∨ b = 1002 ∨ b = 1003 ∨ b = 1004 ∨ b = 1005) with rfl | rfl | rfl | rfl | rfl | rfl
    · rcases st with _ | ⟨(y | y | y), _ | ⟨(x | x | x), st⟩⟩ <;> first | exact noEx h | skip
      have hy := wf_head hst
      have hxx := wf_head (wf_tail hst)
      have hc8 : m_cats st ≤ 8 := by simp only [m_cats] at h8; omega
      exact s_row (st' := .inl (m_max x y) :: st) go hF (wf_cons (by show wr (m_max x y) = _; unfold m_max; split; exact hy; exact hxx) (wf_tail (wf_tail hst))) h (trI (V := if Int32.ofInt x < Int32.ofInt y then Int32.ofInt y else Int32.ofInt x) (by
        unfold m_max
        by_cases hlt : x < y
        · rw [if_pos hlt, if_pos ((i_lt hxx hy).mpr hlt)]
        · rw [if_neg hlt, if_neg (fun w => hlt ((i_lt hxx hy).mp w))])) (fun k => va_mmax hx hb hls hown hw hs1 hini hs2 hfr (by rw [cats_eq]; omega) hkc hks hd k)
    · rcases st with _ | ⟨(y | y | y), _ | ⟨(x | x | x), st⟩⟩ <;> first | exact noEx h | skip
      have hy := wf_head hst
      have hxx := wf_head (wf_tail hst)
      have hc8 : m_cats st ≤ 8 := by simp only [m_cats] at h8; omega
      exact s_row (st' := .inl (m_min x y) :: st) go hF (wf_cons (by show wr (m_min x y) = _; unfold m_min; split; exact hy; exact hxx) (wf_tail (wf_tail hst))) h (trI (V := if Int32.ofInt y < Int32.ofInt x then Int32.ofInt y else Int32.ofInt x) (by
        unfold m_min
        by_cases hlt : y < x
        · rw [if_pos hlt, if_pos ((i_lt hy hxx).mpr hlt)]
        · rw [if_neg hlt, if_neg (fun w => hlt ((i_lt hy hxx).mp w))])) (fun k => va_mmin hx hb hls hown hw hs1 hini hs2 hfr (by rw [cats_eq]; omega) hkc hks hd k)
    · rcases st with _ | ⟨(x | x | x), st⟩ <;> first | exact noEx h | skip
      have hxx := wf_head hst
      have hc8 : m_cats st ≤ 8 := by simp only [m_cats] at h8; omega
      exact s_row (st' := .inl (if 0 ≤ x then x else wr (0 - x)) :: st) go hF (wf_cons (by show wr (if 0 ≤ x then x else wr (0 - x)) = _; split; exact hxx; exact wr_wr _) (wf_tail hst)) h (trI (V := if 0 ≤ Int32.ofInt x then Int32.ofInt x else 0 - Int32.ofInt x) (by
        by_cases hlt : 0 ≤ x
        · rw [if_pos hlt, if_pos (show (0 : Int32) ≤ Int32.ofInt x from (i_le wr0 hxx).mpr hlt)]
        · rw [if_neg hlt, if_neg (show ¬ (0 : Int32) ≤ Int32.ofInt x from fun w => hlt ((i_le wr0 hxx).mp w)), wr_ofInt, Int32.ofInt_sub]; rfl)) (fun k => va_mabs hx hb hls hown hw hs1 hini hs2 hfr (by rw [cats_eq]; omega) hkc hks hd k)
    · rcases st with _ | ⟨(y | y | y), _ | ⟨(x | x | x), st⟩⟩ <;> first | exact noEx h | skip
      have hy := wf_head hst
      have hxx := wf_head (wf_tail hst)
      have hc8 : m_cats st ≤ 8 := by simp only [m_cats] at h8; omega
      exact s_row (st' := .inr (.inl (m_max x y)) :: st) go hF (wf_cons (by show wl (m_max x y) = _; unfold m_max; split; exact hy; exact hxx) (wf_tail (wf_tail hst))) h (trL (V := if Int64.ofInt y < Int64.ofInt x then Int64.ofInt x else Int64.ofInt y) (by
        unfold m_max
        by_cases hlt : x < y
        · rw [if_pos hlt, if_neg (fun w => by have := (l_lt hy hxx).mp w; omega)]
        · by_cases heq : y < x
          · rw [if_neg hlt, if_pos ((l_lt hy hxx).mpr heq)]
          · rw [if_neg hlt, if_neg (fun w => heq ((l_lt hy hxx).mp w)), show x = y by omega])) (fun k => va_mmax_long hx hb hls hown hw hs1 hini hs2 hfr (by rw [cats_eq]; omega) hkc hks hd k)
    · rcases st with _ | ⟨(y | y | y), _ | ⟨(x | x | x), st⟩⟩ <;> first | exact noEx h | skip
      have hy := wf_head hst
      have hxx := wf_head (wf_tail hst)
      have hc8 : m_cats st ≤ 8 := by simp only [m_cats] at h8; omega
      exact s_row (st' := .inr (.inl (m_min x y)) :: st) go hF (wf_cons (by show wl (m_min x y) = _; unfold m_min; split; exact hy; exact hxx) (wf_tail (wf_tail hst))) h (trL (V := if Int64.ofInt y < Int64.ofInt x then Int64.ofInt y else Int64.ofInt x) (by
        unfold m_min
        by_cases hlt : y < x
        · rw [if_pos hlt, if_pos ((l_lt hy hxx).mpr hlt)]
        · rw [if_neg hlt, if_neg (fun w => hlt ((l_lt hy hxx).mp w))])) (fun k => va_mmin_long hx hb hls hown hw hs1 hini hs2 hfr (by rw [cats_eq]; omega) hkc hks hd k)
    · rcases st with _ | ⟨(x | x | x), st⟩ <;> first | exact noEx h | skip
      have hxx := wf_head hst
      have hc8 : m_cats st ≤ 8 := by simp only [m_cats] at h8; omega
      exact s_row (st' := .inr (.inl (if 0 ≤ x then x else wl (0 - x))) :: st) go hF (wf_cons (by show wl (if 0 ≤ x then x else wl (0 - x)) = _; split; exact hxx; exact wl_wl _) (wf_tail hst)) h (trL (V := if 0 < Int64.ofInt x then Int64.ofInt x else -Int64.ofInt x) (by
        by_cases hlt : 0 < x
        · rw [if_pos (by omega : 0 ≤ x), if_pos (show (0 : Int64) < Int64.ofInt x from (l_lt wl0 hxx).mpr hlt)]
        · rw [if_neg (show ¬ 0 < Int64.ofInt x from fun w => hlt ((l_lt wl0 hxx).mp w))]
          by_cases h00 : 0 ≤ x
          · rw [if_pos h00, show x = 0 by omega]; rfl
          · rw [if_neg h00, wl_ofInt, Int.zero_sub, Int64.ofInt_neg])) (fun k => va_mabs_long hx hb hls hown hw hs1 hini hs2 hfr (by rw [cats_eq]; omega) hkc hks hd k)
  · rw [hb8] at h; exact noEx h
theorem mcpy_wr {I : Nat → Nat → Int} {a d n : Nat} (h : ∀ a b, wr (I a b) = I a b) : ∀ x y, wr (mcpy I a d n x y) = mcpy I a d n x y := by
  intro x y
  unfold mcpy
  by_cases h1 : x = d
  · rw [if_pos h1]
    by_cases h2 : y < n
    · simp only [h2, if_true]; exact h a y
    · simp only [h2, if_false]; exact h d y
  · rw [if_neg h1]; exact h x y
theorem s_cpy {idx : Nat} (hLib : LibOK) (hC : Ctx G mid p R s m args meth c) (hd : decode (mB mid) pc = .ok (.invokestatic idx, 3)) (hw : Cond.methodLink (mY mid).cls idx arraycopyName ∈ gT) (hf1 : 1 ≤ mFr mid) (hf2 : 40 ≤ mLo mid)
    (hF : Frm G mid s kc ks lv st M H locs ls) (go : GoP p l e R s m args below meth c Q G mid n q r (pc + 3)) (h : m_disp n mid (m_cpy r kc ks lv st M) = some q) : W p l e R s m args below meth c H locs kc ks Q (F0 m pc ls (st.map (tr G))) := by
  obtain ⟨hx, hb, hml, hown, hts, hR, hin2, hB⟩ := id hC
  have hst := hF.2.2.1
  have hls : c.maxLocals = ls.size := hml.trans hF.1.1.symm
  have hfr : 1 ≤ R.frames := Nat.le_trans hf1 hR.2.2.1
  unfold m_cpy at h
  split at h
  · next x dp d sp sr t nn sh RR I L =>
    obtain ⟨hk, h⟩ := bd_chk h rfl
    simp only [Bool.and_eq_true] at hk
    obtain ⟨hin, h2⟩ := m_chk h
    clear h
    have hin : (0 ≤ x ∧ x ≤ ((sh (sr + 2)).2 : Int)) ∧ (x ≤ ((sh (d + 2)).2 : Int) ∧ (sp.natAbs : Int) + (dp.natAbs : Int) = 0) := hin
    have hdp : dp = 0 := by omega
    have hsp : sp = 0 := by omega
    subst hdp
    subst hsp
    have h144 := Nat.eq_of_beq_eq_true hk.1.1.1
    have hkd := Nat.eq_of_beq_eq_true hk.1.1.2
    have hks := Nat.eq_of_beq_eq_true hk.1.2
    have hc8 := Nat.le_of_ble_eq_true hk.2
    have hxw : wr x = x := wf_head hst
    obtain ⟨f1, f2, f3, f4, f5, f6, f7, f8, f9, f10⟩ := id hF
    have hl1 : d + 2 < nn := (wf_in (M := (nn, sh, RR, I, L)) f4 (by show (sh (d + 2)).1 < 15; omega)).1
    have hl2 : sr + 2 < nn := (wf_in (M := (nn, sh, RR, I, L)) f4 (by show (sh (sr + 2)).1 < 15; omega)).1
    have hni := int_nat hxw
    have hneg : ¬ Int32.ofInt x < 0 := fun w => by have := (i_lt hxw wr0).mp w; omega
    have h00 : ¬ Int32.ofInt 0 < 0 := fun w => by have := (i_lt wr0 wr0).mp w; omega
    have hn0 : (Int32.ofInt 0).toNatClampNeg = 0 := int_nat wr0
    have hlo := hR.2.2.2
    have hnf : nativeFrameWords "java/lang/System" "arraycopy" 5 = 7 := by decide +kernel
    refine va_copyi (D := g_D G) (ty := .int) hx hb hls hown (hts _ hw) (hts _ hLib.2.2.2.1) (hts _ hLib.2.2.2.2.1) (hts _ hLib.2.2.2.2.2) hB.1 f5 f6 f7 sr d 0 0 (by rw [wsM_get hl2, ent_int hks]) (by rw [wsM_get hl1, ent_int hkd]) rfl rfl rfl h00 h00 hneg (by rw [hn0, hni]; show 0 + x.toNat ≤ (sh (sr + 2)).2; omega) (by rw [hn0, hni]; show 0 + x.toNat ≤ (sh (d + 2)).2; omega) (fun _ _ => rfl) hfr (by rw [cats_eq, hnf]; omega) hd (fun H1 locs1 hP hD hS => ?_)
    rw [hn0, hni] at hP hD
    obtain ⟨hP', hD'⟩ := s_setP (M := (nn, sh, RR, I, L)) (M' := (nn, sh, RR, mcpy I (sr + 2) (d + 2) x.toNat, L)) hl1 rfl (fun i hi => by
      unfold ent
      dsimp only
      rw [show mcpy I (sr + 2) (d + 2) x.toNat i = I i from if_neg hi]) (by
      rw [ent_int hkd]
      dsimp only
      congr 4
      funext j
      unfold va_cpy mcpy
      rw [if_pos rfl]
      dsimp only
      by_cases hj : j < x.toNat
      · rw [if_pos hj, if_pos ⟨Nat.zero_le _, by omega⟩, Nat.sub_zero, Nat.zero_add]
      · rw [if_neg hj, if_neg (fun w => hj (by omega))]) hP hD
    have hwf : wfM G (nn, sh, RR, mcpy I (sr + 2) (d + 2) x.toNat, L) := by
      obtain ⟨w1, w2, w3, w4, w5, w6, w7, w8⟩ := f4
      refine ⟨w1, w2, w3, w4, w5, fun j => ?_, mcpy_wr w7, w8⟩
      show mcpy I (sr + 2) (d + 2) x.toNat 1 j = _
      rw [show mcpy I (sr + 2) (d + 2) x.toNat 1 = I 1 from if_neg (by omega)]
      exact w6 j
    exact go _ _ _ _ _ _ _ _ h2 ⟨f1, f2, wf_tail (wf_tail (wf_tail (wf_tail (wf_tail f3)))), hwf, hP', hD', hS, fun w => absurd w (by dsimp only; omega), f9, f10⟩
  · exact noEx h
end MTH
set_option maxHeartbeats 8000000 in
set_option maxRecDepth 100000 in
theorem s_plain {p : Program} {l : Launch} {e : Env} {R : Room} {s : State} {m : MethodId} {args : Array Value} {below : List Frame} {meth : Method} {c : Code} {Q : State → Prop} {G : mGl} {mid n : Nat} {q : List mV × mM} {r : List mE} {pc kc ks : Nat} {lv : List (Nat × mV)} {st : List mV} {M : mM} {H : Heap} {locs : List Loc} {ls : Array Slot} {i : Instr} {e1 e2 e3 len : Nat} {z : Int}
    (hG : StrOK G) (hA : AdOK G) (hCl : ClOK) (hLib : LibOK) (hCh : ChP G l) (hLd : LdP G l) (hLm : LmanP G l n) (hS2 : S2 G l n) (hmid : mid < 260) (hC : Ctx G mid p R s m args meth c) (hend : EndP p l e R s m args below meth c Q G mid q)
    (hpl : m_plain i = true) (hd : decode (mB mid) pc = .ok (i, m_ilen i)) (hX : m_okX mid (pc, i, len, e1, e2, e3, z) = true)
    (go : m_term i = false → GoP p l e R s m args below meth c Q G mid n q r (pc + m_ilen i)) (jp : ∀ t, GoP p l e R s m args below meth c Q G mid n q (m_seek (mcd mid) t) t)
    (h : m_disp n mid (m_step mid (pc, i, len, e1, e2, e3, z) r kc ks lv st M) = some q) (hF : Frm G mid s kc ks lv st M H locs ls) : W p l e R s m args below meth c H locs kc ks Q (F0 m pc ls (st.map (tr G))) := by
  obtain ⟨hx, hb, hml, hown, hts, hR, hin2, hB⟩ := id hC
  have hst := hF.2.2.1
  cases i with
  | iconst v =>
    have h : m_exec n mid (r, kc, ks, lv, .inl z :: st, M) = some q := h
    have hX : (decide (wr z = z) && decide (Int32.ofInt v = Int32.ofInt z)) = true := hX
    simp only [Bool.and_eq_true, decide_eq_true_eq] at hX
    exact lv_iconst (v := Int32.ofInt z) hx hb hd hX.2 (s_st (go rfl) hF (wf_cons (v := .inl z) hX.1 hst) h)
  | bipush v =>
    have h : m_exec n mid (r, kc, ks, lv, .inl z :: st, M) = some q := h
    have hX : (decide (wr z = z) && decide ((Int8.ofInt v).toInt32 = Int32.ofInt z)) = true := hX
    simp only [Bool.and_eq_true, decide_eq_true_eq] at hX
    exact lv_bipush (v := Int32.ofInt z) hx hb hd hX.2 (s_st (go rfl) hF (wf_cons (v := .inl z) hX.1 hst) h)
  | sipush v =>
    have h : m_exec n mid (r, kc, ks, lv, .inl z :: st, M) = some q := h
    have hX : (decide (wr z = z) && decide ((Int16.ofInt v).toInt32 = Int32.ofInt z)) = true := hX
    simp only [Bool.and_eq_true, decide_eq_true_eq] at hX
    exact lv_sipush (v := Int32.ofInt z) hx hb hd hX.2 (s_st (go rfl) hF (wf_cons (v := .inl z) hX.1 hst) h)
  | lconst v =>
    have h : m_exec n mid (r, kc, ks, lv, .inr (.inl z) :: st, M) = some q := h
    have hX : (decide (wl z = z) && decide (Int64.ofNat v.val = Int64.ofInt z)) = true := hX
    simp only [Bool.and_eq_true, decide_eq_true_eq] at hX
    exact lv_lconst (v := Int64.ofInt z) hx hb hd hX.2 (s_st (go rfl) hF (wf_cons (v := .inr (.inl z)) hX.1 hst) h)
  | ldc2_w idx =>
    have h : m_exec n mid (r, kc, ks, lv, .inr (.inl z) :: st, M) = some q := h
    have hX : (decide (wl z = z) && m_has e1 (.constantLong (mY mid).cls idx (Int64.ofInt z))) = true := hX
    simp only [Bool.and_eq_true, decide_eq_true_eq] at hX
    exact lv_ldc2 hx hb hown (hts _ (m_has_in hX.2)) hd (s_st (go rfl) hF (wf_cons (v := .inr (.inl z)) hX.1 hst) h)
  | ldc idx =>
    have h : m_disp n mid (bif Nat.beq e1 999999 then mgo r kc ks lv (.inr (.inr 1000000) :: st) M else mgo r kc ks lv (.inl z :: st) M) = some q := h
    have hX : (bif Nat.beq e1 999999 then decide ((mY mid).cls = "SpeakClock$Tokens") && Nat.beq idx 38 else decide (wr z = z) && m_has e1 (.constant (mY mid).cls idx (Int32.ofInt z))) = true := hX
    cases hb1 : Nat.beq e1 999999
    · rw [hb1] at h hX
      have h : m_exec n mid (r, kc, ks, lv, .inl z :: st, M) = some q := h
      simp only [cond_false, Bool.and_eq_true, decide_eq_true_eq] at hX
      exact lv_ldc hx hb hown (hts _ (m_has_in hX.2)) hd (s_st (go rfl) hF (wf_cons (v := .inl z) hX.1 hst) h)
    · rw [hb1] at h hX
      have hh : m_exec n mid (r, kc, ks, lv, .inr (.inr 1000000) :: st, M) = some q := h
      simp only [cond_true, Bool.and_eq_true, decide_eq_true_eq] at hX
      have h38 := Nat.eq_of_beq_eq_true hX.2
      have hg := go rfl
      have hx1 := hX.1
      clear h hX
      subst h38
      exact hLd hC hx1 hd (s_st hg hF (wf_cons (v := .inr (.inr 1000000)) trivial hst) hh)
  | ldc_w idx =>
    have h : m_exec n mid (r, kc, ks, lv, .inl z :: st, M) = some q := h
    have hX : (decide (wr z = z) && m_has e1 (.constant (mY mid).cls idx (Int32.ofInt z))) = true := hX
    simp only [Bool.and_eq_true, decide_eq_true_eq] at hX
    exact lv_ldcw hx hb hown (hts _ (m_has_in hX.2)) hd (s_st (go rfl) hF (wf_cons (v := .inl z) hX.1 hst) h)
  | iload_n k =>
    have h : m_disp n mid (m_ildx k.val r kc ks lv st M) = some q := h
    unfold m_ildx at h
    cases hk : m_lk lv k.val with
    | none => rw [hk] at h; exact noEx h
    | some v =>
      rw [hk] at h
      have hat := lk_at hF.1 hk
      have hwf := lk_wf hF.2.1 hk
      match v, h, hat, hwf with
      | .inr (.inl x), h, _, _ => exact noEx h
      | .inr (.inr x), h, _, _ => exact noEx h
      | .inl x, h, hat, hwf => exact lv_iload_n hx hb hd rfl hat (s_st (go rfl) hF (wf_cons hwf hst) h)
  | iload k =>
    have h : m_disp n mid (m_ildx k r kc ks lv st M) = some q := h
    unfold m_ildx at h
    cases hk : m_lk lv k with
    | none => rw [hk] at h; exact noEx h
    | some v =>
      rw [hk] at h
      have hat := lk_at hF.1 hk
      have hwf := lk_wf hF.2.1 hk
      match v, h, hat, hwf with
      | .inr (.inl x), h, _, _ => exact noEx h
      | .inr (.inr x), h, _, _ => exact noEx h
      | .inl x, h, hat, hwf => exact lv_iload hx hb hd hat (s_st (go rfl) hF (wf_cons hwf hst) h)
  | lload_n k =>
    have h : m_disp n mid (m_lldx k.val r kc ks lv st M) = some q := h
    unfold m_lldx at h
    cases hk : m_lk lv k.val with
    | none => rw [hk] at h; exact noEx h
    | some v =>
      rw [hk] at h
      have hat := lk_at hF.1 hk
      have hwf := lk_wf hF.2.1 hk
      match v, h, hat, hwf with
      | .inl x, h, _, _ => exact noEx h
      | .inr (.inr x), h, _, _ => exact noEx h
      | .inr (.inl x), h, hat, hwf => exact lv_lload_n hx hb hd rfl hat (s_st (go rfl) hF (wf_cons hwf hst) h)
  | lload k =>
    have h : m_disp n mid (m_lldx k r kc ks lv st M) = some q := h
    unfold m_lldx at h
    cases hk : m_lk lv k with
    | none => rw [hk] at h; exact noEx h
    | some v =>
      rw [hk] at h
      have hat := lk_at hF.1 hk
      have hwf := lk_wf hF.2.1 hk
      match v, h, hat, hwf with
      | .inl x, h, _, _ => exact noEx h
      | .inr (.inr x), h, _, _ => exact noEx h
      | .inr (.inl x), h, hat, hwf => exact lv_lload hx hb hd hat (s_st (go rfl) hF (wf_cons hwf hst) h)
  | aload_n k =>
    have h : m_disp n mid (m_aldx k.val r kc ks lv st M) = some q := h
    unfold m_aldx at h
    cases hk : m_lk lv k.val with
    | none => rw [hk] at h; exact noEx h
    | some v =>
      rw [hk] at h
      have hat := lk_at hF.1 hk
      have hwf := lk_wf hF.2.1 hk
      match v, h, hat, hwf with
      | .inl x, h, _, _ => exact noEx h
      | .inr (.inl x), h, _, _ => exact noEx h
      | .inr (.inr 0), h, _, _ => exact noEx h
      | .inr (.inr 1), h, hat, hwf => exact lv_aload_n hx hb hd rfl hat (s_st (go rfl) hF (wf_cons hwf hst) h)
      | .inr (.inr (x + 2)), h, hat, hwf => exact lv_aload_n hx hb hd rfl hat (s_st (go rfl) hF (wf_cons hwf hst) h)
  | aload k =>
    have h : m_disp n mid (m_aldx k r kc ks lv st M) = some q := h
    unfold m_aldx at h
    cases hk : m_lk lv k with
    | none => rw [hk] at h; exact noEx h
    | some v =>
      rw [hk] at h
      have hat := lk_at hF.1 hk
      have hwf := lk_wf hF.2.1 hk
      match v, h, hat, hwf with
      | .inl x, h, _, _ => exact noEx h
      | .inr (.inl x), h, _, _ => exact noEx h
      | .inr (.inr 0), h, _, _ => exact noEx h
      | .inr (.inr 1), h, hat, hwf => exact lv_aload hx hb hd hat (s_st (go rfl) hF (wf_cons hwf hst) h)
      | .inr (.inr (x + 2)), h, hat, hwf => exact lv_aload hx hb hd hat (s_st (go rfl) hF (wf_cons hwf hst) h)
  | istore_n k =>
    have hX : Nat.blt k.val (mL mid) = true := hX
    have hlt := Nat.le_of_ble_eq_true hX
    rcases st with _ | ⟨(x | x | x), st⟩ <;> first | exact noEx h | skip
    exact lv_istore_n hx hb hd rfl hF.1 hlt rfl (fun ls' hl' => s_lv (kc' := 0) (ks' := 0) (lv' := m_sto lv k.val (.inl x)) (go rfl) hF (has_sub hl' (sto_sub1 rfl)) (sto_wf hF.2.1 (wf_head hst)) (wf_tail hst) h)
  | istore k =>
    have hX : Nat.blt k (mL mid) = true := hX
    have hlt := Nat.le_of_ble_eq_true hX
    rcases st with _ | ⟨(x | x | x), st⟩ <;> first | exact noEx h | skip
    exact lv_istore hx hb hd hF.1 hlt rfl (fun ls' hl' => s_lv (kc' := 0) (ks' := 0) (lv' := m_sto lv k (.inl x)) (go rfl) hF (has_sub hl' (sto_sub1 rfl)) (sto_wf hF.2.1 (wf_head hst)) (wf_tail hst) h)
  | lstore_n k =>
    have hX : Nat.blt (k.val + 1) (mL mid) = true := hX
    have hlt := Nat.le_of_ble_eq_true hX
    rcases st with _ | ⟨(x | x | x), st⟩ <;> first | exact noEx h | skip
    exact lv_lstore_n hx hb hd rfl hF.1 hlt rfl (fun ls' hl' => s_lv (kc' := 0) (ks' := 0) (lv' := m_sto lv k.val (.inr (.inl x))) (go rfl) hF (has_sub hl' (sto_sub2 rfl)) (sto_wf hF.2.1 (wf_head hst)) (wf_tail hst) h)
  | lstore k =>
    have hX : Nat.blt (k + 1) (mL mid) = true := hX
    have hlt := Nat.le_of_ble_eq_true hX
    rcases st with _ | ⟨(x | x | x), st⟩ <;> first | exact noEx h | skip
    exact lv_lstore hx hb hd hF.1 hlt rfl (fun ls' hl' => s_lv (kc' := 0) (ks' := 0) (lv' := m_sto lv k (.inr (.inl x))) (go rfl) hF (has_sub hl' (sto_sub2 rfl)) (sto_wf hF.2.1 (wf_head hst)) (wf_tail hst) h)
  | astore_n k =>
    have hX : Nat.blt k.val (mL mid) = true := hX
    have hlt := Nat.le_of_ble_eq_true hX
    rcases st with _ | ⟨(x | x | (_ | _ | x)), st⟩ <;> first | exact noEx h | skip
    · exact lv_astore_n hx hb hd rfl hF.1 hlt rfl (fun ls' hl' => s_lv (kc' := 0) (ks' := 0) (lv' := m_sto lv k.val (.inr (.inr 1))) (go rfl) hF (has_sub hl' (sto_sub1 rfl)) (sto_wf hF.2.1 (wf_head hst)) (wf_tail hst) h)
    · exact lv_astore_n hx hb hd rfl hF.1 hlt rfl (fun ls' hl' => s_lv (kc' := 0) (ks' := 0) (lv' := m_sto lv k.val (.inr (.inr (x + 2)))) (go rfl) hF (has_sub hl' (sto_sub1 rfl)) (sto_wf hF.2.1 (wf_head hst)) (wf_tail hst) h)
  | astore k =>
    have hX : Nat.blt k (mL mid) = true := hX
    have hlt := Nat.le_of_ble_eq_true hX
    rcases st with _ | ⟨(x | x | (_ | _ | x)), st⟩ <;> first | exact noEx h | skip
    · exact lv_astore hx hb hd hF.1 hlt rfl (fun ls' hl' => s_lv (kc' := 0) (ks' := 0) (lv' := m_sto lv k (.inr (.inr 1))) (go rfl) hF (has_sub hl' (sto_sub1 rfl)) (sto_wf hF.2.1 (wf_head hst)) (wf_tail hst) h)
    · exact lv_astore hx hb hd hF.1 hlt rfl (fun ls' hl' => s_lv (kc' := 0) (ks' := 0) (lv' := m_sto lv k (.inr (.inr (x + 2)))) (go rfl) hF (has_sub hl' (sto_sub1 rfl)) (sto_wf hF.2.1 (wf_head hst)) (wf_tail hst) h)
  | iinc k v =>
    have hX : Nat.blt k (mL mid) = true := hX
    have hlt := Nat.le_of_ble_eq_true hX
    have h : m_disp n mid (match m_lk lv k with
      | some (.inl x) => mgo r kc ks (m_sto lv k (.inl (wr (x + v)))) st M
      | _ => mno M) = some q := h
    cases hk : m_lk lv k with
    | none => rw [hk] at h; exact noEx h
    | some w =>
      rw [hk] at h
      obtain ⟨kp, hkp⟩ := lk_place (G := G) hk
      match w, h, hkp with
      | .inr (.inl x), h, _ => exact noEx h
      | .inr (.inr x), h, _ => exact noEx h
      | .inl x, h, hkp => exact lv_iinc (v := Int32.ofInt (wr (x + v))) hx hb hd hF.1 hkp (by rw [wr_ofInt, Int32.ofInt_add]) hlt rfl (fun ls' hl' => s_lv (kc' := 0) (ks' := 0) (lv' := m_sto lv k (.inl (wr (x + v)))) (go rfl) hF (has_sub hl' (sto_sub1 (v := .inl (wr (x + v))) rfl)) (sto_wf hF.2.1 (wr_wr _)) hst h)
  | iadd =>
    rcases st with _ | ⟨(y | y | y), _ | ⟨(x | x | x), st⟩⟩ <;> first | exact noEx h | skip
    exact s_row (st' := .inl (wr (x + y)) :: st) (go rfl) hF (wf_cons (wr_wr _) (wf_tail (wf_tail hst))) h (trI (by rw [wr_ofInt, Int32.ofInt_add])) (fun k => lv_iadd hx hb hd k)
  | isub =>
    rcases st with _ | ⟨(y | y | y), _ | ⟨(x | x | x), st⟩⟩ <;> first | exact noEx h | skip
    exact s_row (st' := .inl (wr (x - y)) :: st) (go rfl) hF (wf_cons (wr_wr _) (wf_tail (wf_tail hst))) h (trI (by rw [wr_ofInt, Int32.ofInt_sub])) (fun k => lv_isub hx hb hd k)
  | imul =>
    rcases st with _ | ⟨(y | y | y), _ | ⟨(x | x | x), st⟩⟩ <;> first | exact noEx h | skip
    exact s_row (st' := .inl (wr (x * y)) :: st) (go rfl) hF (wf_cons (wr_wr _) (wf_tail (wf_tail hst))) h (trI (by rw [wr_ofInt, Int32.ofInt_mul])) (fun k => lv_imul hx hb hd k)
  | iand =>
    rcases st with _ | ⟨(y | y | y), _ | ⟨(x | x | x), st⟩⟩ <;> first | exact noEx h | skip
    exact s_row (st' := .inl (m_and x y) :: st) (go rfl) hF (wf_cons (wr_toInt _) (wf_tail (wf_tail hst))) h (trI (Int32.ofInt_toInt _)) (fun k => lv_iand hx hb hd k)
  | ior =>
    rcases st with _ | ⟨(y | y | y), _ | ⟨(x | x | x), st⟩⟩ <;> first | exact noEx h | skip
    exact s_row (st' := .inl (m_or x y) :: st) (go rfl) hF (wf_cons (wr_toInt _) (wf_tail (wf_tail hst))) h (trI (Int32.ofInt_toInt _)) (fun k => lv_ior hx hb hd k)
  | ixor =>
    rcases st with _ | ⟨(y | y | y), _ | ⟨(x | x | x), st⟩⟩ <;> first | exact noEx h | skip
    exact s_row (st' := .inl (m_xor x y) :: st) (go rfl) hF (wf_cons (wr_toInt _) (wf_tail (wf_tail hst))) h (trI (Int32.ofInt_toInt _)) (fun k => lv_ixor hx hb hd k)
  | ishl =>
    rcases st with _ | ⟨(y | y | y), _ | ⟨(x | x | x), st⟩⟩ <;> first | exact noEx h | skip
    exact s_row (st' := .inl (m_shl x y) :: st) (go rfl) hF (wf_cons (wr_toInt _) (wf_tail (wf_tail hst))) h (trI (Int32.ofInt_toInt _)) (fun k => lv_ishl hx hb hd k)
  | ishr =>
    rcases st with _ | ⟨(y | y | y), _ | ⟨(x | x | x), st⟩⟩ <;> first | exact noEx h | skip
    exact s_row (st' := .inl (m_shr x y) :: st) (go rfl) hF (wf_cons (wr_toInt _) (wf_tail (wf_tail hst))) h (trI (Int32.ofInt_toInt _)) (fun k => lv_ishr hx hb hd k)
  | iushr =>
    rcases st with _ | ⟨(y | y | y), _ | ⟨(x | x | x), st⟩⟩ <;> first | exact noEx h | skip
    exact s_row (st' := .inl (m_ushr x y) :: st) (go rfl) hF (wf_cons (wr_toInt _) (wf_tail (wf_tail hst))) h (trI (Int32.ofInt_toInt _)) (fun k => lv_iushr hx hb hd rfl k)
  | idiv =>
    rcases st with _ | ⟨(y | y | y), _ | ⟨(x | x | x), st⟩⟩ <;> first | exact noEx h | skip
    obtain ⟨h0, h⟩ := m_chk h
    have h0 : ¬ y = 0 := h0
    have hy := wf_head hst
    have hxx := wf_head (wf_tail hst)
    exact s_row (st' := .inl (wr (x.tdiv y)) :: st) (go rfl) hF (wf_cons (wr_wr _) (wf_tail (wf_tail hst))) h (trI (i_div hxx hy)) (fun k => lv_idiv hx hb hd (fun hz => h0 ((i_eq hy wr0).mp hz)) k)
  | irem =>
    rcases st with _ | ⟨(y | y | y), _ | ⟨(x | x | x), st⟩⟩ <;> first | exact noEx h | skip
    obtain ⟨h0, h⟩ := m_chk h
    have h0 : ¬ y = 0 := h0
    have hy := wf_head hst
    have hxx := wf_head (wf_tail hst)
    have hrm := i_rem hxx hy
    exact s_row (st' := .inl (x.tmod y) :: st) (go rfl) hF (wf_cons (by show wr (x.tmod y) = _; rw [← hrm]; exact wr_toInt _) (wf_tail (wf_tail hst))) h (trI (by rw [← hrm]; exact Int32.ofInt_toInt _)) (fun k => lv_irem hx hb hd (fun hz => h0 ((i_eq hy wr0).mp hz)) k)
  | ineg =>
    rcases st with _ | ⟨(x | x | x), st⟩ <;> first | exact noEx h | skip
    exact s_row (st' := .inl (wr (-x)) :: st) (go rfl) hF (wf_cons (wr_wr _) (wf_tail hst)) h (trI (by rw [wr_ofInt, Int32.ofInt_neg])) (fun k => lv_ineg hx hb hd k)
  | ladd =>
    rcases st with _ | ⟨(y | y | y), _ | ⟨(x | x | x), st⟩⟩ <;> first | exact noEx h | skip
    exact s_row (st' := .inr (.inl (wl (x + y))) :: st) (go rfl) hF (wf_cons (wl_wl _) (wf_tail (wf_tail hst))) h (trL (by rw [wl_ofInt, Int64.ofInt_add])) (fun k => lv_ladd hx hb hd k)
  | lsub =>
    rcases st with _ | ⟨(y | y | y), _ | ⟨(x | x | x), st⟩⟩ <;> first | exact noEx h | skip
    exact s_row (st' := .inr (.inl (wl (x - y))) :: st) (go rfl) hF (wf_cons (wl_wl _) (wf_tail (wf_tail hst))) h (trL (by rw [wl_ofInt, Int64.ofInt_sub])) (fun k => lv_lsub hx hb hd k)
  | lmul =>
    rcases st with _ | ⟨(y | y | y), _ | ⟨(x | x | x), st⟩⟩ <;> first | exact noEx h | skip
    exact s_row (st' := .inr (.inl (wl (x * y))) :: st) (go rfl) hF (wf_cons (wl_wl _) (wf_tail (wf_tail hst))) h (trL (by rw [wl_ofInt, Int64.ofInt_mul])) (fun k => lv_lmul hx hb hd k)
  | land =>
    rcases st with _ | ⟨(y | y | y), _ | ⟨(x | x | x), st⟩⟩ <;> first | exact noEx h | skip
    exact s_row (st' := .inr (.inl (m_land x y)) :: st) (go rfl) hF (wf_cons (wl_toInt _) (wf_tail (wf_tail hst))) h (trL (Int64.ofInt_toInt _)) (fun k => lv_land hx hb hd k)
  | ldiv =>
    rcases st with _ | ⟨(y | y | y), _ | ⟨(x | x | x), st⟩⟩ <;> first | exact noEx h | skip
    obtain ⟨h0, h⟩ := m_chk h
    have h0 : ¬ y = 0 := h0
    have hy := wf_head hst
    have hxx := wf_head (wf_tail hst)
    exact s_row (st' := .inr (.inl (wl (x.tdiv y))) :: st) (go rfl) hF (wf_cons (wl_wl _) (wf_tail (wf_tail hst))) h (trL (l_div hxx hy)) (fun k => lv_ldiv hx hb hd (fun hz => h0 ((l_eq hy (wl_of (z := 0) (by omega) (by omega))).mp hz)) k)
  | lrem =>
    rcases st with _ | ⟨(y | y | y), _ | ⟨(x | x | x), st⟩⟩ <;> first | exact noEx h | skip
    obtain ⟨h0, h⟩ := m_chk h
    have h0 : ¬ y = 0 := h0
    have hy := wf_head hst
    have hxx := wf_head (wf_tail hst)
    have hrm := l_rem hxx hy
    exact s_row (st' := .inr (.inl (x.tmod y)) :: st) (go rfl) hF (wf_cons (by show wl (x.tmod y) = _; rw [← hrm]; exact wl_toInt _) (wf_tail (wf_tail hst))) h (trL (by rw [← hrm]; exact Int64.ofInt_toInt _)) (fun k => lv_lrem hx hb hd (fun hz => h0 ((l_eq hy (wl_of (z := 0) (by omega) (by omega))).mp hz)) k)
  | lneg =>
    rcases st with _ | ⟨(x | x | x), st⟩ <;> first | exact noEx h | skip
    exact s_row (st' := .inr (.inl (wl (-x))) :: st) (go rfl) hF (wf_cons (wl_wl _) (wf_tail hst)) h (trL (by rw [wl_ofInt, Int64.ofInt_neg])) (fun k => lv_lneg hx hb hd k)
  | lcmp =>
    rcases st with _ | ⟨(y | y | y), _ | ⟨(x | x | x), st⟩⟩ <;> first | exact noEx h | skip
    have hy := wf_head hst
    have hxx := wf_head (wf_tail hst)
    have hv : Int32.ofInt (m_lcmp x y) = lg_cmp (Int64.ofInt x) (Int64.ofInt y) := by
      unfold m_lcmp lg_cmp
      by_cases h1 : y < x
      · rw [if_pos h1, if_pos ((l_lt hy hxx).mpr h1)]; rfl
      · rw [if_neg h1, if_neg (fun z => h1 ((l_lt hy hxx).mp z))]
        by_cases h2 : x = y
        · rw [if_pos h2, if_pos (by rw [h2])]; rfl
        · rw [if_neg h2, if_neg (fun z => h2 ((l_eq hxx hy).mp z))]; rfl
    exact s_row (st' := .inl (m_lcmp x y) :: st) (go rfl) hF (wf_cons (by show wr (m_lcmp x y) = _; unfold m_lcmp; split; (decide +kernel); split <;> decide +kernel) (wf_tail (wf_tail hst))) h (trI hv) (fun k => W.lcmp hx hb hd k)
  | i2l =>
    rcases st with _ | ⟨(x | x | x), st⟩ <;> first | exact noEx h | skip
    have hxx := wf_head hst
    exact s_row (st' := .inr (.inl x) :: st) (go rfl) hF (wf_cons (wl_of_wr hxx) (wf_tail hst)) h (trL (V := (Int32.ofInt x).toInt64) (by
      rw [← Int64.toInt_inj, Int32.toInt_toInt64]
      exact (wl_of_wr hxx).trans (show wr x = x from hxx).symm)) (fun k => lv_i2l hx hb hd rfl k)
  | l2i =>
    rcases st with _ | ⟨(x | x | x), st⟩ <;> first | exact noEx h | skip
    have hxx : wl x = x := wf_head hst
    exact s_row (st' := .inl (wr x) :: st) (go rfl) hF (wf_cons (wr_wr _) (wf_tail hst)) h (trI (V := (Int64.ofInt x).toInt32) (by
      rw [wr_ofInt, ← Int32.toInt_inj, Int64.toInt_toInt32]
      show _ = (wl x).bmod _
      rw [hxx, Int32.toInt_ofInt])) (fun k => lv_l2i hx hb hd rfl k)
  | i2b =>
    rcases st with _ | ⟨(x | x | x), st⟩ <;> first | exact noEx h | skip
    exact s_row (st' := .inl (m_i2b x) :: st) (go rfl) hF (wf_cons (wr_toInt _) (wf_tail hst)) h (trI (Int32.ofInt_toInt _)) (fun k => lv_i2b hx hb hd rfl k)
  | dup =>
    rcases st with _ | ⟨(x | x | x), st⟩ <;> first | exact noEx h | skip
    · exact lv_dup hx hb hd rfl (s_st (st' := .inl x :: .inl x :: st) (go rfl) hF (wf_cons (wf_head hst) hst) h)
    · exact lv_dup hx hb hd (tr_cat (G := G) (.inr (.inr x)) rfl) (s_st (st' := .inr (.inr x) :: .inr (.inr x) :: st) (go rfl) hF (wf_cons (wf_head hst) hst) h)
  | pop =>
    rcases st with _ | ⟨(x | x | x), st⟩ <;> first | exact noEx h | skip
    exact lv_pop hx hb hd rfl (s_st (go rfl) hF (wf_tail hst) h)
  | dup2 =>
    rcases st with _ | ⟨(x | x | x), st⟩
    · exact noEx h
    · rcases st with _ | ⟨(y | y | y), st⟩ <;> first | exact noEx h | skip
      exact lv_dup2_11 hx hb hd rfl (tr_cat (G := G) (.inr (.inr y)) rfl) (s_st (st' := .inl x :: .inr (.inr y) :: .inl x :: .inr (.inr y) :: st) (go rfl) hF (wf_cons (wf_head hst) (wf_cons (wf_head (wf_tail hst)) hst)) h)
    · exact lv_dup2_2 hx hb hd rfl (s_st (st' := .inr (.inl x) :: .inr (.inl x) :: st) (go rfl) hF (wf_cons (wf_head hst) hst) h)
    · exact noEx h
  | goto o =>
    have hX : decide ((pc : Int) + o = (e1 : Int)) = true := hX
    exact lv_goto hx hb hd (of_decide_eq_true hX) (s_st (jp e1) hF hst h)
  | ifCond cd o =>
    have hXd : decide ((pc : Int) + o = (e1 : Int)) = true := hX
    have hXo := of_decide_eq_true hXd
    rcases st with _ | ⟨(x | x | x), st⟩ <;> first | exact noEx h | skip
    have hxx := wf_head hst
    cases cd with
    | eq =>
      have hi := m_if (P := x = 0) h
      have hq := i_eq hxx wr0
      exact lv_if_eq hx hb hd hXo (fun hc => s_st (jp e1) hF (wf_tail hst) (hi.1 (hq.mp hc))) (fun hc => s_st (go rfl) hF (wf_tail hst) (hi.2 (fun z => hc (hq.mpr z))))
    | ne =>
      have hi := m_if (P := ¬ x = 0) h
      have hq := i_eq hxx wr0
      exact lv_if_ne hx hb hd hXo (fun hc => s_st (jp e1) hF (wf_tail hst) (hi.1 (fun z => hc (hq.mpr z)))) (fun hc => s_st (go rfl) hF (wf_tail hst) (hi.2 (fun z => z (hq.mp hc))))
    | lt =>
      have hi := m_if (P := x < 0) h
      have hq := i_lt hxx wr0
      exact lv_if_lt hx hb hd hXo (fun hc => s_st (jp e1) hF (wf_tail hst) (hi.1 (hq.mp hc))) (fun hc => s_st (go rfl) hF (wf_tail hst) (hi.2 (fun z => hc (hq.mpr z))))
    | ge =>
      have hi := m_if (P := 0 ≤ x) h
      have hq := i_le wr0 hxx
      exact lv_if_ge hx hb hd hXo (fun hc => s_st (jp e1) hF (wf_tail hst) (hi.1 (hq.mp hc))) (fun hc => s_st (go rfl) hF (wf_tail hst) (hi.2 (fun z => hc (hq.mpr z))))
    | gt =>
      have hi := m_if (P := 0 < x) h
      have hq := i_lt wr0 hxx
      exact lv_if_gt hx hb hd hXo (fun hc => s_st (jp e1) hF (wf_tail hst) (hi.1 (hq.mp hc))) (fun hc => s_st (go rfl) hF (wf_tail hst) (hi.2 (fun z => hc (hq.mpr z))))
    | le =>
      have hi := m_if (P := x ≤ 0) h
      have hq := i_le hxx wr0
      exact lv_if_le hx hb hd hXo (fun hc => s_st (jp e1) hF (wf_tail hst) (hi.1 (hq.mp hc))) (fun hc => s_st (go rfl) hF (wf_tail hst) (hi.2 (fun z => hc (hq.mpr z))))
  | if_icmp cd o =>
    have hXd : decide ((pc : Int) + o = (e1 : Int)) = true := hX
    have hXo := of_decide_eq_true hXd
    rcases st with _ | ⟨(y | y | y), _ | ⟨(x | x | x), st⟩⟩ <;> first | exact noEx h | skip
    have hy := wf_head hst
    have hxx := wf_head (wf_tail hst)
    cases cd with
    | eq =>
      have hi := m_if (P := x = y) h
      have hq := i_eq hxx hy
      exact lv_icmp_eq hx hb hd hXo (fun hc => s_st (jp e1) hF (wf_tail (wf_tail hst)) (hi.1 (hq.mp hc))) (fun hc => s_st (go rfl) hF (wf_tail (wf_tail hst)) (hi.2 (fun z => hc (hq.mpr z))))
    | ne =>
      have hi := m_if (P := ¬ x = y) h
      have hq := i_eq hxx hy
      exact lv_icmp_ne hx hb hd hXo (fun hc => s_st (jp e1) hF (wf_tail (wf_tail hst)) (hi.1 (fun z => hc (hq.mpr z)))) (fun hc => s_st (go rfl) hF (wf_tail (wf_tail hst)) (hi.2 (fun z => z (hq.mp hc))))
    | lt =>
      have hi := m_if (P := x < y) h
      have hq := i_lt hxx hy
      exact lv_icmp_lt hx hb hd hXo (fun hc => s_st (jp e1) hF (wf_tail (wf_tail hst)) (hi.1 (hq.mp hc))) (fun hc => s_st (go rfl) hF (wf_tail (wf_tail hst)) (hi.2 (fun z => hc (hq.mpr z))))
    | ge =>
      have hi := m_if (P := y ≤ x) h
      have hq := i_le hy hxx
      exact lv_icmp_ge hx hb hd hXo (fun hc => s_st (jp e1) hF (wf_tail (wf_tail hst)) (hi.1 (hq.mp hc))) (fun hc => s_st (go rfl) hF (wf_tail (wf_tail hst)) (hi.2 (fun z => hc (hq.mpr z))))
    | gt =>
      have hi := m_if (P := y < x) h
      have hq := i_lt hy hxx
      exact lv_icmp_gt hx hb hd hXo (fun hc => s_st (jp e1) hF (wf_tail (wf_tail hst)) (hi.1 (hq.mp hc))) (fun hc => s_st (go rfl) hF (wf_tail (wf_tail hst)) (hi.2 (fun z => hc (hq.mpr z))))
    | le =>
      have hi := m_if (P := x ≤ y) h
      have hq := i_le hxx hy
      exact lv_icmp_le hx hb hd hXo (fun hc => s_st (jp e1) hF (wf_tail (wf_tail hst)) (hi.1 (hq.mp hc))) (fun hc => s_st (go rfl) hF (wf_tail (wf_tail hst)) (hi.2 (fun z => hc (hq.mpr z))))
  | getfield idx =>
    have hX : m_okF (mY mid).cls idx e1 e2 e3 z.toNat = true := hX
    obtain ⟨ci, rfl, hci, hj, he3, hw⟩ := okF_spec hX
    obtain ⟨nn, sh, RR, I, L⟩ := M
    rcases st with _ | ⟨(x | x | (_ | _ | x)), st⟩ <;> first | exact noEx h | skip
    have h : m_disp n mid (m_getf (ci + 4) e2 e3 r kc ks lv (.inr (.inr (x + 2)) :: st) (nn, sh, RR, I, L)) = some q := h
    unfold m_getf at h
    dsimp only at h
    obtain ⟨hs, h⟩ := bd_chk h rfl
    have hs := Nat.eq_of_beq_eq_true hs
    refine s_getf hCl hC hd hci hj hw hF hs ?_
    have hIw : ∀ a b, wr (I a b) = I a b := hF.2.2.2.1.2.2.2.2.2.2.1
    have hLw : ∀ a b, wl (L a b) = L a b := hF.2.2.2.1.2.2.2.2.2.2.2.1
    rcases ty_code hci hj with ht | ht | ht | ht <;> rw [ht] at he3 ⊢ <;> subst he3
    · exact s_st (st' := .inl (I (x + 2) e2) :: st) (go rfl) hF (wf_cons (hIw _ _) (wf_tail hst)) h
    · exact s_st (st' := .inr (.inl (L (x + 2) e2)) :: st) (go rfl) hF (wf_cons (hLw _ _) (wf_tail hst)) h
    · exact s_st (st' := .inr (.inr (RR (x + 2) e2)) :: st) (go rfl) hF (wf_cons trivial (wf_tail hst)) h
    · exact s_st (st' := .inl (I (x + 2) e2) :: st) (go rfl) hF (wf_cons (hIw _ _) (wf_tail hst)) h
  | putfield idx =>
    have hX : (m_okF (mY mid).cls idx e1 e2 e3 z.toNat && m_okFin mid e1 e2) = true := hX
    rw [Bool.and_eq_true] at hX
    obtain ⟨ci, rfl, hci, hj, he3, hw⟩ := okF_spec hX.1
    have hfin := okFin_spec hX.2
    obtain ⟨nn, sh, RR, I, L⟩ := M
    rcases st with _ | ⟨v, _ | ⟨(x | x | (_ | _ | x)), st⟩⟩ <;> first | exact noEx h | skip
    have h : m_disp n mid (m_putf (ci + 4) e2 e3 r kc ks lv (v :: .inr (.inr (x + 2)) :: st) (nn, sh, RR, I, L)) = some q := h
    unfold m_putf at h
    dsimp only at h
    obtain ⟨hs, h⟩ := bd_chk h rfl
    have hs := Nat.eq_of_beq_eq_true hs
    have hv := wf_head hst
    have hm := hF.2.2.2.1
    have nm : ∀ (J : Nat → Nat → Int) (w : Int) i, i ≠ e2 → mup J (x + 2) e2 w (x + 2) i = J (x + 2) i := fun J w i hi => by rw [mup_self]; exact if_neg hi
    have nr : ∀ (J : Nat → Nat → Nat) (w : Nat) i, i ≠ e2 → mupR J (x + 2) e2 w (x + 2) i = J (x + 2) i := fun J w i hi => by rw [mupR_self]; exact if_neg hi
    rcases ty_code hci hj with ht | ht | ht | ht <;> rw [ht] at he3 <;> subst he3
    · rcases v with v | v | v <;> first | exact noEx h | skip
      exact s_putf hCl hC (RR' := RR) (I' := mup I (x + 2) e2 v) (L' := L) hd hci hj hw hfin (by rw [ty_of0 hci hj ht]; rfl) (by rw [ty_of0 hci hj ht]; rfl) hF hs (fun _ _ => rfl) (fun i hi => mup_other hi) (fun _ _ => rfl) (fun _ _ => rfl) (nm I v) (fun _ _ => rfl) (by rw [ht, mup_self]; show Value.int (Int32.ofInt (if e2 = e2 then v else _)) = _; rw [if_pos rfl]; rfl) (wfM_I hm (by omega) hv) (go rfl) h
    · rcases v with v | v | v <;> first | exact noEx h | skip
      exact s_putf hCl hC (RR' := RR) (I' := I) (L' := mup L (x + 2) e2 v) hd hci hj hw hfin (by rw [ty_of1 hci hj ht]; rfl) (by rw [ty_of1 hci hj ht]; rfl) hF hs (fun _ _ => rfl) (fun _ _ => rfl) (fun i hi => mup_other hi) (fun _ _ => rfl) (fun _ _ => rfl) (nm L v) (by rw [ht, mup_self]; show Value.long (Int64.ofInt (if e2 = e2 then v else _)) = _; rw [if_pos rfl]; rfl) (wfM_L hm hv) (go rfl) h
    · rcases v with v | v | (_ | _ | v) <;> first | exact noEx h | skip
      exact s_putf hCl hC (RR' := mupR RR (x + 2) e2 (v + 2)) (I' := I) (L' := L) hd hci hj hw hfin (by rcases ty_of2 hci hj ht with ⟨t, h1⟩ | ⟨t, h1⟩ <;> rw [h1] <;> rfl) (by rcases ty_of2 hci hj ht with ⟨t, h1⟩ | ⟨t, h1⟩ <;> rw [h1] <;> rfl) hF hs (fun i hi => mupR_other hi) (fun _ _ => rfl) (fun _ _ => rfl) (nr RR (v + 2)) (fun _ _ => rfl) (fun _ _ => rfl) (by rw [ht, mupR_self]; show trr G (if e2 = e2 then v + 2 else _) = _; rw [if_pos rfl]; rfl) (wfM_R hm) (go rfl) h
    · rcases v with v | v | v <;> first | exact noEx h | skip
      obtain ⟨h01, h⟩ := m_chk h
      have h01 : v = 0 ∨ v = 1 := h01
      exact s_putf hCl hC (RR' := RR) (I' := mup I (x + 2) e2 v) (L' := L) hd hci hj hw hfin (by rw [ty_of3 hci hj ht]; exact nar_b h01) (by rw [ty_of3 hci hj ht]; exact fit_b h01) hF hs (fun _ _ => rfl) (fun i hi => mup_other hi) (fun _ _ => rfl) (fun _ _ => rfl) (nm I v) (fun _ _ => rfl) (by rw [ht, mup_self]; show Value.int (Int32.ofInt (if e2 = e2 then v else _)) = _; rw [if_pos rfl]; rfl) (wfM_I hm (by omega) hv) (go rfl) h
  | iaload =>
    obtain ⟨nn, sh, RR, I, L⟩ := M
    rcases st with _ | ⟨(i | i | i), _ | ⟨(x | x | (_ | x)), st⟩⟩ <;> first | exact noEx h | skip
    have h : m_disp n mid (m_ald 0 r kc ks lv (.inl i :: .inr (.inr (x + 1)) :: st) (nn, sh, RR, I, L)) = some q := h
    unfold m_ald at h
    dsimp only at h
    obtain ⟨hs, h⟩ := bd_chk h rfl
    obtain ⟨hin, h⟩ := m_chk h
    simp only [Bool.or_eq_true] at hs
    exact s_aldI hC hin hF (hs.elim (fun z => Or.inl ⟨Nat.eq_of_beq_eq_true z, hd⟩) (fun z => Or.inr (Or.inl ⟨Nat.eq_of_beq_eq_true z, hd⟩))) (go rfl) h
  | laload =>
    obtain ⟨nn, sh, RR, I, L⟩ := M
    rcases st with _ | ⟨(i | i | i), _ | ⟨(x | x | (_ | x)), st⟩⟩ <;> first | exact noEx h | skip
    have h : m_disp n mid (m_ald 1 r kc ks lv (.inl i :: .inr (.inr (x + 1)) :: st) (nn, sh, RR, I, L)) = some q := h
    unfold m_ald at h
    dsimp only at h
    obtain ⟨hs, h⟩ := bd_chk h rfl
    obtain ⟨hin, h⟩ := m_chk h
    exact s_aldL hC hin hF (Nat.eq_of_beq_eq_true hs) hd (go rfl) h
  | baload =>
    obtain ⟨nn, sh, RR, I, L⟩ := M
    rcases st with _ | ⟨(i | i | i), _ | ⟨(x | x | (_ | x)), st⟩⟩ <;> first | exact noEx h | skip
    have h : m_disp n mid (m_ald 2 r kc ks lv (.inl i :: .inr (.inr (x + 1)) :: st) (nn, sh, RR, I, L)) = some q := h
    unfold m_ald at h
    dsimp only at h
    obtain ⟨hs, h⟩ := bd_chk h rfl
    obtain ⟨hin, h⟩ := m_chk h
    simp only [Bool.or_eq_true] at hs
    exact s_aldI hC hin hF (hs.elim (fun z => Or.inr (Or.inr (Or.inl ⟨Nat.eq_of_beq_eq_true z, hd⟩))) (fun z => Or.inr (Or.inr (Or.inr ⟨Nat.eq_of_beq_eq_true z, hd⟩)))) (go rfl) h
  | iastore =>
    obtain ⟨nn, sh, RR, I, L⟩ := M
    rcases st with _ | ⟨(v | v | v), _ | ⟨(i | i | i), _ | ⟨(x | x | (_ | _ | x)), st⟩⟩⟩ <;> first | exact noEx h | skip
    have h : m_disp n mid (m_ast 0 r kc ks lv (.inl v :: .inl i :: .inr (.inr (x + 2)) :: st) (nn, sh, RR, I, L)) = some q := h
    unfold m_ast at h
    dsimp only at h
    obtain ⟨hs, h⟩ := bd_chk h rfl
    obtain ⟨hin, h⟩ := m_chk h
    exact s_astI hC hin hF (Or.inl ⟨Nat.eq_of_beq_eq_true hs, hd⟩) (go rfl) h
  | lastore =>
    obtain ⟨nn, sh, RR, I, L⟩ := M
    rcases st with _ | ⟨(v | v | v), _ | ⟨(i | i | i), _ | ⟨(x | x | (_ | _ | x)), st⟩⟩⟩ <;> first | exact noEx h | skip
    have h : m_disp n mid (m_ast 1 r kc ks lv (.inr (.inl v) :: .inl i :: .inr (.inr (x + 2)) :: st) (nn, sh, RR, I, L)) = some q := h
    unfold m_ast at h
    dsimp only at h
    obtain ⟨hs, h⟩ := bd_chk h rfl
    obtain ⟨hin, h⟩ := m_chk h
    exact s_astL hC hin hF (Nat.eq_of_beq_eq_true hs) hd (go rfl) h
  | bastore =>
    obtain ⟨nn, sh, RR, I, L⟩ := M
    rcases st with _ | ⟨(v | v | v), _ | ⟨(i | i | i), _ | ⟨(x | x | (_ | _ | x)), st⟩⟩⟩ <;> first | exact noEx h | skip
    have h : m_disp n mid (m_ast 2 r kc ks lv (.inl v :: .inl i :: .inr (.inr (x + 2)) :: st) (nn, sh, RR, I, L)) = some q := h
    unfold m_ast at h
    dsimp only at h
    cases hs : Nat.beq (sh (x + 2)).1 2
    · rw [hs] at h
      dsimp only [cond_false] at h
      obtain ⟨hs3, h⟩ := bd_chk h rfl
      obtain ⟨hin, h⟩ := m_chk h
      have hin : (0 ≤ i ∧ i < ((sh (x + 2)).2 : Int)) ∧ (v = 0 ∨ v = 1) := hin
      exact s_astI hC hin.1 hF (Or.inr (Or.inr ⟨Nat.eq_of_beq_eq_true hs3, hd, hin.2⟩)) (go rfl) h
    · rw [hs] at h
      dsimp only [cond_true] at h
      obtain ⟨hin, h⟩ := m_chk h
      have hin : (0 ≤ i ∧ i < ((sh (x + 2)).2 : Int)) ∧ (-128 ≤ v ∧ v ≤ 127) := hin
      exact s_astI hC hin.1 hF (Or.inr (Or.inl ⟨Nat.eq_of_beq_eq_true hs, hd, hin.2⟩)) (go rfl) h
  | arraylength =>
    obtain ⟨nn, sh, RR, I, L⟩ := M
    rcases st with _ | ⟨(x | x | (_ | x)), st⟩ <;> first | exact noEx h | skip
    have h : m_disp n mid (m_len r kc ks lv (.inr (.inr (x + 1)) :: st) (nn, sh, RR, I, L)) = some q := h
    unfold m_len at h
    dsimp only at h
    obtain ⟨hs, h⟩ := bd_chk h rfl
    simp only [Bool.and_eq_true, Bool.or_eq_true] at hs
    exact s_len hC hF (hs.1.elim (fun z => Or.inl (Nat.le_of_ble_eq_true z)) (fun z => Or.inr (Nat.eq_of_beq_eq_true z))) hd (Nat.le_of_ble_eq_true hs.2) (go rfl) h
  | new idx =>
    have hX : (Nat.ble 4 e1 && Nat.blt e1 15 && Nat.beq e2 (m_cl (e1 - 4)).2.2 && m_has z.toNat (.classLink (mY mid).cls idx (m_cl (e1 - 4)).1)) = true := hX
    simp only [Bool.and_eq_true] at hX
    have h4 := Nat.le_of_ble_eq_true hX.1.1.1
    have h15 : e1 < 15 := Nat.le_of_ble_eq_true hX.1.1.2
    have he2 := Nat.eq_of_beq_eq_true hX.1.2
    obtain ⟨ci, rfl⟩ : ∃ ci, e1 = ci + 4 := ⟨e1 - 4, by omega⟩
    rw [Nat.add_sub_cancel] at hX he2
    subst he2
    obtain ⟨nn, sh, RR, I, L⟩ := M
    have h : m_disp n mid (m_new mid (ci + 4) (m_cl ci).2.2 r kc ks lv st (nn, sh, RR, I, L)) = some q := h
    unfold m_new at h
    dsimp only at h
    obtain ⟨hn, h⟩ := bd_chk h rfl
    obtain ⟨hr, h⟩ := m_chk h
    have hr : ((kc + 1 : Nat) : Int) ≤ ((mC mid : Nat) : Int) ∧ ((ks + (m_cl ci).2.2 : Nat) : Int) ≤ ((mS mid : Nat) : Int) := hr
    exact s_new hCl hA hC hd (by omega) (m_has_in hX.2) (Nat.le_of_ble_eq_true hn) (by omega) (by omega) hF (go rfl) h
  | newarray a =>
    obtain ⟨nn, sh, RR, I, L⟩ := M
    rcases st with _ | ⟨(x | x | x), st⟩ <;> first | exact noEx h | skip
    have h : m_disp n mid (m_newa mid e1 r kc ks lv (.inl x :: st) (nn, sh, RR, I, L)) = some q := h
    unfold m_newa at h
    dsimp only at h
    obtain ⟨hn, h⟩ := bd_chk h rfl
    obtain ⟨hr, h⟩ := m_chk h
    have hr : (0 ≤ x ∧ x ≤ 10000) ∧ (((kc + 1 : Nat) : Int) ≤ ((mC mid : Nat) : Int) ∧ x ≤ ((mS mid : Nat) : Int) - ((ks : Nat) : Int)) := hr
    have hk : ((e1 = 0 ∧ newarray.typeOf a = .int) ∨ (e1 = 1 ∧ newarray.typeOf a = .long) ∨ (e1 = 2 ∧ newarray.typeOf a = .byte) ∨ (e1 = 3 ∧ newarray.typeOf a = .boolean)) ∧ Cond.arrayClass (newarray.typeOf a) ∈ gT := newa_spec hX
    exact s_newa hA hC hd hk.2 hk.1 (Nat.le_of_ble_eq_true hn) hr.1.1 hr.1.2 (by omega) (by omega) hF (go rfl) h
  | invokespecial idx =>
    have h : m_disp n mid (m_special mid e1 e2 r kc ks lv st M) = some q := h
    have hX : (bif Nat.beq e1 1008 then m_has z.toNat (.methodLink (mY mid).cls idx Lib.objectInit) && Nat.ble 1 (mFr mid) && Nat.ble 20 (mLo mid)
      else Nat.blt e1 mid && !(mSt e1) && decide ((mY e1).name = "<init>") && Nat.beq e2 (mN e1 + 1) && m_okLink mid idx e1 e3 z && m_okRoom mid e1 && decide (mRt e1 = none)) = true := hX
    unfold m_special at h
    cases hb8 : Nat.beq e1 1008
    · rw [hb8] at h hX
      simp only [cond_false, Bool.and_eq_true, decide_eq_true_eq, Bool.not_eq_true'] at hX
      dsimp only [cond_false] at h
      obtain ⟨⟨⟨⟨⟨⟨x1, x2⟩, x3⟩, x4⟩, x5⟩, x6⟩, x7⟩ := hX
      have x1 : e1 < mid := Nat.le_of_ble_eq_true x1
      have hn98 : ¬ e1 = 98 := fun z => by rw [z] at x2; exact absurd x2 (by decide)
      obtain ⟨as, st', q1, c1, c2, c3, c4, c5, c6, c7, c8, c9⟩ := disp_call hF.2.2.2.2.2.2.2.2.1 hF.2.2.2.2.2.2.2.2.2 h
      obtain ⟨o1, o2⟩ := okM_all e1 (by omega) (by omega) hn98
      exact s_callI hG o1 o2 x2 x3 x7 hC x6 (link_spec x5) hd (Nat.eq_of_beq_eq_true x4) c1 c2 c3 hF c5 c6 (hS2 e1 as M q1 (by omega) (by omega) hn98 (c7 hn98) (pop_wf c1 hst) c4) (go rfl) c9
    · rw [hb8] at h hX
      simp only [cond_true, Bool.and_eq_true] at hX
      dsimp only [cond_true] at h
      rcases st with _ | ⟨(x | x | (_ | _ | x)), st⟩ <;> first | exact noEx h | skip
      have h : m_disp n mid (bif Nat.ble (m_cats st) 8 then mgo r kc ks lv st M else mno M) = some q := h
      obtain ⟨h8, h⟩ := bd_chk h rfl
      have h8 := Nat.le_of_ble_eq_true h8
      have f1 := Nat.le_of_ble_eq_true hX.1.2
      have f2 := Nat.le_of_ble_eq_true hX.2
      exact W.objInit hx hb hown (hts _ (m_has_in hX.1.1)) (hts _ hLib.1.1) (hts _ hLib.1.2) (g := F0 m pc ls (.ref (g_a G x) :: st.map (tr G))) (rest := st.map (tr G)) rfl (hF.1.1.trans hml.symm) rfl hd (Nat.le_trans f1 hR.2.2.1) (by rw [cats_eq]; show 2 * 0 + _ + 12 ≤ _; have := hR.2.2.2; omega) (s_st (go rfl) hF (wf_tail hst) h)
  | invokevirtual idx =>
    have h : m_disp n mid (m_virtual mid e1 e2 (Nat.mod e3 1000) r kc ks lv st M) = some q := h
    have hX : (bif Nat.beq e1 1007 then m_has z.toNat (.methodLink (mY mid).cls idx ⟨"java/lang/String", "charAt", "(I)C"⟩) && Nat.ble 5 (mFr mid) && Nat.ble 120 (mLo mid)
      else Nat.blt e1 mid && !(mSt e1) && !(decide ((mY e1).name = "<init>")) && Nat.beq e2 (mN e1 + 1) && Nat.ble 4 e3 && Nat.blt e3 15 && decide ((m_cl (e3 - 4)).1 = (mY e1).cls) && m_okLink mid idx e1 e3 z && m_okRoom mid e1) = true := hX
    unfold m_virtual at h
    cases hb7 : Nat.beq e1 1007
    · rw [hb7] at h hX
      simp only [cond_false, Bool.and_eq_true, decide_eq_true_eq, Bool.not_eq_true', decide_eq_false_iff_not] at hX
      dsimp only [cond_false] at h
      obtain ⟨⟨⟨⟨⟨⟨⟨⟨x1, x2⟩, x3⟩, x4⟩, x5⟩, x6⟩, x7⟩, x8⟩, x9⟩ := hX
      have x1 : e1 < mid := Nat.le_of_ble_eq_true x1
      have x5 := Nat.le_of_ble_eq_true x5
      have x6 : e3 < 15 := Nat.le_of_ble_eq_true x6
      have hn98 : ¬ e1 = 98 := fun z => by rw [z] at x2; exact absurd x2 (by decide)
      have hmod : Nat.mod e3 1000 = e3 := Nat.mod_eq_of_lt (by omega)
      rw [hmod] at h
      obtain ⟨as, st', q1, c1, c2, c3, c4, c5, c6, c7, c8, c9⟩ := disp_call hF.2.2.2.2.2.2.2.2.1 hF.2.2.2.2.2.2.2.2.2 h
      obtain ⟨o1, o2⟩ := okM_all e1 (by omega) (by omega) hn98
      have hlk : Cond.methodLink (mY mid).cls idx (mY e1) ∈ gT := by
        unfold m_okLink at x8
        rw [show Nat.blt e3 1000 = true from Nat.ble_eq_true_of_le (by omega)] at x8
        exact m_has_in x8
      exact s_callV hG o1 o2 x2 x3 hC x9 hlk hd ⟨x5, x6⟩ x7 (Nat.eq_of_beq_eq_true x4) c1 c2 c3 hF c5 c6 (hS2 e1 as M q1 (by omega) (by omega) hn98 (c7 hn98) (pop_wf c1 hst) c4) (go rfl) c9
    · rw [hb7] at h hX
      simp only [cond_true, Bool.and_eq_true] at hX
      dsimp only [cond_true] at h
      obtain ⟨i, st', rfl, h8, h0, h1, h⟩ := charAt_spec h
      exact hCh hC hd (m_has_in hX.1.1) (Nat.le_of_ble_eq_true hX.1.2) (Nat.le_of_ble_eq_true hX.2) h8 h0 h1 hF (s_st (go rfl) hF (wf_cons (v := .inl (m_words.getD i.toNat 0)) (words_wr _) (wf_tail (wf_tail hst))) h)
  | invokestatic idx =>
    have h : m_disp n mid (m_static mid e1 e2 r kc ks lv st M) = some q := h
    have hX : (bif Nat.blt e1 1000 then
          (bif Nat.beq e1 mLman then m_has z.toNat (.methodLink (mY mid).cls idx (mY e1)) && Nat.beq e2 4 && m_okRoom mid e1
           else Nat.blt e1 mid && mSt e1 && Nat.beq e2 (mN e1) && m_okLink mid idx e1 e3 z && m_okRoom mid e1)
        else bif Nat.beq e1 1006 then m_has z.toNat (.methodLink (mY mid).cls idx arraycopyName) && Nat.ble 1 (mFr mid) && Nat.ble 40 (mLo mid)
        else Nat.blt e1 1006 && m_has z.toNat (.methodLink (mY mid).cls idx (m_mY e1).1) && Nat.ble 1 (mFr mid) && Nat.ble 24 (mLo mid)) = true := hX
    unfold m_static at h
    cases hbt : Nat.blt e1 1000
    · rw [hbt] at h hX
      dsimp only [cond_false] at h hX
      cases hb6 : Nat.beq e1 1006
      · rw [hb6] at h hX
        simp only [cond_false, Bool.and_eq_true] at hX
        dsimp only [cond_false] at h
        have hge : 1000 ≤ e1 := by
          rcases Nat.lt_or_ge e1 1000 with w | w
          · rw [show Nat.blt e1 1000 = true from Nat.ble_eq_true_of_le w] at hbt; cases hbt
          · exact w
        have hle : e1 < 1006 := Nat.le_of_ble_eq_true hX.1.1.1
        exact s_math hLib hC hd hge (by omega) (m_has_in hX.1.1.2) (Nat.le_of_ble_eq_true hX.1.2) (Nat.le_of_ble_eq_true hX.2) hF (go rfl) h
      · rw [hb6] at h hX
        simp only [cond_true, Bool.and_eq_true] at hX
        dsimp only [cond_true] at h
        exact s_cpy hLib hC hd (m_has_in hX.1.1) (Nat.le_of_ble_eq_true hX.1.2) (Nat.le_of_ble_eq_true hX.2) hF (go rfl) h
    · rw [hbt] at h hX
      dsimp only [cond_true] at h hX
      obtain ⟨as, st', q1, c1, c2, c3, c4, c5, c6, c7, c8, c9⟩ := disp_call hF.2.2.2.2.2.2.2.2.1 hF.2.2.2.2.2.2.2.2.2 h
      cases hbl : Nat.beq e1 mLman
      · rw [hbl] at hX
        simp only [cond_false, Bool.and_eq_true] at hX
        obtain ⟨⟨⟨⟨x1, x2⟩, x3⟩, x4⟩, x5⟩ := hX
        have x1 : e1 < mid := Nat.le_of_ble_eq_true x1
        have hn98 : ¬ e1 = 98 := fun w => by rw [w] at hbl; exact absurd hbl (by decide)
        obtain ⟨o1, o2⟩ := okM_all e1 (by omega) (by omega) hn98
        have hcon := hS2 e1 as M q1 (by omega) (by omega) hn98 (c7 hn98) (pop_wf c1 hst) c4
        rcases link_spec x4 with w | w
        · exact s_callS hG o1 o2 x2 hC x5 w hd (Nat.eq_of_beq_eq_true x3) c1 c3 hF c5 c6 hcon (go rfl) c9
        · exact s_callSN hG o1 o2 x2 hC x5 w hd (Nat.eq_of_beq_eq_true x3) c1 c3 hF c5 c6 hcon (go rfl) c9
      · rw [hbl] at hX
        simp only [cond_true, Bool.and_eq_true] at hX
        have he := Nat.eq_of_beq_eq_true hbl
        subst he
        have he2 := Nat.eq_of_beq_eq_true hX.1.2
        subst he2
        exact hLm hC hd (m_has_in hX.1.1) hX.2 c1 c3 hF c5 c6 (c8 rfl) (go rfl) c9
  | ireturn =>
    have hX : (bif Nat.beq e1 1 then decide (mRt mid = some .boolean) else decide (mRt mid = some .int)) = true := hX
    rcases st with _ | ⟨(x | x | x), _ | ⟨y, st⟩⟩ <;> first | exact noEx h | skip
    have h : m_disp n mid (bif Nat.beq e1 1 then (4, (7, x, 0, 0, 0), (r, kc, ks, lv, [.inl x], M), (r, kc, ks, lv, [.inl x], M), 0, [.inl x]) else (7, m_cn0, (r, kc, ks, lv, [.inl x], M), (r, kc, ks, lv, [.inl x], M), 0, [.inl x])) = some q := h
    have hfin : ∀ (hq : ([.inl x], M) = q), (mRt mid = some .int ∨ (mRt mid = some .boolean ∧ (x = 0 ∨ x = 1))) → W p l e R s m args below meth c H locs kc ks Q (F0 m pc ls (([.inl x] : List mV).map (tr G))) := by
      intro hq hr
      subst hq
      obtain ⟨f1, f2, f3, f4, f5, f6, f7, f8, f9, f10⟩ := hF
      exact hend pc kc ks H locs ls f9 f10 f4 f5 f6 f7 f8 ⟨wf_head f3, hd, hr⟩
    cases hb1 : Nat.beq e1 1
    · rw [hb1] at h hX
      exact hfin (Option.some.inj h) (Or.inl (of_decide_eq_true hX))
    · rw [hb1] at h hX
      obtain ⟨h01, h⟩ := m_chk h
      exact hfin (Option.some.inj h) (Or.inr ⟨of_decide_eq_true hX, h01⟩)
  | lreturn =>
    have hX : decide (mRt mid = some .long) = true := hX
    rcases st with _ | ⟨(x | x | x), _ | ⟨y, st⟩⟩ <;> first | exact noEx h | skip
    have hq : ([.inr (.inl x)], M) = q := Option.some.inj h
    subst hq
    obtain ⟨f1, f2, f3, f4, f5, f6, f7, f8, f9, f10⟩ := hF
    exact hend pc kc ks H locs ls f9 f10 f4 f5 f6 f7 f8 ⟨wf_head f3, hd, of_decide_eq_true hX⟩
  | return_ =>
    have hX : decide (mRt mid = none) = true := hX
    rcases st with _ | ⟨x, st⟩ <;> first | exact noEx h | skip
    have hq : ([], M) = q := Option.some.inj h
    subst hq
    obtain ⟨f1, f2, f3, f4, f5, f6, f7, f8, f9, f10⟩ := hF
    exact hend pc kc ks H locs ls f9 f10 f4 f5 f6 f7 f8 ⟨hd, of_decide_eq_true hX⟩
  | _ => first | exact noEx h | (cases hpl; done)
