/-! ===== the mini machine is sound ===== -/
def m_hd0 (m : Nat) : Bool := Nat.beq m 98 || (match mcd m with
  | e :: _ => Nat.beq e.1 0
  | [] => false)
theorem okH : (List.range 260).all m_hd0 = true := by decide +kernel
theorem pcOf0 {m : Nat} (h : m < 260) (hn : ¬ m = 98) : pcOf (mcd m) = 0 := by
  have h1 := List.all_eq_true.mp okH m (List.mem_range.mpr h)
  unfold m_hd0 at h1
  rw [Bool.or_eq_true] at h1
  rcases h1 with h1 | h1
  · exact absurd (Nat.eq_of_beq_eq_true h1) hn
  · unfold pcOf
    cases hm : mcd m with
    | nil => rfl
    | cons e r => rw [hm] at h1; exact Nat.eq_of_beq_eq_true h1
theorem ent_args (G : mGl) : ∀ (as : List mV) (i : Nat), (m_ent i as).map (trq G) = lv_args i (as.map (tr G)) := by
  intro as
  induction as with
  | nil => intro i; rfl
  | cons v t ih =>
    intro i
    show (i, tr G v) :: (m_ent (bif m_isL v then i + 2 else i + 1) t).map (trq G) = (i, tr G v) :: lv_args (if (tr G v).category = 2 then i + 2 else i + 1) (t.map (tr G))
    rw [ih]
    cases h : m_isL v
    · rw [if_neg (by rw [tr_cat v h]; decide)]; rfl
    · rw [if_pos (tr_catL v h)]; rfl
theorem ent_wf : ∀ (as : List mV) (i : Nat), (∀ v ∈ as, wfV v) → ∀ q ∈ m_ent i as, wfV q.2 := by
  intro as
  induction as with
  | nil => intro i _ q h; cases h
  | cons v t ih =>
    intro i hw q hq
    rcases List.mem_cons.mp hq with rfl | hq
    · exact hw v List.mem_cons_self
    · exact ih _ (fun v hv => hw v (List.mem_cons_of_mem _ hv)) q hq
theorem sl_len (G : mGl) : ∀ as : List mV, (lg_sl (as.map (tr G))).length = m_cats as := by
  intro as
  induction as with
  | nil => rfl
  | cons v t ih =>
    show (lg_sl (tr G v :: t.map (tr G))).length = (bif m_isL v then 2 else 1) + m_cats t
    unfold lg_sl at ih ⊢
    rw [List.flatMap_cons, List.length_append, ih]
    cases h : m_isL v
    · rw [if_neg (by rw [tr_cat v h]; decide)]; rfl
    · rw [if_pos (tr_catL v h)]; rfl
/-- the switch's target -/
theorem sel_out {l : List (Int × Nat)} {x : Int} {d : Nat} (h : ∀ q ∈ l, ¬ x = q.1) : m_sel l x d = d := by
  induction l with
  | nil => rfl
  | cons a t ih =>
    obtain ⟨v, w⟩ := a
    unfold m_sel
    rw [show decide (x = v) = false from decide_eq_false (h (v, w) List.mem_cons_self)]
    exact ih (fun q hq => h q (List.mem_cons_of_mem _ hq))
theorem con_of {G : mGl} {l : Launch} {n : Nat} (hG : StrOK G) (h1 : S1 G l n) : S2 G l n := by
  intro mid as M q hmid hnl hnm h hw hcat
  obtain ⟨o1, o2⟩ := okM_all mid hmid hnl hnm
  have hp : plainName (mY mid).cls = true := by
    unfold m_okN at o1
    simp only [Bool.and_eq_true] at o1
    exact o1.2
  refine Met.ofW (cc := mB mid) (maxL := mL mid) (ret := mRt mid) hp rfl ?_
  intro p e s m args below meth c s₁ B hml hv
  obtain ⟨rfl, hB, hm, hP, hD, hz⟩ := hv
  have hts0 := atoms_spec (ws := mW mid) B.pre
  have hts : ∀ w ∈ gT, w.before (as.map (tr G)).toArray s = true := fun w hw => hts0 w (List.mem_cons_of_mem _ hw)
  have hown : s.vm.findClass (mY mid).cls = some m.cls := findClass_of_methodNamed B.named
  have hC : Ctx G mid p (headSpec (mW mid) (mRm mid)).room s m (as.map (tr G)).toArray meth c := ⟨B.exec, B.bytes, hml, hown, hts, ⟨rfl, rfl, Nat.le_refl _, Nat.le_refl _⟩, fun hi => (name_of_methodNamed B.named B.method).1.trans hi, hB⟩
  have hl := lv_entry (as.map (tr G)) (n := mL mid) (by rw [sl_len]; exact hcat)
  rw [lg_entry_eq]
  generalize (lg_sl (as.map (tr G)) ++ List.replicate (mL mid - (lg_sl (as.map (tr G))).length) Slot.unset).toArray = ls at hl ⊢
  have hF : Frm G mid s 0 0 (m_ent 0 as) [] M s.heap [] ls := ⟨by rw [ent_args]; exact hl, ent_wf as 0 hw, fun _ h => (by cases h), hm, hP, hD, va_S.rf, hz, Nat.zero_le _, Nat.zero_le _⟩
  have hr := B.returns
  have hlocks := B.notSynchronized
  have hend : EndP p l e (headSpec (mW mid) (mRm mid)).room s m (as.map (tr G)).toArray below meth c (MQ below (QR G q) (as.map (tr G)).toArray s (mC mid) (mS mid) (g_A G)) G mid q := by
    intro pc kc ks H locs ls k1 k2 w1 w2 w3 w4 w5 w6
    have hWd : ∀ t : State, t.heap = H → s.WarmedH t.vm → Wd G q.2 t := fun t ht hW => Wd.moved hG hB hW ht w1 w2 w3 w4 w5
    have hFr : ∀ t : State, t.heap = H → va_F (g_A G) s t := fun t ht => w4.F ht
    obtain ⟨res, M'⟩ := q
    refine W.widen k1 k2 ?_
    match res, w6 with
    | [], w6 => exact W.vret B.exec B.bytes (hr.trans w6.2) (fun t ht hW => ⟨⟨(), rfl, trivial, hWd t ht hW⟩, hFr t ht⟩) w4.2.2 w6.1
    | [.inl x], w6 =>
      rcases w6.2.2 with w7 | ⟨w7, w8⟩
      · exact W.iret B.exec B.bytes (hr.trans w7) (fun t ht hW => ⟨⟨_, (), rfl, ⟨rfl, w6.1⟩, hWd t ht hW⟩, hFr t ht⟩) w4.2.2 w6.2.1
      · exact W.zret B.exec B.bytes (hr.trans w7) (nar_b (G := G) w8) (fun t ht hW => ⟨⟨_, (), rfl, ⟨rfl, w6.1⟩, hWd t ht hW⟩, hFr t ht⟩) w4.2.2 w6.2.1
    | [.inr (.inl x)], w6 => exact W.lret B.exec B.bytes (hr.trans w6.2.2) (fun t ht hW => ⟨⟨_, (), rfl, ⟨rfl, w6.1⟩, hWd t ht hW⟩, hFr t ht⟩) w4.2.2 w6.2.1
    | [.inr (.inr x)], w6 => exact w6.elim
    | a :: b :: t, w6 => exact (show False from by unfold EndI at w6; rcases a with a | a | a <;> exact w6).elim
  have k := h1 hmid hnm (okL_all mid hmid hnm) hC hend h hF
  rw [pcOf0 hmid hnm] at k
  exact k
theorem sound_step {G : mGl} {l : Launch} {n : Nat} (hG : StrOK G) (hA : AdOK G) (hCl : ClOK) (hLib : LibOK) (hCh : ChP G l) (hLd : LdP G l) (hLm : LmanP G l n) (h1 : S1 G l n) : S1 G l (n + 1) := by
  have hS2 := con_of hG h1
  intro p e R s m args below meth c Q mid q r kc ks lv st M H locs ls hmid hnm hok hC hend h hF
  cases r with
  | nil => exact noEx h
  | cons en r' =>
    obtain ⟨pc, i, len, e1, e2, e3, z⟩ := en
    rw [exec_disp] at h
    obtain ⟨k1, k2, k3⟩ := okL_tail hok
    have hjp : ∀ t, GoP p l e R s m args below meth c Q G mid n q (m_seek (mcd mid) t) t := by
      intro t kc ks lv st M H locs ls hh hFF
      have kk := h1 hmid hnm (okL_seek (t := t) (okL_all mid hmid hnm)) hC hend hh hFF
      cases hs : m_seek (mcd mid) t with
      | nil => rw [hs] at hh; cases n <;> exact noEx hh
      | cons a b =>
        rw [hs] at kk
        have : pcOf (a :: b) = t := seek_head hs
        rw [this] at kk
        exact kk
    have hgo : m_term i = false → GoP p l e R s m args below meth c Q G mid n q r' (pc + len) := by
      intro ht kc ks lv st M H locs ls hh hFF
      have kk := h1 hmid hnm k2 hC hend hh hFF
      cases r' with
      | nil => cases n <;> exact noEx hh
      | cons a b =>
        have : pcOf (a :: b) = pc + len := k3 a b rfl ht
        rw [this] at kk
        exact kk
    show W p l e R s m args below meth c H locs kc ks Q (F0 m pc ls (st.map (tr G)))
    by_cases hpl : m_plain i = true
    · obtain ⟨d1, d2, d3⟩ := okE_plain hpl k1
      exact s_plain hG hA hCl hLib hCh hLd hLm hS2 hmid hC hend hpl d1 d3 (fun ht => by rw [← d2]; exact hgo ht) hjp h hF
    · cases i with
      | nop =>
        have hl : len = 0 := Nat.eq_of_beq_eq_true k1
        subst hl
        have h : m_exec n mid (r', kc, ks, m_keep e1 lv, st, M) = some q := h
        exact s_lv (kc' := 0) (ks' := 0) (hgo rfl) hF (has_sub hF.1 (fun q hq => by
          obtain ⟨a, ha, rfl⟩ := List.mem_map.mp hq
          exact List.mem_map.mpr ⟨a, keep_mem ha, rfl⟩)) (fun q hq => hF.2.1 q (keep_mem hq)) hF.2.2.1 h
      | athrow => exact noEx h
      | tableswitch d lo hi offs =>
        have hk : (decide (decode (mB mid) pc = .ok (.tableswitch d lo hi offs, len)) && decide ((pc : Int) + d = (e1 : Int)) && (mSw e2).all (fun q => decide (lo ≤ q.1 ∧ q.1 ≤ hi)) &&
          (List.range (hi - lo + 1).toNat).all (fun k => match offs[k]? with
            | some o => decide ((pc : Int) + o = ((m_sel (mSw e2) (lo + k) e1 : Nat) : Int))
            | none => false)) = true := k1
        simp only [Bool.and_eq_true, decide_eq_true_eq] at hk
        obtain ⟨⟨⟨j1, j2⟩, j3⟩, j4⟩ := hk
        rcases st with _ | ⟨(x | x | x), st⟩ <;> first | exact noEx h | skip
        have hh : m_exec n mid (m_seek (mcd mid) (m_sel (mSw e2) x e1), kc, ks, lv, st, M) = some q := h
        have kk := s_st (hjp (m_sel (mSw e2) x e1)) hF (wf_tail hF.2.2.1) hh
        have hxw : wr x = x := wf_head hF.2.2.1
        have hxi : (Int32.ofInt x).toInt = x := hxw
        by_cases hout : x < lo ∨ hi < x
        · have hso : m_sel (mSw e2) x e1 = e1 := sel_out (fun q hq hz => by
            have := of_decide_eq_true (List.all_eq_true.mp j3 q hq)
            omega)
          rw [hso] at kk
          exact lv_tableOut hC.1 hC.2.1 j1 (by rw [hxi]; exact hout) j2 kk
        · have hkk : (x - lo).toNat < (hi - lo + 1).toNat := by omega
          have h4 := List.all_eq_true.mp j4 (x - lo).toNat (List.mem_range.mpr hkk)
          cases ho : offs[(x - lo).toNat]? with
          | none => rw [ho] at h4; cases h4
          | some o =>
            rw [ho] at h4
            have h5 := of_decide_eq_true h4
            rw [show lo + (((x - lo).toNat : Nat) : Int) = x by omega] at h5
            exact lv_tableIn hC.1 hC.2.1 j1 (by rw [hxi]; omega) (by rw [hxi]; omega) (by rw [hxi]; exact ho) h5 kk
      | _ => exact absurd rfl hpl
theorem sound {G : mGl} {l : Launch} (hG : StrOK G) (hA : AdOK G) (hCl : ClOK) (hLib : LibOK) (hCh : ChP G l) (hLd : LdP G l) (hLm : ∀ n, S2 G l n → LmanP G l n) : ∀ n, S1 G l n := by
  intro n
  induction n with
  | zero => intro p e R s m args below meth c Q mid q r kc ks lv st M H locs ls _ _ _ _ _ h; exact noEx h
  | succ n ih => exact sound_step hG hA hCl hLib hCh hLd (hLm n (con_of hG ih)) ih
