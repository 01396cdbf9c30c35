/-! ===== loads from arrays, new things, copies ===== -/
theorem mrow_self (I : Nat → Nat → Int) (k : Nat) : mrow I k k = fun _ => 0 := by unfold mrow; rw [if_pos rfl]
theorem mrow_other {I : Nat → Nat → Int} {k i : Nat} (h : i ≠ k) : mrow I k i = I i := by unfold mrow; rw [if_neg h]
theorem mrowR_self (I : Nat → Nat → Nat) (k : Nat) : mrowR I k k = fun _ => 0 := by unfold mrowR; rw [if_pos rfl]
theorem mrowR_other {I : Nat → Nat → Nat} {k i : Nat} (h : i ≠ k) : mrowR I k i = I i := by unfold mrowR; rw [if_neg h]
theorem mshp_self (sh : Nat → Nat × Nat) (k : Nat) (x : Nat × Nat) : mshp sh k x k = x := by unfold mshp; rw [if_pos rfl]
theorem mshp_other {sh : Nat → Nat × Nat} {k i : Nat} {x : Nat × Nat} (h : i ≠ k) : mshp sh k x i = sh i := by unfold mshp; rw [if_neg h]
theorem wfM_new {G : mGl} {n : Nat} {sh : Nat → Nat × Nat} {R : Nat → Nat → Nat} {I L : Nat → Nat → Int} {x : Nat × Nat} (h : wfM G (n, sh, R, I, L)) (hn : n < 144) (hx : x.1 < 15) : wfM G (n + 1, mshp sh n x, mrowR R n, mrow I n, mrow L n) := by
  obtain ⟨h1, h2, h3, h4, h5, h6, h7, h8, h9⟩ := h
  dsimp only at h1 h2 h3 h4 h5 h6 h7 h8 h9
  refine ⟨by show 2 ≤ n + 1; omega, by show n + 1 ≤ 144; omega, fun k hk => ?_, ?_, ?_, fun j => ?_, fun k j => ?_, fun k j => ?_, fun k hk1 hk2 => ?_⟩
  · dsimp only at hk ⊢
    rw [mshp_other (by omega)]; exact h3 k (by omega)
  · dsimp only; rw [mshp_other (by omega)]; exact h4
  · dsimp only; rw [mshp_other (by omega)]; exact h5
  · dsimp only; rw [mrow_other (by omega)]; exact h6 j
  · dsimp only
    by_cases hk : k = n
    · subst hk; rw [mrow_self]; exact wr0
    · rw [mrow_other hk]; exact h7 k j
  · dsimp only
    by_cases hk : k = n
    · subst hk; rw [mrow_self]; exact wl_of (z := 0) (by omega) (by omega)
    · rw [mrow_other hk]; exact h8 k j
  · dsimp only at hk2 ⊢
    by_cases hk : k = n
    · subst hk; rw [mshp_self]; exact hx
    · rw [mshp_other hk]; exact h9 k hk1 (by omega)
theorem wf_98 {G : mGl} {M : mM} {k : Nat} (h : wfM G M) (hk : (M.2.1 k).1 = 98) : k = 1 := by
  obtain ⟨h1, h2, h3, h4, h5, h6, h7, h8, h9⟩ := h
  by_cases hz : M.1 ≤ k
  · have := h3 k hz; omega
  · by_cases hz2 : 2 ≤ k
    · have := h9 k hz2 (by omega); omega
    · by_cases hz3 : k = 0
      · subst hz3; omega
      · omega
/-- where the cells lie -/
def AdOK (G : mGl) : Prop := ∀ k, k < 142 → g_a G k = g_z G + k
section RW3
variable {p : Program} {l : Launch} {e : Env} {R : Room} {s : State} {m : MethodId} {args : Array Value} {below : List Frame} {meth : Method} {c : Code} {Q : State → Prop} {G : mGl} {mid n : Nat} {q : List mV × mM} {r : List mE} {pc kc ks : Nat} {lv : List (Nat × mV)} {st st' : List mV} {M : mM} {H : Heap} {locs : List Loc} {ls : Array Slot}
variable {nn : Nat} {sh : Nat → Nat × Nat} {RR : Nat → Nat → Nat} {I L : Nat → Nat → Int}
theorem s_push {x : Nat × Nat} {H1 : Heap} (hF : Frm G mid s kc ks lv st (nn, sh, RR, I, L) H locs ls) (hA : AdOK G) (hB : Base G s) (hn : nn < 144) (hx : x.1 < 15) {en : va_E} (hen : ent0 G x (fun _ => 0) (fun _ => 0) (fun _ => 0) = en) (hat : va_at (g_D G) vwCl (H.size, en) H1) (hz : H1.size = H.size + 1) (ho : ∀ q, q < H.size → H1[q]? = H[q]?) :
    g_a G (nn - 2) = H.size ∧ va_P (g_D G) vwCl (wsM G (nn + 1, mshp sh nn x, mrowR RR nn, mrow I nn, mrow L nn)) H1 ∧ va_D (g_A G) (wsM G (nn + 1, mshp sh nn x, mrowR RR nn, mrow I nn, mrow L nn)) ∧ va_S (g_A G) s.heap H1 locs ∧ (nn + 1 < 144 → H1.size = g_z G + (nn + 1 - 2)) := by
  obtain ⟨f1, f2, f3, f4, f5, f6, f7, f8, f9⟩ := hF
  have h2 : 2 ≤ nn := f4.1
  have hsz : H.size = g_z G + (nn - 2) := f8 hn
  have had : g_a G (nn - 2) = H.size := by rw [hA _ (by omega), hsz]
  have hk : ∀ (k : Nat) (x : Nat × va_E), (wsM G (nn, sh, RR, I, L))[k]? = some x → H1[x.1]? = H[x.1]? := fun k x hx => ho x.1 ((f5 k x hx).lt)
  have hw : wsM G (nn + 1, mshp sh nn x, mrowR RR nn, mrow I nn, mrow L nn) = wsM G (nn, sh, RR, I, L) ++ [(H.size, en)] := by
    rw [wsM_push (M := (nn, sh, RR, I, L)) h2 rfl (fun i hi => by
      dsimp only at hi
      unfold ent
      dsimp only
      rw [mshp_other (by omega), mrowR_other (by omega), mrow_other (by omega), mrow_other (by omega)])]
    dsimp only
    rw [had]
    congr 3
    unfold ent
    dsimp only
    rw [mshp_self, mrowR_self, mrow_self, mrow_self]
    exact hen
  rw [hw]
  refine ⟨had, (f5.kept hk).app (fun k x hx => ?_), f6.push f5 rfl (by show g_z G ≤ H.size; omega), ⟨Nat.le_trans f7.1 (by omega), fun x h1 h2 => (ho x (Nat.lt_of_lt_of_le h1 f7.1)).trans (f7.2.1 x h1 h2), f7.2.2⟩, fun _ => by omega⟩
  have hz : k < 1 := (List.getElem?_eq_some_iff.mp hx).1
  rw [show k = 0 by omega] at hx
  cases hx
  exact hat
theorem s_new (hCl : ClOK) (hA : AdOK G) (hC : Ctx G mid p R s m args meth c) {idx ci : Nat} (hd : decode (mB mid) pc = .ok (.new idx, 3)) (hci : ci < 11) (hw : Cond.classLink (mY mid).cls idx (m_cl ci).1 ∈ gT) (hn : nn < 144) (hr1 : kc + 1 ≤ mC mid) (hr2 : ks + (m_cl ci).2.2 ≤ mS mid)
    (hF : Frm G mid s kc ks lv st (nn, sh, RR, I, L) H locs ls)
    (go : GoP p l e R s m args below meth c Q G mid n q r (pc + 3)) (h : m_exec n mid (r, kc + 1, ks + (m_cl ci).2.2, lv, .inr (.inr nn) :: st, (nn + 1, mshp sh nn (ci + 4, 0), mrowR RR nn, mrow I nn, mrow L nn)) = some q) : W p l e R s m args below meth c H locs kc ks Q (F0 m pc ls (st.map (tr G))) := by
  obtain ⟨hx, hb, hml, hown, hts, hR, hin2, hB⟩ := id hC
  have hcg := cl_get ci hci
  have hKn := hB.1.1 ci _ hcg
  obtain ⟨c1, c2, c3⟩ := hCl ci hci
  refine W.newcK hx hb hown (hts _ hw) (hts _ c2) (hts _ c3) rfl hd (by rw [hR.1]; exact hr1) (by rw [hR.2.1]; exact hr2) hKn.2.1 rfl fun H1 kC hkC e1 z1 o1 => ?_
  have hfs : ∀ j, j < (m_cl ci).2.2 → defaultValue (m_ty ci j) = vp_V (flds G (fun _ => 0) (fun _ => 0) (fun _ => 0) ci) j := by
    intro j hj
    unfold vp_V
    rw [List.getD_eq_getElem?_getD, flds_get hj]
    rcases ty_code hci hj with ht | ht | ht | ht
    · rw [ht, ty_of0 hci hj ht]; rfl
    · rw [ht, ty_of1 hci hj ht]; rfl
    · rw [ht]
      rcases ty_of2 hci hj ht with ⟨z, hz⟩ | ⟨z, hz⟩ <;> rw [hz] <;> rfl
    · rw [ht, ty_of3 hci hj ht]; rfl
  have hat : va_at (g_D G) vwCl (H.size, .inr (ci, flds G (fun _ => 0) (fun _ => 0) (fun _ => 0) ci)) H1 := ⟨_, hcg, (u_born (m_ty ci) hts c1 hKn hkC e1 (cl_ty ci hci)).to hfs⟩
  obtain ⟨had, hP, hD, hS, hz⟩ := s_push (x := (ci + 4, 0)) hF hA hB hn (by show ci + 4 < 15; omega) rfl hat z1 o1
  obtain ⟨f1, f2, f3, f4, f5, f6, f7, f8, f9, f10⟩ := hF
  have k := go _ _ _ _ _ _ _ _ h ⟨f1, f2, wf_cons trivial f3, wfM_new f4 hn (by show ci + 4 < 15; omega), hP, hD, hS, hz, hr1, hr2⟩
  have h2 : 2 ≤ nn := f4.1
  have ht : tr G (.inr (.inr nn)) = .ref H.size := by
    obtain ⟨z, rfl⟩ : ∃ z, nn = z + 2 := ⟨nn - 2, by omega⟩
    show Value.ref (g_a G z) = _
    rw [← had, show z + 2 - 2 = z by omega]
  rw [List.map_cons, ht] at k
  exact k
theorem s_newa (hA : AdOK G) (hC : Ctx G mid p R s m args meth c) {at_ : ArrayType} {kd : Nat} {x : Int} (hd : decode (mB mid) pc = .ok (.newarray at_, 2)) (hw : Cond.arrayClass (newarray.typeOf at_) ∈ gT)
    (hk : (kd = 0 ∧ newarray.typeOf at_ = .int) ∨ (kd = 1 ∧ newarray.typeOf at_ = .long) ∨ (kd = 2 ∧ newarray.typeOf at_ = .byte) ∨ (kd = 3 ∧ newarray.typeOf at_ = .boolean)) (hn : nn < 144) (hx0 : 0 ≤ x) (hx1 : x ≤ 10000) (hr1 : kc + 1 ≤ mC mid) (hr2 : ks + x.toNat ≤ mS mid)
    (hF : Frm G mid s kc ks lv (.inl x :: st) (nn, sh, RR, I, L) H locs ls)
    (go : GoP p l e R s m args below meth c Q G mid n q r (pc + 2)) (h : m_exec n mid (r, kc + 1, ks + x.toNat, lv, .inr (.inr nn) :: st, (nn + 1, mshp sh nn (kd, x.toNat), mrowR RR nn, mrow I nn, mrow L nn)) = some q) : W p l e R s m args below meth c H locs kc ks Q (F0 m pc ls ((.inl x :: st).map (tr G))) := by
  obtain ⟨hx, hb, hml, hown, hts, hR, hin2, hB⟩ := id hC
  have hxw : wr x = x := wf_head hF.2.2.1
  have hni := int_nat hxw
  have hneg : ¬ Int32.ofInt x < 0 := fun z => by have := (i_lt hxw wr0).mp z; omega
  have hbytes : x.toNat * componentBytes (newarray.typeOf at_) ≤ 536870912 := by
    have : componentBytes (newarray.typeOf at_) ≤ 8 := by
      rcases hk with ⟨-, hk⟩ | ⟨-, hk⟩ | ⟨-, hk⟩ | ⟨-, hk⟩ <;> rw [hk] <;> decide
    calc x.toNat * componentBytes (newarray.typeOf at_) ≤ 10000 * 8 := Nat.mul_le_mul (by omega) this
      _ ≤ 536870912 := by omega
  refine va_newaK hx hb (hts _ hw) (g := F0 m pc ls (.int (Int32.ofInt x) :: st.map (tr G))) rfl hd rfl hneg hni hbytes (by rw [hR.1]; exact hr1) (by rw [hR.2.1]; exact hr2) rfl fun H1 cA e1 z1 o1 hAr hNm => ?_
  have h2 : 2 ≤ nn := hF.2.2.2.1.1
  have fin : ∀ en, ent0 G (kd, x.toNat) (fun _ => 0) (fun _ => 0) (fun _ => 0) = en → kd < 15 → va_at (g_D G) vwCl (H.size, en) H1 → W p l e R s m args below meth c H1 locs (kc + 1) (ks + x.toNat) Q (F0 m (pc + 2) ls (.ref H.size :: st.map (tr G))) := by
    intro en hen hkd hat
    obtain ⟨had, hP, hD, hS, hz⟩ := s_push (x := (kd, x.toNat)) hF hA hB hn hkd hen hat z1 o1
    obtain ⟨f1, f2, f3, f4, f5, f6, f7, f8, f9, f10⟩ := hF
    have k := go _ _ _ _ _ _ _ _ h ⟨f1, f2, wf_cons trivial (wf_tail f3), wfM_new f4 hn hkd, hP, hD, hS, hz, hr1, hr2⟩
    have ht : tr G (.inr (.inr nn)) = .ref H.size := by
      obtain ⟨z, rfl⟩ : ∃ z, nn = z + 2 := ⟨nn - 2, by omega⟩
      show Value.ref (g_a G z) = _
      rw [← had, show z + 2 - 2 = z by omega]
    rw [List.map_cons, ht] at k
    exact k
  have hcl : ∀ {t0 : Nat} {cx : ClassId} {ty : FieldType}, (tysG G)[t0]? = some (cx, ty) → va_RA s cx ty := fun h => (hB.1.2 _ _ h).2
  rcases hk with ⟨rfl, hk⟩ | ⟨rfl, hk⟩ | ⟨rfl, hk⟩ | ⟨rfl, hk⟩
  · rw [hk] at hNm e1
    have hq : s.vm.findClass ("[" ++ FieldType.int.toString) = some (g_c G).1 := hcl (t0 := 0) rfl
    have : cA = (g_c G).1 := Option.some.inj (hNm.symm.trans hq)
    subst this
    exact fin _ rfl (by omega) e1
  · rw [hk] at hNm e1
    have hq : s.vm.findClass ("[" ++ FieldType.long.toString) = some (g_c G).2.1 := hcl (t0 := 1) rfl
    have : cA = (g_c G).2.1 := Option.some.inj (hNm.symm.trans hq)
    subst this
    exact fin _ rfl (by omega) e1
  · rw [hk] at hNm e1
    have hq : s.vm.findClass ("[" ++ FieldType.byte.toString) = some (g_c G).2.2.1 := hcl (t0 := 2) rfl
    have : cA = (g_c G).2.2.1 := Option.some.inj (hNm.symm.trans hq)
    subst this
    exact fin _ rfl (by omega) e1
  · rw [hk] at hNm e1
    have hq : s.vm.findClass ("[" ++ FieldType.boolean.toString) = some (g_c G).2.2.2 := hcl (t0 := 3) rfl
    have : cA = (g_c G).2.2.2 := Option.some.inj (hNm.symm.trans hq)
    subst this
    exact fin _ rfl (by omega) e1
/-- an int of an array, or of the script -/
theorem s_aldI (hC : Ctx G mid p R s m args meth c) {k : Nat} {i : Int} (hin : 0 ≤ i ∧ i < ((sh (k + 1)).2 : Int)) (hF : Frm G mid s kc ks lv (.inl i :: .inr (.inr (k + 1)) :: st) (nn, sh, RR, I, L) H locs ls)
    (hk : ((sh (k + 1)).1 = 0 ∧ decode (mB mid) pc = .ok (.iaload, 1)) ∨ ((sh (k + 1)).1 = 98 ∧ decode (mB mid) pc = .ok (.iaload, 1)) ∨ ((sh (k + 1)).1 = 2 ∧ decode (mB mid) pc = .ok (.baload, 1)) ∨ ((sh (k + 1)).1 = 3 ∧ decode (mB mid) pc = .ok (.baload, 1)))
    (go : GoP p l e R s m args below meth c Q G mid n q r (pc + 1)) (h : m_exec n mid (r, kc, ks, lv, .inl (I (k + 1) i.toNat) :: st, (nn, sh, RR, I, L)) = some q) : W p l e R s m args below meth c H locs kc ks Q (F0 m pc ls ((.inl i :: .inr (.inr (k + 1)) :: st).map (tr G))) := by
  obtain ⟨hx, hb, hml, hown, hts, hR, hin2, hB⟩ := hC
  have hiw : wr i = i := wf_head hF.2.2.1
  have hvi := int_in hiw hin
  have hni := int_nat hiw
  have hK := hB.1
  obtain ⟨f1, f2, f3, f4, f5, f6, f7, f8, f9⟩ := id hF
  have hIw : ∀ a b, wr (I a b) = I a b := f4.2.2.2.2.2.2.1
  have kk := s_st go hF (wf_cons (v := .inl (I (k + 1) i.toNat)) (hIw _ _) (wf_tail (wf_tail f3))) h
  rw [List.map_cons] at kk
  by_cases h98 : (sh (k + 1)).1 = 98
  · have hk0 : k = 0 := by have := wf_98 (M := (nn, sh, RR, I, L)) f4 h98; omega
    subst hk0
    have hd : decode (mB mid) pc = .ok (.iaload, 1) := by
      rcases hk with ⟨z, hd⟩ | ⟨z, hd⟩ | ⟨z, hd⟩ | ⟨z, hd⟩
      · exact hd
      · exact hd
      · exact absurd z (by rw [h98]; omega)
      · exact absurd z (by rw [h98]; omega)
    have hL : (sh 1).2 = g_L G := by
      have h5 : sh 1 = (98, g_L G) := f4.2.2.2.2.1
      rw [h5]
    have hvi' : vp_in (Int32.ofInt i) (g_L G) := hL ▸ hvi
    have hI : (tr G (.inl (I 1 i.toNat))) = .int (g_x G (Int32.ofInt i).toNatClampNeg) := by
      show Value.int (Int32.ofInt (I 1 i.toNat)) = _
      have h6 : I 1 i.toNat = (g_x G i.toNat).toInt := f4.2.2.2.2.2.1 i.toNat
      rw [h6, Int32.ofInt_toInt, hni]
    rw [hI] at kk
    exact va_sld hx hb hB.2.1 (Nat.lt_of_lt_of_le hB.2.2.1 hB.2.2.2.1) (Nat.not_le.mpr hB.2.2.1) f7 hvi' hd kk
  · have hlt15 : (sh (k + 1)).1 < 15 := by rcases hk with ⟨z, -⟩ | ⟨z, -⟩ | ⟨z, -⟩ | ⟨z, -⟩ <;> omega
    have hwi := wf_in (M := (nn, sh, RR, I, L)) f4 hlt15
    obtain ⟨k, rfl⟩ : ∃ z, k = z + 1 := ⟨k - 1, by omega⟩
    have hlt : k + 2 < nn := hwi.1
    have hv : tr G (.inl (I (k + 1 + 1) i.toNat)) = .int ((fun j => Int32.ofInt (I (k + 2) j)) (Int32.ofInt i).toNatClampNeg) := by
      show Value.int _ = _
      rw [hni]
    rw [hv] at kk
    rcases hk with ⟨z, hd⟩ | ⟨z, hd⟩ | ⟨z, hd⟩ | ⟨z, hd⟩
    · exact va_iald (D := g_D G) hx hb hK f5 k 0 (by rw [wsM_get hlt, ent_int z]) rfl hvi hd kk
    · exact absurd z h98
    · exact va_bald (D := g_D G) hx hb hK f5 k 2 (by rw [wsM_get hlt, ent_byte z]) rfl hvi hd kk
    · exact va_zald (D := g_D G) hx hb hK f5 k 3 (by rw [wsM_get hlt, ent_bool z]) rfl hvi hd kk
theorem s_aldL (hC : Ctx G mid p R s m args meth c) {k : Nat} {i : Int} (hin : 0 ≤ i ∧ i < ((sh (k + 1)).2 : Int)) (hF : Frm G mid s kc ks lv (.inl i :: .inr (.inr (k + 1)) :: st) (nn, sh, RR, I, L) H locs ls) (hs : (sh (k + 1)).1 = 1) (hd : decode (mB mid) pc = .ok (.laload, 1))
    (go : GoP p l e R s m args below meth c Q G mid n q r (pc + 1)) (h : m_exec n mid (r, kc, ks, lv, .inr (.inl (L (k + 1) i.toNat)) :: st, (nn, sh, RR, I, L)) = some q) : W p l e R s m args below meth c H locs kc ks Q (F0 m pc ls ((.inl i :: .inr (.inr (k + 1)) :: st).map (tr G))) := by
  obtain ⟨hx, hb, hml, hown, hts, hR, hin2, hB⟩ := hC
  have hiw : wr i = i := wf_head hF.2.2.1
  have hvi := int_in hiw hin
  have hni := int_nat hiw
  have hK := hB.1
  obtain ⟨f1, f2, f3, f4, f5, f6, f7, f8, f9⟩ := id hF
  have hLw : ∀ a b, wl (L a b) = L a b := f4.2.2.2.2.2.2.2.1
  have kk := s_st go hF (wf_cons (v := .inr (.inl (L (k + 1) i.toNat))) (hLw _ _) (wf_tail (wf_tail f3))) h
  rw [List.map_cons] at kk
  have hwi := wf_in (M := (nn, sh, RR, I, L)) f4 (by show (sh (k + 1)).1 < 15; omega)
  obtain ⟨k, rfl⟩ : ∃ z, k = z + 1 := ⟨k - 1, by omega⟩
  have hlt : k + 2 < nn := hwi.1
  have hv : tr G (.inr (.inl (L (k + 1 + 1) i.toNat))) = .long ((fun j => Int64.ofInt (L (k + 2) j)) (Int32.ofInt i).toNatClampNeg) := by
    show Value.long _ = _
    rw [hni]
  rw [hv] at kk
  exact va_lald (D := g_D G) hx hb hK f5 k 1 (by rw [wsM_get hlt, ent_long hs]) rfl hvi hd kk
theorem s_len (hC : Ctx G mid p R s m args meth c) {k : Nat} (hF : Frm G mid s kc ks lv (.inr (.inr (k + 1)) :: st) (nn, sh, RR, I, L) H locs ls) (hs : (sh (k + 1)).1 ≤ 3 ∨ (sh (k + 1)).1 = 98) (hd : decode (mB mid) pc = .ok (.arraylength, 1)) (hlen : (sh (k + 1)).2 < 2147483648)
    (go : GoP p l e R s m args below meth c Q G mid n q r (pc + 1)) (h : m_exec n mid (r, kc, ks, lv, .inl ((sh (k + 1)).2 : Nat) :: st, (nn, sh, RR, I, L)) = some q) : W p l e R s m args below meth c H locs kc ks Q (F0 m pc ls ((.inr (.inr (k + 1)) :: st).map (tr G))) := by
  obtain ⟨hx, hb, hml, hown, hts, hR, hin2, hB⟩ := hC
  have hK := hB.1
  obtain ⟨f1, f2, f3, f4, f5, f6, f7, f8, f9⟩ := id hF
  have kk := s_st go hF (wf_cons (v := .inl ((sh (k + 1)).2 : Nat)) (wr_of (by omega) (by omega)) (wf_tail f3)) h
  rw [List.map_cons] at kk
  have hv : tr G (.inl ((sh (k + 1)).2 : Nat)) = .int (Int32.ofNat (sh (k + 1)).2) := by
    show Value.int _ = _
    congr 1
  rw [hv] at kk
  by_cases h98 : (sh (k + 1)).1 = 98
  · have hk0 : k = 0 := by have := wf_98 (M := (nn, sh, RR, I, L)) f4 h98; omega
    subst hk0
    have hL : (sh 1).2 = g_L G := by
      have h5 : sh 1 = (98, g_L G) := f4.2.2.2.2.1
      rw [h5]
    rw [show (0 + 1 : Nat) = 1 from rfl, hL] at kk
    exact va_slen hx hb hB.2.1 (Nat.lt_of_lt_of_le hB.2.2.1 hB.2.2.2.1) (Nat.not_le.mpr hB.2.2.1) f7 hd kk
  · have hwi := wf_in (M := (nn, sh, RR, I, L)) f4 (by show (sh (k + 1)).1 < 15; omega)
    obtain ⟨k, rfl⟩ : ∃ z, k = z + 1 := ⟨k - 1, by omega⟩
    have hlt : k + 2 < nn := hwi.1
    rcases hx4 : (sh (k + 2)).1 with _ | _ | _ | _ | z
    · exact va_alen (D := g_D G) hx hb hK f5 k 0 (by rw [wsM_get hlt, ent_int hx4]) rfl rfl hd kk
    · exact va_alen (D := g_D G) hx hb hK f5 k 1 (by rw [wsM_get hlt, ent_long hx4]) rfl rfl hd kk
    · exact va_alen (D := g_D G) hx hb hK f5 k 2 (by rw [wsM_get hlt, ent_byte hx4]) rfl rfl hd kk
    · exact va_alen (D := g_D G) hx hb hK f5 k 3 (by rw [wsM_get hlt, ent_bool hx4]) rfl rfl hd kk
    · have : (sh (k + 1 + 1)).1 = z + 1 + 1 + 1 + 1 := hx4
      omega
end RW3
