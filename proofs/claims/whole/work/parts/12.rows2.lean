/-! ===== fields, arrays, new things ===== -/
theorem cl_get : ∀ c, c < 11 → vwCl[c]? = some (m_cl c) := by
  intro c h
  match c, h with
  | 0, _ => rfl
  | 1, _ => rfl
  | 2, _ => rfl
  | 3, _ => rfl
  | 4, _ => rfl
  | 5, _ => rfl
  | 6, _ => rfl
  | 7, _ => rfl
  | 8, _ => rfl
  | 9, _ => rfl
  | 10, _ => rfl
  | k + 11, h => exact absurd h (by omega)
theorem cl_ty : ∀ c, c < 11 → ∀ j, j < (m_cl c).2.2 → parseFieldDescriptor ((m_cl c).2.1 j).2.2.1 = some (m_ty c j) := by
  intro c h
  match c, h with
  | 0, _ => exact tyX0_ok
  | 1, _ => exact tyX1_ok
  | 2, _ => exact tyX2_ok
  | 3, _ => exact tyX3_ok
  | 4, _ => exact tyX4_ok
  | 5, _ => exact tyX5_ok
  | 6, _ => exact tyX6_ok
  | 7, _ => exact tyX7_ok
  | 8, _ => exact tyX8_ok
  | 9, _ => exact tyX9_ok
  | 10, _ => exact tyX10_ok
  | k + 11, h => exact absurd h (by omega)
theorem cl_nm : ∀ c, c < 11 → ∀ a, a < (m_cl c).2.2 → ∀ b, b < (m_cl c).2.2 → a ≠ b → ((m_cl c).2.1 a).2.1 ≠ ((m_cl c).2.1 b).2.1 := by
  intro c h
  match c, h with
  | 0, _ => exact nmX0
  | 1, _ => exact nmX1
  | 2, _ => exact nmX2
  | 3, _ => exact nmX3
  | 4, _ => exact nmX4
  | 5, _ => exact nmX5
  | 6, _ => exact nmX6
  | 7, _ => exact nmX7
  | 8, _ => exact nmX8
  | 9, _ => exact nmX9
  | 10, _ => exact nmX10
  | k + 11, h => exact absurd h (by omega)
def m_rty (t : FieldType) : Bool := match t with
  | .object _ => true
  | .array _ => true
  | _ => false
def m_cty (c j : Nat) : Bool := match m_ty c j with
  | .int => true
  | .long => true
  | .boolean => true
  | .object _ => true
  | .array _ => true
  | _ => false
theorem cl_cty0 : (List.range 11).all (fun c => (List.range (m_cl c).2.2).all (m_cty c)) = true := by decide +kernel
theorem cl_cty {c j : Nat} (hc : c < 11) (hj : j < (m_cl c).2.2) : m_cty c j = true := List.all_eq_true.mp (List.all_eq_true.mp cl_cty0 c (List.mem_range.mpr hc)) j (List.mem_range.mpr hj)
/-- the type of a field by its number -/
theorem ty_of0 {c j : Nat} (hc : c < 11) (hj : j < (m_cl c).2.2) (h : m_tc (m_ty c j) = 0) : m_ty c j = .int := by
  have h1 := cl_cty hc hj
  unfold m_cty at h1
  cases ht : m_ty c j <;> rw [ht] at h h1 <;> first | rfl | (cases h; done) | (cases h1; done)
theorem ty_of1 {c j : Nat} (hc : c < 11) (hj : j < (m_cl c).2.2) (h : m_tc (m_ty c j) = 1) : m_ty c j = .long := by
  have h1 := cl_cty hc hj
  unfold m_cty at h1
  cases ht : m_ty c j <;> rw [ht] at h h1 <;> first | rfl | (cases h; done) | (cases h1; done)
theorem ty_of3 {c j : Nat} (hc : c < 11) (hj : j < (m_cl c).2.2) (h : m_tc (m_ty c j) = 3) : m_ty c j = .boolean := by
  have h1 := cl_cty hc hj
  unfold m_cty at h1
  cases ht : m_ty c j <;> rw [ht] at h h1 <;> first | rfl | (cases h; done) | (cases h1; done)
theorem ty_of2 {c j : Nat} (hc : c < 11) (hj : j < (m_cl c).2.2) (h : m_tc (m_ty c j) = 2) : (∃ n, m_ty c j = .object n) ∨ ∃ t, m_ty c j = .array t := by
  have h1 := cl_cty hc hj
  unfold m_cty at h1
  cases ht : m_ty c j <;> rw [ht] at h h1 <;> first | exact Or.inl ⟨_, rfl⟩ | exact Or.inr ⟨_, rfl⟩ | (cases h; done) | (cases h1; done)
theorem ty_code {c j : Nat} (hc : c < 11) (hj : j < (m_cl c).2.2) : m_tc (m_ty c j) = 0 ∨ m_tc (m_ty c j) = 1 ∨ m_tc (m_ty c j) = 2 ∨ m_tc (m_ty c j) = 3 := by
  cases m_ty c j <;> simp [m_tc]
theorem ent_obj {G : mGl} {M : mM} {k c : Nat} (h : (M.2.1 k).1 = c + 4) : ent G M k = .inr (c, flds G (M.2.2.1 k) (M.2.2.2.1 k) (M.2.2.2.2 k) c) := by
  unfold ent
  rcases hx : M.2.1 k with ⟨a, b⟩
  rw [hx] at h
  dsimp only at h
  subst h
  rfl
theorem ent_int {G : mGl} {M : mM} {k : Nat} (h : (M.2.1 k).1 = 0) : ent G M k = .inl ((g_c G).1, (M.2.1 k).2, .inl (fun j => Int32.ofInt (M.2.2.2.1 k j))) := by
  unfold ent
  rcases hx : M.2.1 k with ⟨a, b⟩
  rw [hx] at h
  dsimp only at h
  subst h
  rfl
theorem ent_long {G : mGl} {M : mM} {k : Nat} (h : (M.2.1 k).1 = 1) : ent G M k = .inl ((g_c G).2.1, (M.2.1 k).2, .inr (.inl (fun j => Int64.ofInt (M.2.2.2.2 k j)))) := by
  unfold ent
  rcases hx : M.2.1 k with ⟨a, b⟩
  rw [hx] at h
  dsimp only at h
  subst h
  rfl
theorem ent_byte {G : mGl} {M : mM} {k : Nat} (h : (M.2.1 k).1 = 2) : ent G M k = .inl ((g_c G).2.2.1, (M.2.1 k).2, .inl (fun j => Int32.ofInt (M.2.2.2.1 k j))) := by
  unfold ent
  rcases hx : M.2.1 k with ⟨a, b⟩
  rw [hx] at h
  dsimp only at h
  subst h
  rfl
theorem ent_bool {G : mGl} {M : mM} {k : Nat} (h : (M.2.1 k).1 = 3) : ent G M k = .inl ((g_c G).2.2.2, (M.2.1 k).2, .inl (fun j => Int32.ofInt (M.2.2.2.1 k j))) := by
  unfold ent
  rcases hx : M.2.1 k with ⟨a, b⟩
  rw [hx] at h
  dsimp only at h
  subst h
  rfl
theorem wf_in {G : mGl} {M : mM} {k : Nat} (h : wfM G M) (hk : (M.2.1 k).1 < 15) : k < M.1 ∧ 2 ≤ k := by
  obtain ⟨h1, h2, h3, h4, h5, h6⟩ := h
  refine ⟨?_, ?_⟩
  · rcases Nat.lt_or_ge k M.1 with z | z
    · exact z
    · rw [h3 k z] at hk; omega
  · match k, hk with
    | 0, hk => rw [h4] at hk; omega
    | 1, hk => rw [h5] at hk; dsimp only at hk; omega
    | k + 2, _ => omega
theorem mup_self (I : Nat → Nat → Int) (k j : Nat) (x : Int) : mup I k j x k = fun b => if b = j then x else I k b := by unfold mup; rw [if_pos rfl]
theorem mup_other {I : Nat → Nat → Int} {k j : Nat} {x : Int} {i : Nat} (h : i ≠ k) : mup I k j x i = I i := by unfold mup; rw [if_neg h]
theorem mupR_self (I : Nat → Nat → Nat) (k j : Nat) (x : Nat) : mupR I k j x k = fun b => if b = j then x else I k b := by unfold mupR; rw [if_pos rfl]
theorem mupR_other {I : Nat → Nat → Nat} {k j : Nat} {x : Nat} {i : Nat} (h : i ≠ k) : mupR I k j x i = I i := by unfold mupR; rw [if_neg h]
theorem mup_wr {I : Nat → Nat → Int} {k j : Nat} {x : Int} (h : ∀ a b, wr (I a b) = I a b) (hx : wr x = x) : ∀ a b, wr (mup I k j x a b) = mup I k j x a b := by
  intro a b
  unfold mup
  by_cases h1 : a = k
  · rw [if_pos h1]
    by_cases h2 : b = j
    · simp only [h2, if_true]; exact hx
    · simp only [h2, if_false]; exact h a b
  · rw [if_neg h1]; exact h a b
theorem mup_wl {I : Nat → Nat → Int} {k j : Nat} {x : Int} (h : ∀ a b, wl (I a b) = I a b) (hx : wl x = x) : ∀ a b, wl (mup I k j x a b) = mup I k j x a b := by
  intro a b
  unfold mup
  by_cases h1 : a = k
  · rw [if_pos h1]
    by_cases h2 : b = j
    · simp only [h2, if_true]; exact hx
    · simp only [h2, if_false]; exact h a b
  · rw [if_neg h1]; exact h a b
/-- the memory with other ints still is one -/
theorem wfM_I {G : mGl} {n : Nat} {sh : Nat → Nat × Nat} {R : Nat → Nat → Nat} {I L : Nat → Nat → Int} {k j : Nat} {x : Int} (h : wfM G (n, sh, R, I, L)) (hk : 2 ≤ k) (hx : wr x = x) : wfM G (n, sh, R, mup I k j x, L) := by
  obtain ⟨h1, h2, h3, h4, h5, h6, h7, h8⟩ := h
  refine ⟨h1, h2, h3, h4, h5, fun i => ?_, mup_wr h7 hx, h8⟩
  show mup I k j x 1 i = _
  rw [mup_other (by omega)]
  exact h6 i
theorem wfM_L {G : mGl} {n : Nat} {sh : Nat → Nat × Nat} {R : Nat → Nat → Nat} {I L : Nat → Nat → Int} {k j : Nat} {x : Int} (h : wfM G (n, sh, R, I, L)) (hx : wl x = x) : wfM G (n, sh, R, I, mup L k j x) := by
  obtain ⟨h1, h2, h3, h4, h5, h6, h7, h8, h9⟩ := h
  exact ⟨h1, h2, h3, h4, h5, h6, h7, mup_wl h8 hx, h9⟩
theorem wfM_R {G : mGl} {n : Nat} {sh : Nat → Nat × Nat} {R R' : Nat → Nat → Nat} {I L : Nat → Nat → Int} (h : wfM G (n, sh, R, I, L)) : wfM G (n, sh, R', I, L) := h
def ClOK : Prop := ∀ c, c < 11 → (∀ w ∈ u_ws (m_cl c).1 (m_cl c).2.1 (m_cl c).2.2, w ∈ gT) ∧ Cond.instantiable (m_cl c).1 (m_cl c).2.2 ∈ gT ∧ Cond.initialized (m_cl c).1 ∈ gT
section RW2
variable {p : Program} {l : Launch} {e : Env} {R : Room} {s : State} {m : MethodId} {args : Array Value} {below : List Frame} {meth : Method} {c : Code} {Q : State → Prop} {G : mGl} {mid n : Nat} {q : List mV × mM} {r : List mE} {pc kc ks : Nat} {lv : List (Nat × mV)} {st st' : List mV} {M : mM} {H : Heap} {locs : List Loc} {ls : Array Slot}
variable {nn : Nat} {sh : Nat → Nat × Nat} {RR : Nat → Nat → Nat} {I L : Nat → Nat → Int}
theorem s_getf (hCl : ClOK) (hC : Ctx G mid p R s m args meth c) {idx k ci j : Nat} (hd : decode (mB mid) pc = .ok (.getfield idx, 3)) (hci : ci < 11) (hj : j < (m_cl ci).2.2) (hw : Cond.fieldLink (mY mid).cls idx ((m_cl ci).2.1 j).1 ((m_cl ci).2.1 j).2.1 ((m_cl ci).2.1 j).2.2.1 ∈ gT)
    (hF : Frm G mid s kc ks lv (.inr (.inr (k + 2)) :: st) (nn, sh, RR, I, L) H locs ls) (hsh : (sh (k + 2)).1 = ci + 4)
    (kk : W p l e R s m args below meth c H locs kc ks Q (F0 m (pc + 3) ls (fv G (RR (k + 2)) (I (k + 2)) (L (k + 2)) j (m_tc (m_ty ci j)) :: st.map (tr G)))) : W p l e R s m args below meth c H locs kc ks Q (F0 m pc ls ((.inr (.inr (k + 2)) :: st).map (tr G))) := by
  obtain ⟨hx, hb, hml, hown, hts, hR, hin, hB⟩ := hC
  obtain ⟨f1, f2, f3, f4, f5, f6, f7, f8⟩ := hF
  have hlt : k + 2 < nn := (wf_in (M := (nn, sh, RR, I, L)) f4 (by show (sh (k + 2)).1 < 15; omega)).1
  have he : (wsM G (nn, sh, RR, I, L))[k]? = some (g_a G k, .inr (ci, flds G (RR (k + 2)) (I (k + 2)) (L (k + 2)) ci)) := by
    rw [wsM_get hlt, ent_obj (c := ci) hsh]
  exact va_get (D := g_D G) (ci := ci) (C := (m_cl ci).1) (T := (m_cl ci).2.1) (N := (m_cl ci).2.2) hx hb hts (hCl ci hci).1 hown hB.1 f5 k he (cl_get ci hci) j hj (hts _ hw) (fun _ h9 => h9) (flds_get hj) hd kk
/-- what stands in the heap once a cell of the memory is written -/
theorem s_setP {M M' : mM} {k : Nat} {x : va_E} {H1 : Heap} (hk : k + 2 < M.1) (hn : M'.1 = M.1) (ho : ∀ i, i ≠ k + 2 → ent G M' i = ent G M i) (hx : ent G M' (k + 2) = x) (hP : va_P (g_D G) vwCl ((wsM G M).set k (g_a G k, x)) H1) (hD : va_D (g_A G) ((wsM G M).set k (g_a G k, x))) :
    va_P (g_D G) vwCl (wsM G M') H1 ∧ va_D (g_A G) (wsM G M') := by
  rw [wsM_set hk hn ho, hx]
  exact ⟨hP, hD⟩
/-- a field is written: the kit's row, and the heap's size -/
theorem p_put {k ci j idx : Nat} {fs : List Value} {v : Value} (hCl : ClOK) (hC : Ctx G mid p R s m args meth c) (hd : decode (mB mid) pc = .ok (.putfield idx, 3)) (hci : ci < 11) (hj : j < (m_cl ci).2.2) (hw : Cond.fieldLink (mY mid).cls idx ((m_cl ci).2.1 j).1 ((m_cl ci).2.1 j).2.1 ((m_cl ci).2.1 j).2.2.1 ∈ gT)
    (hfin : ((m_cl ci).2.1 j).2.2.2 = false ∨ ((mY mid).name = "<init>" ∧ ((m_cl ci).2.1 j).1 = (mY mid).cls)) (hn : narrow (m_ty ci j) v = v) (hfit : fits (m_ty ci j) v = true) {ws : va_W} {a : Nat} {rest : List Value}
    (hP : va_P (g_D G) vwCl ws H) (hD : va_D (g_A G) ws) (hS : va_S (g_A G) s.heap H locs) (he : ws[k]? = some (a, .inr (ci, fs))) (hl : j < fs.length)
    (kk : ∀ (H1 : Heap) (locs1 : List Loc), H1.size = H.size → va_P (g_D G) vwCl (ws.set k (a, .inr (ci, fs.set j v))) H1 → va_D (g_A G) (ws.set k (a, .inr (ci, fs.set j v))) → va_S (g_A G) s.heap H1 locs1 → W p l e R s m args below meth c H1 locs1 kc ks Q (F0 m (pc + 3) ls rest)) : W p l e R s m args below meth c H locs kc ks Q (F0 m pc ls (v :: .ref a :: rest)) := by
  obtain ⟨hx, hb, hml, hown, hts, hR, hin2, hB⟩ := hC
  have hK := hB.1
  have hin := (hCl ci hci).1
  have hc := cl_get ci hci
  have hap := va_apart (own := (mY mid).cls) hts hin (m_ty ci) (cl_ty ci hci) (cl_nm ci hci) hK hc
  obtain ⟨r, h1, cell, q1, q2, q3, q4⟩ := hP k _ he
  have hr : r = m_cl ci := Option.some.inj (h1.symm.trans hc)
  subst hr
  obtain ⟨hS0, hfc, kC, hkC, hkind⟩ := hK.1 ci _ hc
  obtain ⟨cf, kf, fi, f, hi, hsl⟩ := hS0 j hj
  have hlay := hts _ (hin _ (u_in_lay hj))
  unfold u_lay at hlay
  have hst := (u_facts hfc hkC (u_lays hts hin hj) hi).1
  have hdd := cl_ty ci hci j hj
  rcases hfin with hfin | ⟨hi1, hi2⟩
  · rw [if_neg (by rw [hfin]; decide)] at hlay
    have h6 := u_store hfc hkC hkind hlay hi hdd hn hfit
    refine W.putK hx hb (f := f) ⟨hown, hts _ hw, ⟨_, _, _, hi⟩, hst⟩ (by rw [q2]; exact h6) q1 q3 (by rw [hsl]; exact k2_hasslot (q4 j hj)) rfl rfl hd fun H' e1 e2 e3 => ?_
    rw [hsl] at e1 ⊢
    exact kk H' _ e2 (hP.set hD he ⟨_, hc, t_OB.to (V := updV (vp_V fs) j v) ⟨_, e1, q2, q3, t_set q4 hap hj v⟩ (fun z _ => vp_updV_set hl v z)⟩ e3) (hD.set he) (hS.put e2 e3 (hD.2 k _ he))
  · cases hf : ((m_cl ci).2.1 j).2.2.2
    · rw [if_neg (by rw [hf]; decide)] at hlay
      have h6 := u_store hfc hkC hkind hlay hi hdd hn hfit
      refine W.putK hx hb (f := f) ⟨hown, hts _ hw, ⟨_, _, _, hi⟩, hst⟩ (by rw [q2]; exact h6) q1 q3 (by rw [hsl]; exact k2_hasslot (q4 j hj)) rfl rfl hd fun H' e1 e2 e3 => ?_
      rw [hsl] at e1 ⊢
      exact kk H' _ e2 (hP.set hD he ⟨_, hc, t_OB.to (V := updV (vp_V fs) j v) ⟨_, e1, q2, q3, t_set q4 hap hj v⟩ (fun z _ => vp_updV_set hl v z)⟩ e3) (hD.set he) (hS.put e2 e3 (hD.2 k _ he))
    · rw [if_pos hf] at hlay
      have hcf : m.cls = cf := by
        obtain ⟨_, _, c', _, _, _, -, -, hf', -, -, -, hown2, -⟩ := Cond.laysFinal_spec hlay
        have e1 : c' = cf := by have := hi.symm.trans hf'; simp at this; exact this.1.symm
        rw [hi2] at hown2
        rw [← e1]; exact Option.some.inj (hown.symm.trans hown2)
      have h6 := u_fits hfc hkC hkind (Or.inr hlay) hi hdd hn hfit
      refine W.putFinK hx hb hown (hts _ hw) hi hst hcf (hin2 hi1) (by rw [q2]; exact h6) q1 q3 (by rw [hsl]; exact k2_hasslot (q4 j hj)) rfl rfl hd fun H' e1 e2 e3 => ?_
      rw [hsl] at e1 ⊢
      exact kk H' _ e2 (hP.set hD he ⟨_, hc, t_OB.to (V := updV (vp_V fs) j v) ⟨_, e1, q2, q3, t_set q4 hap hj v⟩ (fun z _ => vp_updV_set hl v z)⟩ e3) (hD.set he) (hS.put e2 e3 (hD.2 k _ he))
/-- a field of the memory is written: R', I', L' are as before but at the cell k + 2, field j -/
theorem s_putf (hCl : ClOK) (hC : Ctx G mid p R s m args meth c) {idx k ci j : Nat} {v : mV} {RR' : Nat → Nat → Nat} {I' L' : Nat → Nat → Int} (hd : decode (mB mid) pc = .ok (.putfield idx, 3)) (hci : ci < 11) (hj : j < (m_cl ci).2.2) (hw : Cond.fieldLink (mY mid).cls idx ((m_cl ci).2.1 j).1 ((m_cl ci).2.1 j).2.1 ((m_cl ci).2.1 j).2.2.1 ∈ gT)
    (hfin : ((m_cl ci).2.1 j).2.2.2 = false ∨ ((mY mid).name = "<init>" ∧ ((m_cl ci).2.1 j).1 = (mY mid).cls)) (hn : narrow (m_ty ci j) (tr G v) = tr G v) (hfit : fits (m_ty ci j) (tr G v) = true)
    (hF : Frm G mid s kc ks lv (v :: .inr (.inr (k + 2)) :: st) (nn, sh, RR, I, L) H locs ls) (hsh : (sh (k + 2)).1 = ci + 4)
    (hR1 : ∀ i, i ≠ k + 2 → RR' i = RR i) (hI1 : ∀ i, i ≠ k + 2 → I' i = I i) (hL1 : ∀ i, i ≠ k + 2 → L' i = L i)
    (hR2 : ∀ i, i ≠ j → RR' (k + 2) i = RR (k + 2) i) (hI2 : ∀ i, i ≠ j → I' (k + 2) i = I (k + 2) i) (hL2 : ∀ i, i ≠ j → L' (k + 2) i = L (k + 2) i)
    (hv : fv G (RR' (k + 2)) (I' (k + 2)) (L' (k + 2)) j (m_tc (m_ty ci j)) = tr G v) (hwf : wfM G (nn, sh, RR', I', L'))
    (go : GoP p l e R s m args below meth c Q G mid n q r (pc + 3)) (h : m_exec n mid (r, kc, ks, lv, st, (nn, sh, RR', I', L')) = some q) : W p l e R s m args below meth c H locs kc ks Q (F0 m pc ls ((v :: .inr (.inr (k + 2)) :: st).map (tr G))) := by
  obtain ⟨f1, f2, f3, f4, f5, f6, f7, f8, f9⟩ := hF
  have hlt : k + 2 < nn := (wf_in (M := (nn, sh, RR, I, L)) f4 (by show (sh (k + 2)).1 < 15; omega)).1
  have he : (wsM G (nn, sh, RR, I, L))[k]? = some (g_a G k, .inr (ci, flds G (RR (k + 2)) (I (k + 2)) (L (k + 2)) ci)) := by
    rw [wsM_get hlt, ent_obj (c := ci) hsh]
  refine p_put hCl hC hd hci hj hw hfin hn hfit f5 f6 f7 he (by rw [flds_len]; exact hj) (fun H1 locs1 hz hP hD hS => ?_)
  obtain ⟨hP', hD'⟩ := s_setP (M := (nn, sh, RR, I, L)) (M' := (nn, sh, RR', I', L')) (x := .inr (ci, (flds G (RR (k + 2)) (I (k + 2)) (L (k + 2)) ci).set j (tr G v))) hlt rfl (fun i hi => by unfold ent; dsimp only; rw [hR1 i hi, hI1 i hi, hL1 i hi]) (by
    rw [ent_obj (c := ci) hsh]
    dsimp only
    rw [flds_set (R := RR (k + 2)) (I := I (k + 2)) (L := L (k + 2)) hj hR2 hI2 hL2, hv]) hP hD
  exact go _ _ _ _ _ _ _ _ h ⟨f1, f2, wf_tail (wf_tail f3), hwf, hP', hD', hS, fun z => hz.trans (f8 z), f9⟩
/-- an int of an array of the memory is written: the array's class has the number t0 -/
theorem s_astI (hC : Ctx G mid p R s m args meth c) {k : Nat} {i x : Int} (hin : 0 ≤ i ∧ i < ((sh (k + 2)).2 : Int))
    (hF : Frm G mid s kc ks lv (.inl x :: .inl i :: .inr (.inr (k + 2)) :: st) (nn, sh, RR, I, L) H locs ls)
    (hk : ((sh (k + 2)).1 = 0 ∧ decode (mB mid) pc = .ok (.iastore, 1)) ∨ ((sh (k + 2)).1 = 2 ∧ decode (mB mid) pc = .ok (.bastore, 1) ∧ -128 ≤ x ∧ x ≤ 127) ∨ ((sh (k + 2)).1 = 3 ∧ decode (mB mid) pc = .ok (.bastore, 1) ∧ (x = 0 ∨ x = 1)))
    (go : GoP p l e R s m args below meth c Q G mid n q r (pc + 1)) (h : m_exec n mid (r, kc, ks, lv, st, (nn, sh, RR, mup I (k + 2) i.toNat x, L)) = some q) : W p l e R s m args below meth c H locs kc ks Q (F0 m pc ls ((.inl x :: .inl i :: .inr (.inr (k + 2)) :: st).map (tr G))) := by
  obtain ⟨hx, hb, hml, hown, hts, hR, hin2, hB⟩ := hC
  obtain ⟨f1, f2, f3, f4, f5, f6, f7, f8, f9⟩ := hF
  have hK := hB.1
  have hxw : wr x = x := wf_head f3
  have hiw : wr i = i := wf_head (wf_tail f3)
  have hlt : k + 2 < nn := (wf_in (M := (nn, sh, RR, I, L)) f4 (by show (sh (k + 2)).1 < 15; omega)).1
  have hvi := int_in hiw hin
  have hni := int_nat hiw
  have fin : ∀ (cA : ClassId) (H1 : Heap) (loc : Loc), (wsM G (nn, sh, RR, I, L))[k]? = some (g_a G k, .inl (cA, (sh (k + 2)).2, .inl (fun j => Int32.ofInt (I (k + 2) j)))) → ent G (nn, sh, RR, mup I (k + 2) i.toNat x, L) (k + 2) = .inl (cA, (sh (k + 2)).2, .inl (fun j => Int32.ofInt (mup I (k + 2) i.toNat x (k + 2) j))) →
      H1[g_a G k]? = some ((vp_cell cA ((sh (k + 2)).2, .inl (fun j => Int32.ofInt (I (k + 2) j)))).setSlot (Int32.ofInt i).toNatClampNeg (.int (Int32.ofInt x))) → H1.size = H.size → (∀ q : Nat, q ≠ g_a G k → H1[q]? = H[q]?) →
      W p l e R s m args below meth c H1 (locs ++ [⟨g_a G k, (Int32.ofInt i).toNatClampNeg⟩]) kc ks Q (F0 m (pc + 1) ls (st.map (tr G))) := by
    intro cA H1 loc ha hen e z oq
    have hat : va_at (g_D G) vwCl (g_a G k, .inl (cA, (sh (k + 2)).2, .inl (fun j => Int32.ofInt (mup I (k + 2) i.toNat x (k + 2) j)))) H1 := by
      show H1[g_a G k]? = some (vp_cell _ _)
      rw [e, vp_cell_i, vp_cell_i, arrV_store]
      congr 2
      funext q
      rw [mup_self, hni]
      by_cases hq : q = i.toNat
      · subst hq; simp [updV]
      · simp [updV, hq]
    obtain ⟨hP', hD'⟩ := s_setP (M := (nn, sh, RR, I, L)) (M' := (nn, sh, RR, mup I (k + 2) i.toNat x, L)) hlt rfl (fun j hj => by unfold ent; dsimp only; rw [mup_other hj]) hen (f5.set f6 ha hat oq) (f6.set ha)
    exact go _ _ _ _ _ _ _ _ h ⟨f1, f2, wf_tail (wf_tail (wf_tail f3)), wfM_I f4 (by omega) hxw, hP', hD', f7.put z oq (f6.2 k _ ha), fun y => z.trans (f8 y), f9⟩
  have hbd : ∀ (cA : ClassId), ¬ (Int32.ofInt i < 0 ∨ (vp_cell cA ((sh (k + 2)).2, .inl (fun j => Int32.ofInt (I (k + 2) j)))).slots.size ≤ (Int32.ofInt i).toNatClampNeg) := by
    intro cA
    rw [vp_cell_i, arrV_size]
    exact hvi
  rcases hk with ⟨hs, hd⟩ | ⟨hs, hd, hv⟩ | ⟨hs, hd, hv⟩
  · have ha : (wsM G (nn, sh, RR, I, L))[k]? = some (g_a G k, .inl ((g_c G).1, (sh (k + 2)).2, .inl (fun j => Int32.ofInt (I (k + 2) j)))) := by rw [wsM_get hlt, ent_int hs]
    exact W.iast hx hb (f5 k _ ha) ((hK.2 0 ((g_c G).1, .int) rfl).1 _ (fun j => .int (Int32.ofInt (I (k + 2) j)))) (fun q => by cases q) (hbd _) rfl rfl hd fun H1 e z oq => fin (g_c G).1 H1 ⟨0, 0⟩ ha (ent_int (M := (nn, sh, RR, mup I (k + 2) i.toNat x, L)) hs) e z oq
  · have ha : (wsM G (nn, sh, RR, I, L))[k]? = some (g_a G k, .inl ((g_c G).2.2.1, (sh (k + 2)).2, .inl (fun j => Int32.ofInt (I (k + 2) j)))) := by rw [wsM_get hlt, ent_byte hs]
    have hnr : narrow .byte (.int (Int32.ofInt x)) = .int (Int32.ofInt x) := by
      show Value.int (Int32.ofInt x).toInt8.toInt32 = _
      congr 1
      rw [← Int32.toInt_inj]
      show (Int32.ofInt x).toInt8.toInt32.toInt = wr x
      rw [Int8.toInt_toInt32, Int32.toInt_toInt8]
      show (wr x).bmod _ = wr x
      rw [hxw]
      exact Int.bmod_eq_of_le (by omega) (by omega)
    exact W.bast hx hb (f5 k _ ha) ((hK.2 2 ((g_c G).2.2.1, .byte) rfl).1 _ (fun j => .int (Int32.ofInt (I (k + 2) j)))) (fun q => by cases q) (hbd _) rfl rfl hd fun H1 e z oq => fin (g_c G).2.2.1 H1 ⟨0, 0⟩ ha (ent_byte (M := (nn, sh, RR, mup I (k + 2) i.toNat x, L)) hs) (by rw [← hnr]; exact e) z oq
  · have ha : (wsM G (nn, sh, RR, I, L))[k]? = some (g_a G k, .inl ((g_c G).2.2.2, (sh (k + 2)).2, .inl (fun j => Int32.ofInt (I (k + 2) j)))) := by rw [wsM_get hlt, ent_bool hs]
    have hnr : narrow .boolean (.int (Int32.ofInt x)) = .int (Int32.ofInt x) := by
      rcases hv with rfl | rfl <;> decide +kernel
    exact W.zast hx hb (f5 k _ ha) ((hK.2 3 ((g_c G).2.2.2, .boolean) rfl).1 _ (fun j => .int (Int32.ofInt (I (k + 2) j)))) (fun q => by cases q) (hbd _) rfl rfl hd fun H1 e z oq => fin (g_c G).2.2.2 H1 ⟨0, 0⟩ ha (ent_bool (M := (nn, sh, RR, mup I (k + 2) i.toNat x, L)) hs) (by rw [← hnr]; exact e) z oq
theorem s_astL (hC : Ctx G mid p R s m args meth c) {k : Nat} {i x : Int} (hin : 0 ≤ i ∧ i < ((sh (k + 2)).2 : Int))
    (hF : Frm G mid s kc ks lv (.inr (.inl x) :: .inl i :: .inr (.inr (k + 2)) :: st) (nn, sh, RR, I, L) H locs ls) (hs : (sh (k + 2)).1 = 1) (hd : decode (mB mid) pc = .ok (.lastore, 1))
    (go : GoP p l e R s m args below meth c Q G mid n q r (pc + 1)) (h : m_exec n mid (r, kc, ks, lv, st, (nn, sh, RR, I, mup L (k + 2) i.toNat x)) = some q) : W p l e R s m args below meth c H locs kc ks Q (F0 m pc ls ((.inr (.inl x) :: .inl i :: .inr (.inr (k + 2)) :: st).map (tr G))) := by
  obtain ⟨hx, hb, hml, hown, hts, hR, hin2, hB⟩ := hC
  obtain ⟨f1, f2, f3, f4, f5, f6, f7, f8, f9⟩ := hF
  have hK := hB.1
  have hxw : wl x = x := wf_head f3
  have hiw : wr i = i := wf_head (wf_tail f3)
  have hlt : k + 2 < nn := (wf_in (M := (nn, sh, RR, I, L)) f4 (by show (sh (k + 2)).1 < 15; omega)).1
  have hvi := int_in hiw hin
  have hni := int_nat hiw
  have ha : (wsM G (nn, sh, RR, I, L))[k]? = some (g_a G k, .inl ((g_c G).2.1, (sh (k + 2)).2, .inr (.inl (fun j => Int64.ofInt (L (k + 2) j))))) := by rw [wsM_get hlt, ent_long hs]
  refine W.last hx hb (f5 k _ ha) ((hK.2 1 ((g_c G).2.1, .long) rfl).1 _ (fun j => .long (Int64.ofInt (L (k + 2) j)))) (fun q => by cases q) (by rw [vp_cell_l, arrV_size]; exact hvi) rfl rfl hd fun H1 e z oq => ?_
  have hat : va_at (g_D G) vwCl (g_a G k, .inl ((g_c G).2.1, (sh (k + 2)).2, .inr (.inl (fun j => Int64.ofInt (mup L (k + 2) i.toNat x (k + 2) j))))) H1 := by
    show H1[g_a G k]? = some (vp_cell _ _)
    rw [e, vp_cell_l, vp_cell_l, arrV_store]
    congr 2
    funext q
    rw [mup_self, hni]
    by_cases hq : q = i.toNat
    · subst hq; simp [updV]
    · simp [updV, hq]
  obtain ⟨hP', hD'⟩ := s_setP (M := (nn, sh, RR, I, L)) (M' := (nn, sh, RR, I, mup L (k + 2) i.toNat x)) hlt rfl (fun j hj => by unfold ent; dsimp only; rw [mup_other hj]) (ent_long (M := (nn, sh, RR, I, mup L (k + 2) i.toNat x)) hs) (f5.set f6 ha hat oq) (f6.set ha)
  exact go _ _ _ _ _ _ _ _ h ⟨f1, f2, wf_tail (wf_tail (wf_tail f3)), wfM_L f4 hxw, hP', hD', f7.put z oq (f6.2 k _ ha), fun y => z.trans (f8 y), f9⟩
end RW2
