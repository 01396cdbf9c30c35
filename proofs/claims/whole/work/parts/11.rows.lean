/-! ===== a step of the mini machine is a step of the machine ===== -/
def Ctx (G : mGl) (mid : Nat) (p : Program) (R : Room) (s : State) (m : MethodId) (args : Array Value) (meth : Method) (c : Code) : Prop :=
  p.tables.exec = Jvm.exec ∧ c.code = mB mid ∧ c.maxLocals = mL mid ∧ s.vm.findClass (mY mid).cls = some m.cls ∧ (∀ w ∈ gT, w.before args s = true) ∧ (R.cells = mC mid ∧ R.slots = mS mid ∧ mFr mid ≤ R.frames ∧ mLo mid ≤ R.locals) ∧ ((mY mid).name = "<init>" → meth.name = "<init>") ∧ Base G s
def Frm (G : mGl) (mid : Nat) (s : State) (kc ks : Nat) (lv : List (Nat × mV)) (st : List mV) (M : mM) (H : Heap) (locs : List Loc) (ls : Array Slot) : Prop :=
  lv_has ls (mL mid) (lv.map (trq G)) ∧ (∀ q ∈ lv, wfV q.2) ∧ (∀ v ∈ st, wfV v) ∧ wfM G M ∧ va_P (g_D G) vwCl (wsM G M) H ∧ va_D (g_A G) (wsM G M) ∧ va_S (g_A G) s.heap H locs ∧ (M.1 < 144 → H.size = g_z G + (M.1 - 2)) ∧ kc ≤ mC mid ∧ ks ≤ mS mid
section RW1
variable {p : Program} {l : Launch} {e : Env} {R : Room} {s : State} {m : MethodId} {args : Array Value} {below : List Frame} {meth : Method} {c : Code} {Q : State → Prop} {G : mGl} {mid n : Nat} {q : List mV × mM} {r : List mE} {pc kc ks : Nat} {lv : List (Nat × mV)} {st st' : List mV} {M : mM} {H : Heap} {locs : List Loc} {ls : Array Slot}
/-- the run goes on from r, at pc -/
def GoP (p : Program) (l : Launch) (e : Env) (R : Room) (s : State) (m : MethodId) (args : Array Value) (below : List Frame) (meth : Method) (c : Code) (Q : State → Prop) (G : mGl) (mid n : Nat) (q : List mV × mM) (r : List mE) (pc : Nat) : Prop :=
  ∀ (kc ks : Nat) (lv : List (Nat × mV)) (st : List mV) (M : mM) (H : Heap) (locs : List Loc) (ls : Array Slot), m_exec n mid (r, kc, ks, lv, st, M) = some q → Frm G mid s kc ks lv st M H locs ls → W p l e R s m args below meth c H locs kc ks Q (F0 m pc ls (st.map (tr G)))
theorem s_st (go : GoP p l e R s m args below meth c Q G mid n q r pc) (hF : Frm G mid s kc ks lv st M H locs ls) (hw : ∀ v ∈ st', wfV v) (h : m_exec n mid (r, kc, ks, lv, st', M) = some q) : W p l e R s m args below meth c H locs kc ks Q (F0 m pc ls (st'.map (tr G))) :=
  go _ _ _ _ _ _ _ _ h ⟨hF.1, hF.2.1, hw, hF.2.2.2⟩
theorem wf_cons {v : mV} (h1 : wfV v) (h2 : ∀ w ∈ st, wfV w) : ∀ w ∈ v :: st, wfV w := List.forall_mem_cons.mpr ⟨h1, h2⟩
theorem wf_tail {v : mV} (h : ∀ w ∈ v :: st, wfV w) : ∀ w ∈ st, wfV w := (List.forall_mem_cons.mp h).2
theorem wf_head {v : mV} (h : ∀ w ∈ v :: st, wfV w) : wfV v := (List.forall_mem_cons.mp h).1
theorem lk_mem : ∀ {lv : List (Nat × mV)} {i : Nat} {v : mV}, m_lk lv i = some v → (i, v) ∈ lv := by
  intro lv
  induction lv with
  | nil => intro i v h; cases h
  | cons a t ih =>
    intro i v h
    obtain ⟨j, w⟩ := a
    unfold m_lk at h
    cases hb : Nat.beq j i
    · rw [hb] at h
      exact List.mem_cons_of_mem _ (ih h)
    · rw [hb] at h
      have := Nat.eq_of_beq_eq_true hb
      subst this
      cases h
      exact List.mem_cons_self
theorem lk_at (hl : lv_has ls (mL mid) (lv.map (trq G))) {i : Nat} {v : mV} (h : m_lk lv i = some v) : ls[i]? = some (.val (tr G v)) := hl.2.2 (i, tr G v) (List.mem_map.mpr ⟨(i, v), lk_mem h, rfl⟩)
theorem lk_wf (hw : ∀ q ∈ lv, wfV q.2) {i : Nat} {v : mV} (h : m_lk lv i = some v) : wfV v := hw (i, v) (lk_mem h)
theorem lk_place : ∀ {lv : List (Nat × mV)} {i : Nat} {v : mV}, m_lk lv i = some v → ∃ k : Nat, (lv.map (trq G))[k]? = some (i, tr G v) := by
  intro lv i v h
  have h1 : (i, tr G v) ∈ lv.map (trq G) := List.mem_map.mpr ⟨(i, v), lk_mem h, rfl⟩
  exact List.getElem?_of_mem h1
theorem tr_cat (v : mV) (h : m_isL v = false) : (tr G v).category = 1 := by
  rcases v with x | x | x
  · rfl
  · cases h
  · match x with
    | 0 => rfl
    | 1 => rfl
    | k + 2 => rfl
theorem tr_catL (v : mV) (h : m_isL v = true) : (tr G v).category = 2 := by
  rcases v with x | x | x
  · cases h
  · rfl
  · cases h
theorem tr_cat_iff (v : mV) : ((tr G v).category == 2) = m_isL v := by
  cases h : m_isL v
  · rw [tr_cat v h]; rfl
  · rw [tr_catL v h]; rfl
theorem ins_mem {lv : List (Nat × mV)} {i : Nat} {v : mV} {q : Nat × mV} : q ∈ m_ins lv i v → q = (i, v) ∨ q ∈ lv := by
  induction lv with
  | nil => intro h; exact Or.inl (List.mem_singleton.mp h)
  | cons a t ih =>
    intro h
    obtain ⟨j, w⟩ := a
    unfold m_ins at h
    cases hb : Nat.blt i j
    · rw [hb] at h
      rcases List.mem_cons.mp h with h | h
      · exact Or.inr (List.mem_cons.mpr (Or.inl h))
      · rcases ih h with h | h
        · exact Or.inl h
        · exact Or.inr (List.mem_cons_of_mem _ h)
    · rw [hb] at h
      rcases List.mem_cons.mp h with h | h
      · exact Or.inl h
      · exact Or.inr h
theorem clear_mem {lv : List (Nat × mV)} {i : Nat} {v : mV} {q : Nat × mV} : q ∈ m_clear i v lv → q ∈ lv ∧ ¬ q.1 = i ∧ ¬ (q.1 + 1 = i ∧ m_isL q.2 = true) ∧ ¬ (m_isL v = true ∧ q.1 = i + 1) := by
  induction lv with
  | nil => intro h; cases h
  | cons a t ih =>
    intro h
    obtain ⟨j, w⟩ := a
    unfold m_clear at h
    cases hb : (Nat.beq j i || (Nat.beq (j + 1) i && m_isL w) || (m_isL v && Nat.beq j (i + 1)))
    · rw [hb] at h
      rcases List.mem_cons.mp h with h | h
      · subst h
        simp only [Bool.or_eq_false_iff, Bool.and_eq_false_iff] at hb
        refine ⟨List.mem_cons_self, fun z => ?_, fun z => ?_, fun z => ?_⟩
        · have h1 := hb.1.1
          dsimp only at z
          rw [z, Nat.beq_refl] at h1
          cases h1
        · rcases hb.1.2 with h1 | h1
          · have h2 := z.1
            dsimp only at h2
            rw [h2, Nat.beq_refl] at h1
            cases h1
          · rw [z.2] at h1; cases h1
        · rcases hb.2 with h1 | h1
          · rw [z.1] at h1; cases h1
          · have h2 := z.2
            dsimp only at h2
            rw [h2, Nat.beq_refl] at h1
            cases h1
      · exact ⟨List.mem_cons_of_mem _ (ih h).1, (ih h).2⟩
    · rw [hb] at h
      exact ⟨List.mem_cons_of_mem _ (ih h).1, (ih h).2⟩
theorem sto_wf {i : Nat} {v : mV} (hw : ∀ q ∈ lv, wfV q.2) (hv : wfV v) : ∀ q ∈ m_sto lv i v, wfV q.2 := by
  intro q hq
  rcases ins_mem hq with h | h
  · rw [h]; exact hv
  · exact hw q (clear_mem h).1
/-- fewer listed values -/
theorem has_sub {l1 l2 : List (Nat × Value)} {nL : Nat} (h : lv_has ls nL l1) (hs : ∀ q ∈ l2, q ∈ l1) : lv_has ls nL l2 := ⟨h.1, h.2.1, fun q hq => h.2.2 q (hs q hq)⟩
theorem sto_sub1 {i : Nat} {v : mV} (hv : m_isL v = false) : ∀ q ∈ (m_sto lv i v).map (trq G), q ∈ (i, tr G v) :: (lv.map (trq G)).filter (fun q => !(q.1 == i) && !(q.1 + 1 == i && q.2.category == 2)) := by
  intro q hq
  obtain ⟨a, ha, rfl⟩ := List.mem_map.mp hq
  rcases ins_mem ha with h | h
  · subst h; exact List.mem_cons_self
  · obtain ⟨h1, h2, h3, -⟩ := clear_mem h
    refine List.mem_cons_of_mem _ (List.mem_filter.mpr ⟨List.mem_map.mpr ⟨a, h1, rfl⟩, ?_⟩)
    show (!(a.1 == i) && !(a.1 + 1 == i && ((tr G a.2).category == 2))) = true
    rw [tr_cat_iff]
    simp only [Bool.and_eq_true, Bool.not_eq_true', beq_eq_false_iff_ne, ne_eq, Bool.and_eq_false_iff]
    refine ⟨h2, ?_⟩
    by_cases hz : a.1 + 1 = i
    · right
      cases hb : m_isL a.2
      · rfl
      · exact absurd ⟨hz, hb⟩ h3
    · exact Or.inl hz
theorem sto_sub2 {i : Nat} {v : mV} (hv : m_isL v = true) : ∀ q ∈ (m_sto lv i v).map (trq G), q ∈ (i, tr G v) :: (lv.map (trq G)).filter (fun q => !(q.1 == i) && (!(q.1 == i + 1) && !(q.1 + 1 == i && q.2.category == 2))) := by
  intro q hq
  obtain ⟨a, ha, rfl⟩ := List.mem_map.mp hq
  rcases ins_mem ha with h | h
  · subst h; exact List.mem_cons_self
  · obtain ⟨h1, h2, h3, h4⟩ := clear_mem h
    refine List.mem_cons_of_mem _ (List.mem_filter.mpr ⟨List.mem_map.mpr ⟨a, h1, rfl⟩, ?_⟩)
    show (!(a.1 == i) && (!(a.1 == i + 1) && !(a.1 + 1 == i && ((tr G a.2).category == 2)))) = true
    rw [tr_cat_iff]
    simp only [Bool.and_eq_true, Bool.not_eq_true', beq_eq_false_iff_ne, ne_eq, Bool.and_eq_false_iff]
    refine ⟨h2, fun z => h4 ⟨hv, z⟩, ?_⟩
    by_cases hz : a.1 + 1 = i
    · right
      cases hb : m_isL a.2
      · rfl
      · exact absurd ⟨hz, hb⟩ h3
    · exact Or.inl hz
/-- locals and stack change -/
theorem s_lv {lv' : List (Nat × mV)} {ls' : Array Slot} {kc' ks' : Nat} (go : GoP p l e R s m args below meth c Q G mid n q r pc) (hF : Frm G mid s kc ks lv st M H locs ls) (hl : lv_has ls' (mL mid) (lv'.map (trq G))) (hw' : ∀ q ∈ lv', wfV q.2) (hw : ∀ v ∈ st', wfV v) (h : m_exec n mid (r, kc, ks, lv', st', M) = some q) : W p l e R s m args below meth c H locs kc ks Q (F0 m pc ls' (st'.map (tr G))) :=
  go _ _ _ _ _ _ _ _ h ⟨hl, hw', hw, hF.2.2.2⟩
theorem keep_mem {k : Nat} : ∀ {lv : List (Nat × mV)} {q : Nat × mV}, q ∈ m_keep k lv → q ∈ lv := by
  intro lv
  induction lv with
  | nil => intro q h; cases h
  | cons a t ih =>
    intro q h
    obtain ⟨j, w⟩ := a
    unfold m_keep at h
    cases hb : Nat.beq (Nat.mod (Nat.div k (Nat.pow 2 j)) 2) 1
    · rw [hb] at h; exact List.mem_cons_of_mem _ (ih h)
    · rw [hb] at h
      rcases List.mem_cons.mp h with h | h
      · exact List.mem_cons.mpr (Or.inl h)
      · exact List.mem_cons_of_mem _ (ih h)
theorem i_lt {x y : Int} (hx : wr x = x) (hy : wr y = y) : Int32.ofInt x < Int32.ofInt y ↔ x < y := by
  rw [Int32.lt_iff_toInt_lt]
  show wr x < wr y ↔ _
  rw [hx, hy]
theorem i_le {x y : Int} (hx : wr x = x) (hy : wr y = y) : Int32.ofInt x ≤ Int32.ofInt y ↔ x ≤ y := by
  rw [Int32.le_iff_toInt_le]
  show wr x ≤ wr y ↔ _
  rw [hx, hy]
theorem i_eq {x y : Int} (hx : wr x = x) (hy : wr y = y) : Int32.ofInt x = Int32.ofInt y ↔ x = y := by
  rw [← Int32.toInt_inj]
  show wr x = wr y ↔ _
  rw [hx, hy]
theorem l_lt {x y : Int} (hx : wl x = x) (hy : wl y = y) : Int64.ofInt x < Int64.ofInt y ↔ x < y := by
  rw [Int64.lt_iff_toInt_lt]
  show wl x < wl y ↔ _
  rw [hx, hy]
theorem l_le {x y : Int} (hx : wl x = x) (hy : wl y = y) : Int64.ofInt x ≤ Int64.ofInt y ↔ x ≤ y := by
  rw [Int64.le_iff_toInt_le]
  show wl x ≤ wl y ↔ _
  rw [hx, hy]
theorem l_eq {x y : Int} (hx : wl x = x) (hy : wl y = y) : Int64.ofInt x = Int64.ofInt y ↔ x = y := by
  rw [← Int64.toInt_inj]
  show wl x = wl y ↔ _
  rw [hx, hy]
theorem wr0 : wr 0 = 0 := by decide +kernel
theorem i_div {x y : Int} (hx : wr x = x) (hy : wr y = y) : Int32.ofInt (wr (x.tdiv y)) = Int32.ofInt x / Int32.ofInt y := by
  rw [wr_ofInt, ← Int32.toInt_inj, Int32.toInt_div, Int32.toInt_ofInt]
  show _ = ((wr x).tdiv (wr y)).bmod _
  rw [hx, hy]
theorem i_rem {x y : Int} (hx : wr x = x) (hy : wr y = y) : (Int32.ofInt x - Int32.ofInt x / Int32.ofInt y * Int32.ofInt y).toInt = x.tmod y := by
  rw [rem_toInt]
  show (wr x).tmod (wr y) = _
  rw [hx, hy]
theorem l_div {x y : Int} (hx : wl x = x) (hy : wl y = y) : Int64.ofInt (wl (x.tdiv y)) = Int64.ofInt x / Int64.ofInt y := by
  rw [wl_ofInt, ← Int64.toInt_inj, Int64.toInt_div, Int64.toInt_ofInt]
  show _ = ((wl x).tdiv (wl y)).bmod _
  rw [hx, hy]
theorem int_in {x : Int} {k : Nat} (hx : wr x = x) (h : 0 ≤ x ∧ x < (k : Int)) : vp_in (Int32.ofInt x) k := by
  intro z
  rcases z with z | z
  · have := (i_lt hx wr0).mp z
    omega
  · have h2 : (Int32.ofInt x).toNatClampNeg = x.toNat := congrArg Int.toNat hx
    rw [h2] at z
    omega
theorem int_nat {x : Int} (hx : wr x = x) : (Int32.ofInt x).toNatClampNeg = x.toNat := congrArg Int.toNat hx
end RW1
