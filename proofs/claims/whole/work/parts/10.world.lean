/-! ===== the heap that a memory of the mini machine tells ===== -/
/-- what stands fast: the script's cell, its length, the first new cell, the script, where references lie, the tables' numbers, the array classes, what is known of texts -/
abbrev mGl : Type := Nat × Nat × Nat × (Nat → Int32) × (Nat → Nat) × va_G × (ClassId × ClassId × ClassId × ClassId) × (State → Prop)
abbrev g_b (G : mGl) : Nat := G.1
abbrev g_L (G : mGl) : Nat := G.2.1
abbrev g_z (G : mGl) : Nat := G.2.2.1
abbrev g_x (G : mGl) : Nat → Int32 := G.2.2.2.1
abbrev g_a (G : mGl) : Nat → Nat := G.2.2.2.2.1
abbrev g_D (G : mGl) : va_G := G.2.2.2.2.2.1
abbrev g_c (G : mGl) : ClassId × ClassId × ClassId × ClassId := G.2.2.2.2.2.2.1
abbrev g_S (G : mGl) : State → Prop := G.2.2.2.2.2.2.2
def trr (G : mGl) (k : Nat) : Value := match k with
  | 0 => .null
  | 1 => .ref (g_b G)
  | k + 2 => .ref (g_a G k)
def tr (G : mGl) (v : mV) : Value := match v with
  | .inl x => .int (Int32.ofInt x)
  | .inr (.inl x) => .long (Int64.ofInt x)
  | .inr (.inr k) => trr G k
def trq (G : mGl) (q : Nat × mV) : Nat × Value := (q.1, tr G q.2)
def fv (G : mGl) (R : Nat → Nat) (I L : Nat → Int) (j t : Nat) : Value := match t with
  | 1 => .long (Int64.ofInt (L j))
  | 2 => trr G (R j)
  | _ => .int (Int32.ofInt (I j))
def flds (G : mGl) (R : Nat → Nat) (I L : Nat → Int) (c : Nat) : List Value := (List.range (m_cl c).2.2).map (fun j => fv G R I L j (m_tc (m_ty c j)))
def ent0 (G : mGl) (x : Nat × Nat) (R : Nat → Nat) (I L : Nat → Int) : va_E := match x with
  | (0, n) => .inl ((g_c G).1, n, .inl (fun j => Int32.ofInt (I j)))
  | (1, n) => .inl ((g_c G).2.1, n, .inr (.inl (fun j => Int64.ofInt (L j))))
  | (2, n) => .inl ((g_c G).2.2.1, n, .inl (fun j => Int32.ofInt (I j)))
  | (3, n) => .inl ((g_c G).2.2.2, n, .inl (fun j => Int32.ofInt (I j)))
  | (c + 4, _) => .inr (c, flds G R I L c)
def ent (G : mGl) (M : mM) (k : Nat) : va_E := ent0 G (M.2.1 k) (M.2.2.1 k) (M.2.2.2.1 k) (M.2.2.2.2 k)
def wsM (G : mGl) (M : mM) : va_W := (List.range (M.1 - 2)).map (fun k => (g_a G k, ent G M (k + 2)))
def wfV (v : mV) : Prop := match v with
  | .inl x => wr x = x
  | .inr (.inl x) => wl x = x
  | .inr (.inr _) => True
def wfM (G : mGl) (M : mM) : Prop := 2 ≤ M.1 ∧ M.1 ≤ 144 ∧ (∀ k, M.1 ≤ k → (M.2.1 k).1 = 99) ∧ (M.2.1 0).1 = 99 ∧ M.2.1 1 = (98, g_L G) ∧ (∀ j, M.2.2.2.1 1 j = (g_x G j).toInt) ∧ (∀ k j, wr (M.2.2.2.1 k j) = M.2.2.2.1 k j) ∧ (∀ k j, wl (M.2.2.2.2 k j) = M.2.2.2.2 k j) ∧ ∀ k, 2 ≤ k → k < M.1 → (M.2.1 k).1 < 15
theorem wr_ofInt (z : Int) : Int32.ofInt (wr z) = Int32.ofInt z := Int32.ofInt_toInt _
theorem wl_ofInt (z : Int) : Int64.ofInt (wl z) = Int64.ofInt z := Int64.ofInt_toInt _
theorem wr_wr (z : Int) : wr (wr z) = wr z := by unfold wr; rw [Int32.ofInt_toInt]
theorem wl_wl (z : Int) : wl (wl z) = wl z := by unfold wl; rw [Int64.ofInt_toInt]
theorem wr_toInt (x : Int32) : wr x.toInt = x.toInt := by unfold wr; rw [Int32.ofInt_toInt]
theorem wl_toInt (x : Int64) : wl x.toInt = x.toInt := by unfold wl; rw [Int64.ofInt_toInt]
theorem wr_bounds {z : Int} (h : wr z = z) : -2147483648 ≤ z ∧ z ≤ 2147483647 := by
  rw [← h]
  exact ⟨Int32.le_toInt _, by have := Int32.toInt_lt (Int32.ofInt z); unfold wr; omega⟩
theorem wr_of {z : Int} (h1 : -2147483648 ≤ z) (h2 : z ≤ 2147483647) : wr z = z := by
  unfold wr
  rw [Int32.toInt_ofInt, show Int32.size = 4294967296 from rfl]
  exact Int.bmod_eq_of_le (by omega) (by omega)
theorem wl_of {z : Int} (h1 : -9223372036854775808 ≤ z) (h2 : z ≤ 9223372036854775807) : wl z = z := by
  unfold wl
  rw [Int64.toInt_ofInt, show Int64.size = 18446744073709551616 from rfl]
  exact Int.bmod_eq_of_le (by omega) (by omega)
theorem wl_of_wr {z : Int} (h : wr z = z) : wl z = z := by
  have := wr_bounds h
  exact wl_of (by omega) (by omega)
theorem wsM_get {G : mGl} {M : mM} {k : Nat} (h : k + 2 < M.1) : (wsM G M)[k]? = some (g_a G k, ent G M (k + 2)) := by
  unfold wsM
  rw [List.getElem?_map, List.getElem?_range (by omega)]
  rfl
theorem wsM_len {G : mGl} {M : mM} : (wsM G M).length = M.1 - 2 := by unfold wsM; simp
theorem wsM_set {G : mGl} {M M' : mM} {k : Nat} (hk : k + 2 < M.1) (hn : M'.1 = M.1) (ho : ∀ i, i ≠ k + 2 → ent G M' i = ent G M i) : wsM G M' = (wsM G M).set k (g_a G k, ent G M' (k + 2)) := by
  apply List.ext_getElem?
  intro i
  by_cases hi : i + 2 < M.1
  · rw [wsM_get (by omega)]
    by_cases hik : i = k
    · subst hik
      rw [List.getElem?_set_self (by rw [wsM_len]; omega)]
    · rw [List.getElem?_set_ne (Ne.symm hik), wsM_get hi, ho (i + 2) (by omega)]
  · rw [List.getElem?_eq_none (by rw [wsM_len]; omega), List.getElem?_eq_none (by rw [List.length_set, wsM_len]; omega)]
theorem wsM_push {G : mGl} {M M' : mM} (h2 : 2 ≤ M.1) (hn : M'.1 = M.1 + 1) (ho : ∀ i, i < M.1 → ent G M' i = ent G M i) : wsM G M' = wsM G M ++ [(g_a G (M.1 - 2), ent G M' M.1)] := by
  unfold wsM
  rw [hn, show M.1 + 1 - 2 = (M.1 - 2) + 1 by omega, List.range_succ, List.map_append]
  congr 1
  · apply List.map_congr_left
    intro k hk
    have := List.mem_range.mp hk
    rw [ho (k + 2) (by omega)]
  · simp only [List.map_cons, List.map_nil]
    rw [show M.1 - 2 + 2 = M.1 by omega]
theorem flds_get {G : mGl} {R : Nat → Nat} {I L : Nat → Int} {c j : Nat} (h : j < (m_cl c).2.2) : (flds G R I L c)[j]? = some (fv G R I L j (m_tc (m_ty c j))) := by
  unfold flds
  rw [List.getElem?_map, List.getElem?_range h]
  rfl
theorem flds_len {G : mGl} {R : Nat → Nat} {I L : Nat → Int} {c : Nat} : (flds G R I L c).length = (m_cl c).2.2 := by unfold flds; simp
/-- a field is written: R', I', L' are as before but at j -/
theorem flds_set {G : mGl} {R R' : Nat → Nat} {I I' L L' : Nat → Int} {c j : Nat} (hj : j < (m_cl c).2.2) (hR : ∀ i, i ≠ j → R' i = R i) (hI : ∀ i, i ≠ j → I' i = I i) (hL : ∀ i, i ≠ j → L' i = L i) : flds G R' I' L' c = (flds G R I L c).set j (fv G R' I' L' j (m_tc (m_ty c j))) := by
  apply List.ext_getElem?
  intro i
  by_cases hi : i < (m_cl c).2.2
  · rw [flds_get hi]
    by_cases hij : i = j
    · subst hij
      rw [List.getElem?_set_self (by rw [flds_len]; omega)]
    · rw [List.getElem?_set_ne (Ne.symm hij), flds_get hi]
      unfold fv
      rw [hR i hij, hI i hij, hL i hij]
  · rw [List.getElem?_eq_none (by rw [flds_len]; omega), List.getElem?_eq_none (by rw [List.length_set, flds_len]; omega)]
def nstB (w : Cond) : Bool := match w with
  | .methodLinkNest _ _ _ _ => true
  | _ => false
def nstW : List Cond := lw_tbl.filter nstB
def tysG (G : mGl) : List (ClassId × FieldType) := [((g_c G).1, .int), ((g_c G).2.1, .long), ((g_c G).2.2.1, .byte), ((g_c G).2.2.2, .boolean)]
abbrev g_A (G : mGl) : Nat → Prop := fun q => g_z G ≤ q
/-- what holds of every state in which a method of the system begins -/
def Base (G : mGl) (s : State) : Prop := va_K (g_D G) vwCl (tysG G) s ∧ va_X (g_b G) (g_L G) (g_x G) s s.heap ∧ g_b G < g_z G ∧ g_z G ≤ s.heap.size ∧ (∀ w ∈ nstW, va_Nw w s) ∧ g_S G s
/-- the world: the state's heap holds the memory M -/
def Wd (G : mGl) (M : mM) (U : State) : Prop := Base G U ∧ wfM G M ∧ va_P (g_D G) vwCl (wsM G M) U.heap ∧ va_D (g_A G) (wsM G M) ∧ (M.1 < 144 → U.heap.size = g_z G + (M.1 - 2))
/-- what is asked of the texts: they stay where they are -/
def StrOK (G : mGl) : Prop := ∀ s U : State, g_S G s → s.WarmedH U.vm → (∀ q : Nat, q < s.heap.size → ¬ g_A G q → U.heap[q]? = s.heap[q]?) → g_S G U
theorem Base.moved {G : mGl} (hG : StrOK G) {s U : State} (h : Base G s) (hW : s.WarmedH U.vm) (hz : s.heap.size ≤ U.heap.size) (hk : ∀ q : Nat, q < s.heap.size → ¬ g_A G q → U.heap[q]? = s.heap[q]?) : Base G U := by
  obtain ⟨h1, h2, h3, h4, h5, h6⟩ := h
  refine ⟨va_K.moved hW.alike h1, ?_, h3, Nat.le_trans h4 hz, fun w hw => ?_, hG s U h6 hW hk⟩
  · have h7 : va_X (g_b G) (g_L G) (g_x G) s U.heap := va_X.kept h2 (hk (g_b G) (Nat.lt_of_lt_of_le h3 h4) (Nat.not_le.mpr h3))
    exact va_X.moved hW.alike h7
  · have h8 := h5 w hw
    have h9 := (List.mem_filter.mp hw).2
    cases w <;> first | (cases h9; done) | exact va_Nw.warmM hW h8
