/-! ===== the law's entry: what is known of the start ===== -/
theorem arr_start {s : State} {args : Array Value} {ty : FieldType} (h : (Cond.arrayClass ty).before args s = true) : ∃ cA : ClassId, ArrOfT s cA ty ∧ s.vm.findClass ("[" ++ ty.toString) = some cA := by
  obtain ⟨cA, kA, comp, h1, h2, h3⟩ := Cond.arrayClass_spec h
  exact ⟨cA, fun n z => ⟨fun k h => (by cases h), kA, h2, comp, h3⟩, h1⟩
theorem ar_int : Cond.arrayClass .int ∈ gT := m_has_in (p := 10124) (by decide +kernel)
theorem ar_long : Cond.arrayClass .long ∈ gT := m_has_in (p := 10181) (by decide +kernel)
theorem ar_byte : Cond.arrayClass .byte ∈ gT := m_has_in (p := 10123) (by decide +kernel)
theorem ar_boolean : Cond.arrayClass .boolean ∈ gT := m_has_in (p := 20235) (by decide +kernel)
theorem kn_start {s : State} {args : Array Value} (hts : ∀ w ∈ gT, w.before args s = true) : ∃ D : va_G, ∀ (c : Nat) (q : vw_C), vwCl[c]? = some q → u_Kn s q.1 q.2.1 q.2.2 (D.1 c) (D.2 c) := by
  obtain ⟨c0, i0, -⟩ := u_known hts (cl_ok 0 (by omega)).1 (hts _ (cl_ok 0 (by omega)).2.1)
  have h : ∀ c, ∃ x : ClassId × (Nat → Nat), c < 11 → u_Kn s (m_cl c).1 (m_cl c).2.1 (m_cl c).2.2 x.1 x.2 := by
    intro c
    by_cases hc : c < 11
    · obtain ⟨cC, iS, h⟩ := u_known hts (cl_ok c hc).1 (hts _ (cl_ok c hc).2.1)
      exact ⟨(cC, iS), fun _ => h⟩
    · exact ⟨(c0, i0), fun z => absurd z hc⟩
  refine ⟨(fun c => (Classical.choose (h c)).1, fun c => (Classical.choose (h c)).2), fun c q hq => ?_⟩
  have hc : c < 11 := (List.getElem?_eq_some_iff.mp hq).1
  have hq2 := Option.some.inj ((cl_get c hc).symm.trans hq)
  subst hq2
  exact Classical.choose_spec (h c) hc
theorem start_base {s : State} {args : Array Value} {b L aK : Nat} {xs : Nat → Int32} {Str : State → Prop} (hstr : Str s) (hts : ∀ w ∈ lw_tbl, w.before args s = true) (hX : va_X b L xs s s.heap) (hb : b < s.heap.size) : ∃ (D : va_G) (cs : ClassId × ClassId × ClassId × ClassId), Base (b, L, s.heap.size, xs, (fun k => if k = 999998 then aK else s.heap.size + k), D, cs, Str) s := by
  have htg : ∀ w ∈ gT, w.before args s = true := fun w hw => hts w (gT_in hw)
  obtain ⟨D, hD⟩ := kn_start htg
  obtain ⟨cI, i1, i2⟩ := arr_start (ty := .int) (htg _ ar_int)
  obtain ⟨cJ, j1, j2⟩ := arr_start (ty := .long) (htg _ ar_long)
  obtain ⟨cB, b1, b2⟩ := arr_start (ty := .byte) (htg _ ar_byte)
  obtain ⟨cZ, z1, z2⟩ := arr_start (ty := .boolean) (htg _ ar_boolean)
  refine ⟨D, (cI, cJ, cB, cZ), ⟨hD, fun k q hk => ?_⟩, hX, hb, Nat.le_refl _, fun w hw => ?_, hstr⟩
  · match k, hk with
    | 0, hk => cases hk; exact ⟨i1, i2⟩
    | 1, hk => cases hk; exact ⟨j1, j2⟩
    | 2, hk => cases hk; exact ⟨b1, b2⟩
    | 3, hk => cases hk; exact ⟨z1, z2⟩
    | k + 4, hk => cases hk
  · have h1 := List.mem_filter.mp hw
    have h2 := hts w h1.1
    have h3 := h1.2
    cases w <;> first | (cases h3; done) | exact va_Nw.of rfl h2
theorem start_ad (z aK : Nat) : ∀ k, k < 142 → (fun k => if k = 999998 then aK else z + k) k = z + k := by
  intro k hk
  show (if k = 999998 then aK else z + k) = z + k
  rw [if_neg (by omega)]
