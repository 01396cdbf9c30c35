/-! ===== the law from its entry ===== -/
section CR
variable {Ls : Nat} {xs : Nat → Int} {Q : List mV → mM → Prop} {sh : Nat → Nat × Nat} {RR : Nat → Nat → Nat} {I L : Nat → Nat → Int}
set_option maxHeartbeats 4000000 in
set_option maxRecDepth 20000 in
theorem LS_0 (h : ((((0 + 1 : Nat) : Int) ≤ ((1168 : Nat) : Int)) ∧ (((0 + 14 : Nat) : Int) ≤ ((13168 : Nat) : Int))) ∧ ((((0 + 1 + 95 : Nat) : Int) ≤ ((1168 : Nat) : Int)) ∧ (((0 + 14 + 1966 : Nat) : Int) ≤ ((13168 : Nat) : Int))) ∧ m_CallA 9 [.inr (.inr 2)] (newM (ME Ls xs) (13, 0)) (fun v M' => m_Wp i_L_law 7 96 1980 [(0, .inr (.inr 1))] (v ++ [.inr (.inr 2)]) M' Q)) : m_Call i_L_law [.inr (.inr 1)] (ME Ls xs) Q := m_call_at 3 [] (lv := [(0, .inr (.inr 1))]) rfl h
set_option maxHeartbeats 4000000 in
set_option maxRecDepth 20000 in
theorem LS_7 (h : ((((96 + 1 : Nat) : Int) ≤ ((1168 : Nat) : Int)) ∧ (((1980 + 85 : Nat) : Int) ≤ ((13168 : Nat) : Int))) ∧ ((((96 + 1 + 44 : Nat) : Int) ≤ ((1168 : Nat) : Int)) ∧ (((1980 + 85 + 2898 : Nat) : Int) ≤ ((13168 : Nat) : Int))) ∧ m_CallA 16 [.inr (.inr 98)] (newM (98, sh, RR, I, L) (14, 0)) (fun v M' => m_Wp i_L_law 15 141 4963 [(0, .inr (.inr 1)), (1, .inr (.inr 2))] (v ++ [.inr (.inr 98)]) M' Q)) : m_Wp i_L_law 7 96 1980 [(0, .inr (.inr 1))] [.inr (.inr 2)] (98, sh, RR, I, L) Q := m_wp_of 4 [] h
set_option maxHeartbeats 4000000 in
set_option maxRecDepth 20000 in
theorem LS_15 (h : ((0 ≤ (1 : Int) ∧ (1 : Int) ≤ 10000) ∧ (((141 + 1 : Nat) : Int) ≤ ((1168 : Nat) : Int) ∧ (1 : Int) ≤ ((13168 : Nat) : Int) - ((4963 : Nat) : Int))) ∧ m_Wp i_L_law 23 142 4964 [(0, .inr (.inr 1)), (1, .inr (.inr 2)), (2, .inr (.inr 98)), (3, .inr (.inr 143)), (4, .inl 0)] [] (newM (143, sh, RR, I, L) (1, 1)) Q) : m_Wp i_L_law 15 141 4963 [(0, .inr (.inr 1)), (1, .inr (.inr 2))] [.inr (.inr 98)] (143, sh, RR, I, L) Q := m_wp_of 7 [23] h
end CR
theorem sh0_ne {Ls k : Nat} (h : k ≠ 1) : sh0 Ls k = sh0 0 k := by
  unfold sh0
  cases Nat.blt k 2
  · rfl
  · have hb : Nat.beq k 1 = false := by
      cases hz : Nat.beq k 1
      · rfl
      · exact absurd (Nat.eq_of_beq_eq_true hz) h
    rw [hb]
    rfl
theorem blt_no {k c : Nat} (h : c ≤ k) : Nat.blt k c = false := by
  cases hz : Nat.blt k c
  · rfl
  · have : k < c := Nat.le_of_ble_eq_true hz
    omega
theorem beq_nn {k c : Nat} (h : k ≠ c) : Nat.beq k c = false := by
  cases hz : Nat.beq k c
  · rfl
  · exact absurd (Nat.eq_of_beq_eq_true hz) h
theorem sh0_out {Ls k : Nat} (h : 144 ≤ k) : sh0 Ls k = (99, 0) := by
  unfold sh0
  rw [blt_no (show 2 ≤ k by omega), blt_no (show 144 ≤ k by omega)]
  rfl
def objK : List Nat := [2, 3, 4, 5, 9, 22, 28, 37, 46, 55, 64, 68, 81, 87, 94, 98]
theorem R0_arr {k j : Nat} (h : ∀ c ∈ objK, k ≠ c) : R0 68 k j = 0 := by
  have b2 := beq_nn (h 2 (by decide))
  have b3 := beq_nn (h 3 (by decide))
  have b4 := beq_nn (h 4 (by decide))
  have b5 := beq_nn (h 5 (by decide))
  have b9 := beq_nn (h 9 (by decide))
  have b22 := beq_nn (h 22 (by decide))
  have b28 := beq_nn (h 28 (by decide))
  have b37 := beq_nn (h 37 (by decide))
  have b46 := beq_nn (h 46 (by decide))
  have b55 := beq_nn (h 55 (by decide))
  have b64 := beq_nn (h 64 (by decide))
  have b68 := beq_nn (h 68 (by decide))
  have b81 := beq_nn (h 81 (by decide))
  have b87 := beq_nn (h 87 (by decide))
  have b94 := beq_nn (h 94 (by decide))
  have b98 := beq_nn (h 98 (by decide))
  unfold R0
  simp only [b2, b3, b4, b5, b9, b22, b28, b37, b46, b55, b64, b68, b81, b87, b94, b98, cond_false, Bool.cond_self]
theorem R0_nf {k j : Nat} (h : nfk (sh0 0 k).1 ≤ j) : R0 68 k j = 0 := by
  by_cases hk : k ∈ objK
  · unfold objK at hk
    simp only [List.mem_cons, List.not_mem_nil, or_false] at hk
    rcases hk with rfl | rfl | rfl | rfl | rfl | rfl | rfl | rfl | rfl | rfl | rfl | rfl | rfl | rfl | rfl | rfl
    · show R_2 68 j = 0
      have h : 14 ≤ j := h
      unfold R_2; rw [blt_no h]; rfl
    · show R_3 68 j = 0
      have h : 9 ≤ j := h
      unfold R_3; rw [blt_no h]; rfl
    · show R_4 68 j = 0
      have h : 5 ≤ j := h
      unfold R_4; rw [blt_no h]; rfl
    · show R_5 68 j = 0
      have h : 8 ≤ j := h
      unfold R_5; rw [blt_no h]; rfl
    · show R_9 68 j = 0
      have h : 19 ≤ j := h
      unfold R_9; rw [blt_no h]; rfl
    · show R_22 68 j = 0
      have h : 7 ≤ j := h
      unfold R_22; rw [blt_no h]; rfl
    · show R_28 68 j = 0
      have h : 16 ≤ j := h
      unfold R_28; rw [blt_no h]; rfl
    · show R_37 68 j = 0
      have h : 16 ≤ j := h
      unfold R_37; rw [blt_no h]; rfl
    · show R_46 68 j = 0
      have h : 16 ≤ j := h
      unfold R_46; rw [blt_no h]; rfl
    · show R_55 68 j = 0
      have h : 16 ≤ j := h
      unfold R_55; rw [blt_no h]; rfl
    · show R_64 68 j = 0
      have h : 9 ≤ j := h
      unfold R_64; rw [blt_no h]; rfl
    · show R_68 68 j = 0
      have h : 19 ≤ j := h
      unfold R_68; rw [blt_no h]; rfl
    · show R_81 68 j = 0
      have h : 7 ≤ j := h
      unfold R_81; rw [blt_no h]; rfl
    · show R_87 68 j = 0
      have h : 8 ≤ j := h
      unfold R_87; rw [blt_no h]; rfl
    · show R_94 68 j = 0
      have h : 4 ≤ j := h
      unfold R_94; rw [blt_no h]; rfl
    · show R_98 68 j = 0
      have h : 85 ≤ j := h
      unfold R_98; rw [blt_no h]; rfl
  · exact R0_arr (fun c hc e => hk (e ▸ hc))
theorem R0_hi {k j : Nat} (h : 143 ≤ k) : R0 68 k j = 0 := R0_arr (fun c hc => by
  have : ∀ c ∈ objK, c < 143 := by decide
  have := this c hc
  omega)
/-- the two runs, whatever they are -/
def qOf (o1 : mO) (f : mM → mO) : mO := o1.bind (fun q => bif q.1.isEmpty && Nat.beq q.2.1 98 then f q.2 else none)
theorem qOf_cut {o1 : mO} {f : mM → mO} {r : List mV × mM} (h : qOf o1 f = some r) : ∃ M2 : mM, o1 = some ([], M2) ∧ M2.1 = 98 ∧ f M2 = some r := by
  unfold qOf at h
  obtain ⟨⟨q1, M2⟩, g1, g2⟩ := Option.bind_eq_some_iff.mp h
  replace g2 : (bif q1.isEmpty && Nat.beq M2.1 98 then f M2 else none) = some r := g2
  cases hb : (q1.isEmpty && Nat.beq M2.1 98)
  · rw [hb] at g2; cases g2
  · rw [hb] at g2
    rw [Bool.and_eq_true] at hb
    have hq1 : q1 = [] := List.isEmpty_iff.mp hb.1
    subst hq1
    exact ⟨M2, g1, Nat.eq_of_beq_eq_true hb.2, g2⟩
theorem made_of {o1 : mO} {f : mM → mO} (c0 : chk0 (qOf o1 f) = true) (c1 : chk1 (qOf o1 f) = true) (c2 : chk2 6 0 350 (qOf o1 f) = true) (c3 : chk2 6 350 350 (qOf o1 f) = true) (c4 : chk2 99 0 350 (qOf o1 f) = true) (c5 : chk2 99 350 350 (qOf o1 f) = true) :
    ∃ (M2 : mM) (sh : Nat → Nat × Nat) (R : Nat → Nat → Nat) (I L : Nat → Nat → Int), o1 = some ([], M2) ∧ M2.1 = 98 ∧ f M2 = some ([], (143, sh, R, I, L)) ∧ (∀ k, k < 143 → Nat.beq k 1 = true ∨ (Nat.beq (sh k).1 (sh0 0 k).1 = true ∧ Nat.beq (sh k).2 (sh0 0 k).2 = true)) ∧ (∀ k, k < 143 → ∀ j, j < nfk (sh0 0 k).1 → Nat.beq (R k j) (R0 68 k j) = true) ∧ L 98 66 = 0 ∧ (∀ t ∈ facts0, I t.1 t.2.1 = t.2.2) ∧ (∀ k, k < 20 → I 7 k = words7.getD k 0) ∧ (∀ k, k < 100 → I 100 k = words100.getD k 0) ∧ (∀ j, j < 700 → I 99 j = 0 ∧ I 6 j = 0) := by
  cases hq : qOf o1 f with
  | none => rw [hq] at c0; cases c0
  | some qq =>
    rw [hq] at c0 c1 c2 c3 c4 c5
    obtain ⟨l, n, sh, R, I, L⟩ := qq
    unfold chk0 at c0
    unfold chk1 at c1
    unfold chk2 at c2 c3 c4 c5
    simp only [Bool.and_eq_true, List.all_eq_true, List.mem_range, decide_eq_true_eq, Bool.or_eq_true] at c0 c1 c2 c3 c4 c5
    have z6 : ∀ j, j < 700 → I 6 j = 0 := fun j hj => by
      rcases Nat.lt_or_ge j 350 with h | h
      · have := c2 j h
        rw [Nat.zero_add] at this
        exact this
      · have := c3 (j - 350) (by omega)
        rw [show 350 + (j - 350) = j by omega] at this
        exact this
    have z99 : ∀ j, j < 700 → I 99 j = 0 := fun j hj => by
      rcases Nat.lt_or_ge j 350 with h | h
      · have := c4 j h
        rw [Nat.zero_add] at this
        exact this
      · have := c5 (j - 350) (by omega)
        rw [show 350 + (j - 350) = j by omega] at this
        exact this
    obtain ⟨⟨⟨⟨⟨⟨k1, k2⟩, k3⟩, k4⟩, k5⟩, k6⟩, k7⟩ := c0
    have hl : l = [] := List.isEmpty_iff.mp k1
    have hn : n = 143 := Nat.eq_of_beq_eq_true k2
    subst hl
    subst hn
    obtain ⟨M2, h1, h2, h3⟩ := qOf_cut hq
    exact ⟨M2, sh, R, I, L, h1, h2, h3, k3, c1, k4, k5, k6, k7, fun j hj => ⟨z99 j hj, z6 j hj⟩⟩
theorem qAll_eq : qAll = qOf (m_exec 6000 9 (mcd 9, 0, 0, m_ent 0 [.inr (.inr 2)], [], newM ME0 (13, 0))) (fun M => m_exec 7000 16 (mcd 16, 0, 0, m_ent 0 [.inr (.inr 98)], [], newM M (14, 0))) := by
  unfold qAll qOf
  exact rfl
theorem made_q : ∃ (M2 : mM) (sh : Nat → Nat × Nat) (R : Nat → Nat → Nat) (I L : Nat → Nat → Int), m_exec 6000 9 (mcd 9, 0, 0, m_ent 0 [.inr (.inr 2)], [], newM ME0 (13, 0)) = some ([], M2) ∧ M2.1 = 98 ∧ m_exec 7000 16 (mcd 16, 0, 0, m_ent 0 [.inr (.inr 98)], [], newM M2 (14, 0)) = some ([], (143, sh, R, I, L)) ∧ (∀ k, k < 143 → Nat.beq k 1 = true ∨ (Nat.beq (sh k).1 (sh0 0 k).1 = true ∧ Nat.beq (sh k).2 (sh0 0 k).2 = true)) ∧ (∀ k, k < 143 → ∀ j, j < nfk (sh0 0 k).1 → Nat.beq (R k j) (R0 68 k j) = true) ∧ L 98 66 = 0 ∧ (∀ t ∈ facts0, I t.1 t.2.1 = t.2.2) ∧ (∀ k, k < 20 → I 7 k = words7.getD k 0) ∧ (∀ k, k < 100 → I 100 k = words100.getD k 0) ∧ (∀ j, j < 700 → I 99 j = 0 ∧ I 6 j = 0) := by
  have c0 := all_ok0
  have c1 := all_ok1
  have c2 := all_ok2
  have c3 := all_ok3
  have c4 := all_ok4
  have c5 := all_ok5
  rw [qAll_eq] at c0 c1 c2 c3 c4 c5
  exact made_of c0 c1 c2 c3 c4 c5
/-- .. and the same beside the script -/
theorem made_s {Ls : Nat} {xs : Nat → Int} : ∃ (sh2' : Nat → Nat × Nat) (R2 : Nat → Nat → Nat) (I2' L2 : Nat → Nat → Int) (sh sh4' : Nat → Nat × Nat) (R : Nat → Nat → Nat) (I I4' L : Nat → Nat → Int), m_exec 6000 9 (mcd 9, 0, 0, m_ent 0 [.inr (.inr 2)], [], newM (ME Ls xs) (13, 0)) = some ([], (98, sh2', R2, I2', L2)) ∧ m_exec 7000 16 (mcd 16, 0, 0, m_ent 0 [.inr (.inr 98)], [], newM (98, sh2', R2, I2', L2) (14, 0)) = some ([], (143, sh4', R, I4', L)) ∧ RLs Ls xs (143, sh, R, I, L) (143, sh4', R, I4', L) ∧ (∀ k, k ≠ 1 → sh4' k = sh k) ∧ sh 1 = (99, 0) ∧ (∀ a, a ≠ 1 → I4' a = I a) ∧ (∀ k, k < 143 → Nat.beq k 1 = true ∨ (Nat.beq (sh k).1 (sh0 0 k).1 = true ∧ Nat.beq (sh k).2 (sh0 0 k).2 = true)) ∧ (∀ k, k < 143 → ∀ j, j < nfk (sh0 0 k).1 → Nat.beq (R k j) (R0 68 k j) = true) ∧ L 98 66 = 0 ∧ (∀ t ∈ facts0, I t.1 t.2.1 = t.2.2) ∧ (∀ k, k < 20 → I 7 k = words7.getD k 0) ∧ (∀ k, k < 100 → I 100 k = words100.getD k 0) ∧ (∀ j, j < 700 → I 99 j = 0 ∧ I 6 j = 0) := by
  obtain ⟨M2, sh, R, I, L, g1, hM2, g2, hF⟩ := made_q
  have r0 : RLs Ls xs ME0 (ME Ls xs) := ⟨rfl, ⟨Nat.le_refl _, (show (2 : Nat) ≤ 144 by decide)⟩, fun k hk => (show shE Ls k = (99, 0) by unfold shE; rw [if_neg hk]), rfl, rfl, rfl, fun k hk => (by funext j; show (if k = 1 then xs j else 0) = 0; rw [if_neg hk]), (by funext j; show (if 1 = 1 then xs j else 0) = xs j; rw [if_pos rfl]), rfl, fun _ _ => rfl, fun _ _ _ => rfl⟩
  have r1 : RLs Ls xs (newM ME0 (13, 0)) (newM (ME Ls xs) (13, 0)) := rl_new r0 (by decide)
  obtain ⟨N2, e1, r2⟩ := exec_rl 6000 9 (mcd 9) 0 0 (m_ent 0 [.inr (.inr 2)]) [] (newM ME0 (13, 0)) (newM (ME Ls xs) (13, 0)) ([], M2) (by decide +kernel) (okp_cd (by decide)) r1 g1
  have r2 : RLs Ls xs M2 N2 := r2
  obtain ⟨n2, sh2, sh2', R2, I2, I2', L2, rfl, rfl, -, -, -⟩ := r2.cut
  have hM2 : n2 = 98 := hM2
  subst hM2
  have r3 : RLs Ls xs (newM (98, sh2, R2, I2, L2) (14, 0)) (newM (98, sh2', R2, I2', L2) (14, 0)) := rl_new r2 (show (98 : Nat) < 144 by decide)
  obtain ⟨N4, e2, r4⟩ := exec_rl 7000 16 (mcd 16) 0 0 (m_ent 0 [.inr (.inr 98)]) [] (newM (98, sh2, R2, I2, L2) (14, 0)) (newM (98, sh2', R2, I2', L2) (14, 0)) ([], (143, sh, R, I, L)) (by decide +kernel) (okp_cd (by decide)) r3 g2
  have r4 : RLs Ls xs (143, sh, R, I, L) N4 := r4
  obtain ⟨n4, sh4, sh4', R4, I4, I4', L4, hx, rfl, hs4, h14, hi4⟩ := r4.cut
  cases hx
  exact ⟨sh2', R2, I2', L2, sh, sh4', R, I, I4', L, e1, e2, r4, hs4, h14, hi4, hF⟩
/-- the memory behind the making -/
theorem made_m {Ls : Nat} {xs : Nat → Int} {sh sh4' : Nat → Nat × Nat} {R : Nat → Nat → Nat} {I I4' L : Nat → Nat → Int} (r4 : RLs Ls xs (143, sh, R, I, L) (143, sh4', R, I4', L)) (hs4 : ∀ k, k ≠ 1 → sh4' k = sh k) (h14 : sh 1 = (99, 0)) (k3 : ∀ k, k < 143 → Nat.beq k 1 = true ∨ (Nat.beq (sh k).1 (sh0 0 k).1 = true ∧ Nat.beq (sh k).2 (sh0 0 k).2 = true)) (c1 : ∀ k, k < 143 → ∀ j, j < nfk (sh0 0 k).1 → Nat.beq (R k j) (R0 68 k j) = true) : newM (143, sh4', R, I4', L) (1, 1) = mem Ls 68 (mrow I4' 143) (mrow L 143) := by
  have es : mshp sh4' 143 (1, 1) = sh0 Ls := by
    funext k
    unfold mshp
    by_cases h3 : k = 143
    · rw [if_pos h3, h3]; rfl
    · rw [if_neg h3]
      by_cases h1 : k = 1
      · rw [h1]; exact r4.2.2.2.1
      · rw [hs4 k h1, sh0_ne h1]
        rcases Nat.lt_or_ge k 143 with hk | hk
        · have z := k3 k hk
          rcases z with z | z
          · exact absurd (Nat.eq_of_beq_eq_true z) h1
          · exact Prod.ext (Nat.eq_of_beq_eq_true z.1) (Nat.eq_of_beq_eq_true z.2)
        · rw [sh0_out (by omega)]
          exact r4.2.2.2.2.2.2.2.2.2.1 k hk
  have eR : mrowR R 143 = R0 68 := by
    funext k j
    unfold mrowR
    by_cases h3 : k = 143
    · rw [if_pos h3, h3]; exact (R0_hi (Nat.le_refl _)).symm
    · rw [if_neg h3]
      have hout := r4.2.2.2.2.2.2.2.2.2.2 k j
      rcases Nat.lt_or_ge k 143 with hk | hk
      · rcases Nat.lt_or_ge j (nfk (sh0 0 k).1) with hj | hj
        · exact Nat.eq_of_beq_eq_true (c1 k hk j hj)
        · rw [R0_nf hj]
          refine hout ?_
          show nfk (sh k).1 ≤ j
          rcases k3 k hk with z | z
          · rw [Nat.eq_of_beq_eq_true z, h14]
            exact Nat.zero_le _
          · rw [Nat.eq_of_beq_eq_true z.1]; exact hj
      · rw [R0_hi hk]
        refine hout ?_
        show nfk (sh k).1 ≤ j
        rw [show sh k = (99, 0) from r4.2.2.2.2.2.2.2.2.2.1 k hk]
        exact Nat.zero_le _
  show (144, mshp sh4' 143 (1, 1), mrowR R 143, mrow I4' 143, mrow L 143) = (144, sh0 Ls, R0 68, mrow I4' 143, mrow L 143)
  rw [es, eR]
/-- what the making leaves: the memory behind it, all as it must be -/
theorem made {Ls : Nat} {xs : Nat → Int} : ∃ (M2 : mM) (sh2 : Nat → Nat × Nat) (R2 : Nat → Nat → Nat) (I2 L2 : Nat → Nat → Int) (M4 : mM) (R4 : Nat → Nat → Nat) (I4 L4 : Nat → Nat → Int), m_exec 6000 9 (mcd 9, 0, 0, m_ent 0 [.inr (.inr 2)], [], newM (ME Ls xs) (13, 0)) = some ([], M2) ∧ M2 = (98, sh2, R2, I2, L2) ∧ m_exec 7000 16 (mcd 16, 0, 0, m_ent 0 [.inr (.inr 98)], [], newM (98, sh2, R2, I2, L2) (14, 0)) = some ([], M4) ∧ M4.1 = 143 ∧
    newM M4 (1, 1) = mem Ls 68 I4 L4 ∧ I4 1 = xs ∧ L4 98 66 = 0 ∧ (∀ t ∈ facts0, I4 t.1 t.2.1 = t.2.2) ∧ (∀ k, k < 20 → I4 7 k = words7.getD k 0) ∧ (∀ k, k < 100 → I4 100 k = words100.getD k 0) ∧ (∀ j, j < 700 → I4 99 j = 0 ∧ I4 6 j = 0) := by
  obtain ⟨sh2', R2, I2', L2, sh, sh4', R, I, I4', L, e1, e2, r4, hs4, h14, hi4, k3, c1, k4, k5, k6, k7, z⟩ := made_s (Ls := Ls) (xs := xs)
  have hI : ∀ a, a ≠ 1 → a ≠ 143 → mrow I4' 143 a = I a := fun a h1 h2 => by unfold mrow; rw [if_neg h2]; exact hi4 a h1
  refine ⟨(98, sh2', R2, I2', L2), sh2', R2, I2', L2, (143, sh4', R, I4', L), R, mrow I4' 143, mrow L 143, e1, rfl, e2, rfl, made_m r4 hs4 h14 k3 c1, ?_, ?_, fun t ht => ?_, fun k hk => ?_, fun k hk => ?_, fun j hj => ?_⟩
  · show mrow I4' 143 1 = xs
    unfold mrow; rw [if_neg (by omega)]; exact r4.2.2.2.2.2.2.2.1
  · show mrow L 143 98 66 = 0
    unfold mrow; rw [if_neg (by omega)]; exact k4
  · have hne : ∀ t ∈ facts0, t.1 ≠ 1 ∧ t.1 ≠ 143 := by decide +kernel
    rw [hI _ (hne t ht).1 (hne t ht).2]; exact k5 t ht
  · rw [hI 7 (by omega) (by omega)]; exact k6 k hk
  · rw [hI 100 (by omega) (by omega)]; exact k7 k hk
  · rw [hI 99 (by omega) (by omega), hI 6 (by omega) (by omega)]; exact z j hj
