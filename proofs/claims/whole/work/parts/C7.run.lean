/-! ===== the law from its entry ===== -/
section CR
variable {Ls : Nat} {xs : Nat → Int} {Q : List mV → mM → Prop} {sh : Nat → Nat × Nat} {RR : Nat → Nat → Nat} {I L : Nat → Nat → Int}
set_option maxHeartbeats 4000000 in
set_option maxRecDepth 20000 in
theorem LS_0 (h : ((((0 + 1 : Nat) : Int) ≤ ((1168 : Nat) : Int)) ∧ (((0 + 14 : Nat) : Int) ≤ ((13168 : Nat) : Int))) ∧ ((((0 + 1 + 95 : Nat) : Int) ≤ ((1168 : Nat) : Int)) ∧ (((0 + 14 + 1966 : Nat) : Int) ≤ ((13168 : Nat) : Int))) ∧ m_CallA 9 [.inr (.inr 2)] (newM (ME Ls xs) (13, 0)) (fun v M' => m_Wp i_L_law 7 96 1980 [(0, .inr (.inr 1))] (v ++ [.inr (.inr 2)]) M' Q)) : m_Call i_L_law [.inr (.inr 1)] (ME Ls xs) Q := m_call_at 3 [] (lv := [(0, .inr (.inr 1))]) rfl h
set_option maxHeartbeats 4000000 in
set_option maxRecDepth 20000 in
theorem LS_7 (h : ((((96 + 1 : Nat) : Int) ≤ ((1168 : Nat) : Int)) ∧ (((1980 + 85 : Nat) : Int) ≤ ((13168 : Nat) : Int))) ∧ ((((96 + 1 + 44 : Nat) : Int) ≤ ((1168 : Nat) : Int)) ∧ (((1980 + 85 + 2898 : Nat) : Int) ≤ ((13168 : Nat) : Int))) ∧ m_CallA 16 [.inr (.inr 98)] (newM (98, sh, RR, I, L) (14, 0)) (fun v M' => m_Wp i_L_law 15 141 4963 [(0, .inr (.inr 1)), (1, .inr (.inr 2))] (v ++ [.inr (.inr 98)]) M' Q)) : m_Wp i_L_law 7 96 1980 [(0, .inr (.inr 1))] [.inr (.inr 2)] (98, sh, RR, I, L) Q := m_wp_of 4 [] h
set_option maxHeartbeats 4000000 in
set_option maxRecDepth 20000 in
theorem LS_15 (h : ((0 ≤ (1 : Int) ∧ (1 : Int) ≤ 10000) ∧ (((141 + 1 : Nat) : Int) ≤ ((1168 : Nat) : Int) ∧ (1 : Int) ≤ ((13168 : Nat) : Int) - ((4963 : Nat) : Int))) ∧ m_Wp i_L_law 23 142 4964 [(0, .inr (.inr 1)), (1, .inr (.inr 2)), (2, .inr (.inr 98)), (3, .inr (.inr 143)), (4, .inl 0)] [] (newM (143, sh, RR, I, L) (1, 1)) Q) : m_Wp i_L_law 15 141 4963 [(0, .inr (.inr 1)), (1, .inr (.inr 2))] [.inr (.inr 98)] (143, sh, RR, I, L) Q := m_wp_of 7 [23] h
end CR
theorem sh0_ne {Ls k : Nat} (h : k ≠ 1) : sh0 Ls k = sh0 0 k := by
  unfold sh0
  cases Nat.blt k 2
  · rfl
  · have hb : Nat.beq k 1 = false := by
      cases hz : Nat.beq k 1
      · rfl
      · exact absurd (Nat.eq_of_beq_eq_true hz) h
    rw [hb]
    rfl
theorem blt_no {k c : Nat} (h : c ≤ k) : Nat.blt k c = false := by
  cases hz : Nat.blt k c
  · rfl
  · have : k < c := Nat.le_of_ble_eq_true hz
    omega
theorem beq_nn {k c : Nat} (h : k ≠ c) : Nat.beq k c = false := by
  cases hz : Nat.beq k c
  · rfl
  · exact absurd (Nat.eq_of_beq_eq_true hz) h
theorem sh0_out {Ls k : Nat} (h : 144 ≤ k) : sh0 Ls k = (99, 0) := by
  unfold sh0
  rw [blt_no (show 2 ≤ k by omega), blt_no (show 144 ≤ k by omega)]
  rfl
def objK : List Nat := [2, 3, 4, 5, 9, 22, 28, 37, 46, 55, 64, 68, 81, 87, 94, 98]
theorem R0_arr {k j : Nat} (h : ∀ c ∈ objK, k ≠ c) : R0 68 k j = 0 := by
  have b2 := beq_nn (h 2 (by decide))
  have b3 := beq_nn (h 3 (by decide))
  have b4 := beq_nn (h 4 (by decide))
  have b5 := beq_nn (h 5 (by decide))
  have b9 := beq_nn (h 9 (by decide))
  have b22 := beq_nn (h 22 (by decide))
  have b28 := beq_nn (h 28 (by decide))
  have b37 := beq_nn (h 37 (by decide))
  have b46 := beq_nn (h 46 (by decide))
  have b55 := beq_nn (h 55 (by decide))
  have b64 := beq_nn (h 64 (by decide))
  have b68 := beq_nn (h 68 (by decide))
  have b81 := beq_nn (h 81 (by decide))
  have b87 := beq_nn (h 87 (by decide))
  have b94 := beq_nn (h 94 (by decide))
  have b98 := beq_nn (h 98 (by decide))
  unfold R0
  simp only [b2, b3, b4, b5, b9, b22, b28, b37, b46, b55, b64, b68, b81, b87, b94, b98, cond_false, Bool.cond_self]
theorem R0_nf {k j : Nat} (h : nfk (sh0 0 k).1 ≤ j) : R0 68 k j = 0 := by
  by_cases hk : k ∈ objK
  · unfold objK at hk
    simp only [List.mem_cons, List.not_mem_nil, or_false] at hk
    rcases hk with rfl | rfl | rfl | rfl | rfl | rfl | rfl | rfl | rfl | rfl | rfl | rfl | rfl | rfl | rfl | rfl
    · show R_2 68 j = 0
      have h : 14 ≤ j := h
      unfold R_2; rw [blt_no h]; rfl
    · show R_3 68 j = 0
      have h : 9 ≤ j := h
      unfold R_3; rw [blt_no h]; rfl
    · show R_4 68 j = 0
      have h : 5 ≤ j := h
      unfold R_4; rw [blt_no h]; rfl
    · show R_5 68 j = 0
      have h : 8 ≤ j := h
      unfold R_5; rw [blt_no h]; rfl
    · show R_9 68 j = 0
      have h : 19 ≤ j := h
      unfold R_9; rw [blt_no h]; rfl
    · show R_22 68 j = 0
      have h : 7 ≤ j := h
      unfold R_22; rw [blt_no h]; rfl
    · show R_28 68 j = 0
      have h : 16 ≤ j := h
      unfold R_28; rw [blt_no h]; rfl
    · show R_37 68 j = 0
      have h : 16 ≤ j := h
      unfold R_37; rw [blt_no h]; rfl
    · show R_46 68 j = 0
      have h : 16 ≤ j := h
      unfold R_46; rw [blt_no h]; rfl
    · show R_55 68 j = 0
      have h : 16 ≤ j := h
      unfold R_55; rw [blt_no h]; rfl
    · show R_64 68 j = 0
      have h : 9 ≤ j := h
      unfold R_64; rw [blt_no h]; rfl
    · show R_68 68 j = 0
      have h : 19 ≤ j := h
      unfold R_68; rw [blt_no h]; rfl
    · show R_81 68 j = 0
      have h : 7 ≤ j := h
      unfold R_81; rw [blt_no h]; rfl
    · show R_87 68 j = 0
      have h : 8 ≤ j := h
      unfold R_87; rw [blt_no h]; rfl
    · show R_94 68 j = 0
      have h : 4 ≤ j := h
      unfold R_94; rw [blt_no h]; rfl
    · show R_98 68 j = 0
      have h : 85 ≤ j := h
      unfold R_98; rw [blt_no h]; rfl
  · exact R0_arr (fun c hc e => hk (e ▸ hc))
theorem R0_hi {k j : Nat} (h : 143 ≤ k) : R0 68 k j = 0 := R0_arr (fun c hc => by
  have : ∀ c ∈ objK, c < 143 := by decide
  have := this c hc
  omega)
/-- what the making leaves: the memory behind it, all as it must be -/
theorem made {Ls : Nat} {xs : Nat → Int} : ∃ (M2 : mM) (sh2 : Nat → Nat × Nat) (R2 : Nat → Nat → Nat) (I2 L2 : Nat → Nat → Int) (M4 : mM) (R4 : Nat → Nat → Nat) (I4 L4 : Nat → Nat → Int), m_exec 6000 9 (mcd 9, 0, 0, m_ent 0 [.inr (.inr 2)], [], newM (ME Ls xs) (13, 0)) = some ([], M2) ∧ M2 = (98, sh2, R2, I2, L2) ∧ m_exec 7000 16 (mcd 16, 0, 0, m_ent 0 [.inr (.inr 98)], [], newM (98, sh2, R2, I2, L2) (14, 0)) = some ([], M4) ∧ M4.1 = 143 ∧
    newM M4 (1, 1) = mem Ls 68 I4 L4 ∧ I4 1 = xs ∧ L4 98 66 = 0 ∧ (∀ t ∈ facts0, I4 t.1 t.2.1 = t.2.2) ∧ (∀ k, k < 20 → I4 7 k = words7.getD k 0) ∧ (∀ k, k < 100 → I4 100 k = words100.getD k 0) ∧ (∀ j, j < 700 → I4 99 j = 0 ∧ I4 6 j = 0) := by
  have c0 := all_ok0
  have c1 := all_ok1
  have c2 := all_ok2
  have c3 := all_ok3
  have c4 := all_ok4
  have c5 := all_ok5
  cases hq : qAll with
  | none => rw [hq] at c0; cases c0
  | some qq =>
    rw [hq] at c0 c1 c2 c3 c4 c5
    obtain ⟨l, n, sh, R, I, L⟩ := qq
    unfold chk0 at c0
    unfold chk1 at c1
    unfold chk2 at c2 c3 c4 c5
    simp only [Bool.and_eq_true, List.all_eq_true, List.mem_range, decide_eq_true_eq, Bool.or_eq_true] at c0 c1 c2 c3 c4 c5
    have z6 : ∀ j, j < 700 → I 6 j = 0 := fun j hj => by
      rcases Nat.lt_or_ge j 350 with h | h
      · have := c2 j h
        rw [Nat.zero_add] at this
        exact this
      · have := c3 (j - 350) (by omega)
        rw [show 350 + (j - 350) = j by omega] at this
        exact this
    have z99 : ∀ j, j < 700 → I 99 j = 0 := fun j hj => by
      rcases Nat.lt_or_ge j 350 with h | h
      · have := c4 j h
        rw [Nat.zero_add] at this
        exact this
      · have := c5 (j - 350) (by omega)
        rw [show 350 + (j - 350) = j by omega] at this
        exact this
    obtain ⟨⟨⟨⟨⟨⟨k1, k2⟩, k3⟩, k4⟩, k5⟩, k6⟩, k7⟩ := c0
    have hl : l = [] := List.isEmpty_iff.mp k1
    have hn : n = 143 := Nat.eq_of_beq_eq_true k2
    subst hl
    subst hn
    unfold qAll at hq
    obtain ⟨q, g1, g2⟩ := Option.bind_eq_some_iff.mp hq
    cases hb : (q.1.isEmpty && Nat.beq q.2.1 98)
    · rw [hb] at g2; cases g2
    · rw [hb] at g2
      rw [Bool.and_eq_true] at hb
      obtain ⟨q1, M2⟩ := q
      have hq1 : q1 = [] := List.isEmpty_iff.mp hb.1
      subst hq1
      have hM2 : M2.1 = 98 := Nat.eq_of_beq_eq_true hb.2
      have r0 : RLs Ls xs ME0 (ME Ls xs) := ⟨rfl, ⟨Nat.le_refl _, (show (2 : Nat) ≤ 144 by decide)⟩, fun k hk => (show shE Ls k = (99, 0) by unfold shE; rw [if_neg hk]), rfl, rfl, rfl, fun k hk => (by funext j; show (if k = 1 then xs j else 0) = 0; rw [if_neg hk]), (by funext j; show (if 1 = 1 then xs j else 0) = xs j; rw [if_pos rfl]), rfl, fun _ _ => rfl, fun _ _ _ => rfl⟩
      have r1 : RLs Ls xs (newM ME0 (13, 0)) (newM (ME Ls xs) (13, 0)) := rl_new r0 (by decide)
      obtain ⟨N2, e1, r2⟩ := exec_rl 6000 9 (mcd 9) 0 0 (m_ent 0 [.inr (.inr 2)]) [] _ _ _ (by decide +kernel) (okp_cd (by decide)) r1 g1
      have r2 : RLs Ls xs M2 N2 := r2
      obtain ⟨n2, sh2, sh2', R2, I2, I2', L2, rfl, rfl, -, -, -⟩ := r2.cut
      have hM2 : n2 = 98 := hM2
      subst hM2
      have r3 : RLs Ls xs (newM (98, sh2, R2, I2, L2) (14, 0)) (newM (98, sh2', R2, I2', L2) (14, 0)) := rl_new r2 (show (98 : Nat) < 144 by decide)
      dsimp only [cond_true] at g2
      obtain ⟨N4, e2, r4⟩ := exec_rl 7000 16 (mcd 16) 0 0 (m_ent 0 [.inr (.inr 98)]) [] (newM (98, sh2, R2, I2, L2) (14, 0)) (newM (98, sh2', R2, I2', L2) (14, 0)) ([], (143, sh, R, I, L)) (by decide +kernel) (okp_cd (by decide)) r3 g2
      have r4 : RLs Ls xs (143, sh, R, I, L) N4 := r4
      obtain ⟨n4, sh4, sh4', R4, I4, I4', L4, hx, rfl, hs4, h14, hi4⟩ := r4.cut
      cases hx
      have r5 : RLs Ls xs (newM (143, sh, R, I, L) (1, 1)) (newM (143, sh4', R, I4', L) (1, 1)) := rl_new r4 (show (143 : Nat) < 144 by decide)
      have hI : ∀ a, a ≠ 1 → a ≠ 143 → mrow I4' 143 a = I a := fun a h1 h2 => by unfold mrow; rw [if_neg h2]; exact hi4 a h1
      refine ⟨_, sh2', R2, I2', L2, _, R, mrow I4' 143, mrow L 143, e1, rfl, e2, rfl, ?_, ?_, ?_, fun t ht => ?_, fun k hk => ?_, fun k hk => ?_, fun j hj => ?_⟩
      · have es : mshp sh4' 143 (1, 1) = sh0 Ls := by
          funext k
          unfold mshp
          by_cases h3 : k = 143
          · rw [if_pos h3, h3]; rfl
          · rw [if_neg h3]
            by_cases h1 : k = 1
            · rw [h1]; exact r4.2.2.2.1
            · rw [hs4 k h1, sh0_ne h1]
              rcases Nat.lt_or_ge k 143 with hk | hk
              · have z := k3 k hk
                rcases z with z | z
                · exact absurd (Nat.eq_of_beq_eq_true z) h1
                · exact Prod.ext (Nat.eq_of_beq_eq_true z.1) (Nat.eq_of_beq_eq_true z.2)
              · rw [sh0_out (by omega)]
                exact r4.2.2.2.2.2.2.2.2.2.1 k hk
        have eR : mrowR R 143 = R0 68 := by
          funext k j
          unfold mrowR
          by_cases h3 : k = 143
          · rw [if_pos h3, h3]; exact (R0_hi (Nat.le_refl _)).symm
          · rw [if_neg h3]
            have hout := r4.2.2.2.2.2.2.2.2.2.2 k j
            rcases Nat.lt_or_ge k 143 with hk | hk
            · rcases Nat.lt_or_ge j (nfk (sh0 0 k).1) with hj | hj
              · exact Nat.eq_of_beq_eq_true (c1 k hk j hj)
              · rw [R0_nf hj]
                refine hout ?_
                show nfk (sh k).1 ≤ j
                rcases k3 k hk with z | z
                · rw [Nat.eq_of_beq_eq_true z, show sh 1 = (99, 0) from h14]
                  exact Nat.zero_le _
                · rw [Nat.eq_of_beq_eq_true z.1]; exact hj
            · rw [R0_hi hk]
              refine hout ?_
              show nfk (sh k).1 ≤ j
              rw [show sh k = (99, 0) from r4.2.2.2.2.2.2.2.2.2.1 k hk]
              exact Nat.zero_le _
        show (144, mshp sh4' 143 (1, 1), mrowR R 143, mrow I4' 143, mrow L 143) = (144, sh0 Ls, R0 68, mrow I4' 143, mrow L 143)
        rw [es, eR]
      · show mrow I4' 143 1 = xs
        unfold mrow; rw [if_neg (by omega)]; exact r4.2.2.2.2.2.2.2.1
      · show mrow L 143 98 66 = 0
        unfold mrow; rw [if_neg (by omega)]; exact k4
      · have hne : ∀ t ∈ facts0, t.1 ≠ 1 ∧ t.1 ≠ 143 := by decide +kernel
        rw [hI _ (hne t ht).1 (hne t ht).2]; exact k5 t ht
      · rw [hI 7 (by omega) (by omega)]; exact k6 k hk
      · rw [hI 100 (by omega) (by omega)]; exact k7 k hk
      · rw [hI 99 (by omega) (by omega), hI 6 (by omega) (by omega)]; exact ⟨z99 j hj, z6 j hj⟩
theorem inv_start {I L : Nat → Nat → Int} (hf : ∀ t ∈ facts0, I t.1 t.2.1 = t.2.2) (hL : L 98 66 = 0) (h7 : ∀ k, k < 20 → I 7 k = words7.getD k 0) (h100 : ∀ k, k < 100 → I 100 k = words100.getD k 0) (hz : ∀ j, j < 700 → I 99 j = 0 ∧ I 6 j = 0) : INV 68 I L := by
  have f : ∀ (a b : Nat) (v : Int), (a, b, v) ∈ facts0 → I a b = v := fun a b v h => hf (a, b, v) h
  have p13 := f 68 13 0 (by decide +kernel)
  have p14 := f 68 14 0 (by decide +kernel)
  have p15 := f 68 15 0 (by decide +kernel)
  have p16 := f 68 16 0 (by decide +kernel)
  have p17 := f 68 17 0 (by decide +kernel)
  have p18 := f 68 18 0 (by decide +kernel)
  have fr : ∀ law, law < 3 → I 84 law = 0 := fun law h => by
    rcases (by omega : law = 0 ∨ law = 1 ∨ law = 2) with rfl | rfl | rfl
    · exact f 84 0 0 (by decide +kernel)
    · exact f 84 1 0 (by decide +kernel)
    · exact f 84 2 0 (by decide +kernel)
  have to : ∀ law, law < 3 → I 85 law = 0 := fun law h => by
    rcases (by omega : law = 0 ∨ law = 1 ∨ law = 2) with rfl | rfl | rfl
    · exact f 85 0 0 (by decide +kernel)
    · exact f 85 1 0 (by decide +kernel)
    · exact f 85 2 0 (by decide +kernel)
  have tl : ∀ law, law < 3 → I 115 law = 0 := fun law h => by
    rcases (by omega : law = 0 ∨ law = 1 ∨ law = 2) with rfl | rfl | rfl
    · exact f 115 0 0 (by decide +kernel)
    · exact f 115 1 0 (by decide +kernel)
    · exact f 115 2 0 (by decide +kernel)
  have d8 : dat I 28 0 8 = 0 := f 28 8 0 (by decide +kernel)
  have d9 : dat I 28 0 9 = 0 := f 28 9 0 (by decide +kernel)
  have d10 : dat I 28 0 10 = 0 := f 28 10 0 (by decide +kernel)
  have d11 : dat I 28 0 11 = 0 := f 28 11 0 (by decide +kernel)
  have d12 : dat I 28 0 12 = -1 := f 28 12 (-1) (by decide +kernel)
  have d13 : dat I 28 0 13 = 0 := f 28 13 0 (by decide +kernel)
  have d14 : dat I 28 0 14 = 0 := f 28 14 0 (by decide +kernel)
  have d15 : dat I 28 0 15 = 0 := f 28 15 0 (by decide +kernel)
  have j11 : jat I 0 11 0 = 0 := f 136 0 0 (by decide +kernel)
  have j5 : jat I 0 5 0 = 0 := f 130 0 0 (by decide +kernel)
  have j6 : jat I 0 6 0 = -1 := f 131 0 (-1) (by decide +kernel)
  have j12 : jat I 0 12 0 = 0 := f 137 0 0 (by decide +kernel)
  have i10 := f 28 10 0 (by decide +kernel)
  have i14 := f 28 14 0 (by decide +kernel)
  have t1 := f 2 10 0 (by decide +kernel)
  have t2 := f 98 1 0 (by decide +kernel)
  have s1 := f 87 6 0 (by decide +kernel)
  have s2 := f 98 75 0 (by decide +kernel)
  have s3 := f 87 7 (-1) (by decide +kernel)
  have s4 := f 98 76 (-1) (by decide +kernel)
  have g1 := f 94 3 0 (by decide +kernel)
  have g2 := f 98 79 0 (by decide +kernel)
  have m1 := f 2 13 0 (by decide +kernel)
  have m2 := f 98 81 0 (by decide +kernel)
  unfold INV
  rw [p13, p15]
  refine ⟨Or.inl rfl, ?_, ?_, ?_, ?_, ⟨?_, ?_⟩, ⟨h7, h100⟩, ?_, ?_, ?_⟩
  · unfold planOK
    rw [p13, p14, p15, p16, p17, p18]
    refine ⟨by omega, by omega, by omega, by omega, by omega, by omega, fun r h => by omega, fun m h => by omega, fun q h => by omega, fun law hl i h => ?_, fun law hl => ?_⟩
    · have : I (68 + 13 + 4) law = 0 := to law hl
      omega
    · have h1 : I (68 + 13 + 4) law = 0 := to law hl
      have h2 : I (68 + 13 + 3) law = 0 := fr law hl
      omega
  · unfold PR
    rw [p13, p14, p15, p16, p17, p18]
    refine ⟨⟨f 98 12 0 (by decide +kernel), f 98 13 0 (by decide +kernel), f 98 14 0 (by decide +kernel), f 98 15 0 (by decide +kernel), f 102 0 0 (by decide +kernel), f 102 1 0 (by decide +kernel)⟩, fun q h => by omega, fun q h => by omega, fun q h => by omega, fun q h => by omega, fun law hl => Or.inl ⟨tl law hl, ?_⟩, ?_⟩
    · have h1 : I (68 + 17) law = 0 := to law hl
      have h2 : I (68 + 16) law = 0 := fr law hl
      omega
    · rw [f 98 16 0 (by decide +kernel)]; exact (f 81 6 0 (by decide +kernel)).symm
  · refine ⟨?_, ?_, ?_, by omega⟩
    · unfold DOK
      rw [d8, d9, d10, d11, d12, d13, d14]
      refine ⟨⟨rfl, rfl⟩, by omega, by omega, Or.inl rfl, ⟨by omega, by omega, fun h => absurd rfl h⟩, by omega, fun q h => by omega, fun q h => by omega, fun j k _ h => by omega, fun k h => by omega, fun m h => by omega⟩
    · unfold DR
      rw [d10, d11, d12, d13, d15, j11, j5, j6, j12]
      refine ⟨rfl, rfl, by decide, fun h => absurd rfl h, rfl, fun q h => by omega, fun q h => by omega, fun q h => by omega⟩
    · rw [hL, i14]
  · unfold TPE
    refine ⟨by omega, by omega, fun j hj => ?_⟩
    rw [(hz j hj).1, (hz j hj).2]
    decide
  · rw [f 2 11 0 (by decide +kernel), f 98 4 0 (by decide +kernel)]
  · rw [f 2 12 (-1) (by decide +kernel), f 98 5 (-1) (by decide +kernel)]
  · unfold SEE
    rw [s1, s2, s3, s4]
    exact ⟨by omega, rfl, rfl, by omega, fun k h => by omega⟩
  · unfold LOG
    rw [g1, g2]
    exact ⟨by omega, rfl, trivial⟩
  · unfold IMG
    rw [m1, m2]
    exact ⟨Or.inl rfl, rfl, fun h => absurd rfl h⟩
theorem callA_of {m n : Nat} {as : List mV} {M M2 : mM} {v : List mV} {Q : List mV → mM → Prop} (hm : Nat.beq m mLman = false) (h : m_exec n m (mcd m, 0, 0, m_ent 0 as, [], M) = some (v, M2)) (hq : Q v M2) : m_CallA m as M Q := ⟨n, (v, M2), by rw [hm]; exact h, hq⟩
theorem law_run {Ls : Nat} (hL : Ls ≤ 3072) {xs : Nat → Int} (hw : ∀ j, wr (xs j) = xs j) : m_Call 259 [.inr (.inr 1)] (ME Ls xs) (fun v _ => v = [.inl 1]) := by
  obtain ⟨M2, sh2, R2, I2, L2, M4, R4, I4, L4, e1, rfl, e2, hn, hm, hx, h0, hf, h7, h100, hz⟩ := made (Ls := Ls) (xs := xs)
  refine LS_0 ⟨by decide, by decide, callA_of (n := 6000) (v := []) (M2 := (98, sh2, R2, I2, L2)) (by decide) e1 ?_⟩
  refine LS_7 ⟨by decide, by decide, callA_of (n := 7000) (v := []) (M2 := M4) (by decide) e2 ?_⟩
  obtain ⟨n4, sh4, R5, I5, L5⟩ := M4
  have hn : n4 = 143 := hn
  subst hn
  refine LS_15 ⟨by decide, ?_⟩
  rw [hm]
  have hI := inv_start hf h0 h7 h100 hz
  exact law_loop hL (Ls + 1) 0 142 4964 68 I4 L4 (by omega) (by omega) (by omega) (by omega) hI (fun j => by rw [hx]; exact hw j)
