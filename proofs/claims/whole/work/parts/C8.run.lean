/-! ===== INV at the start; the law's run ===== -/
theorem inv_start {I L : Nat → Nat → Int} (hf : ∀ t ∈ facts0, I t.1 t.2.1 = t.2.2) (hL : L 98 66 = 0) (h7 : ∀ k, k < 20 → I 7 k = words7.getD k 0) (h100 : ∀ k, k < 100 → I 100 k = words100.getD k 0) (hz : ∀ j, j < 700 → I 99 j = 0 ∧ I 6 j = 0) : INV 68 I L := by
  have f : ∀ (a b : Nat) (v : Int), (a, b, v) ∈ facts0 → I a b = v := fun a b v h => hf (a, b, v) h
  have p13 := f 68 13 0 (by decide +kernel)
  have p14 := f 68 14 0 (by decide +kernel)
  have p15 := f 68 15 0 (by decide +kernel)
  have p16 := f 68 16 0 (by decide +kernel)
  have p17 := f 68 17 0 (by decide +kernel)
  have p18 := f 68 18 0 (by decide +kernel)
  have fr : ∀ law, law < 3 → I 84 law = 0 := fun law h => by
    rcases (by omega : law = 0 ∨ law = 1 ∨ law = 2) with rfl | rfl | rfl
    · exact f 84 0 0 (by decide +kernel)
    · exact f 84 1 0 (by decide +kernel)
    · exact f 84 2 0 (by decide +kernel)
  have to : ∀ law, law < 3 → I 85 law = 0 := fun law h => by
    rcases (by omega : law = 0 ∨ law = 1 ∨ law = 2) with rfl | rfl | rfl
    · exact f 85 0 0 (by decide +kernel)
    · exact f 85 1 0 (by decide +kernel)
    · exact f 85 2 0 (by decide +kernel)
  have tl : ∀ law, law < 3 → I 115 law = 0 := fun law h => by
    rcases (by omega : law = 0 ∨ law = 1 ∨ law = 2) with rfl | rfl | rfl
    · exact f 115 0 0 (by decide +kernel)
    · exact f 115 1 0 (by decide +kernel)
    · exact f 115 2 0 (by decide +kernel)
  have d8 : dat I 28 0 8 = 0 := f 28 8 0 (by decide +kernel)
  have d9 : dat I 28 0 9 = 0 := f 28 9 0 (by decide +kernel)
  have d10 : dat I 28 0 10 = 0 := f 28 10 0 (by decide +kernel)
  have d11 : dat I 28 0 11 = 0 := f 28 11 0 (by decide +kernel)
  have d12 : dat I 28 0 12 = -1 := f 28 12 (-1) (by decide +kernel)
  have d13 : dat I 28 0 13 = 0 := f 28 13 0 (by decide +kernel)
  have d14 : dat I 28 0 14 = 0 := f 28 14 0 (by decide +kernel)
  have d15 : dat I 28 0 15 = 0 := f 28 15 0 (by decide +kernel)
  have j11 : jat I 0 11 0 = 0 := f 136 0 0 (by decide +kernel)
  have j5 : jat I 0 5 0 = 0 := f 130 0 0 (by decide +kernel)
  have j6 : jat I 0 6 0 = -1 := f 131 0 (-1) (by decide +kernel)
  have j12 : jat I 0 12 0 = 0 := f 137 0 0 (by decide +kernel)
  have i10 := f 28 10 0 (by decide +kernel)
  have i14 := f 28 14 0 (by decide +kernel)
  have t1 := f 2 10 0 (by decide +kernel)
  have t2 := f 98 1 0 (by decide +kernel)
  have s1 := f 87 6 0 (by decide +kernel)
  have s2 := f 98 75 0 (by decide +kernel)
  have s3 := f 87 7 (-1) (by decide +kernel)
  have s4 := f 98 76 (-1) (by decide +kernel)
  have g1 := f 94 3 0 (by decide +kernel)
  have g2 := f 98 79 0 (by decide +kernel)
  have m1 := f 2 13 0 (by decide +kernel)
  have m2 := f 98 81 0 (by decide +kernel)
  unfold INV
  rw [p13, p15]
  refine ⟨Or.inl rfl, ?_, ?_, ?_, ?_, ⟨?_, ?_⟩, ⟨h7, h100⟩, ?_, ?_, ?_⟩
  · unfold planOK
    rw [p13, p14, p15, p16, p17, p18]
    refine ⟨by omega, by omega, by omega, by omega, by omega, by omega, fun r h => by omega, fun m h => by omega, fun q h => by omega, fun law hl i h => ?_, fun law hl => ?_⟩
    · have : I (68 + 13 + 4) law = 0 := to law hl
      omega
    · have h1 : I (68 + 13 + 4) law = 0 := to law hl
      have h2 : I (68 + 13 + 3) law = 0 := fr law hl
      omega
  · unfold PR
    rw [p13, p14, p15, p16, p17, p18]
    refine ⟨⟨f 98 12 0 (by decide +kernel), f 98 13 0 (by decide +kernel), f 98 14 0 (by decide +kernel), f 98 15 0 (by decide +kernel), f 102 0 0 (by decide +kernel), f 102 1 0 (by decide +kernel)⟩, fun q h => by omega, fun q h => by omega, fun q h => by omega, fun q h => by omega, fun law hl => Or.inl ⟨tl law hl, ?_⟩, ?_⟩
    · have h1 : I (68 + 17) law = 0 := to law hl
      have h2 : I (68 + 16) law = 0 := fr law hl
      omega
    · rw [f 98 16 0 (by decide +kernel)]; exact (f 81 6 0 (by decide +kernel)).symm
  · refine ⟨?_, ?_, ?_, by omega⟩
    · unfold DOK
      rw [d8, d9, d10, d11, d12, d13, d14]
      refine ⟨⟨rfl, rfl⟩, by omega, by omega, Or.inl rfl, ⟨by omega, by omega, fun h => absurd rfl h⟩, by omega, fun q h => by omega, fun q h => by omega, fun j k _ h => by omega, fun k h => by omega, fun m h => by omega⟩
    · unfold DR
      rw [d10, d11, d12, d13, d15, j11, j5, j6, j12]
      refine ⟨rfl, rfl, by decide, fun h => absurd rfl h, rfl, fun q h => by omega, fun q h => by omega, fun q h => by omega⟩
    · rw [hL, i14]
  · unfold TPE
    refine ⟨by omega, by omega, fun j hj => ?_⟩
    rw [(hz j hj).1, (hz j hj).2]
    decide
  · rw [f 2 11 0 (by decide +kernel), f 98 4 0 (by decide +kernel)]
  · rw [f 2 12 (-1) (by decide +kernel), f 98 5 (-1) (by decide +kernel)]
  · unfold SEE
    rw [s1, s2, s3, s4]
    exact ⟨by omega, rfl, rfl, by omega, fun k h => by omega⟩
  · unfold LOG
    rw [g1, g2]
    exact ⟨by omega, rfl, trivial⟩
  · unfold IMG
    rw [m1, m2]
    exact ⟨Or.inl rfl, rfl, fun h => absurd rfl h⟩
theorem callA_of {m n : Nat} {as : List mV} {M M2 : mM} {v : List mV} {Q : List mV → mM → Prop} (hm : Nat.beq m mLman = false) (h : m_exec n m (mcd m, 0, 0, m_ent 0 as, [], M) = some (v, M2)) (hq : Q v M2) : m_CallA m as M Q := ⟨n, (v, M2), by rw [hm]; exact h, hq⟩
theorem law_run {Ls : Nat} (hL : Ls ≤ 3072) {xs : Nat → Int} (hw : ∀ j, wr (xs j) = xs j) : m_Call 259 [.inr (.inr 1)] (ME Ls xs) (fun v _ => v = [.inl 1]) := by
  obtain ⟨M2, sh2, R2, I2, L2, M4, R4, I4, L4, e1, rfl, e2, hn, hm, hx, h0, hf, h7, h100, hz⟩ := made (Ls := Ls) (xs := xs)
  refine LS_0 ⟨by decide, by decide, callA_of (n := 6000) (v := []) (M2 := (98, sh2, R2, I2, L2)) (by decide) e1 ?_⟩
  refine LS_7 ⟨by decide, by decide, callA_of (n := 7000) (v := []) (M2 := M4) (by decide) e2 ?_⟩
  obtain ⟨n4, sh4, R5, I5, L5⟩ := M4
  have hn : n4 = 143 := hn
  subst hn
  refine LS_15 ⟨by decide, ?_⟩
  rw [hm]
  have hI := inv_start hf h0 h7 h100 hz
  exact law_loop hL (Ls + 1) 0 142 4964 68 I4 L4 (by omega) (by omega) (by omega) (by omega) hI (fun j => by rw [hx]; exact hw j)
