/-! ===== the law: its calls, one by one (by program: wip/whole/gen_cases.py) ===== -/
theorem lcmp_self (x : Int) : m_lcmp x x = 0 := by
  unfold m_lcmp
  rw [if_neg (by omega), if_pos rfl]
section LC
variable {Ls kc ks p : Nat} {I L : Nat → Nat → Int} {x4 : Int} {Q : List mV → mM → Prop}
theorem LC_0 (hI : INV p I L) (hb : ∀ j : Int, 0 ≤ j → j ≤ 5 → 0 ≤ wr (x4 + j) ∧ wr (x4 + j) < (Ls : Nat)) (hw : ∀ j, wr (I 1 j) = I 1 j) (hkc : kc + 1 ≤ 1168) (hks : ks + 6 ≤ 13168)
    (next : ∀ (kc' ks' p' : Nat) (I' L' : Nat → Nat → Int), kc' ≤ kc + 1 → ks' ≤ ks + 6 → INV p' I' L' → I' 1 = I 1 → m_Wp i_L_law 1497 kc' ks' [(0, .inr (.inr 1)), (1, .inr (.inr 2)), (2, .inr (.inr 98)), (3, .inr (.inr 143)), (4, .inl x4)] [] (mem Ls p' I' L') Q) :
    m_Wp i_L_law 220 kc ks [(0, .inr (.inr 1)), (1, .inr (.inr 2)), (2, .inr (.inr 98)), (3, .inr (.inr 143)), (4, .inl x4)] [] (mem Ls p I L) Q := by
  refine LW_220 (RR := R0 p) ⟨hb 1 (by decide) (by decide), hb 2 (by decide) (by decide), hb 3 (by decide) (by decide), hb 4 (by decide) (by decide), hb 5 (by decide) (by decide), ?_⟩
  refine m_Call.mono (call_shape (by decide +kernel) (call_keep (M := mem Ls p I L) rfl (pair_feed hI))) (fun v M1 h => ?_)
  obtain ⟨⟨x, rfl⟩, hk, h⟩ := h
  obtain ⟨n1, sh1, R1, I1, L1⟩ := M1
  have h1 : n1 = 144 := hk.1
  have h2 : sh1 = sh0 Ls := hk.2.1
  have h3 : I1 1 = I 1 := hk.2.2
  subst h1
  subst h2
  refine LW_254 ⟨hb 1 (by decide) (by decide), hb 2 (by decide) (by decide), hb 3 (by decide) (by decide), hb 4 (by decide) (by decide), hb 5 (by decide) (by decide), ?_⟩
  rw [h3]
  refine m_Call.mono (call_shape (by decide +kernel) (call_keep (M := (144, sh0 Ls, R1, I1, L1)) rfl h)) (fun w M2 h' => ?_)
  obtain ⟨⟨y, rfl⟩, hk2, hv, p', I', L', rfl, hI'⟩ := h'
  cases hv
  exact LW_288 (RR := R0 p') ⟨fun _ => next kc ks p' I' L' (by omega) (by omega) hI' (hk2.2.2.trans h3), fun z => absurd rfl z⟩
theorem LC_1 (hI : INV p I L) (hb : ∀ j : Int, 0 ≤ j → j ≤ 5 → 0 ≤ wr (x4 + j) ∧ wr (x4 + j) < (Ls : Nat)) (hw : ∀ j, wr (I 1 j) = I 1 j) (hkc : kc + 1 ≤ 1168) (hks : ks + 6 ≤ 13168)
    (next : ∀ (kc' ks' p' : Nat) (I' L' : Nat → Nat → Int), kc' ≤ kc + 1 → ks' ≤ ks + 6 → INV p' I' L' → I' 1 = I 1 → m_Wp i_L_law 1497 kc' ks' [(0, .inr (.inr 1)), (1, .inr (.inr 2)), (2, .inr (.inr 98)), (3, .inr (.inr 143)), (4, .inl x4)] [] (mem Ls p' I' L') Q) :
    m_Wp i_L_law 293 kc ks [(0, .inr (.inr 1)), (1, .inr (.inr 2)), (2, .inr (.inr 98)), (3, .inr (.inr 143)), (4, .inl x4)] [] (mem Ls p I L) Q := by
  refine LW_293 (RR := R0 p) ⟨hb 1 (by decide) (by decide), ?_⟩
  refine m_Call.mono (call_shape (by decide +kernel) (call_keep (M := mem Ls p I L) rfl (pair_text hI))) (fun v M1 h => ?_)
  obtain ⟨⟨x, rfl⟩, hk, h⟩ := h
  obtain ⟨n1, sh1, R1, I1, L1⟩ := M1
  have h1 : n1 = 144 := hk.1
  have h2 : sh1 = sh0 Ls := hk.2.1
  have h3 : I1 1 = I 1 := hk.2.2
  subst h1
  subst h2
  refine LW_303 ⟨hb 1 (by decide) (by decide), ?_⟩
  rw [h3]
  refine m_Call.mono (call_shape (by decide +kernel) (call_keep (M := (144, sh0 Ls, R1, I1, L1)) rfl h)) (fun w M2 h' => ?_)
  obtain ⟨⟨y, rfl⟩, hk2, hv, p', I', L', rfl, hI'⟩ := h'
  cases hv
  exact LW_313 (RR := R0 p') ⟨fun _ => next kc ks p' I' L' (by omega) (by omega) hI' (hk2.2.2.trans h3), fun z => absurd rfl z⟩
theorem LC_2 (hI : INV p I L) (hb : ∀ j : Int, 0 ≤ j → j ≤ 5 → 0 ≤ wr (x4 + j) ∧ wr (x4 + j) < (Ls : Nat)) (hw : ∀ j, wr (I 1 j) = I 1 j) (hkc : kc + 1 ≤ 1168) (hks : ks + 6 ≤ 13168)
    (next : ∀ (kc' ks' p' : Nat) (I' L' : Nat → Nat → Int), kc' ≤ kc + 1 → ks' ≤ ks + 6 → INV p' I' L' → I' 1 = I 1 → m_Wp i_L_law 1497 kc' ks' [(0, .inr (.inr 1)), (1, .inr (.inr 2)), (2, .inr (.inr 98)), (3, .inr (.inr 143)), (4, .inl x4)] [] (mem Ls p' I' L') Q) :
    m_Wp i_L_law 318 kc ks [(0, .inr (.inr 1)), (1, .inr (.inr 2)), (2, .inr (.inr 98)), (3, .inr (.inr 143)), (4, .inl x4)] [] (mem Ls p I L) Q := by
  refine LW_318 (RR := R0 p) ⟨hb 1 (by decide) (by decide), ?_⟩
  refine m_Call.mono (call_shape (by decide +kernel) (call_keep (M := mem Ls p I L) rfl (pair_fault hI))) (fun v M1 h => ?_)
  obtain ⟨⟨x, rfl⟩, hk, h⟩ := h
  obtain ⟨n1, sh1, R1, I1, L1⟩ := M1
  have h1 : n1 = 144 := hk.1
  have h2 : sh1 = sh0 Ls := hk.2.1
  have h3 : I1 1 = I 1 := hk.2.2
  subst h1
  subst h2
  refine LW_328 ⟨hb 1 (by decide) (by decide), ?_⟩
  rw [h3]
  refine m_Call.mono (call_shape (by decide +kernel) (call_keep (M := (144, sh0 Ls, R1, I1, L1)) rfl h)) (fun w M2 h' => ?_)
  obtain ⟨⟨y, rfl⟩, hk2, hv, p', I', L', rfl, hI'⟩ := h'
  cases hv
  exact LW_338 (RR := R0 p') ⟨fun _ => next kc ks p' I' L' (by omega) (by omega) hI' (hk2.2.2.trans h3), fun z => absurd rfl z⟩
theorem LC_3 (hI : INV p I L) (hb : ∀ j : Int, 0 ≤ j → j ≤ 5 → 0 ≤ wr (x4 + j) ∧ wr (x4 + j) < (Ls : Nat)) (hw : ∀ j, wr (I 1 j) = I 1 j) (hkc : kc + 1 ≤ 1168) (hks : ks + 6 ≤ 13168)
    (next : ∀ (kc' ks' p' : Nat) (I' L' : Nat → Nat → Int), kc' ≤ kc + 1 → ks' ≤ ks + 6 → INV p' I' L' → I' 1 = I 1 → m_Wp i_L_law 1497 kc' ks' [(0, .inr (.inr 1)), (1, .inr (.inr 2)), (2, .inr (.inr 98)), (3, .inr (.inr 143)), (4, .inl x4)] [] (mem Ls p' I' L') Q) :
    m_Wp i_L_law 343 kc ks [(0, .inr (.inr 1)), (1, .inr (.inr 2)), (2, .inr (.inr 98)), (3, .inr (.inr 143)), (4, .inl x4)] [] (mem Ls p I L) Q := by
  refine LW_343 (RR := R0 p) ⟨hb 1 (by decide) (by decide), ?_⟩
  refine m_Call.mono (call_shape (by decide +kernel) (call_keep (M := mem Ls p I L) rfl (pair_named hI))) (fun v M1 h => ?_)
  obtain ⟨⟨x, rfl⟩, hk, h⟩ := h
  obtain ⟨n1, sh1, R1, I1, L1⟩ := M1
  have h1 : n1 = 144 := hk.1
  have h2 : sh1 = sh0 Ls := hk.2.1
  have h3 : I1 1 = I 1 := hk.2.2
  subst h1
  subst h2
  refine LW_353 ⟨hb 1 (by decide) (by decide), ?_⟩
  rw [h3]
  refine m_Call.mono (call_shape (by decide +kernel) (call_keep (M := (144, sh0 Ls, R1, I1, L1)) rfl h)) (fun w M2 h' => ?_)
  obtain ⟨⟨y, rfl⟩, hk2, hv, p', I', L', rfl, hI'⟩ := h'
  cases hv
  exact LW_363 (RR := R0 p') ⟨fun _ => next kc ks p' I' L' (by omega) (by omega) hI' (hk2.2.2.trans h3), fun z => absurd rfl z⟩
theorem LC_5 (hI : INV p I L) (hb : ∀ j : Int, 0 ≤ j → j ≤ 5 → 0 ≤ wr (x4 + j) ∧ wr (x4 + j) < (Ls : Nat)) (hw : ∀ j, wr (I 1 j) = I 1 j) (hkc : kc + 1 ≤ 1168) (hks : ks + 6 ≤ 13168)
    (next : ∀ (kc' ks' p' : Nat) (I' L' : Nat → Nat → Int), kc' ≤ kc + 1 → ks' ≤ ks + 6 → INV p' I' L' → I' 1 = I 1 → m_Wp i_L_law 1497 kc' ks' [(0, .inr (.inr 1)), (1, .inr (.inr 2)), (2, .inr (.inr 98)), (3, .inr (.inr 143)), (4, .inl x4)] [] (mem Ls p' I' L') Q) :
    m_Wp i_L_law 436 kc ks [(0, .inr (.inr 1)), (1, .inr (.inr 2)), (2, .inr (.inr 98)), (3, .inr (.inr 143)), (4, .inl x4)] [] (mem Ls p I L) Q := by
  refine LW_436 (RR := R0 p) ⟨hb 1 (by decide) (by decide), hb 2 (by decide) (by decide), ?_⟩
  refine m_Call.mono (call_shape (by decide +kernel) (call_keep (M := mem Ls p I L) rfl (pair_meeting hI))) (fun v M1 h => ?_)
  obtain ⟨⟨x, rfl⟩, hk, h⟩ := h
  obtain ⟨n1, sh1, R1, I1, L1⟩ := M1
  have h1 : n1 = 144 := hk.1
  have h2 : sh1 = sh0 Ls := hk.2.1
  have h3 : I1 1 = I 1 := hk.2.2
  subst h1
  subst h2
  refine LW_452 ⟨hb 1 (by decide) (by decide), hb 2 (by decide) (by decide), ?_⟩
  rw [h3]
  refine m_Call.mono (call_shape (by decide +kernel) (call_keep (M := (144, sh0 Ls, R1, I1, L1)) rfl h)) (fun w M2 h' => ?_)
  obtain ⟨⟨y, rfl⟩, hk2, hv, p', I', L', rfl, hI'⟩ := h'
  cases hv
  exact LW_468 (RR := R0 p') ⟨fun _ => next kc ks p' I' L' (by omega) (by omega) hI' (hk2.2.2.trans h3), fun z => absurd rfl z⟩
theorem LC_6 (hI : INV p I L) (hb : ∀ j : Int, 0 ≤ j → j ≤ 5 → 0 ≤ wr (x4 + j) ∧ wr (x4 + j) < (Ls : Nat)) (hw : ∀ j, wr (I 1 j) = I 1 j) (hkc : kc + 1 ≤ 1168) (hks : ks + 6 ≤ 13168)
    (next : ∀ (kc' ks' p' : Nat) (I' L' : Nat → Nat → Int), kc' ≤ kc + 1 → ks' ≤ ks + 6 → INV p' I' L' → I' 1 = I 1 → m_Wp i_L_law 1497 kc' ks' [(0, .inr (.inr 1)), (1, .inr (.inr 2)), (2, .inr (.inr 98)), (3, .inr (.inr 143)), (4, .inl x4)] [] (mem Ls p' I' L') Q) :
    m_Wp i_L_law 473 kc ks [(0, .inr (.inr 1)), (1, .inr (.inr 2)), (2, .inr (.inr 98)), (3, .inr (.inr 143)), (4, .inl x4)] [] (mem Ls p I L) Q := by
  refine LW_473 (RR := R0 p) ⟨hb 1 (by decide) (by decide), ?_⟩
  refine m_Call.mono (call_shape (by decide +kernel) (call_keep (M := mem Ls p I L) rfl (pair_shows hI))) (fun v M1 h => ?_)
  obtain ⟨⟨x, rfl⟩, hk, h⟩ := h
  obtain ⟨n1, sh1, R1, I1, L1⟩ := M1
  have h1 : n1 = 144 := hk.1
  have h2 : sh1 = sh0 Ls := hk.2.1
  have h3 : I1 1 = I 1 := hk.2.2
  subst h1
  subst h2
  refine LW_483 ⟨hb 1 (by decide) (by decide), ?_⟩
  rw [h3]
  refine m_Call.mono (call_shape (by decide +kernel) (call_keep (M := (144, sh0 Ls, R1, I1, L1)) rfl h)) (fun w M2 h' => ?_)
  obtain ⟨⟨y, rfl⟩, hk2, hv, p', I', L', rfl, hI'⟩ := h'
  cases hv
  exact LW_493 (RR := R0 p') ⟨fun _ => next kc ks p' I' L' (by omega) (by omega) hI' (hk2.2.2.trans h3), fun z => absurd rfl z⟩
theorem LC_7 (hI : INV p I L) (hb : ∀ j : Int, 0 ≤ j → j ≤ 5 → 0 ≤ wr (x4 + j) ∧ wr (x4 + j) < (Ls : Nat)) (hw : ∀ j, wr (I 1 j) = I 1 j) (hkc : kc + 1 ≤ 1168) (hks : ks + 6 ≤ 13168)
    (next : ∀ (kc' ks' p' : Nat) (I' L' : Nat → Nat → Int), kc' ≤ kc + 1 → ks' ≤ ks + 6 → INV p' I' L' → I' 1 = I 1 → m_Wp i_L_law 1497 kc' ks' [(0, .inr (.inr 1)), (1, .inr (.inr 2)), (2, .inr (.inr 98)), (3, .inr (.inr 143)), (4, .inl x4)] [] (mem Ls p' I' L') Q) :
    m_Wp i_L_law 498 kc ks [(0, .inr (.inr 1)), (1, .inr (.inr 2)), (2, .inr (.inr 98)), (3, .inr (.inr 143)), (4, .inl x4)] [] (mem Ls p I L) Q := by
  refine LW_498 (RR := R0 p) ⟨hb 1 (by decide) (by decide), hb 2 (by decide) (by decide), ?_⟩
  refine m_Call.mono (call_shapeLg (by decide +kernel) (call_keep (M := mem Ls p I L) rfl (pair_law hI))) (fun v M1 h => ?_)
  obtain ⟨⟨x, rfl⟩, hk, h⟩ := h
  obtain ⟨n1, sh1, R1, I1, L1⟩ := M1
  have h1 : n1 = 144 := hk.1
  have h2 : sh1 = sh0 Ls := hk.2.1
  have h3 : I1 1 = I 1 := hk.2.2
  subst h1
  subst h2
  refine LW_514 ⟨hb 1 (by decide) (by decide), hb 2 (by decide) (by decide), ?_⟩
  rw [h3]
  refine m_Call.mono (call_shapeLg (by decide +kernel) (call_keep (M := (144, sh0 Ls, R1, I1, L1)) rfl h)) (fun w M2 h' => ?_)
  obtain ⟨⟨y, rfl⟩, hk2, hv, p', I', L', rfl, hI'⟩ := h'
  cases hv
  exact LW_530 (RR := R0 p') ⟨fun _ => next kc ks p' I' L' (by omega) (by omega) hI' (hk2.2.2.trans h3), fun z => absurd (lcmp_self _) z⟩
theorem LC_8 (hI : INV p I L) (hb : ∀ j : Int, 0 ≤ j → j ≤ 5 → 0 ≤ wr (x4 + j) ∧ wr (x4 + j) < (Ls : Nat)) (hw : ∀ j, wr (I 1 j) = I 1 j) (hkc : kc + 1 ≤ 1168) (hks : ks + 6 ≤ 13168)
    (next : ∀ (kc' ks' p' : Nat) (I' L' : Nat → Nat → Int), kc' ≤ kc + 1 → ks' ≤ ks + 6 → INV p' I' L' → I' 1 = I 1 → m_Wp i_L_law 1497 kc' ks' [(0, .inr (.inr 1)), (1, .inr (.inr 2)), (2, .inr (.inr 98)), (3, .inr (.inr 143)), (4, .inl x4)] [] (mem Ls p' I' L') Q) :
    m_Wp i_L_law 536 kc ks [(0, .inr (.inr 1)), (1, .inr (.inr 2)), (2, .inr (.inr 98)), (3, .inr (.inr 143)), (4, .inl x4)] [] (mem Ls p I L) Q := by
  refine LW_536 (RR := R0 p) ⟨hb 1 (by decide) (by decide), ?_⟩
  refine m_Call.mono (call_shape (by decide +kernel) (call_keep (M := mem Ls p I L) rfl (pair_ring hI))) (fun v M1 h => ?_)
  obtain ⟨⟨x, rfl⟩, hk, h⟩ := h
  obtain ⟨n1, sh1, R1, I1, L1⟩ := M1
  have h1 : n1 = 144 := hk.1
  have h2 : sh1 = sh0 Ls := hk.2.1
  have h3 : I1 1 = I 1 := hk.2.2
  subst h1
  subst h2
  refine LW_546 ⟨hb 1 (by decide) (by decide), ?_⟩
  rw [h3]
  refine m_Call.mono (call_shape (by decide +kernel) (call_keep (M := (144, sh0 Ls, R1, I1, L1)) rfl h)) (fun w M2 h' => ?_)
  obtain ⟨⟨y, rfl⟩, hk2, hv, p', I', L', rfl, hI'⟩ := h'
  cases hv
  exact LW_556 (RR := R0 p') ⟨fun _ => next kc ks p' I' L' (by omega) (by omega) hI' (hk2.2.2.trans h3), fun z => absurd rfl z⟩
theorem LC_9 (hI : INV p I L) (hb : ∀ j : Int, 0 ≤ j → j ≤ 5 → 0 ≤ wr (x4 + j) ∧ wr (x4 + j) < (Ls : Nat)) (hw : ∀ j, wr (I 1 j) = I 1 j) (hkc : kc + 1 ≤ 1168) (hks : ks + 6 ≤ 13168)
    (next : ∀ (kc' ks' p' : Nat) (I' L' : Nat → Nat → Int), kc' ≤ kc + 1 → ks' ≤ ks + 6 → INV p' I' L' → I' 1 = I 1 → m_Wp i_L_law 1497 kc' ks' [(0, .inr (.inr 1)), (1, .inr (.inr 2)), (2, .inr (.inr 98)), (3, .inr (.inr 143)), (4, .inl x4)] [] (mem Ls p' I' L') Q) :
    m_Wp i_L_law 561 kc ks [(0, .inr (.inr 1)), (1, .inr (.inr 2)), (2, .inr (.inr 98)), (3, .inr (.inr 143)), (4, .inl x4)] [] (mem Ls p I L) Q := by
  refine LW_561 (RR := R0 p) ⟨hb 1 (by decide) (by decide), ?_⟩
  refine m_Call.mono (call_shape (by decide +kernel) (call_keep (M := mem Ls p I L) rfl (pair_hangUp hI))) (fun v M1 h => ?_)
  obtain ⟨⟨x, rfl⟩, hk, h⟩ := h
  obtain ⟨n1, sh1, R1, I1, L1⟩ := M1
  have h1 : n1 = 144 := hk.1
  have h2 : sh1 = sh0 Ls := hk.2.1
  have h3 : I1 1 = I 1 := hk.2.2
  subst h1
  subst h2
  refine LW_571 ⟨hb 1 (by decide) (by decide), ?_⟩
  rw [h3]
  refine m_Call.mono (call_shape (by decide +kernel) (call_keep (M := (144, sh0 Ls, R1, I1, L1)) rfl h)) (fun w M2 h' => ?_)
  obtain ⟨⟨y, rfl⟩, hk2, hv, p', I', L', rfl, hI'⟩ := h'
  cases hv
  exact LW_581 (RR := R0 p') ⟨fun _ => next kc ks p' I' L' (by omega) (by omega) hI' (hk2.2.2.trans h3), fun z => absurd rfl z⟩
theorem LC_10 (hI : INV p I L) (hb : ∀ j : Int, 0 ≤ j → j ≤ 5 → 0 ≤ wr (x4 + j) ∧ wr (x4 + j) < (Ls : Nat)) (hw : ∀ j, wr (I 1 j) = I 1 j) (hkc : kc + 1 ≤ 1168) (hks : ks + 6 ≤ 13168)
    (next : ∀ (kc' ks' p' : Nat) (I' L' : Nat → Nat → Int), kc' ≤ kc + 1 → ks' ≤ ks + 6 → INV p' I' L' → I' 1 = I 1 → m_Wp i_L_law 1497 kc' ks' [(0, .inr (.inr 1)), (1, .inr (.inr 2)), (2, .inr (.inr 98)), (3, .inr (.inr 143)), (4, .inl x4)] [] (mem Ls p' I' L') Q) :
    m_Wp i_L_law 586 kc ks [(0, .inr (.inr 1)), (1, .inr (.inr 2)), (2, .inr (.inr 98)), (3, .inr (.inr 143)), (4, .inl x4)] [] (mem Ls p I L) Q := by
  refine LW_586 (RR := R0 p) ⟨hb 1 (by decide) (by decide), hb 2 (by decide) (by decide), ?_⟩
  refine m_Call.mono (call_shape (by decide +kernel) (call_keep (M := mem Ls p I L) rfl (pair_set hI))) (fun v M1 h => ?_)
  obtain ⟨⟨x, rfl⟩, hk, h⟩ := h
  obtain ⟨n1, sh1, R1, I1, L1⟩ := M1
  have h1 : n1 = 144 := hk.1
  have h2 : sh1 = sh0 Ls := hk.2.1
  have h3 : I1 1 = I 1 := hk.2.2
  subst h1
  subst h2
  refine LW_602 ⟨hb 1 (by decide) (by decide), hb 2 (by decide) (by decide), ?_⟩
  rw [h3]
  refine m_Call.mono (call_shape (by decide +kernel) (call_keep (M := (144, sh0 Ls, R1, I1, L1)) rfl h)) (fun w M2 h' => ?_)
  obtain ⟨⟨y, rfl⟩, hk2, hv, p', I', L', rfl, hI'⟩ := h'
  cases hv
  exact LW_618 (RR := R0 p') ⟨fun _ => next kc ks p' I' L' (by omega) (by omega) hI' (hk2.2.2.trans h3), fun z => absurd rfl z⟩
theorem LC_11 (hI : INV p I L) (hb : ∀ j : Int, 0 ≤ j → j ≤ 5 → 0 ≤ wr (x4 + j) ∧ wr (x4 + j) < (Ls : Nat)) (hw : ∀ j, wr (I 1 j) = I 1 j) (hkc : kc + 1 ≤ 1168) (hks : ks + 6 ≤ 13168)
    (next : ∀ (kc' ks' p' : Nat) (I' L' : Nat → Nat → Int), kc' ≤ kc + 1 → ks' ≤ ks + 6 → INV p' I' L' → I' 1 = I 1 → m_Wp i_L_law 1497 kc' ks' [(0, .inr (.inr 1)), (1, .inr (.inr 2)), (2, .inr (.inr 98)), (3, .inr (.inr 143)), (4, .inl x4)] [] (mem Ls p' I' L') Q) :
    m_Wp i_L_law 623 kc ks [(0, .inr (.inr 1)), (1, .inr (.inr 2)), (2, .inr (.inr 98)), (3, .inr (.inr 143)), (4, .inl x4)] [] (mem Ls p I L) Q := by
  refine LW_623 (RR := R0 p) ⟨hb 1 (by decide) (by decide), hb 2 (by decide) (by decide), ?_⟩
  refine m_Call.mono (call_shape (by decide +kernel) (call_keep (M := mem Ls p I L) rfl (pair_putOff hI))) (fun v M1 h => ?_)
  obtain ⟨⟨x, rfl⟩, hk, h⟩ := h
  obtain ⟨n1, sh1, R1, I1, L1⟩ := M1
  have h1 : n1 = 144 := hk.1
  have h2 : sh1 = sh0 Ls := hk.2.1
  have h3 : I1 1 = I 1 := hk.2.2
  subst h1
  subst h2
  refine LW_639 ⟨hb 1 (by decide) (by decide), hb 2 (by decide) (by decide), ?_⟩
  rw [h3]
  refine m_Call.mono (call_shape (by decide +kernel) (call_keep (M := (144, sh0 Ls, R1, I1, L1)) rfl h)) (fun w M2 h' => ?_)
  obtain ⟨⟨y, rfl⟩, hk2, hv, p', I', L', rfl, hI'⟩ := h'
  cases hv
  exact LW_655 (RR := R0 p') ⟨fun _ => next kc ks p' I' L' (by omega) (by omega) hI' (hk2.2.2.trans h3), fun z => absurd rfl z⟩
theorem LC_12 (hI : INV p I L) (hb : ∀ j : Int, 0 ≤ j → j ≤ 5 → 0 ≤ wr (x4 + j) ∧ wr (x4 + j) < (Ls : Nat)) (hw : ∀ j, wr (I 1 j) = I 1 j) (hkc : kc + 1 ≤ 1168) (hks : ks + 6 ≤ 13168)
    (next : ∀ (kc' ks' p' : Nat) (I' L' : Nat → Nat → Int), kc' ≤ kc + 1 → ks' ≤ ks + 6 → INV p' I' L' → I' 1 = I 1 → m_Wp i_L_law 1497 kc' ks' [(0, .inr (.inr 1)), (1, .inr (.inr 2)), (2, .inr (.inr 98)), (3, .inr (.inr 143)), (4, .inl x4)] [] (mem Ls p' I' L') Q) :
    m_Wp i_L_law 660 kc ks [(0, .inr (.inr 1)), (1, .inr (.inr 2)), (2, .inr (.inr 98)), (3, .inr (.inr 143)), (4, .inl x4)] [] (mem Ls p I L) Q := by
  refine LW_660 (RR := R0 p) ⟨hb 1 (by decide) (by decide), ?_⟩
  refine m_Call.mono (call_shape (by decide +kernel) (call_keep (M := mem Ls p I L) rfl (pair_go hI))) (fun v M1 h => ?_)
  obtain ⟨⟨x, rfl⟩, hk, h⟩ := h
  obtain ⟨n1, sh1, R1, I1, L1⟩ := M1
  have h1 : n1 = 144 := hk.1
  have h2 : sh1 = sh0 Ls := hk.2.1
  have h3 : I1 1 = I 1 := hk.2.2
  subst h1
  subst h2
  refine LW_670 ⟨hb 1 (by decide) (by decide), ?_⟩
  rw [h3]
  refine m_Call.mono (call_shape (by decide +kernel) (call_keep (M := (144, sh0 Ls, R1, I1, L1)) rfl h)) (fun w M2 h' => ?_)
  obtain ⟨⟨y, rfl⟩, hk2, hv, p', I', L', rfl, hI'⟩ := h'
  cases hv
  exact LW_680 (RR := R0 p') ⟨fun _ => next kc ks p' I' L' (by omega) (by omega) hI' (hk2.2.2.trans h3), fun z => absurd rfl z⟩
theorem LC_13 (hI : INV p I L) (hb : ∀ j : Int, 0 ≤ j → j ≤ 5 → 0 ≤ wr (x4 + j) ∧ wr (x4 + j) < (Ls : Nat)) (hw : ∀ j, wr (I 1 j) = I 1 j) (hkc : kc + 1 ≤ 1168) (hks : ks + 6 ≤ 13168)
    (next : ∀ (kc' ks' p' : Nat) (I' L' : Nat → Nat → Int), kc' ≤ kc + 1 → ks' ≤ ks + 6 → INV p' I' L' → I' 1 = I 1 → m_Wp i_L_law 1497 kc' ks' [(0, .inr (.inr 1)), (1, .inr (.inr 2)), (2, .inr (.inr 98)), (3, .inr (.inr 143)), (4, .inl x4)] [] (mem Ls p' I' L') Q) :
    m_Wp i_L_law 685 kc ks [(0, .inr (.inr 1)), (1, .inr (.inr 2)), (2, .inr (.inr 98)), (3, .inr (.inr 143)), (4, .inl x4)] [] (mem Ls p I L) Q := by
  refine LW_685 (RR := R0 p) ⟨hb 1 (by decide) (by decide), hb 2 (by decide) (by decide), hb 3 (by decide) (by decide), ?_⟩
  refine m_Call.mono (call_shape (by decide +kernel) (call_keep (M := mem Ls p I L) rfl (pair_ahead hI))) (fun v M1 h => ?_)
  obtain ⟨⟨x, rfl⟩, hk, h⟩ := h
  obtain ⟨n1, sh1, R1, I1, L1⟩ := M1
  have h1 : n1 = 144 := hk.1
  have h2 : sh1 = sh0 Ls := hk.2.1
  have h3 : I1 1 = I 1 := hk.2.2
  subst h1
  subst h2
  refine LW_707 ⟨hb 1 (by decide) (by decide), hb 2 (by decide) (by decide), hb 3 (by decide) (by decide), ?_⟩
  rw [h3]
  refine m_Call.mono (call_shape (by decide +kernel) (call_keep (M := (144, sh0 Ls, R1, I1, L1)) rfl h)) (fun w M2 h' => ?_)
  obtain ⟨⟨y, rfl⟩, hk2, hv, p', I', L', rfl, hI'⟩ := h'
  cases hv
  exact LW_729 (RR := R0 p') ⟨fun _ => next kc ks p' I' L' (by omega) (by omega) hI' (hk2.2.2.trans h3), fun z => absurd rfl z⟩
theorem LC_14 (hI : INV p I L) (hb : ∀ j : Int, 0 ≤ j → j ≤ 5 → 0 ≤ wr (x4 + j) ∧ wr (x4 + j) < (Ls : Nat)) (hw : ∀ j, wr (I 1 j) = I 1 j) (hkc : kc + 1 ≤ 1168) (hks : ks + 6 ≤ 13168)
    (next : ∀ (kc' ks' p' : Nat) (I' L' : Nat → Nat → Int), kc' ≤ kc + 1 → ks' ≤ ks + 6 → INV p' I' L' → I' 1 = I 1 → m_Wp i_L_law 1497 kc' ks' [(0, .inr (.inr 1)), (1, .inr (.inr 2)), (2, .inr (.inr 98)), (3, .inr (.inr 143)), (4, .inl x4)] [] (mem Ls p' I' L') Q) :
    m_Wp i_L_law 734 kc ks [(0, .inr (.inr 1)), (1, .inr (.inr 2)), (2, .inr (.inr 98)), (3, .inr (.inr 143)), (4, .inl x4)] [] (mem Ls p I L) Q := by
  refine LW_734 (RR := R0 p) ⟨hb 1 (by decide) (by decide), ?_⟩
  refine m_Call.mono (call_shape (by decide +kernel) (call_keep (M := mem Ls p I L) rfl (pair_delay hI))) (fun v M1 h => ?_)
  obtain ⟨⟨x, rfl⟩, hk, h⟩ := h
  obtain ⟨n1, sh1, R1, I1, L1⟩ := M1
  have h1 : n1 = 144 := hk.1
  have h2 : sh1 = sh0 Ls := hk.2.1
  have h3 : I1 1 = I 1 := hk.2.2
  subst h1
  subst h2
  refine LW_744 ⟨hb 1 (by decide) (by decide), ?_⟩
  rw [h3]
  refine m_Call.mono (call_shape (by decide +kernel) (call_keep (M := (144, sh0 Ls, R1, I1, L1)) rfl h)) (fun w M2 h' => ?_)
  obtain ⟨⟨y, rfl⟩, hk2, hv, p', I', L', rfl, hI'⟩ := h'
  cases hv
  exact LW_754 (RR := R0 p') ⟨fun _ => next kc ks p' I' L' (by omega) (by omega) hI' (hk2.2.2.trans h3), fun z => absurd rfl z⟩
theorem LC_15 (hI : INV p I L) (hb : ∀ j : Int, 0 ≤ j → j ≤ 5 → 0 ≤ wr (x4 + j) ∧ wr (x4 + j) < (Ls : Nat)) (hw : ∀ j, wr (I 1 j) = I 1 j) (hkc : kc + 1 ≤ 1168) (hks : ks + 6 ≤ 13168)
    (next : ∀ (kc' ks' p' : Nat) (I' L' : Nat → Nat → Int), kc' ≤ kc + 1 → ks' ≤ ks + 6 → INV p' I' L' → I' 1 = I 1 → m_Wp i_L_law 1497 kc' ks' [(0, .inr (.inr 1)), (1, .inr (.inr 2)), (2, .inr (.inr 98)), (3, .inr (.inr 143)), (4, .inl x4)] [] (mem Ls p' I' L') Q) :
    m_Wp i_L_law 759 kc ks [(0, .inr (.inr 1)), (1, .inr (.inr 2)), (2, .inr (.inr 98)), (3, .inr (.inr 143)), (4, .inl x4)] [] (mem Ls p I L) Q := by
  refine LW_759 (RR := R0 p) ⟨hb 1 (by decide) (by decide), hb 2 (by decide) (by decide), hb 3 (by decide) (by decide), ?_⟩
  refine m_Call.mono (call_shape (by decide +kernel) (call_keep (M := mem Ls p I L) rfl (pair_bestRing hI))) (fun v M1 h => ?_)
  obtain ⟨⟨x, rfl⟩, hk, h⟩ := h
  obtain ⟨n1, sh1, R1, I1, L1⟩ := M1
  have h1 : n1 = 144 := hk.1
  have h2 : sh1 = sh0 Ls := hk.2.1
  have h3 : I1 1 = I 1 := hk.2.2
  subst h1
  subst h2
  refine LW_781 ⟨hb 1 (by decide) (by decide), hb 2 (by decide) (by decide), hb 3 (by decide) (by decide), ?_⟩
  rw [h3]
  refine m_Call.mono (call_shape (by decide +kernel) (call_keep (M := (144, sh0 Ls, R1, I1, L1)) rfl h)) (fun w M2 h' => ?_)
  obtain ⟨⟨y, rfl⟩, hk2, hv, p', I', L', rfl, hI'⟩ := h'
  cases hv
  exact LW_803 (RR := R0 p') ⟨fun _ => next kc ks p' I' L' (by omega) (by omega) hI' (hk2.2.2.trans h3), fun z => absurd rfl z⟩
theorem LC_16 (hI : INV p I L) (hb : ∀ j : Int, 0 ≤ j → j ≤ 5 → 0 ≤ wr (x4 + j) ∧ wr (x4 + j) < (Ls : Nat)) (hw : ∀ j, wr (I 1 j) = I 1 j) (hkc : kc + 1 ≤ 1168) (hks : ks + 6 ≤ 13168)
    (next : ∀ (kc' ks' p' : Nat) (I' L' : Nat → Nat → Int), kc' ≤ kc + 1 → ks' ≤ ks + 6 → INV p' I' L' → I' 1 = I 1 → m_Wp i_L_law 1497 kc' ks' [(0, .inr (.inr 1)), (1, .inr (.inr 2)), (2, .inr (.inr 98)), (3, .inr (.inr 143)), (4, .inl x4)] [] (mem Ls p' I' L') Q) :
    m_Wp i_L_law 808 kc ks [(0, .inr (.inr 1)), (1, .inr (.inr 2)), (2, .inr (.inr 98)), (3, .inr (.inr 143)), (4, .inl x4)] [] (mem Ls p I L) Q := by
  refine LW_808 (RR := R0 p) ⟨hb 1 (by decide) (by decide), ?_⟩
  refine m_Call.mono (call_shape (by decide +kernel) (call_keep (M := mem Ls p I L) rfl (pair_near hI))) (fun v M1 h => ?_)
  obtain ⟨⟨x, rfl⟩, hk, h⟩ := h
  obtain ⟨n1, sh1, R1, I1, L1⟩ := M1
  have h1 : n1 = 144 := hk.1
  have h2 : sh1 = sh0 Ls := hk.2.1
  have h3 : I1 1 = I 1 := hk.2.2
  subst h1
  subst h2
  refine LW_818 ⟨hb 1 (by decide) (by decide), ?_⟩
  rw [h3]
  refine m_Call.mono (call_shape (by decide +kernel) (call_keep (M := (144, sh0 Ls, R1, I1, L1)) rfl h)) (fun w M2 h' => ?_)
  obtain ⟨⟨y, rfl⟩, hk2, hv, p', I', L', rfl, hI'⟩ := h'
  cases hv
  exact LW_828 (RR := R0 p') ⟨fun _ => next kc ks p' I' L' (by omega) (by omega) hI' (hk2.2.2.trans h3), fun z => absurd rfl z⟩
theorem LC_17 (hI : INV p I L) (hb : ∀ j : Int, 0 ≤ j → j ≤ 5 → 0 ≤ wr (x4 + j) ∧ wr (x4 + j) < (Ls : Nat)) (hw : ∀ j, wr (I 1 j) = I 1 j) (hkc : kc + 1 ≤ 1168) (hks : ks + 6 ≤ 13168)
    (next : ∀ (kc' ks' p' : Nat) (I' L' : Nat → Nat → Int), kc' ≤ kc + 1 → ks' ≤ ks + 6 → INV p' I' L' → I' 1 = I 1 → m_Wp i_L_law 1497 kc' ks' [(0, .inr (.inr 1)), (1, .inr (.inr 2)), (2, .inr (.inr 98)), (3, .inr (.inr 143)), (4, .inl x4)] [] (mem Ls p' I' L') Q) :
    m_Wp i_L_law 833 kc ks [(0, .inr (.inr 1)), (1, .inr (.inr 2)), (2, .inr (.inr 98)), (3, .inr (.inr 143)), (4, .inl x4)] [] (mem Ls p I L) Q := by
  refine LW_833 (RR := R0 p) ⟨hb 1 (by decide) (by decide), ?_⟩
  refine m_Call.mono (call_shape (by decide +kernel) (call_keep (M := mem Ls p I L) rfl (pair_liars hI))) (fun v M1 h => ?_)
  obtain ⟨⟨x, rfl⟩, hk, h⟩ := h
  obtain ⟨n1, sh1, R1, I1, L1⟩ := M1
  have h1 : n1 = 144 := hk.1
  have h2 : sh1 = sh0 Ls := hk.2.1
  have h3 : I1 1 = I 1 := hk.2.2
  subst h1
  subst h2
  refine LW_843 ⟨hb 1 (by decide) (by decide), ?_⟩
  rw [h3]
  refine m_Call.mono (call_shape (by decide +kernel) (call_keep (M := (144, sh0 Ls, R1, I1, L1)) rfl h)) (fun w M2 h' => ?_)
  obtain ⟨⟨y, rfl⟩, hk2, hv, p', I', L', rfl, hI'⟩ := h'
  cases hv
  exact LW_853 (RR := R0 p') ⟨fun _ => next kc ks p' I' L' (by omega) (by omega) hI' (hk2.2.2.trans h3), fun z => absurd rfl z⟩
theorem LC_18 (hI : INV p I L) (hb : ∀ j : Int, 0 ≤ j → j ≤ 5 → 0 ≤ wr (x4 + j) ∧ wr (x4 + j) < (Ls : Nat)) (hw : ∀ j, wr (I 1 j) = I 1 j) (hkc : kc + 1 ≤ 1168) (hks : ks + 6 ≤ 13168)
    (next : ∀ (kc' ks' p' : Nat) (I' L' : Nat → Nat → Int), kc' ≤ kc + 1 → ks' ≤ ks + 6 → INV p' I' L' → I' 1 = I 1 → m_Wp i_L_law 1497 kc' ks' [(0, .inr (.inr 1)), (1, .inr (.inr 2)), (2, .inr (.inr 98)), (3, .inr (.inr 143)), (4, .inl x4)] [] (mem Ls p' I' L') Q) :
    m_Wp i_L_law 858 kc ks [(0, .inr (.inr 1)), (1, .inr (.inr 2)), (2, .inr (.inr 98)), (3, .inr (.inr 143)), (4, .inl x4)] [] (mem Ls p I L) Q := by
  refine LW_858 (RR := R0 p) ?_
  refine m_Call.mono (call_shape (by decide +kernel) (call_keep (M := mem Ls p I L) rfl (pair_median hI))) (fun v M1 h => ?_)
  obtain ⟨⟨x, rfl⟩, hk, h⟩ := h
  obtain ⟨n1, sh1, R1, I1, L1⟩ := M1
  have h1 : n1 = 144 := hk.1
  have h2 : sh1 = sh0 Ls := hk.2.1
  have h3 : I1 1 = I 1 := hk.2.2
  subst h1
  subst h2
  refine LW_862 ?_
  refine m_Call.mono (call_shape (by decide +kernel) (call_keep (M := (144, sh0 Ls, R1, I1, L1)) rfl h)) (fun w M2 h' => ?_)
  obtain ⟨⟨y, rfl⟩, hk2, hv, p', I', L', rfl, hI'⟩ := h'
  cases hv
  exact LW_866 (RR := R0 p') ⟨fun _ => next kc ks p' I' L' (by omega) (by omega) hI' (hk2.2.2.trans h3), fun z => absurd rfl z⟩
theorem LC_19 (hI : INV p I L) (hb : ∀ j : Int, 0 ≤ j → j ≤ 5 → 0 ≤ wr (x4 + j) ∧ wr (x4 + j) < (Ls : Nat)) (hw : ∀ j, wr (I 1 j) = I 1 j) (hkc : kc + 1 ≤ 1168) (hks : ks + 6 ≤ 13168)
    (next : ∀ (kc' ks' p' : Nat) (I' L' : Nat → Nat → Int), kc' ≤ kc + 1 → ks' ≤ ks + 6 → INV p' I' L' → I' 1 = I 1 → m_Wp i_L_law 1497 kc' ks' [(0, .inr (.inr 1)), (1, .inr (.inr 2)), (2, .inr (.inr 98)), (3, .inr (.inr 143)), (4, .inl x4)] [] (mem Ls p' I' L') Q) :
    m_Wp i_L_law 871 kc ks [(0, .inr (.inr 1)), (1, .inr (.inr 2)), (2, .inr (.inr 98)), (3, .inr (.inr 143)), (4, .inl x4)] [] (mem Ls p I L) Q := by
  refine LW_871 (RR := R0 p) ⟨hb 1 (by decide) (by decide), ?_⟩
  refine m_Call.mono (call_shape (by decide +kernel) (call_keep (M := mem Ls p I L) rfl (pair_agree hI))) (fun v M1 h => ?_)
  obtain ⟨⟨x, rfl⟩, hk, h⟩ := h
  obtain ⟨n1, sh1, R1, I1, L1⟩ := M1
  have h1 : n1 = 144 := hk.1
  have h2 : sh1 = sh0 Ls := hk.2.1
  have h3 : I1 1 = I 1 := hk.2.2
  subst h1
  subst h2
  refine LW_881 ⟨hb 1 (by decide) (by decide), ?_⟩
  rw [h3]
  refine m_Call.mono (call_shape (by decide +kernel) (call_keep (M := (144, sh0 Ls, R1, I1, L1)) rfl h)) (fun w M2 h' => ?_)
  obtain ⟨⟨y, rfl⟩, hk2, hv, p', I', L', rfl, hI'⟩ := h'
  cases hv
  exact LW_891 (RR := R0 p') ⟨fun _ => next kc ks p' I' L' (by omega) (by omega) hI' (hk2.2.2.trans h3), fun z => absurd rfl z⟩
theorem LC_20 (hI : INV p I L) (hb : ∀ j : Int, 0 ≤ j → j ≤ 5 → 0 ≤ wr (x4 + j) ∧ wr (x4 + j) < (Ls : Nat)) (hw : ∀ j, wr (I 1 j) = I 1 j) (hkc : kc + 1 ≤ 1168) (hks : ks + 6 ≤ 13168)
    (next : ∀ (kc' ks' p' : Nat) (I' L' : Nat → Nat → Int), kc' ≤ kc + 1 → ks' ≤ ks + 6 → INV p' I' L' → I' 1 = I 1 → m_Wp i_L_law 1497 kc' ks' [(0, .inr (.inr 1)), (1, .inr (.inr 2)), (2, .inr (.inr 98)), (3, .inr (.inr 143)), (4, .inl x4)] [] (mem Ls p' I' L') Q) :
    m_Wp i_L_law 896 kc ks [(0, .inr (.inr 1)), (1, .inr (.inr 2)), (2, .inr (.inr 98)), (3, .inr (.inr 143)), (4, .inl x4)] [] (mem Ls p I L) Q := by
  refine LW_896 (RR := R0 p) ⟨hb 1 (by decide) (by decide), ?_⟩
  refine m_Call.mono (call_shape (by decide +kernel) (call_keep (M := mem Ls p I L) rfl (pair_needs hI))) (fun v M1 h => ?_)
  obtain ⟨⟨x, rfl⟩, hk, h⟩ := h
  obtain ⟨n1, sh1, R1, I1, L1⟩ := M1
  have h1 : n1 = 144 := hk.1
  have h2 : sh1 = sh0 Ls := hk.2.1
  have h3 : I1 1 = I 1 := hk.2.2
  subst h1
  subst h2
  refine LW_906 ⟨hb 1 (by decide) (by decide), ?_⟩
  rw [h3]
  refine m_Call.mono (call_shape (by decide +kernel) (call_keep (M := (144, sh0 Ls, R1, I1, L1)) rfl h)) (fun w M2 h' => ?_)
  obtain ⟨⟨y, rfl⟩, hk2, hv, p', I', L', rfl, hI'⟩ := h'
  cases hv
  exact LW_916 (RR := R0 p') ⟨fun _ => next kc ks p' I' L' (by omega) (by omega) hI' (hk2.2.2.trans h3), fun z => absurd rfl z⟩
theorem LC_21 (hI : INV p I L) (hb : ∀ j : Int, 0 ≤ j → j ≤ 5 → 0 ≤ wr (x4 + j) ∧ wr (x4 + j) < (Ls : Nat)) (hw : ∀ j, wr (I 1 j) = I 1 j) (hkc : kc + 1 ≤ 1168) (hks : ks + 6 ≤ 13168)
    (next : ∀ (kc' ks' p' : Nat) (I' L' : Nat → Nat → Int), kc' ≤ kc + 1 → ks' ≤ ks + 6 → INV p' I' L' → I' 1 = I 1 → m_Wp i_L_law 1497 kc' ks' [(0, .inr (.inr 1)), (1, .inr (.inr 2)), (2, .inr (.inr 98)), (3, .inr (.inr 143)), (4, .inl x4)] [] (mem Ls p' I' L') Q) :
    m_Wp i_L_law 921 kc ks [(0, .inr (.inr 1)), (1, .inr (.inr 2)), (2, .inr (.inr 98)), (3, .inr (.inr 143)), (4, .inl x4)] [] (mem Ls p I L) Q := by
  refine LW_921 (RR := R0 p) ?_
  refine m_Call.mono (call_shape (by decide +kernel) (call_keep (M := mem Ls p I L) rfl (pair_certain hI))) (fun v M1 h => ?_)
  obtain ⟨⟨x, rfl⟩, hk, h⟩ := h
  obtain ⟨n1, sh1, R1, I1, L1⟩ := M1
  have h1 : n1 = 144 := hk.1
  have h2 : sh1 = sh0 Ls := hk.2.1
  have h3 : I1 1 = I 1 := hk.2.2
  subst h1
  subst h2
  refine LW_925 ?_
  refine m_Call.mono (call_shape (by decide +kernel) (call_keep (M := (144, sh0 Ls, R1, I1, L1)) rfl h)) (fun w M2 h' => ?_)
  obtain ⟨⟨y, rfl⟩, hk2, hv, p', I', L', rfl, hI'⟩ := h'
  cases hv
  exact LW_929 (RR := R0 p') ⟨fun _ => next kc ks p' I' L' (by omega) (by omega) hI' (hk2.2.2.trans h3), fun z => absurd rfl z⟩
theorem LC_22 (hI : INV p I L) (hb : ∀ j : Int, 0 ≤ j → j ≤ 5 → 0 ≤ wr (x4 + j) ∧ wr (x4 + j) < (Ls : Nat)) (hw : ∀ j, wr (I 1 j) = I 1 j) (hkc : kc + 1 ≤ 1168) (hks : ks + 6 ≤ 13168)
    (next : ∀ (kc' ks' p' : Nat) (I' L' : Nat → Nat → Int), kc' ≤ kc + 1 → ks' ≤ ks + 6 → INV p' I' L' → I' 1 = I 1 → m_Wp i_L_law 1497 kc' ks' [(0, .inr (.inr 1)), (1, .inr (.inr 2)), (2, .inr (.inr 98)), (3, .inr (.inr 143)), (4, .inl x4)] [] (mem Ls p' I' L') Q) :
    m_Wp i_L_law 934 kc ks [(0, .inr (.inr 1)), (1, .inr (.inr 2)), (2, .inr (.inr 98)), (3, .inr (.inr 143)), (4, .inl x4)] [] (mem Ls p I L) Q := by
  refine LW_934 (RR := R0 p) ?_
  refine m_Call.mono (call_shape (by decide +kernel) (call_keep (M := mem Ls p I L) rfl (pair_latest hI))) (fun v M1 h => ?_)
  obtain ⟨⟨x, rfl⟩, hk, h⟩ := h
  obtain ⟨n1, sh1, R1, I1, L1⟩ := M1
  have h1 : n1 = 144 := hk.1
  have h2 : sh1 = sh0 Ls := hk.2.1
  have h3 : I1 1 = I 1 := hk.2.2
  subst h1
  subst h2
  refine LW_938 ?_
  refine m_Call.mono (call_shape (by decide +kernel) (call_keep (M := (144, sh0 Ls, R1, I1, L1)) rfl h)) (fun w M2 h' => ?_)
  obtain ⟨⟨y, rfl⟩, hk2, hv, p', I', L', rfl, hI'⟩ := h'
  cases hv
  exact LW_942 (RR := R0 p') ⟨fun _ => next kc ks p' I' L' (by omega) (by omega) hI' (hk2.2.2.trans h3), fun z => absurd rfl z⟩
theorem LC_23 (hI : INV p I L) (hb : ∀ j : Int, 0 ≤ j → j ≤ 5 → 0 ≤ wr (x4 + j) ∧ wr (x4 + j) < (Ls : Nat)) (hw : ∀ j, wr (I 1 j) = I 1 j) (hkc : kc + 1 ≤ 1168) (hks : ks + 6 ≤ 13168)
    (next : ∀ (kc' ks' p' : Nat) (I' L' : Nat → Nat → Int), kc' ≤ kc + 1 → ks' ≤ ks + 6 → INV p' I' L' → I' 1 = I 1 → m_Wp i_L_law 1497 kc' ks' [(0, .inr (.inr 1)), (1, .inr (.inr 2)), (2, .inr (.inr 98)), (3, .inr (.inr 143)), (4, .inl x4)] [] (mem Ls p' I' L') Q) :
    m_Wp i_L_law 947 kc ks [(0, .inr (.inr 1)), (1, .inr (.inr 2)), (2, .inr (.inr 98)), (3, .inr (.inr 143)), (4, .inl x4)] [] (mem Ls p I L) Q := by
  refine LW_947 (RR := R0 p) ⟨hb 1 (by decide) (by decide), hb 2 (by decide) (by decide), ?_⟩
  refine m_Call.mono (call_shape (by decide +kernel) (call_keep (M := mem Ls p I L) rfl (pair_rests hI))) (fun v M1 h => ?_)
  obtain ⟨⟨x, rfl⟩, hk, h⟩ := h
  obtain ⟨n1, sh1, R1, I1, L1⟩ := M1
  have h1 : n1 = 144 := hk.1
  have h2 : sh1 = sh0 Ls := hk.2.1
  have h3 : I1 1 = I 1 := hk.2.2
  subst h1
  subst h2
  refine LW_963 ⟨hb 1 (by decide) (by decide), hb 2 (by decide) (by decide), ?_⟩
  rw [h3]
  refine m_Call.mono (call_shape (by decide +kernel) (call_keep (M := (144, sh0 Ls, R1, I1, L1)) rfl h)) (fun w M2 h' => ?_)
  obtain ⟨⟨y, rfl⟩, hk2, hv, p', I', L', rfl, hI'⟩ := h'
  cases hv
  exact LW_979 (RR := R0 p') ⟨fun _ => next kc ks p' I' L' (by omega) (by omega) hI' (hk2.2.2.trans h3), fun z => absurd rfl z⟩
theorem LC_24 (hI : INV p I L) (hb : ∀ j : Int, 0 ≤ j → j ≤ 5 → 0 ≤ wr (x4 + j) ∧ wr (x4 + j) < (Ls : Nat)) (hw : ∀ j, wr (I 1 j) = I 1 j) (hkc : kc + 1 ≤ 1168) (hks : ks + 6 ≤ 13168)
    (next : ∀ (kc' ks' p' : Nat) (I' L' : Nat → Nat → Int), kc' ≤ kc + 1 → ks' ≤ ks + 6 → INV p' I' L' → I' 1 = I 1 → m_Wp i_L_law 1497 kc' ks' [(0, .inr (.inr 1)), (1, .inr (.inr 2)), (2, .inr (.inr 98)), (3, .inr (.inr 143)), (4, .inl x4)] [] (mem Ls p' I' L') Q) :
    m_Wp i_L_law 984 kc ks [(0, .inr (.inr 1)), (1, .inr (.inr 2)), (2, .inr (.inr 98)), (3, .inr (.inr 143)), (4, .inl x4)] [] (mem Ls p I L) Q := by
  refine LW_984 (RR := R0 p) ⟨hb 1 (by decide) (by decide), hb 2 (by decide) (by decide), hb 3 (by decide) (by decide), ?_⟩
  refine m_Call.mono (call_shape (by decide +kernel) (call_keep (M := mem Ls p I L) rfl (pair_rest hI))) (fun v M1 h => ?_)
  obtain ⟨⟨x, rfl⟩, hk, h⟩ := h
  obtain ⟨n1, sh1, R1, I1, L1⟩ := M1
  have h1 : n1 = 144 := hk.1
  have h2 : sh1 = sh0 Ls := hk.2.1
  have h3 : I1 1 = I 1 := hk.2.2
  subst h1
  subst h2
  refine LW_1006 ⟨hb 1 (by decide) (by decide), hb 2 (by decide) (by decide), hb 3 (by decide) (by decide), ?_⟩
  rw [h3]
  refine m_Call.mono (call_shape (by decide +kernel) (call_keep (M := (144, sh0 Ls, R1, I1, L1)) rfl h)) (fun w M2 h' => ?_)
  obtain ⟨⟨y, rfl⟩, hk2, hv, p', I', L', rfl, hI'⟩ := h'
  cases hv
  exact LW_1028 (RR := R0 p') ⟨fun _ => next kc ks p' I' L' (by omega) (by omega) hI' (hk2.2.2.trans h3), fun z => absurd rfl z⟩
theorem LC_25 (hI : INV p I L) (hb : ∀ j : Int, 0 ≤ j → j ≤ 5 → 0 ≤ wr (x4 + j) ∧ wr (x4 + j) < (Ls : Nat)) (hw : ∀ j, wr (I 1 j) = I 1 j) (hkc : kc + 1 ≤ 1168) (hks : ks + 6 ≤ 13168)
    (next : ∀ (kc' ks' p' : Nat) (I' L' : Nat → Nat → Int), kc' ≤ kc + 1 → ks' ≤ ks + 6 → INV p' I' L' → I' 1 = I 1 → m_Wp i_L_law 1497 kc' ks' [(0, .inr (.inr 1)), (1, .inr (.inr 2)), (2, .inr (.inr 98)), (3, .inr (.inr 143)), (4, .inl x4)] [] (mem Ls p' I' L') Q) :
    m_Wp i_L_law 1033 kc ks [(0, .inr (.inr 1)), (1, .inr (.inr 2)), (2, .inr (.inr 98)), (3, .inr (.inr 143)), (4, .inl x4)] [] (mem Ls p I L) Q := by
  refine LW_1033 (RR := R0 p) ⟨hb 1 (by decide) (by decide), hb 2 (by decide) (by decide), ?_⟩
  refine m_Call.mono (call_shape (by decide +kernel) (call_keep (M := mem Ls p I L) rfl (pair_apart hI))) (fun v M1 h => ?_)
  obtain ⟨⟨x, rfl⟩, hk, h⟩ := h
  obtain ⟨n1, sh1, R1, I1, L1⟩ := M1
  have h1 : n1 = 144 := hk.1
  have h2 : sh1 = sh0 Ls := hk.2.1
  have h3 : I1 1 = I 1 := hk.2.2
  subst h1
  subst h2
  refine LW_1049 ⟨hb 1 (by decide) (by decide), hb 2 (by decide) (by decide), ?_⟩
  rw [h3]
  refine m_Call.mono (call_shape (by decide +kernel) (call_keep (M := (144, sh0 Ls, R1, I1, L1)) rfl h)) (fun w M2 h' => ?_)
  obtain ⟨⟨y, rfl⟩, hk2, hv, p', I', L', rfl, hI'⟩ := h'
  cases hv
  exact LW_1065 (RR := R0 p') ⟨fun _ => next kc ks p' I' L' (by omega) (by omega) hI' (hk2.2.2.trans h3), fun z => absurd rfl z⟩
theorem LC_26 (hI : INV p I L) (hb : ∀ j : Int, 0 ≤ j → j ≤ 5 → 0 ≤ wr (x4 + j) ∧ wr (x4 + j) < (Ls : Nat)) (hw : ∀ j, wr (I 1 j) = I 1 j) (hkc : kc + 1 ≤ 1168) (hks : ks + 6 ≤ 13168)
    (next : ∀ (kc' ks' p' : Nat) (I' L' : Nat → Nat → Int), kc' ≤ kc + 1 → ks' ≤ ks + 6 → INV p' I' L' → I' 1 = I 1 → m_Wp i_L_law 1497 kc' ks' [(0, .inr (.inr 1)), (1, .inr (.inr 2)), (2, .inr (.inr 98)), (3, .inr (.inr 143)), (4, .inl x4)] [] (mem Ls p' I' L') Q) :
    m_Wp i_L_law 1070 kc ks [(0, .inr (.inr 1)), (1, .inr (.inr 2)), (2, .inr (.inr 98)), (3, .inr (.inr 143)), (4, .inl x4)] [] (mem Ls p I L) Q := by
  refine LW_1070 (RR := R0 p) ?_
  refine m_Call.mono (call_shape (by decide +kernel) (call_keep (M := mem Ls p I L) rfl (pair_quiet hI))) (fun v M1 h => ?_)
  obtain ⟨⟨x, rfl⟩, hk, h⟩ := h
  obtain ⟨n1, sh1, R1, I1, L1⟩ := M1
  have h1 : n1 = 144 := hk.1
  have h2 : sh1 = sh0 Ls := hk.2.1
  have h3 : I1 1 = I 1 := hk.2.2
  subst h1
  subst h2
  refine LW_1074 ?_
  refine m_Call.mono (call_shape (by decide +kernel) (call_keep (M := (144, sh0 Ls, R1, I1, L1)) rfl h)) (fun w M2 h' => ?_)
  obtain ⟨⟨y, rfl⟩, hk2, hv, p', I', L', rfl, hI'⟩ := h'
  cases hv
  exact LW_1078 (RR := R0 p') ⟨fun _ => next kc ks p' I' L' (by omega) (by omega) hI' (hk2.2.2.trans h3), fun z => absurd rfl z⟩
theorem LC_27 (hI : INV p I L) (hb : ∀ j : Int, 0 ≤ j → j ≤ 5 → 0 ≤ wr (x4 + j) ∧ wr (x4 + j) < (Ls : Nat)) (hw : ∀ j, wr (I 1 j) = I 1 j) (hkc : kc + 1 ≤ 1168) (hks : ks + 6 ≤ 13168)
    (next : ∀ (kc' ks' p' : Nat) (I' L' : Nat → Nat → Int), kc' ≤ kc + 1 → ks' ≤ ks + 6 → INV p' I' L' → I' 1 = I 1 → m_Wp i_L_law 1497 kc' ks' [(0, .inr (.inr 1)), (1, .inr (.inr 2)), (2, .inr (.inr 98)), (3, .inr (.inr 143)), (4, .inl x4)] [] (mem Ls p' I' L') Q) :
    m_Wp i_L_law 1083 kc ks [(0, .inr (.inr 1)), (1, .inr (.inr 2)), (2, .inr (.inr 98)), (3, .inr (.inr 143)), (4, .inl x4)] [] (mem Ls p I L) Q := by
  refine LW_1083 (RR := R0 p) ⟨hb 1 (by decide) (by decide), ?_⟩
  refine m_Call.mono (call_shape (by decide +kernel) (call_keep (M := mem Ls p I L) rfl (pair_firstMissed hI))) (fun v M1 h => ?_)
  obtain ⟨⟨x, rfl⟩, hk, h⟩ := h
  obtain ⟨n1, sh1, R1, I1, L1⟩ := M1
  have h1 : n1 = 144 := hk.1
  have h2 : sh1 = sh0 Ls := hk.2.1
  have h3 : I1 1 = I 1 := hk.2.2
  subst h1
  subst h2
  refine LW_1093 ⟨hb 1 (by decide) (by decide), ?_⟩
  rw [h3]
  refine m_Call.mono (call_shape (by decide +kernel) (call_keep (M := (144, sh0 Ls, R1, I1, L1)) rfl h)) (fun w M2 h' => ?_)
  obtain ⟨⟨y, rfl⟩, hk2, hv, p', I', L', rfl, hI'⟩ := h'
  cases hv
  exact LW_1103 (RR := R0 p') ⟨fun _ => next kc ks p' I' L' (by omega) (by omega) hI' (hk2.2.2.trans h3), fun z => absurd rfl z⟩
theorem LC_28 (hI : INV p I L) (hb : ∀ j : Int, 0 ≤ j → j ≤ 5 → 0 ≤ wr (x4 + j) ∧ wr (x4 + j) < (Ls : Nat)) (hw : ∀ j, wr (I 1 j) = I 1 j) (hkc : kc + 1 ≤ 1168) (hks : ks + 6 ≤ 13168)
    (next : ∀ (kc' ks' p' : Nat) (I' L' : Nat → Nat → Int), kc' ≤ kc + 1 → ks' ≤ ks + 6 → INV p' I' L' → I' 1 = I 1 → m_Wp i_L_law 1497 kc' ks' [(0, .inr (.inr 1)), (1, .inr (.inr 2)), (2, .inr (.inr 98)), (3, .inr (.inr 143)), (4, .inl x4)] [] (mem Ls p' I' L') Q) :
    m_Wp i_L_law 1108 kc ks [(0, .inr (.inr 1)), (1, .inr (.inr 2)), (2, .inr (.inr 98)), (3, .inr (.inr 143)), (4, .inl x4)] [] (mem Ls p I L) Q := by
  refine LW_1108 (RR := R0 p) ⟨hb 1 (by decide) (by decide), ?_⟩
  refine m_Call.mono (call_shape (by decide +kernel) (call_keep (M := mem Ls p I L) rfl (pair_longest hI))) (fun v M1 h => ?_)
  obtain ⟨⟨x, rfl⟩, hk, h⟩ := h
  obtain ⟨n1, sh1, R1, I1, L1⟩ := M1
  have h1 : n1 = 144 := hk.1
  have h2 : sh1 = sh0 Ls := hk.2.1
  have h3 : I1 1 = I 1 := hk.2.2
  subst h1
  subst h2
  refine LW_1118 ⟨hb 1 (by decide) (by decide), ?_⟩
  rw [h3]
  refine m_Call.mono (call_shape (by decide +kernel) (call_keep (M := (144, sh0 Ls, R1, I1, L1)) rfl h)) (fun w M2 h' => ?_)
  obtain ⟨⟨y, rfl⟩, hk2, hv, p', I', L', rfl, hI'⟩ := h'
  cases hv
  exact LW_1128 (RR := R0 p') ⟨fun _ => next kc ks p' I' L' (by omega) (by omega) hI' (hk2.2.2.trans h3), fun z => absurd rfl z⟩
theorem LC_29 (hI : INV p I L) (hb : ∀ j : Int, 0 ≤ j → j ≤ 5 → 0 ≤ wr (x4 + j) ∧ wr (x4 + j) < (Ls : Nat)) (hw : ∀ j, wr (I 1 j) = I 1 j) (hkc : kc + 1 ≤ 1168) (hks : ks + 6 ≤ 13168)
    (next : ∀ (kc' ks' p' : Nat) (I' L' : Nat → Nat → Int), kc' ≤ kc + 1 → ks' ≤ ks + 6 → INV p' I' L' → I' 1 = I 1 → m_Wp i_L_law 1497 kc' ks' [(0, .inr (.inr 1)), (1, .inr (.inr 2)), (2, .inr (.inr 98)), (3, .inr (.inr 143)), (4, .inl x4)] [] (mem Ls p' I' L') Q) :
    m_Wp i_L_law 1133 kc ks [(0, .inr (.inr 1)), (1, .inr (.inr 2)), (2, .inr (.inr 98)), (3, .inr (.inr 143)), (4, .inl x4)] [] (mem Ls p I L) Q := by
  refine LW_1133 (RR := R0 p) ⟨hb 1 (by decide) (by decide), ?_⟩
  refine m_Call.mono (call_shape (by decide +kernel) (call_keep (M := mem Ls p I L) rfl (pair_queue hI))) (fun v M1 h => ?_)
  obtain ⟨⟨x, rfl⟩, hk, h⟩ := h
  obtain ⟨n1, sh1, R1, I1, L1⟩ := M1
  have h1 : n1 = 144 := hk.1
  have h2 : sh1 = sh0 Ls := hk.2.1
  have h3 : I1 1 = I 1 := hk.2.2
  subst h1
  subst h2
  refine LW_1143 ⟨hb 1 (by decide) (by decide), ?_⟩
  rw [h3]
  refine m_Call.mono (call_shape (by decide +kernel) (call_keep (M := (144, sh0 Ls, R1, I1, L1)) rfl h)) (fun w M2 h' => ?_)
  obtain ⟨⟨y, rfl⟩, hk2, hv, p', I', L', rfl, hI'⟩ := h'
  cases hv
  exact LW_1153 (RR := R0 p') ⟨fun _ => next kc ks p' I' L' (by omega) (by omega) hI' (hk2.2.2.trans h3), fun z => absurd rfl z⟩
theorem LC_30 (hI : INV p I L) (hb : ∀ j : Int, 0 ≤ j → j ≤ 5 → 0 ≤ wr (x4 + j) ∧ wr (x4 + j) < (Ls : Nat)) (hw : ∀ j, wr (I 1 j) = I 1 j) (hkc : kc + 1 ≤ 1168) (hks : ks + 6 ≤ 13168)
    (next : ∀ (kc' ks' p' : Nat) (I' L' : Nat → Nat → Int), kc' ≤ kc + 1 → ks' ≤ ks + 6 → INV p' I' L' → I' 1 = I 1 → m_Wp i_L_law 1497 kc' ks' [(0, .inr (.inr 1)), (1, .inr (.inr 2)), (2, .inr (.inr 98)), (3, .inr (.inr 143)), (4, .inl x4)] [] (mem Ls p' I' L') Q) :
    m_Wp i_L_law 1158 kc ks [(0, .inr (.inr 1)), (1, .inr (.inr 2)), (2, .inr (.inr 98)), (3, .inr (.inr 143)), (4, .inl x4)] [] (mem Ls p I L) Q := by
  refine LW_1158 (RR := R0 p) ⟨hb 1 (by decide) (by decide), ?_⟩
  refine m_Call.mono (call_shape (by decide +kernel) (call_keep (M := mem Ls p I L) rfl (pair_there hI))) (fun v M1 h => ?_)
  obtain ⟨⟨x, rfl⟩, hk, h⟩ := h
  obtain ⟨n1, sh1, R1, I1, L1⟩ := M1
  have h1 : n1 = 144 := hk.1
  have h2 : sh1 = sh0 Ls := hk.2.1
  have h3 : I1 1 = I 1 := hk.2.2
  subst h1
  subst h2
  refine LW_1168 ⟨hb 1 (by decide) (by decide), ?_⟩
  rw [h3]
  refine m_Call.mono (call_shape (by decide +kernel) (call_keep (M := (144, sh0 Ls, R1, I1, L1)) rfl h)) (fun w M2 h' => ?_)
  obtain ⟨⟨y, rfl⟩, hk2, hv, p', I', L', rfl, hI'⟩ := h'
  cases hv
  exact LW_1178 (RR := R0 p') ⟨fun _ => next kc ks p' I' L' (by omega) (by omega) hI' (hk2.2.2.trans h3), fun z => absurd rfl z⟩
theorem LC_31 (hI : INV p I L) (hb : ∀ j : Int, 0 ≤ j → j ≤ 5 → 0 ≤ wr (x4 + j) ∧ wr (x4 + j) < (Ls : Nat)) (hw : ∀ j, wr (I 1 j) = I 1 j) (hkc : kc + 1 ≤ 1168) (hks : ks + 6 ≤ 13168)
    (next : ∀ (kc' ks' p' : Nat) (I' L' : Nat → Nat → Int), kc' ≤ kc + 1 → ks' ≤ ks + 6 → INV p' I' L' → I' 1 = I 1 → m_Wp i_L_law 1497 kc' ks' [(0, .inr (.inr 1)), (1, .inr (.inr 2)), (2, .inr (.inr 98)), (3, .inr (.inr 143)), (4, .inl x4)] [] (mem Ls p' I' L') Q) :
    m_Wp i_L_law 1183 kc ks [(0, .inr (.inr 1)), (1, .inr (.inr 2)), (2, .inr (.inr 98)), (3, .inr (.inr 143)), (4, .inl x4)] [] (mem Ls p I L) Q := by
  refine LW_1183 ⟨hb 1 (by decide) (by decide), hb 2 (by decide) (by decide), hb 3 (by decide) (by decide), hb 4 (by decide) (by decide), fun hz => ?_, fun hz => ?_⟩
  · skip
    refine m_Call.mono (call_shape (by decide +kernel) (call_keep (M := mem Ls p I L) rfl (pair_see hI (Or.inl rfl)))) (fun v M1 h => ?_)
    obtain ⟨⟨x, rfl⟩, hk, h⟩ := h
    obtain ⟨n1, sh1, R1, I1, L1⟩ := M1
    have h1 : n1 = 144 := hk.1
    have h2 : sh1 = sh0 Ls := hk.2.1
    have h3 : I1 1 = I 1 := hk.2.2
    subst h1
    subst h2
    refine LW_1219 ⟨hb 1 (by decide) (by decide), hb 2 (by decide) (by decide), hb 3 (by decide) (by decide), hb 4 (by decide) (by decide), ?_⟩
    rw [h3]
    refine ⟨fun _ => ?_, fun z => absurd hz z⟩
    refine m_Call.mono (call_shape (by decide +kernel) (call_keep (M := (144, sh0 Ls, R1, I1, L1)) rfl h)) (fun w M2 h' => ?_)
    obtain ⟨⟨y, rfl⟩, hk2, hv, p', I', L', rfl, hI'⟩ := h'
    cases hv
    exact LW_1255 ⟨fun _ => next kc ks p' I' L' (by omega) (by omega) hI' (hk2.2.2.trans h3), fun z => absurd rfl z⟩
  · skip
    refine m_Call.mono (call_shape (by decide +kernel) (call_keep (M := mem Ls p I L) rfl (pair_see hI (Or.inr rfl)))) (fun v M1 h => ?_)
    obtain ⟨⟨x, rfl⟩, hk, h⟩ := h
    obtain ⟨n1, sh1, R1, I1, L1⟩ := M1
    have h1 : n1 = 144 := hk.1
    have h2 : sh1 = sh0 Ls := hk.2.1
    have h3 : I1 1 = I 1 := hk.2.2
    subst h1
    subst h2
    refine LW_1219 ⟨hb 1 (by decide) (by decide), hb 2 (by decide) (by decide), hb 3 (by decide) (by decide), hb 4 (by decide) (by decide), ?_⟩
    rw [h3]
    refine ⟨fun z => absurd z hz, fun _ => ?_⟩
    refine m_Call.mono (call_shape (by decide +kernel) (call_keep (M := (144, sh0 Ls, R1, I1, L1)) rfl h)) (fun w M2 h' => ?_)
    obtain ⟨⟨y, rfl⟩, hk2, hv, p', I', L', rfl, hI'⟩ := h'
    cases hv
    exact LW_1255 ⟨fun _ => next kc ks p' I' L' (by omega) (by omega) hI' (hk2.2.2.trans h3), fun z => absurd rfl z⟩
theorem LC_32 (hI : INV p I L) (hb : ∀ j : Int, 0 ≤ j → j ≤ 5 → 0 ≤ wr (x4 + j) ∧ wr (x4 + j) < (Ls : Nat)) (hw : ∀ j, wr (I 1 j) = I 1 j) (hkc : kc + 1 ≤ 1168) (hks : ks + 6 ≤ 13168)
    (next : ∀ (kc' ks' p' : Nat) (I' L' : Nat → Nat → Int), kc' ≤ kc + 1 → ks' ≤ ks + 6 → INV p' I' L' → I' 1 = I 1 → m_Wp i_L_law 1497 kc' ks' [(0, .inr (.inr 1)), (1, .inr (.inr 2)), (2, .inr (.inr 98)), (3, .inr (.inr 143)), (4, .inl x4)] [] (mem Ls p' I' L') Q) :
    m_Wp i_L_law 1260 kc ks [(0, .inr (.inr 1)), (1, .inr (.inr 2)), (2, .inr (.inr 98)), (3, .inr (.inr 143)), (4, .inl x4)] [] (mem Ls p I L) Q := by
  refine LW_1260 (RR := R0 p) ⟨hb 1 (by decide) (by decide), ?_⟩
  refine m_Call.mono (call_shape (by decide +kernel) (call_keep (M := mem Ls p I L) rfl (pair_strike hI))) (fun v M1 h => ?_)
  obtain ⟨⟨x, rfl⟩, hk, h⟩ := h
  obtain ⟨n1, sh1, R1, I1, L1⟩ := M1
  have h1 : n1 = 144 := hk.1
  have h2 : sh1 = sh0 Ls := hk.2.1
  have h3 : I1 1 = I 1 := hk.2.2
  subst h1
  subst h2
  refine LW_1270 ⟨hb 1 (by decide) (by decide), ?_⟩
  rw [h3]
  refine m_Call.mono (call_shape (by decide +kernel) (call_keep (M := (144, sh0 Ls, R1, I1, L1)) rfl h)) (fun w M2 h' => ?_)
  obtain ⟨⟨y, rfl⟩, hk2, hv, p', I', L', rfl, hI'⟩ := h'
  cases hv
  exact LW_1280 (RR := R0 p') ⟨fun _ => next kc ks p' I' L' (by omega) (by omega) hI' (hk2.2.2.trans h3), fun z => absurd rfl z⟩
theorem LC_33 (hI : INV p I L) (hb : ∀ j : Int, 0 ≤ j → j ≤ 5 → 0 ≤ wr (x4 + j) ∧ wr (x4 + j) < (Ls : Nat)) (hw : ∀ j, wr (I 1 j) = I 1 j) (hkc : kc + 1 ≤ 1168) (hks : ks + 6 ≤ 13168)
    (next : ∀ (kc' ks' p' : Nat) (I' L' : Nat → Nat → Int), kc' ≤ kc + 1 → ks' ≤ ks + 6 → INV p' I' L' → I' 1 = I 1 → m_Wp i_L_law 1497 kc' ks' [(0, .inr (.inr 1)), (1, .inr (.inr 2)), (2, .inr (.inr 98)), (3, .inr (.inr 143)), (4, .inl x4)] [] (mem Ls p' I' L') Q) :
    m_Wp i_L_law 1285 kc ks [(0, .inr (.inr 1)), (1, .inr (.inr 2)), (2, .inr (.inr 98)), (3, .inr (.inr 143)), (4, .inl x4)] [] (mem Ls p I L) Q := by
  refine LW_1285 (RR := R0 p) ⟨hb 1 (by decide) (by decide), ?_⟩
  refine m_Call.mono (call_shape (by decide +kernel) (call_keep (M := mem Ls p I L) rfl (pair_known hI))) (fun v M1 h => ?_)
  obtain ⟨⟨x, rfl⟩, hk, h⟩ := h
  obtain ⟨n1, sh1, R1, I1, L1⟩ := M1
  have h1 : n1 = 144 := hk.1
  have h2 : sh1 = sh0 Ls := hk.2.1
  have h3 : I1 1 = I 1 := hk.2.2
  subst h1
  subst h2
  refine LW_1295 ⟨hb 1 (by decide) (by decide), ?_⟩
  rw [h3]
  refine m_Call.mono (call_shape (by decide +kernel) (call_keep (M := (144, sh0 Ls, R1, I1, L1)) rfl h)) (fun w M2 h' => ?_)
  obtain ⟨⟨y, rfl⟩, hk2, hv, p', I', L', rfl, hI'⟩ := h'
  cases hv
  exact LW_1305 (RR := R0 p') ⟨fun _ => next kc ks p' I' L' (by omega) (by omega) hI' (hk2.2.2.trans h3), fun z => absurd rfl z⟩
theorem LC_34 (hI : INV p I L) (hb : ∀ j : Int, 0 ≤ j → j ≤ 5 → 0 ≤ wr (x4 + j) ∧ wr (x4 + j) < (Ls : Nat)) (hw : ∀ j, wr (I 1 j) = I 1 j) (hkc : kc + 1 ≤ 1168) (hks : ks + 6 ≤ 13168)
    (next : ∀ (kc' ks' p' : Nat) (I' L' : Nat → Nat → Int), kc' ≤ kc + 1 → ks' ≤ ks + 6 → INV p' I' L' → I' 1 = I 1 → m_Wp i_L_law 1497 kc' ks' [(0, .inr (.inr 1)), (1, .inr (.inr 2)), (2, .inr (.inr 98)), (3, .inr (.inr 143)), (4, .inl x4)] [] (mem Ls p' I' L') Q) :
    m_Wp i_L_law 1310 kc ks [(0, .inr (.inr 1)), (1, .inr (.inr 2)), (2, .inr (.inr 98)), (3, .inr (.inr 143)), (4, .inl x4)] [] (mem Ls p I L) Q := by
  refine LW_1310 (RR := R0 p) ⟨hb 1 (by decide) (by decide), ?_⟩
  refine m_Call.mono (call_shape (by decide +kernel) (call_keep (M := mem Ls p I L) rfl (pair_rates hI))) (fun v M1 h => ?_)
  obtain ⟨⟨x, rfl⟩, hk, h⟩ := h
  obtain ⟨n1, sh1, R1, I1, L1⟩ := M1
  have h1 : n1 = 144 := hk.1
  have h2 : sh1 = sh0 Ls := hk.2.1
  have h3 : I1 1 = I 1 := hk.2.2
  subst h1
  subst h2
  refine LW_1320 ⟨hb 1 (by decide) (by decide), ?_⟩
  rw [h3]
  refine m_Call.mono (call_shape (by decide +kernel) (call_keep (M := (144, sh0 Ls, R1, I1, L1)) rfl h)) (fun w M2 h' => ?_)
  obtain ⟨⟨y, rfl⟩, hk2, hv, p', I', L', rfl, hI'⟩ := h'
  cases hv
  exact LW_1330 (RR := R0 p') ⟨fun _ => next kc ks p' I' L' (by omega) (by omega) hI' (hk2.2.2.trans h3), fun z => absurd rfl z⟩
theorem LC_35 (hI : INV p I L) (hb : ∀ j : Int, 0 ≤ j → j ≤ 5 → 0 ≤ wr (x4 + j) ∧ wr (x4 + j) < (Ls : Nat)) (hw : ∀ j, wr (I 1 j) = I 1 j) (hkc : kc + 1 ≤ 1168) (hks : ks + 6 ≤ 13168)
    (next : ∀ (kc' ks' p' : Nat) (I' L' : Nat → Nat → Int), kc' ≤ kc + 1 → ks' ≤ ks + 6 → INV p' I' L' → I' 1 = I 1 → m_Wp i_L_law 1497 kc' ks' [(0, .inr (.inr 1)), (1, .inr (.inr 2)), (2, .inr (.inr 98)), (3, .inr (.inr 143)), (4, .inl x4)] [] (mem Ls p' I' L') Q) :
    m_Wp i_L_law 1335 kc ks [(0, .inr (.inr 1)), (1, .inr (.inr 2)), (2, .inr (.inr 98)), (3, .inr (.inr 143)), (4, .inl x4)] [] (mem Ls p I L) Q := by
  refine LW_1335 (RR := R0 p) ⟨hb 1 (by decide) (by decide), hb 2 (by decide) (by decide), hb 3 (by decide) (by decide), ?_⟩
  refine m_Call.mono (call_shape (by decide +kernel) (call_keep (M := mem Ls p I L) rfl (pair_chance hI (hw _)))) (fun v M1 h => ?_)
  obtain ⟨⟨x, rfl⟩, hk, h⟩ := h
  obtain ⟨n1, sh1, R1, I1, L1⟩ := M1
  have h1 : n1 = 144 := hk.1
  have h2 : sh1 = sh0 Ls := hk.2.1
  have h3 : I1 1 = I 1 := hk.2.2
  subst h1
  subst h2
  refine LW_1357 ⟨hb 1 (by decide) (by decide), hb 2 (by decide) (by decide), hb 3 (by decide) (by decide), ?_⟩
  rw [h3]
  refine m_Call.mono (call_shape (by decide +kernel) (call_keep (M := (144, sh0 Ls, R1, I1, L1)) rfl h)) (fun w M2 h' => ?_)
  obtain ⟨⟨y, rfl⟩, hk2, hv, p', I', L', rfl, hI'⟩ := h'
  cases hv
  exact LW_1379 (RR := R0 p') ⟨fun _ => next kc ks p' I' L' (by omega) (by omega) hI' (hk2.2.2.trans h3), fun z => absurd rfl z⟩
theorem LC_36 (hI : INV p I L) (hb : ∀ j : Int, 0 ≤ j → j ≤ 5 → 0 ≤ wr (x4 + j) ∧ wr (x4 + j) < (Ls : Nat)) (hw : ∀ j, wr (I 1 j) = I 1 j) (hkc : kc + 1 ≤ 1168) (hks : ks + 6 ≤ 13168)
    (next : ∀ (kc' ks' p' : Nat) (I' L' : Nat → Nat → Int), kc' ≤ kc + 1 → ks' ≤ ks + 6 → INV p' I' L' → I' 1 = I 1 → m_Wp i_L_law 1497 kc' ks' [(0, .inr (.inr 1)), (1, .inr (.inr 2)), (2, .inr (.inr 98)), (3, .inr (.inr 143)), (4, .inl x4)] [] (mem Ls p' I' L') Q) :
    m_Wp i_L_law 1384 kc ks [(0, .inr (.inr 1)), (1, .inr (.inr 2)), (2, .inr (.inr 98)), (3, .inr (.inr 143)), (4, .inl x4)] [] (mem Ls p I L) Q := by
  refine LW_1384 (RR := R0 p) ⟨hb 1 (by decide) (by decide), hb 2 (by decide) (by decide), hb 3 (by decide) (by decide), ?_⟩
  refine m_Call.mono (call_shape (by decide +kernel) (call_keep (M := mem Ls p I L) rfl (pair_tried hI))) (fun v M1 h => ?_)
  obtain ⟨⟨x, rfl⟩, hk, h⟩ := h
  obtain ⟨n1, sh1, R1, I1, L1⟩ := M1
  have h1 : n1 = 144 := hk.1
  have h2 : sh1 = sh0 Ls := hk.2.1
  have h3 : I1 1 = I 1 := hk.2.2
  subst h1
  subst h2
  refine LW_1406 ⟨hb 1 (by decide) (by decide), hb 2 (by decide) (by decide), hb 3 (by decide) (by decide), ?_⟩
  rw [h3]
  refine m_Call.mono (call_shape (by decide +kernel) (call_keep (M := (144, sh0 Ls, R1, I1, L1)) rfl h)) (fun w M2 h' => ?_)
  obtain ⟨⟨y, rfl⟩, hk2, hv, p', I', L', rfl, hI'⟩ := h'
  cases hv
  exact LW_1428 (RR := R0 p') ⟨fun _ => next kc ks p' I' L' (by omega) (by omega) hI' (hk2.2.2.trans h3), fun z => absurd rfl z⟩
theorem LC_37 (hI : INV p I L) (hb : ∀ j : Int, 0 ≤ j → j ≤ 5 → 0 ≤ wr (x4 + j) ∧ wr (x4 + j) < (Ls : Nat)) (hw : ∀ j, wr (I 1 j) = I 1 j) (hkc : kc + 1 ≤ 1168) (hks : ks + 6 ≤ 13168)
    (next : ∀ (kc' ks' p' : Nat) (I' L' : Nat → Nat → Int), kc' ≤ kc + 1 → ks' ≤ ks + 6 → INV p' I' L' → I' 1 = I 1 → m_Wp i_L_law 1497 kc' ks' [(0, .inr (.inr 1)), (1, .inr (.inr 2)), (2, .inr (.inr 98)), (3, .inr (.inr 143)), (4, .inl x4)] [] (mem Ls p' I' L') Q) :
    m_Wp i_L_law 1433 kc ks [(0, .inr (.inr 1)), (1, .inr (.inr 2)), (2, .inr (.inr 98)), (3, .inr (.inr 143)), (4, .inl x4)] [] (mem Ls p I L) Q := by
  refine LW_1433 (RR := R0 p) ?_
  refine m_Call.mono (call_shape (by decide +kernel) (call_keep (M := mem Ls p I L) rfl (pair_undo hI))) (fun v M1 h => ?_)
  obtain ⟨⟨x, rfl⟩, hk, h⟩ := h
  obtain ⟨n1, sh1, R1, I1, L1⟩ := M1
  have h1 : n1 = 144 := hk.1
  have h2 : sh1 = sh0 Ls := hk.2.1
  have h3 : I1 1 = I 1 := hk.2.2
  subst h1
  subst h2
  refine LW_1437 ?_
  refine m_Call.mono (call_shape (by decide +kernel) (call_keep (M := (144, sh0 Ls, R1, I1, L1)) rfl h)) (fun w M2 h' => ?_)
  obtain ⟨⟨y, rfl⟩, hk2, hv, p', I', L', rfl, hI'⟩ := h'
  cases hv
  exact LW_1441 (RR := R0 p') ⟨fun _ => next kc ks p' I' L' (by omega) (by omega) hI' (hk2.2.2.trans h3), fun z => absurd rfl z⟩
theorem LC_38 (hI : INV p I L) (hb : ∀ j : Int, 0 ≤ j → j ≤ 5 → 0 ≤ wr (x4 + j) ∧ wr (x4 + j) < (Ls : Nat)) (hw : ∀ j, wr (I 1 j) = I 1 j) (hkc : kc + 1 ≤ 1168) (hks : ks + 6 ≤ 13168)
    (next : ∀ (kc' ks' p' : Nat) (I' L' : Nat → Nat → Int), kc' ≤ kc + 1 → ks' ≤ ks + 6 → INV p' I' L' → I' 1 = I 1 → m_Wp i_L_law 1497 kc' ks' [(0, .inr (.inr 1)), (1, .inr (.inr 2)), (2, .inr (.inr 98)), (3, .inr (.inr 143)), (4, .inl x4)] [] (mem Ls p' I' L') Q) :
    m_Wp i_L_law 1446 kc ks [(0, .inr (.inr 1)), (1, .inr (.inr 2)), (2, .inr (.inr 98)), (3, .inr (.inr 143)), (4, .inl x4)] [] (mem Ls p I L) Q := by
  refine LW_1446 (RR := R0 p) ?_
  refine m_Call.mono (call_shape (by decide +kernel) (call_keep (M := mem Ls p I L) rfl (pair_keep hI))) (fun v M1 h => ?_)
  obtain ⟨⟨x, rfl⟩, hk, h⟩ := h
  obtain ⟨n1, sh1, R1, I1, L1⟩ := M1
  have h1 : n1 = 144 := hk.1
  have h2 : sh1 = sh0 Ls := hk.2.1
  have h3 : I1 1 = I 1 := hk.2.2
  subst h1
  subst h2
  refine LW_1450 ?_
  refine m_Call.mono (call_shape (by decide +kernel) (call_keep (M := (144, sh0 Ls, R1, I1, L1)) rfl h)) (fun w M2 h' => ?_)
  obtain ⟨⟨y, rfl⟩, hk2, hv, p', I', L', rfl, hI'⟩ := h'
  cases hv
  exact LW_1454 (RR := R0 p') ⟨fun _ => next kc ks p' I' L' (by omega) (by omega) hI' (hk2.2.2.trans h3), fun z => absurd rfl z⟩
theorem LC_39 (hI : INV p I L) (hb : ∀ j : Int, 0 ≤ j → j ≤ 5 → 0 ≤ wr (x4 + j) ∧ wr (x4 + j) < (Ls : Nat)) (hw : ∀ j, wr (I 1 j) = I 1 j) (hkc : kc + 1 ≤ 1168) (hks : ks + 6 ≤ 13168)
    (next : ∀ (kc' ks' p' : Nat) (I' L' : Nat → Nat → Int), kc' ≤ kc + 1 → ks' ≤ ks + 6 → INV p' I' L' → I' 1 = I 1 → m_Wp i_L_law 1497 kc' ks' [(0, .inr (.inr 1)), (1, .inr (.inr 2)), (2, .inr (.inr 98)), (3, .inr (.inr 143)), (4, .inl x4)] [] (mem Ls p' I' L') Q) :
    m_Wp i_L_law 1459 kc ks [(0, .inr (.inr 1)), (1, .inr (.inr 2)), (2, .inr (.inr 98)), (3, .inr (.inr 143)), (4, .inl x4)] [] (mem Ls p I L) Q := by
  refine LW_1459 (RR := R0 p) ?_
  refine m_Call.mono (call_shape (by decide +kernel) (call_keep (M := mem Ls p I L) rfl (pair_back hI))) (fun v M1 h => ?_)
  obtain ⟨⟨x, rfl⟩, hk, h⟩ := h
  obtain ⟨n1, sh1, R1, I1, L1⟩ := M1
  have h1 : n1 = 144 := hk.1
  have h2 : sh1 = sh0 Ls := hk.2.1
  have h3 : I1 1 = I 1 := hk.2.2
  subst h1
  subst h2
  refine LW_1463 ?_
  refine m_Call.mono (call_shape (by decide +kernel) (call_keep (M := (144, sh0 Ls, R1, I1, L1)) rfl h)) (fun w M2 h' => ?_)
  obtain ⟨⟨y, rfl⟩, hk2, hv, p', I', L', rfl, hI'⟩ := h'
  cases hv
  exact LW_1467 (RR := R0 p') ⟨fun _ => next kc ks p' I' L' (by omega) (by omega) hI' (hk2.2.2.trans h3), fun z => absurd rfl z⟩
theorem LC_40 (hI : INV p I L) (hb : ∀ j : Int, 0 ≤ j → j ≤ 5 → 0 ≤ wr (x4 + j) ∧ wr (x4 + j) < (Ls : Nat)) (hw : ∀ j, wr (I 1 j) = I 1 j) (hkc : kc + 1 ≤ 1168) (hks : ks + 6 ≤ 13168)
    (next : ∀ (kc' ks' p' : Nat) (I' L' : Nat → Nat → Int), kc' ≤ kc + 1 → ks' ≤ ks + 6 → INV p' I' L' → I' 1 = I 1 → m_Wp i_L_law 1497 kc' ks' [(0, .inr (.inr 1)), (1, .inr (.inr 2)), (2, .inr (.inr 98)), (3, .inr (.inr 143)), (4, .inl x4)] [] (mem Ls p' I' L') Q) :
    m_Wp i_L_law 1472 kc ks [(0, .inr (.inr 1)), (1, .inr (.inr 2)), (2, .inr (.inr 98)), (3, .inr (.inr 143)), (4, .inl x4)] [] (mem Ls p I L) Q := by
  refine LW_1472 (RR := R0 p) ⟨hb 1 (by decide) (by decide), ?_⟩
  refine m_Call.mono (call_shape (by decide +kernel) (call_keep (M := mem Ls p I L) rfl (pair_count hI))) (fun v M1 h => ?_)
  obtain ⟨⟨x, rfl⟩, hk, h⟩ := h
  obtain ⟨n1, sh1, R1, I1, L1⟩ := M1
  have h1 : n1 = 144 := hk.1
  have h2 : sh1 = sh0 Ls := hk.2.1
  have h3 : I1 1 = I 1 := hk.2.2
  subst h1
  subst h2
  refine LW_1482 ⟨hb 1 (by decide) (by decide), ?_⟩
  rw [h3]
  refine m_Call.mono (call_shape (by decide +kernel) (call_keep (M := (144, sh0 Ls, R1, I1, L1)) rfl h)) (fun w M2 h' => ?_)
  obtain ⟨⟨y, rfl⟩, hk2, hv, p', I', L', rfl, hI'⟩ := h'
  cases hv
  exact LW_1492 (RR := R0 p') ⟨fun _ => next kc ks p' I' L' (by omega) (by omega) hI' (hk2.2.2.trans h3), fun z => absurd rfl z⟩
theorem man_eq {ex : mF → mO} {a b : Int} (hp : p = 68 ∨ p = 9) : m_man ex [.inr (.inr 2), .inl a, .inl b, .inr (.inr 143)] (mem Ls p I L) = (bif decide (0 ≤ a ∧ a < I p 13) then (bif decide (0 ≤ b ∧ b ≤ 7) then (ex (mcd mMan, 0, 0, m_ent 0 [.inr (.inr 2), .inl a, .inl b], [], mem Ls p I L)).bind (fun q => match q with
      | ([.inl v], (n, sh, R, I, L)) => some ([.inl 0], (n, sh, R, I, mup L 143 0 v))
      | _ => none) else some ([.inl 2], mem Ls p I L)) else some ([.inl 1], mem Ls p I L)) := by
  rcases hp with rfl | rfl <;> rfl
theorem keeps_man {v w : Int} (hI : INV p I L) : INV p (mup I 98 2 v) (mup L 143 0 w) := by
  refine INV_keeps hI ⟨fun a ha => ?_, fun k h1 h2 h3 => ?_, fun a h1 h2 => ?_, fun r k h1 h2 => ?_, fun a h1 h2 => ?_, ?_, ?_⟩
  · unfold mup; rw [if_neg (by omega)]
  · unfold mup; rw [if_pos rfl]; show (if k = 2 then v else I 98 k) = _; rw [if_neg h1]
  · unfold mup; rw [if_neg (by omega)]
  · unfold mup; rw [if_neg (by omega)]
  · unfold mup; rw [if_neg (by omega)]
  · unfold mup; rw [if_neg (by omega)]
  · unfold mup; rw [if_neg (by omega)]
theorem keeps_man0 {v : Int} (hI : INV p I L) : INV p (mup I 98 2 v) L := by
  refine INV_keeps hI ⟨fun a ha => ?_, fun k h1 h2 h3 => ?_, fun a h1 h2 => ?_, fun r k h1 h2 => ?_, fun a h1 h2 => ?_, rfl, rfl⟩
  · unfold mup; rw [if_neg (by omega)]
  · unfold mup; rw [if_pos rfl]; show (if k = 2 then v else I 98 k) = _; rw [if_neg h1]
  · unfold mup; rw [if_neg (by omega)]
  · unfold mup; rw [if_neg (by omega)]
  · unfold mup; rw [if_neg (by omega)]
theorem row_man {v : Int} : mup I 98 2 v 1 = I 1 := by unfold mup; rw [if_neg (by omega)]
theorem at_man {v : Int} : mup I 98 2 v 98 2 = v := by unfold mup; rw [if_pos rfl]; show (if 2 = 2 then v else _) = v; rw [if_pos rfl]
theorem LC_4 (hI : INV p I L) (hb : ∀ j : Int, 0 ≤ j → j ≤ 5 → 0 ≤ wr (x4 + j) ∧ wr (x4 + j) < (Ls : Nat)) (hw : ∀ j, wr (I 1 j) = I 1 j) (hkc : kc + 1 ≤ 1168) (hks : ks + 6 ≤ 13168)
    (next : ∀ (kc' ks' p' : Nat) (I' L' : Nat → Nat → Int), kc' ≤ kc + 1 → ks' ≤ ks + 6 → INV p' I' L' → I' 1 = I 1 → m_Wp i_L_law 1497 kc' ks' [(0, .inr (.inr 1)), (1, .inr (.inr 2)), (2, .inr (.inr 98)), (3, .inr (.inr 143)), (4, .inl x4)] [] (mem Ls p' I' L') Q) :
    m_Wp i_L_law 368 kc ks [(0, .inr (.inr 1)), (1, .inr (.inr 2)), (2, .inr (.inr 98)), (3, .inr (.inr 143)), (4, .inl x4)] [] (mem Ls p I L) Q := by
  have hp := hI.1
  unfold isPlan at hp
  refine LW_368 (RR := R0 p) ⟨hb 1 (by decide) (by decide), hb 2 (by decide) (by decide), ⟨by omega, by omega⟩, ?_⟩
  by_cases ha : 0 ≤ I 1 (Int.toNat (wr (x4 + 1))) ∧ I 1 (Int.toNat (wr (x4 + 1))) < I p 13
  · by_cases h7 : 0 ≤ I 1 (Int.toNat (wr (x4 + 2))) ∧ I 1 (Int.toNat (wr (x4 + 2))) ≤ 7
    · obtain ⟨n, q, h1, h2⟩ := c_man (Ls := Ls) (K := L) (Q := fun v M' => v = [.inl (manV I p (I 1 (Int.toNat (wr (x4 + 1)))) (I 1 (Int.toNat (wr (x4 + 2)))))] ∧ M' = mem Ls p I L) hI ha h7 ⟨rfl, rfl⟩
      obtain ⟨q1, q2⟩ := q
      obtain ⟨rfl, rfl⟩ := h2
      refine ⟨n, ([.inl 0], (144, sh0 Ls, R0 p, I, mup L 143 0 (manV I p (I 1 (Int.toNat (wr (x4 + 1)))) (I 1 (Int.toNat (wr (x4 + 2))))))), ?_, ?_⟩
      · rw [show Nat.beq 98 mLman = true from rfl, cond_true]
        show m_man (m_exec n mMan) [.inr (.inr 2), .inl (I 1 (Int.toNat (wr (x4 + 1)))), .inl (I 1 (Int.toNat (wr (x4 + 2)))), .inr (.inr 143)] (mem Ls p I L) = _
        rw [man_eq hp, decide_eq_true ha, decide_eq_true h7]
        exact Option.bind_eq_some_iff.mpr ⟨_, h1, rfl⟩
      · refine LW_385 (RR := R0 p) ⟨hb 1 (by decide) (by decide), hb 2 (by decide) (by decide), ?_⟩
        refine r_man (K := mup L 143 0 _) hI (fun _ _ => ?_) (fun z => absurd ha z) (fun _ z => absurd h7 z)
        refine LW_403 (RR := R0 p) (E_M_thrown ?_)
        rw [at_man]
        refine LW_409 (RR := R0 p) ⟨fun _ => ⟨fun z => absurd rfl z, fun _ => ⟨by decide, fun _ => next (kc + 1) (ks + 6) p _ _ (Nat.le_refl _) (Nat.le_refl _) (keeps_man hI) row_man, fun z => absurd ?_ z⟩⟩, fun z => absurd rfl z⟩
        have e1 : ∀ w : Int, mup L 143 0 w 143 0 = w := fun w => by unfold mup; rw [if_pos rfl]; show (if 0 = 0 then w else _) = w; rw [if_pos rfl]
        rw [e1]
        exact lcmp_self _
    · refine ⟨0, ([.inl 2], mem Ls p I L), ?_, ?_⟩
      · rw [show Nat.beq 98 mLman = true from rfl, cond_true]
        show m_man (m_exec 0 mMan) [.inr (.inr 2), .inl (I 1 (Int.toNat (wr (x4 + 1)))), .inl (I 1 (Int.toNat (wr (x4 + 2)))), .inr (.inr 143)] (mem Ls p I L) = _
        rw [man_eq hp, decide_eq_true ha, decide_eq_false h7]
        rfl
      · refine LW_385 (RR := R0 p) ⟨hb 1 (by decide) (by decide), hb 2 (by decide) (by decide), ?_⟩
        refine r_man (K := L) hI (fun _ z => absurd z h7) (fun z => absurd ha z) (fun _ _ => ?_)
        refine LW_403 (RR := R0 p) (E_M_thrown ?_)
        rw [at_man]
        exact LW_409 (RR := R0 p) ⟨fun _ => ⟨fun _ => next (kc + 1) (ks + 6) p _ _ (Nat.le_refl _) (Nat.le_refl _) (keeps_man0 hI) row_man, fun z => absurd (show ¬ (2 : Int) = 0 by decide) z⟩, fun z => absurd rfl z⟩
  · refine ⟨0, ([.inl 1], mem Ls p I L), ?_, ?_⟩
    · rw [show Nat.beq 98 mLman = true from rfl, cond_true]
      show m_man (m_exec 0 mMan) [.inr (.inr 2), .inl (I 1 (Int.toNat (wr (x4 + 1)))), .inl (I 1 (Int.toNat (wr (x4 + 2)))), .inr (.inr 143)] (mem Ls p I L) = _
      rw [man_eq hp, decide_eq_false ha]
      rfl
    · refine LW_385 (RR := R0 p) ⟨hb 1 (by decide) (by decide), hb 2 (by decide) (by decide), ?_⟩
      refine r_man (K := L) hI (fun z _ => absurd z ha) (fun _ => ?_) (fun z _ => absurd z ha)
      refine LW_403 (RR := R0 p) (E_M_thrown ?_)
      rw [at_man]
      exact LW_409 (RR := R0 p) ⟨fun _ => ⟨fun _ => next (kc + 1) (ks + 6) p _ _ (Nat.le_refl _) (Nat.le_refl _) (keeps_man0 hI) row_man, fun z => absurd (show ¬ (1 : Int) = 0 by decide) z⟩, fun z => absurd rfl z⟩
end LC
