/-! ===== phase 2: an E: a value, a sign: both in step ===== -/
def ST (X Y : Nat → Nat → Int) (W : List (Int × Int)) (Hs : List Nat) : Prop := (X 4 4 = 1 ∧ Y 98 48 = 1 ∧ Hs.length = nBi W ∧ (Y 98 49 ≠ 0 ↔ tl W ≤ 3)) ∨ (X 4 4 = 0 ∧ Y 98 48 = 0 ∧ Hs.length = nBi W + 1)
def LSt (w : Nat) (X Y : Nat → Nat → Int) (N a fr s c : Nat) (W : List (Int × Int)) (Hs : List Nat) : Prop := TK X Y N a ∧ FE X Y ∧ LR w X Y fr s c W Hs ∧ ST X Y W Hs
def LX (w fr : Nat) (X X' : Nat → Nat → Int) : Prop := (∀ a, a ≠ 4 → a ≠ 5 → a ≠ 8 → a ≠ w → a ≠ w + 1 → a ≠ w + 2 → X' a = X a) ∧ (∀ i, i < fr → X' (w + 1) i = X (w + 1) i ∧ X' (w + 2) i = X (w + 2) i)
def LY (fr : Nat) (Y Y' : Nat → Nat → Int) : Prop := (∀ a, a ≠ 98 → ¬ (118 ≤ a ∧ a ≤ 122) → Y' a = Y a) ∧ (∀ k, k ≠ 4 → k ≠ 5 → k ≠ 21 → (k < 7 ∨ 11 < k) → ¬ (44 ≤ k ∧ k ≤ 49) → Y' 98 k = Y 98 k) ∧ (∀ a i, a = 118 ∨ a = 119 ∨ a = 120 → i < 64 + fr → Y' a i = Y a i)
section K9
variable {w fr : Nat} {X X1 X2 Y Y1 Y2 : Nat → Nat → Int}
theorem LX.tr (h : LX w fr X X1) (g : LX w fr X1 X2) : LX w fr X X2 := ⟨fun a h1 h2 h3 h4 h5 h6 => by rw [g.1 a h1 h2 h3 h4 h5 h6, h.1 a h1 h2 h3 h4 h5 h6], fun i h1 => ⟨by rw [(g.2 i h1).1, (h.2 i h1).1], by rw [(g.2 i h1).2, (h.2 i h1).2]⟩⟩
theorem LY.tr (h : LY fr Y Y1) (g : LY fr Y1 Y2) : LY fr Y Y2 := ⟨fun a h1 h2 => by rw [g.1 a h1 h2, h.1 a h1 h2], fun k h1 h2 h3 h4 h5 => by rw [g.2.1 k h1 h2 h3 h4 h5, h.2.1 k h1 h2 h3 h4 h5], fun a i h1 h2 => by rw [g.2.2 a i h1 h2, h.2.2 a i h1 h2]⟩
theorem LX.rfl' : LX w fr X X := ⟨fun _ _ _ _ _ _ _ => rfl, fun _ _ => ⟨rfl, rfl⟩⟩
theorem LY.rfl' : LY fr Y Y := ⟨fun _ _ _ => rfl, fun _ _ _ _ _ _ => rfl, fun _ _ _ _ => rfl⟩
theorem UX.lx (h : UX w fr X X1) : LX w fr X X1 := ⟨fun a h1 _ _ h4 h5 h6 => h.1 a h1 h4 h5 h6, h.2.2⟩
theorem UY.ly (h : UY fr Y Y1) : LY fr Y Y1 := ⟨fun a h1 h2 => h.1 a h1 (by omega) (by omega) (by omega) (by omega), fun k _ _ h3 _ h5 => h.2.1 k h3 (by omega) (by omega), h.2.2⟩
theorem SX.lx (hw : w = 22 ∨ w = 81) (h : SX X X1) (h3 : X1 3 = X 3) : LX w fr X X1 := ⟨fun a _ h2 _ _ _ _ => by
  by_cases e : a = 3
  · subst e; exact h3
  · exact h.1 a e h2, fun i _ => ⟨by rw [h.1 (w + 1) (by omega) (by omega)], by rw [h.1 (w + 2) (by omega) (by omega)]⟩⟩
theorem SY.ly (h : SY Y Y1) : LY fr Y Y1 := ⟨fun a h1 _ => h.1 a h1, fun k h1 h2 _ h4 _ => h.2 k h1 h2 h4, fun a i h1 _ => by rw [h.1 a (by omega)]⟩
theorem LR.step {s c : Nat} {W : List (Int × Int)} {Hs : List Nat} (hw : w = 22 ∨ w = 81) (h : LR w X Y fr s c W Hs) (sx : SX X X1) (sy : SY Y Y1) : LR w X1 Y1 fr s c W Hs := by
  obtain ⟨h1, h2, h3, h4, h5⟩ := h
  refine ⟨?_, ?_, ?_, h4.congr (sx.1 _ (by omega) (by omega)) (sx.1 _ (by omega) (by omega)) (sy.1 _ (by omega)) (sy.1 _ (by omega)) (sy.1 _ (by omega)) (sy.1 _ (by omega)) (sy.2 45 (by omega) (by omega) (by omega)), h5⟩
  · unfold PI at *
    rw [sx.1 4 (by omega) (by omega), sx.1 8 (by omega) (by omega), sy.1 121 (by omega), sy.2 44 (by omega) (by omega) (by omega)]; exact h1
  · unfold OPN at *
    rw [sx.1 4 (by omega) (by omega), sy.2 46 (by omega) (by omega) (by omega)]; exact h2
  · unfold CNT at *
    rw [sx.1 w (by omega) (by omega), sy.2 21 (by omega) (by omega) (by omega), sy.2 47 (by omega) (by omega) (by omega)]; exact h3
theorem ST.step {W : List (Int × Int)} {Hs : List Nat} (h : ST X Y W Hs) (sx : SX X X1) (sy : SY Y Y1) : ST X1 Y1 W Hs := by
  unfold ST at *
  rw [sx.1 4 (by omega) (by omega), sy.2 48 (by omega) (by omega) (by omega), sy.2 49 (by omega) (by omega) (by omega)]; exact h
theorem PI.push {W : List (Int × Int)} {s k : Int} (h : PI X Y W) (hp : pRel s k) (h1 : X1 4 2 = ((W.length + 1 : Nat) : Int)) (h2 : Y1 98 44 = ((W.length + 1 : Nat) : Int)) (h3 : ∀ j, j < W.length → X1 8 j = X 8 j) (h4 : X1 8 W.length = s) (h5 : ∀ j, j < W.length → Y1 121 j = Y 121 j) (h6 : Y1 121 W.length = k) : PI X1 Y1 ((s, k) :: W) := by
  obtain ⟨_, _, p3, p4, p5⟩ := h
  refine ⟨h1, h2, ⟨?_, stk_congr (fun j hj => ?_) p3⟩, ⟨?_, stk_congr (fun j hj => ?_) p4⟩, fun e he => ?_⟩
  · rw [List.length_map]; exact h4
  · rw [List.length_map] at hj; exact (h3 j hj).symm
  · rw [List.length_map]; exact h6
  · rw [List.length_map] at hj; exact (h5 j hj).symm
  · rcases List.mem_cons.mp he with rfl | he
    · exact hp
    · exact p5 e he
end K9
/-- what a value or a sign comes to: a fault, or the next token -/
def OUT (Ls p pp : Nat) (L K : Nat → Nat → Int) (w tc tm : Nat) (X Y : Nat → Nat → Int) (N a fr s : Nat) : Prop :=
  (∃ (f : Int) (X1 Y' : Nat → Nat → Int), f ≠ 0 ∧ RN Ls p L tc [.inr (.inr 4), .inr (.inr w)] X [.inl f] X1 ∧ RN Ls pp K tm [.inr (.inr 98)] Y [.inl 0] Y' ∧ Y' 98 4 = f ∧ Y' 98 5 = X1 5 5 ∧ LX w fr X X1 ∧ LY fr Y Y') ∨
  (∃ (X1 X' Y' : Nat → Nat → Int) (a' s' c' : Nat) (W' : List (Int × Int)) (Hs' : List Nat), X 5 4 ≠ 0 ∧ RN Ls p L tc [.inr (.inr 4), .inr (.inr w)] X [.inl 0] X1 ∧ RN Ls p L i_Tokens_advance [.inr (.inr 5)] X1 [] X' ∧ RN Ls pp K tm [.inr (.inr 98)] Y [.inl 1] Y' ∧ AD X' a a' ∧ LSt w X' Y' N a' fr s' c' W' Hs' ∧ s ≤ s' ∧ LX w fr X X' ∧ LY fr Y Y')
section K10
variable {Ls p pp w kc ks : Nat} {K L X Y : Nat → Nat → Int} {Q : List mV → mM → Prop}
theorem q_pileUp {n : Nat} {a : Int} (hn : X 4 2 = (n : Int)) (h72 : n < 72) (hQ : Q [] (mem Ls p (mup (mup X 8 n a) 4 2 ((n + 1 : Nat) : Int)) L)) : m_Call i_LawReader_pileUp [.inr (.inr 4), .inl a] (mem Ls p X L) Q := by
  refine E_LawReader_pileUp ?_
  rw [hn, Int.toNat_natCast, show wr ((n : Int) + 1) = ((n + 1 : Nat) : Int) by rw [wr_of (by omega) (by omega)]; omega]
  exact ⟨fun z => by omega, fun _ => ⟨by omega, hQ⟩⟩
theorem r_waitsFor {n : Nat} {a : Int} (hn : Y 98 44 = (n : Int)) (h96 : n < 96) (hQ : Q [] (mem Ls pp (mup (mup Y 121 n a) 98 44 ((n + 1 : Nat) : Int)) K)) : m_Call i_M_waitsFor [.inr (.inr 98), .inl a] (mem Ls pp Y K) Q := by
  refine E_M_waitsFor ?_
  rw [hn, Int.toNat_natCast, show wr ((n : Int) + 1) = ((n + 1 : Nat) : Int) by rw [wr_of (by omega) (by omega)]; omega]
  exact ⟨by omega, hQ⟩
theorem q_pilesKnot {n c : Nat} {a : Int} (hw : w = 22 ∨ w = 81) (hn : X 4 2 = (n : Int)) (h72 : n < 72) (hc : X w 6 = (c : Int)) (hc64 : c < 64) (hQ : Q [.inl 0] (mem Ls p (mup (mup (mup X w 6 ((c + 1 : Nat) : Int)) 8 n a) 4 2 ((n + 1 : Nat) : Int)) L)) : m_Call i_LawReader_pilesKnot [.inr (.inr 4), .inr (.inr w), .inl a] (mem Ls p X L) Q := by
  refine E_LawReader_pilesKnot hw ?_
  rw [hc, show wr ((c : Int) + 1) = ((c + 1 : Nat) : Int) by rw [wr_of (by omega) (by omega)]; omega]
  exact ⟨fun _ => q_pileUp (n := n) (by rw [mup_ne (by omega)]; exact hn) h72 (T_LawReader_pilesKnot_26 hw hQ), fun z => by omega⟩
theorem q_pilesKnot2 {a : Int} (hw : w = 22 ∨ w = 81) (hc : X w 6 = 64) (hQ : Q [.inl 2] (mem Ls p X L)) : m_Call i_LawReader_pilesKnot [.inr (.inr 4), .inr (.inr w), .inl a] (mem Ls p X L) Q :=
  E_LawReader_pilesKnot hw ⟨fun z => by omega, fun _ => hQ⟩
theorem r_isCounted {c : Nat} (hc : Y 98 47 = (c : Int)) (hc64 : c < 64) (hQ : Q [.inl 1] (mem Ls pp (mup Y 98 47 ((c + 1 : Nat) : Int)) K)) : m_Call i_M_isCounted [.inr (.inr 98)] (mem Ls pp Y K) Q := by
  refine E_M_isCounted ?_
  rw [hc, show wr ((c : Int) + 1) = ((c + 1 : Nat) : Int) by rw [wr_of (by omega) (by omega)]; omega]
  exact ⟨fun _ => ⟨Or.inr rfl, hQ⟩, fun z => absurd (by omega) z⟩
theorem r_isCounted2 (hc : Y 98 47 = 64) (hQ : Q [.inl 0] (mem Ls pp (mup (mup Y 98 4 2) 98 5 (Y 98 10)) K)) : m_Call i_M_isCounted [.inr (.inr 98)] (mem Ls pp Y K) Q :=
  E_M_isCounted ⟨fun z => absurd hc z, fun _ => E_M_wrong ⟨Or.inl rfl, T_M_isCounted_14 ⟨Or.inl rfl, hQ⟩⟩⟩
theorem r_isSign {c : Int} (h1 : Y 98 8 = 4 ∧ Y 98 9 = c → Q [.inl 1] (mem Ls pp Y K)) (h0 : ¬ (Y 98 8 = 4 ∧ Y 98 9 = c) → Q [.inl 0] (mem Ls pp Y K)) : m_Call i_M_isSign [.inr (.inr 98), .inl c] (mem Ls pp Y K) Q :=
  E_M_isSign ⟨fun z => ⟨Or.inl rfl, h0 (fun y => z y.1)⟩, fun z => ⟨fun z' => ⟨Or.inl rfl, h0 (fun y => z' y.2)⟩, fun z' => ⟨Or.inr rfl, h1 ⟨Classical.not_not.mp z, Classical.not_not.mp z'⟩⟩⟩⟩
theorem r_isKey {c : Int} (h1 : Y 98 8 = 1 ∧ Y 98 9 = c → Q [.inl 1] (mem Ls pp Y K)) (h0 : ¬ (Y 98 8 = 1 ∧ Y 98 9 = c) → Q [.inl 0] (mem Ls pp Y K)) : m_Call i_M_isKey [.inr (.inr 98), .inl c] (mem Ls pp Y K) Q :=
  E_M_isKey ⟨fun z => ⟨Or.inl rfl, h0 (fun y => z y.1)⟩, fun z => ⟨fun z' => ⟨Or.inl rfl, h0 (fun y => z' y.2)⟩, fun z' => ⟨Or.inr rfl, h1 ⟨Classical.not_not.mp z, Classical.not_not.mp z'⟩⟩⟩⟩
theorem q_topLevel {W : List (Int × Int)} (h : PI X Y W) (h72 : W.length ≤ 72) (hQ : Q [.inl (tl W)] (mem Ls p X L)) : m_Call i_LawReader_topLevel [.inr (.inr 4)] (mem Ls p X L) Q := by
  obtain ⟨p1, _, p3, _, _⟩ := h
  match W, p1, p3, h72, hQ with
  | [], p1, _, _, hQ => exact E_LawReader_topLevel ⟨fun _ => hQ, fun z => absurd (by rw [p1]; simp) z⟩
  | e :: r, p1, p3, h72, hQ =>
    simp only [List.length_cons] at p1 h72
    have x8 : X 8 r.length = e.1 := by have := p3.1; rw [List.length_map] at this; exact this
    refine E_LawReader_topLevel ?_
    rw [p1, show wr (((r.length + 1 : Nat) : Int) - 1) = (r.length : Int) by rw [wr_of (by omega) (by omega)]; omega, Int.toNat_natCast, x8]
    exact ⟨fun z => by omega, fun _ => ⟨by omega, q_levelOf (T_LawReader_topLevel_21 hQ)⟩⟩
theorem q_unp0 {W : List (Int × Int)} {lev : Int} (hw : w = 22 ∨ w = 81) (h : PI X Y W) (h72 : W.length ≤ 72) (ht : tl W < lev) (hQ : Q [] (mem Ls p X L)) : m_Call i_LawReader_unpile [.inr (.inr 4), .inr (.inr w), .inl lev] (mem Ls p X L) Q := by
  obtain ⟨p1, _, p3, _, _⟩ := h
  match W, p1, p3, h72, ht with
  | [], p1, _, _, _ => exact E_LawReader_unpile hw ⟨fun _ => hQ, fun z => absurd (by rw [p1]; simp) z⟩
  | e :: r, p1, p3, h72, ht =>
    simp only [List.length_cons] at p1 h72
    have x8 : X 8 r.length = e.1 := by have := p3.1; rw [List.length_map] at this; exact this
    refine E_LawReader_unpile hw ?_
    rw [p1, show wr (((r.length + 1 : Nat) : Int) - 1) = (r.length : Int) by rw [wr_of (by omega) (by omega)]; omega, Int.toNat_natCast, x8]
    exact ⟨fun z => by omega, fun _ => ⟨by omega, q_levelOf (T_LawReader_unpile_21 hw ⟨fun _ => hQ, fun z => absurd ht z⟩)⟩⟩
/-- the next token behind a value or a sign -/
theorem o_next {N a fr s s' c' tc tm : Nat} {X1 Y1 : Nat → Nat → Int} {W' : List (Int × Int)} {Hs' : List Nat} (hw : w = 22 ∨ w = 81) (hT : TK X Y N a) (hF : FE X Y) (h0 : X 5 4 ≠ 0) (hc : RN Ls p L tc [.inr (.inr 4), .inr (.inr w)] X [.inl 0] X1) (hm : ∀ Y', RN Ls pp K i_M_token [.inr (.inr 98)] Y1 [] Y' → RN Ls pp K tm [.inr (.inr 98)] Y [.inl 1] Y')
    (x3 : X1 3 = X 3) (x5 : X1 5 = X 5) (x6 : X1 6 = X 6) (x7 : X1 7 = X 7) (y98 : ∀ k, 4 ≤ k → k ≤ 11 → Y1 98 k = Y 98 k) (y99 : Y1 99 = Y 99) (y100 : Y1 100 = Y 100) (hL : LR w X1 Y1 fr s' c' W' Hs') (hS : ST X1 Y1 W' Hs') (hss : s ≤ s') (fx : LX w fr X X1) (fy : LY fr Y Y1) : OUT Ls p pp L K w tc tm X Y N a fr s := by
  have hT1 : TK X1 Y1 N a := hT.congr x5 x6 x7 (fun k h1 h2 => y98 k (by omega) (by omega)) y99 y100
  have hF1 : FE X1 Y1 := by
    unfold FE at *
    rw [x3, y98 4 (by omega) (by omega), y98 5 (by omega) (by omega)]; exact hF
  obtain ⟨X', Y', a', r1, r2, r3, r4, r5, r6, r7, r8, r9⟩ := k_adv (Ls := Ls) (p := p) (pp := pp) (K := K) (L := L) hT1 hF1
  exact Or.inr ⟨X1, X', Y', a', s', c', W', Hs', h0, hc, r1, hm Y' r2, r4, ⟨r3, r5, hL.step hw r6 r7, hS.step r6 r7⟩, hss, fx.tr (r6.lx hw r8), fy.tr r7.ly⟩
/-- a fault -/
theorem o_fault {N a fr s tc tm : Nat} {f : Int} {X1 Y1 : Nat → Nat → Int} (hf : f ≠ 0) (hc : RN Ls p L tc [.inr (.inr 4), .inr (.inr w)] X [.inl f] X1) (hm : RN Ls pp K tm [.inr (.inr 98)] Y [.inl 0] (mup (mup Y1 98 4 f) 98 5 (Y1 98 10))) (hpl : Y1 98 10 = X1 5 5) (fx : LX w fr X X1) (fy : LY fr Y Y1) : OUT Ls p pp L K w tc tm X Y N a fr s :=
  Or.inl ⟨f, X1, _, hf, hc, hm, by rw [mup_ne (by omega), mup_eq rfl rfl], by rw [mup_eq rfl rfl]; exact hpl, fx, fy.tr ⟨fun b h1 _ => by rw [mup_other h1, mup_other h1], fun k h1 h2 _ _ _ => by rw [mup_ne (by omega), mup_ne (by omega)], fun b i h1 _ => by rw [mup_ne (by omega), mup_ne (by omega)]⟩⟩
end K10
