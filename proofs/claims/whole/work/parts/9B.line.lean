/-! ===== phase 2: a LINE: both in step ===== -/
def BD (o : Nat) (X Y : Nat → Nat → Int) : Prop := PLr o X Y ∧ RLr o X Y ∧ MLr o X Y ∧ CLr o X Y ∧ OLr o X Y ∧ LLr (o + 13) X Y
def GX (o : Nat) (X X' : Nat → Nat → Int) : Prop := ∀ a, a ≠ 3 → a ≠ 4 → a ≠ 5 → a ≠ 8 → ¬ (o ≤ a ∧ a ≤ o + 18) → X' a = X a
def GY (Y Y' : Nat → Nat → Int) : Prop := (∀ a, a ≠ 98 → ¬ (101 ≤ a ∧ a ≤ 122) → Y' a = Y a) ∧ (∀ k, k < 4 ∨ k = 6 ∨ (12 ≤ k ∧ k ≤ 16) ∨ (22 ≤ k ∧ k ≤ 43) ∨ 49 < k → Y' 98 k = Y 98 k) ∧ (∀ a k, 101 ≤ a → a ≤ 120 → k < half a → Y' a k = Y a k)
theorem GX.tr {o : Nat} {X X1 X2 : Nat → Nat → Int} (h : GX o X X1) (g : GX o X1 X2) : GX o X X2 := fun a h1 h2 h3 h4 h5 => by rw [g a h1 h2 h3 h4 h5, h a h1 h2 h3 h4 h5]
theorem GY.tr {Y Y1 Y2 : Nat → Nat → Int} (h : GY Y Y1) (g : GY Y1 Y2) : GY Y Y2 := ⟨fun a h1 h2 => by rw [g.1 a h1 h2, h.1 a h1 h2], fun k h1 => by rw [g.2.1 k h1, h.2.1 k h1], fun a k h1 h2 h3 => by rw [g.2.2 a k h1 h2 h3, h.2.2 a k h1 h2 h3]⟩
theorem GX.rfl' {o : Nat} {X : Nat → Nat → Int} : GX o X X := fun _ _ _ _ _ _ => rfl
theorem GY.rfl' {Y : Nat → Nat → Int} : GY Y Y := ⟨fun _ _ _ => rfl, fun _ _ => rfl, fun _ _ _ _ _ => rfl⟩
theorem half_101 {k : Nat} : ¬ k < half 101 := by show ¬ k < 0; omega
section K15
variable {o lo hi c : Nat} {X X' Y Y' : Nat → Nat → Int}
theorem SX.gx (h : SX X X') : GX o X X' := fun a h1 _ h3 _ _ => h.1 a h1 h3
theorem SY.gy (h : SY Y Y') : GY Y Y' := ⟨fun a h1 _ => h.1 a h1, fun k h1 => h.2 k (by omega) (by omega) (by omega), fun a k h1 _ _ => by rw [h.1 a (by omega)]⟩
theorem LFX.gx (h : LFX o lo hi c X X') (h1 : o ≤ lo) (h2 : hi ≤ o + 18) : GX o X X' := fun a a1 _ a3 _ a5 => h.1 a a1 a3 (by omega) (by omega)
theorem LFY.gy (h : LFY lo hi c Y Y') (h1 : 101 ≤ lo) (h2 : hi ≤ 120) (h3 : 17 ≤ c ∧ c ≤ 21) : GY Y Y' := ⟨fun a a1 a2 => h.1 a a1 (by omega), fun k k1 => h.2.1 k (by omega) (by omega) (by omega) (by omega), fun a k a1 a2 a3 => by
  by_cases e : lo ≤ a ∧ a ≤ hi
  · exact h.2.2 a k e.1 e.2 a3
  · rw [h.1 a (by omega) e]⟩
theorem OFX.gx {k : Nat} (h : OFX o k X X') : GX o X X' := fun a a1 _ a3 _ a5 => h.1 a a1 a3 (by omega)
theorem OFY.gy {k : Nat} (hk : k < 2) (h : OFY k Y Y') : GY Y Y' := ⟨fun a a1 a2 => h.1 a a1 (by omega) (by omega), fun k k1 => h.2.1 k (by omega) (by omega) (by omega), fun a j a1 a2 a3 => by
  by_cases e1 : a = 101
  · subst e1; exact absurd a3 half_101
  · by_cases e2 : a = 102
    · subst e2
      have a3' : j < 2 := a3
      exact h.2.2.2 j (by omega)
    · rw [h.1 a (by omega) e1 e2]⟩
theorem WX.gx (h : WX (o + 13) X X') : GX o X X' := fun a a1 a2 a3 a4 a5 => h.1 a a1 a2 a3 a4 (by omega)
theorem WY.gy (h : WY Y Y') : GY Y Y' := ⟨fun a a1 a2 => h.1 a a1 (by omega), fun k k1 => h.2.1 k (by omega) (by omega) (by omega) (by omega) (by omega), fun a k a1 a2 a3 => by
  by_cases e : 115 ≤ a
  · exact h.2.2 a k e a2 a3
  · rw [h.1 a (by omega) (by omega)]⟩
theorem PLr.keep (h : PLr o X Y) (h1 : X' o 13 = X o 13) (h2 : ∀ a, o + 1 ≤ a → a ≤ o + 5 → X' a = X a) (g1 : Y' 98 17 = Y 98 17) (g2 : ∀ a, 103 ≤ a → a ≤ 107 → Y' a = Y a) : PLr o X' Y' := by
  unfold PLr at *
  rw [h1, h2 (o + 1) (by omega) (by omega), h2 (o + 2) (by omega) (by omega), h2 (o + 3) (by omega) (by omega), h2 (o + 4) (by omega) (by omega), h2 (o + 5) (by omega) (by omega), g1, g2 103 (by omega) (by omega), g2 104 (by omega) (by omega), g2 105 (by omega) (by omega), g2 106 (by omega) (by omega), g2 107 (by omega) (by omega)]
  exact h
theorem RLr.keep (h : RLr o X Y) (h1 : X' o 14 = X o 14) (h0 : X o 13 ≤ X' o 13) (h2 : ∀ a, o + 6 ≤ a → a ≤ o + 7 → X' a = X a) (g1 : Y' 98 18 = Y 98 18) (g2 : ∀ a, 108 ≤ a → a ≤ 109 → Y' a = Y a) : RLr o X' Y' := by
  unfold RLr at *
  rw [h1, h2 (o + 6) (by omega) (by omega), h2 (o + 7) (by omega) (by omega), g1, g2 108 (by omega) (by omega), g2 109 (by omega) (by omega)]
  exact ⟨h.1, h.2.1, fun r hr => ⟨(h.2.2 r hr).1, (h.2.2 r hr).2.1, by have := (h.2.2 r hr).2.2; omega⟩⟩
theorem MLr.keep (h : MLr o X Y) (h1 : X' o 15 = X o 15) (h0 : X o 13 ≤ X' o 13) (h2 : ∀ a, o + 8 ≤ a → a ≤ o + 10 → X' a = X a) (g1 : Y' 98 19 = Y 98 19) (g2 : ∀ a, 110 ≤ a → a ≤ 112 → Y' a = Y a) : MLr o X' Y' := by
  unfold MLr at *
  rw [h1, h2 (o + 8) (by omega) (by omega), h2 (o + 9) (by omega) (by omega), h2 (o + 10) (by omega) (by omega), g1, g2 110 (by omega) (by omega), g2 111 (by omega) (by omega), g2 112 (by omega) (by omega)]
  exact ⟨h.1, h.2.1, fun r hr => ⟨(h.2.2 r hr).1, by have := (h.2.2 r hr).2; omega⟩⟩
theorem CLr.keep (h : CLr o X Y) (h1 : X' o 16 = X o 16) (h2 : ∀ a, o + 11 ≤ a → a ≤ o + 12 → X' a = X a) (g1 : Y' 98 20 = Y 98 20) (g2 : ∀ a, 113 ≤ a → a ≤ 114 → Y' a = Y a) : CLr o X' Y' := by
  unfold CLr at *
  rw [h1, h2 (o + 11) (by omega) (by omega), h2 (o + 12) (by omega) (by omega), g1, g2 113 (by omega) (by omega), g2 114 (by omega) (by omega)]
  exact h
theorem OLr.keep (h : OLr o X Y) (h1 : X' o 17 = X o 17) (h2 : X' o 18 = X o 18) (h3 : X' 3 7 = X 3 7) (h4 : X' 3 8 = X 3 8) (g1 : Y' 101 = Y 101) (g2 : Y' 102 = Y 102) : OLr o X' Y' := by
  unfold OLr at *
  rw [h1, h2, h3, h4, g1, g2]
  exact h
theorem LLr.keep {w : Nat} (h : LLr w X Y) (h1 : ∀ a, w ≤ a → a ≤ w + 4 → X' a = X a) (g1 : Y' 98 21 = Y 98 21) (g2 : Y' 98 47 = Y 98 47) (g3 : ∀ a, 115 ≤ a → a ≤ 120 → Y' a = Y a) : LLr w X' Y' := by
  unfold LLr CNT KN at *
  rw [h1 w (by omega) (by omega), h1 (w + 1) (by omega) (by omega), h1 (w + 2) (by omega) (by omega), h1 (w + 3) (by omega) (by omega), h1 (w + 4) (by omega) (by omega), g1, g2, g3 115 (by omega) (by omega), g3 116 (by omega) (by omega), g3 117 (by omega) (by omega), g3 118 (by omega) (by omega), g3 119 (by omega) (by omega), g3 120 (by omega) (by omega)]
  exact h
theorem BD.step (ho : o = 9 ∨ o = 68) (h : BD o X Y) (sx : SX X X') (sy : SY Y Y') : BD o X' Y' := by
  obtain ⟨h1, h2, h3, h4, h5, h6⟩ := h
  have x : ∀ a, o ≤ a → X' a = X a := fun a ha => sx.1 a (by omega) (by omega)
  have y : ∀ a, 99 ≤ a → Y' a = Y a := fun a ha => sy.1 a (by omega)
  have yk : ∀ k, 12 ≤ k → Y' 98 k = Y 98 k := fun k hk => sy.2 k (by omega) (by omega) (by omega)
  have xo := x o (Nat.le_refl _)
  exact ⟨h1.keep (by rw [xo]) (fun a a1 _ => x a (by omega)) (yk 17 (by omega)) (fun a a1 _ => y a (by omega)), h2.keep (by rw [xo]) (by rw [xo]; omega) (fun a a1 _ => x a (by omega)) (yk 18 (by omega)) (fun a a1 _ => y a (by omega)), h3.keep (by rw [xo]) (by rw [xo]; omega) (fun a a1 _ => x a (by omega)) (yk 19 (by omega)) (fun a a1 _ => y a (by omega)), h4.keep (by rw [xo]) (fun a a1 _ => x a (by omega)) (yk 20 (by omega)) (fun a a1 _ => y a (by omega)), h5.keep (by rw [xo]) (by rw [xo]) (sx.2 7 (by omega) (by omega) (by omega)) (sx.2 8 (by omega) (by omega) (by omega)) (y 101 (by omega)) (y 102 (by omega)), h6.keep (fun a a1 _ => x a (by omega)) (yk 21 (by omega)) (yk 47 (by omega)) (fun a a1 _ => y a (by omega))⟩
end K15
section K16
variable {Ls p pp o : Nat} {K L X Y : Nat → Nat → Int}
/-- the ';' behind a LINE -/
theorem k_end {N a : Nat} (hT : TK X Y N a) (hF : FE X Y) : ∃ v X' Y', RN Ls p L i_LineReader_readsEnd [.inr (.inr 3)] X [.inl v] X' ∧ (∀ (x : Int) (Q : List mV → mM → Prop), Q [.inl v] (mem Ls pp Y' K) → m_Call i_M_isSign [.inr (.inr 98), .inl 59] (mem Ls pp Y K) (fun v M' => m_Wp i_M_lineRead 227 0 0 [(0, .inr (.inr 98)), (1, .inl x)] (v ++ []) M' Q)) ∧ FE X' Y' ∧ SX X X' ∧ SY Y Y' ∧ (v = 0 ∨ (v = 1 ∧ X 5 4 = 4 ∧ ∃ a', TK X' Y' N a' ∧ AD X' a a')) := by
  have hK := hT.2.2.2.2.1
  have h59 : X 5 4 = 4 ↔ (Y 98 8 = 4 ∧ Y 98 9 = 59) := by unfold KR at hK; omega
  by_cases h4 : X 5 4 = 4
  · obtain ⟨X', Y', a', r1, r2, r3, r4, r5, r6, r7, -, -⟩ := k_adv (Ls := Ls) (p := p) (pp := pp) (K := K) (L := L) hT hF
    exact ⟨1, X', Y', fun Q h => E_LineReader_readsEnd ⟨fun _ => r1 _ (T_LineReader_readsEnd_24 ⟨Or.inr rfl, h⟩), fun z => absurd h4 z⟩, fun x Q h => r_isSign (fun _ => T_M_lineRead_227 ⟨fun _ => r2 _ (T_M_lineRead_240 ⟨Or.inr rfl, h⟩), fun z => absurd (by omega) z⟩) (fun z => absurd (h59.mp h4) z), r5, r6, r7, Or.inr ⟨rfl, h4, a', r3, r4⟩⟩
  · obtain ⟨X', Y', f1, f2, f3, f4, f5⟩ := k_fail (Ls := Ls) (p := p) (pp := pp) (K := K) (L := L) hT 1
    exact ⟨0, X', Y', fun Q h => E_LineReader_readsEnd ⟨fun z => absurd z h4, fun _ => f1 _ (T_LineReader_readsEnd_16 ⟨Or.inl rfl, h⟩)⟩, fun x Q h => r_isSign (fun z => absurd (h59.mpr z) h4) (fun _ => T_M_lineRead_227 ⟨fun z => absurd rfl z, fun _ => f2 _ (T_M_lineRead_235 ⟨Or.inl rfl, h⟩)⟩), f3, f4, f5, Or.inl rfl⟩
/-- what a LINE comes to -/
def LN (Ls p pp : Nat) (L K : Nat → Nat → Int) (o N a : Nat) (X Y : Nat → Nat → Int) : Prop := ∃ v X' Y', RN Ls p L i_LineReader_readsLine [.inr (.inr 3)] X [.inl v] X' ∧ RN Ls pp K i_M_lineRead [.inr (.inr 98)] Y [.inl v] Y' ∧ FE X' Y' ∧ GX o X X' ∧ GY Y Y' ∧ X' 3 3 = X 3 3 ∧ (v = 0 ∨ (v = 1 ∧ BD o X' Y' ∧ ∃ a', TK X' Y' N a' ∧ a < a'))
theorem line_fin {N a : Nat} {v1 : Int} {X1 Y1 : Nat → Nat → Int} (ho : o = 9 ∨ o = 68) (cc0 : v1 = 0 → RN Ls p L i_LineReader_readsLine [.inr (.inr 3)] X [.inl 0] X1) (cc1 : v1 = 1 → ∀ v2 X2, (v2 = 0 ∨ v2 = 1) → RN Ls p L i_LineReader_readsEnd [.inr (.inr 3)] X1 [.inl v2] X2 → RN Ls p L i_LineReader_readsLine [.inr (.inr 3)] X [.inl v2] X2)
    (mm0 : v1 = 0 → RN Ls pp K i_M_lineRead [.inr (.inr 98)] Y [.inl 0] Y1) (mm1 : v1 = 1 → ∀ Q : List mV → mM → Prop, m_Call i_M_isSign [.inr (.inr 98), .inl 59] (mem Ls pp Y1 K) (fun v M' => m_Wp i_M_lineRead 227 0 0 [(0, .inr (.inr 98)), (1, .inl 1)] (v ++ []) M' Q) → m_Call i_M_lineRead [.inr (.inr 98)] (mem Ls pp Y K) Q)
    (hF : FE X1 Y1) (gx : GX o X X1) (gy : GY Y Y1) (g3 : X1 3 3 = X 3 3) (hr : v1 = 0 ∨ (v1 = 1 ∧ BD o X1 Y1 ∧ ∃ a1, TK X1 Y1 N a1 ∧ AD X1 a a1)) : LN Ls p pp L K o N a X Y := by
  rcases hr with h0 | ⟨h1, hB, a1, hT, hA⟩
  · exact ⟨0, X1, Y1, cc0 h0, mm0 h0, hF, gx, gy, g3, Or.inl rfl⟩
  · obtain ⟨v, X', Y', r1, r2, r3, r4, r5, r6⟩ := k_end (Ls := Ls) (p := p) (pp := pp) (K := K) (L := L) hT hF
    refine ⟨v, X', Y', cc1 h1 v X' (by rcases r6 with z | z; exact Or.inl z; exact Or.inr z.1) r1, fun Q h => mm1 h1 Q (r2 1 Q h), r3, gx.tr r4.gx, gy.tr r5.gy, by rw [r4.2 3 (by omega) (by omega) (by omega), g3], ?_⟩
    rcases r6 with z | ⟨z, h4, a', t1, t2⟩
    · exact Or.inl z
    · refine Or.inr ⟨z, hB.step ho r4 r5, a', t1, ?_⟩
      have := hA.2 (by omega)
      have := t2.1
      omega
set_option maxHeartbeats 4000000 in
theorem k_line {N a : Nat} (hp : (p = 68 ∧ o = 9) ∨ (p = 9 ∧ o = 68)) (hT : TK X Y N a) (hF : FE X Y) (hB : BD o X Y) : LN Ls p pp L K o N a X Y := by
  have ho : o = 9 ∨ o = 68 := by omega
  have hK := hT.2.2.2.2.1
  have hk : ∀ k : Int, 17 ≤ k → k ≤ 23 → X 5 4 = k → Y 98 8 = 1 ∧ Y 98 9 = k - 17 := fun k k1 k2 k3 => by
    unfold KR at hK
    rw [k3] at hK
    rcases hK with h | h | h | h | h | h | ⟨h1, h2, h3, h4⟩
    · omega
    · omega
    · omega
    · omega
    · omega
    · omega
    · rw [if_neg (by omega), if_neg (by omega)] at h4
      exact ⟨h1, h4⟩
  obtain ⟨b1, b2, b3, b4, b5, b6⟩ := hB
  by_cases k17 : X 5 4 = 17
  · obtain ⟨y1, y2⟩ := hk 17 (by omega) (by omega) k17
    obtain ⟨v, X1, Y1, r1, r2, r3, r4, r5, r6⟩ := k_man (Ls := Ls) (p := p) (pp := pp) (K := K) (L := L) hp hT hF b1
    refine line_fin (v1 := v) (X1 := X1) (Y1 := Y1) ho (fun z => ?_) (fun z v2 X2 hv re => ?_) (fun z => ?_) (fun z Q q => ?_) r3 (r4.gx (by omega) (by omega)) (r5.gy (by omega) (by omega) (by omega)) (r4.2.2 3 (by omega) (by omega) (by omega)) ?_
    · subst z
      exact fun Q h => E_LineReader_readsLine ⟨fun _ => r1 _ (T_LineReader_readsLine_52 ⟨fun _ => ⟨Or.inl rfl, h⟩, fun y => absurd rfl y⟩), fun y => absurd k17 y⟩
    · subst z
      exact fun Q h => E_LineReader_readsLine ⟨fun _ => r1 _ (T_LineReader_readsLine_52 ⟨fun y => by omega, fun _ => re _ (T_LineReader_readsLine_59 ⟨fun y => ⟨Or.inl rfl, by subst y; exact h⟩, fun y => ⟨Or.inr rfl, by rcases hv with hv | hv; exact absurd hv y; subst hv; exact h⟩⟩)⟩), fun y => absurd k17 y⟩
    · subst z
      exact fun Q h => E_M_lineRead ⟨fun y => absurd y1 y, fun _ => ⟨fun _ => ⟨fun _ => r2 _ (T_M_lineRead_68 ⟨fun y => absurd rfl y, fun _ => ⟨Or.inl rfl, h⟩⟩), fun y => absurd (by omega) y⟩, fun y => absurd (by omega) y⟩⟩
    · subst z
      exact E_M_lineRead ⟨fun y => absurd y1 y, fun _ => ⟨fun _ => ⟨fun _ => r2 _ (T_M_lineRead_68 ⟨fun _ => q, fun y => absurd (by omega) y⟩), fun y => absurd (by omega) y⟩, fun y => absurd (by omega) y⟩⟩
    · rcases r6 with z | ⟨z, hP, hle, t⟩
      · exact Or.inl z
      · have x : ∀ b, o + 6 ≤ b → X1 b = X b := fun b hb => r4.1 b (by omega) (by omega) (by omega) (by omega)
        have y : ∀ b, 99 ≤ b → ¬ (103 ≤ b ∧ b ≤ 107) → Y1 b = Y b := fun b hb hb2 => r5.1 b (by omega) hb2
        have yk : ∀ k, 18 ≤ k → Y1 98 k = Y 98 k := fun k hk => r5.2.1 k (by omega) (by omega) (by omega) (by omega)
        exact Or.inr ⟨z, ⟨hP, b2.keep (r4.2.1 14 (by omega)) hle (fun b b1 _ => x b b1) (yk 18 (by omega)) (fun b b1 b2 => y b (by omega) (by omega)), b3.keep (r4.2.1 15 (by omega)) hle (fun b b1 _ => x b (by omega)) (yk 19 (by omega)) (fun b b1 b2 => y b (by omega) (by omega)), b4.keep (r4.2.1 16 (by omega)) (fun b b1 _ => x b (by omega)) (yk 20 (by omega)) (fun b b1 b2 => y b (by omega) (by omega)), b5.keep (r4.2.1 17 (by omega)) (r4.2.1 18 (by omega)) (r4.2.2 7 (by omega) (by omega) (by omega)) (r4.2.2 8 (by omega) (by omega) (by omega)) (y 101 (by omega) (by omega)) (y 102 (by omega) (by omega)), b6.keep (fun b b1 _ => x b (by omega)) (yk 21 (by omega)) (yk 47 (by omega)) (fun b b1 b2 => y b (by omega) (by omega))⟩, t⟩
  by_cases k18 : X 5 4 = 18
  · obtain ⟨y1, y2⟩ := hk 18 (by omega) (by omega) k18
    obtain ⟨v, X1, Y1, r1, r2, r3, r4, r5, r6⟩ := k_ring (Ls := Ls) (p := p) (pp := pp) (K := K) (L := L) hp hT hF b1.nm b2
    refine line_fin (v1 := v) (X1 := X1) (Y1 := Y1) ho (fun z => ?_) (fun z v2 X2 hv re => ?_) (fun z => ?_) (fun z Q q => ?_) r3 (r4.gx (by omega) (by omega)) (r5.gy (by omega) (by omega) (by omega)) (r4.2.2 3 (by omega) (by omega) (by omega)) ?_
    · subst z
      exact fun Q h => E_LineReader_readsLine ⟨fun y => absurd y k17, fun _ => ⟨fun _ => r1 _ (T_LineReader_readsLine_72 ⟨fun _ => ⟨Or.inl rfl, h⟩, fun y => absurd rfl y⟩), fun y => absurd k18 y⟩⟩
    · subst z
      exact fun Q h => E_LineReader_readsLine ⟨fun y => absurd y k17, fun _ => ⟨fun _ => r1 _ (T_LineReader_readsLine_72 ⟨fun y => by omega, fun _ => re _ (T_LineReader_readsLine_79 ⟨fun y => ⟨Or.inl rfl, by subst y; exact h⟩, fun y => ⟨Or.inr rfl, by rcases hv with hv | hv; exact absurd hv y; subst hv; exact h⟩⟩)⟩), fun y => absurd k18 y⟩⟩
    · subst z
      exact fun Q h => E_M_lineRead ⟨fun y => absurd y1 y, fun _ => ⟨fun _ => ⟨fun y => absurd y (by omega), fun _ => ⟨fun _ => r2 _ (T_M_lineRead_76 ⟨fun y => absurd rfl y, fun _ => ⟨Or.inl rfl, h⟩⟩), fun y => absurd (by omega) y⟩⟩, fun y => absurd (by omega) y⟩⟩
    · subst z
      exact E_M_lineRead ⟨fun y => absurd y1 y, fun _ => ⟨fun _ => ⟨fun y => absurd y (by omega), fun _ => ⟨fun _ => r2 _ (T_M_lineRead_76 ⟨fun _ => q, fun y => absurd (by omega) y⟩), fun y => absurd (by omega) y⟩⟩, fun y => absurd (by omega) y⟩⟩
    · rcases r6 with z | ⟨z, hP, t⟩
      · exact Or.inl z
      · have x : ∀ b, o + 1 ≤ b → ¬ (o + 6 ≤ b ∧ b ≤ o + 7) → X1 b = X b := fun b hb hb2 => r4.1 b (by omega) (by omega) (by omega) (by omega)
        have y : ∀ b, 99 ≤ b → ¬ (108 ≤ b ∧ b ≤ 109) → Y1 b = Y b := fun b hb hb2 => r5.1 b (by omega) hb2
        have yk : ∀ k, 12 ≤ k → k ≠ 18 → Y1 98 k = Y 98 k := fun k hk hk2 => r5.2.1 k (by omega) (by omega) (by omega) (by omega)
        have hle : X o 13 ≤ X1 o 13 := by rw [r4.2.1 13 (by omega)]; omega
        exact Or.inr ⟨z, ⟨b1.keep (r4.2.1 13 (by omega)) (fun b b1 _ => x b (by omega) (by omega)) (yk 17 (by omega) (by omega)) (fun b b1 b2 => y b (by omega) (by omega)), hP, b3.keep (r4.2.1 15 (by omega)) hle (fun b b1 _ => x b (by omega) (by omega)) (yk 19 (by omega) (by omega)) (fun b b1 b2 => y b (by omega) (by omega)), b4.keep (r4.2.1 16 (by omega)) (fun b b1 _ => x b (by omega) (by omega)) (yk 20 (by omega) (by omega)) (fun b b1 b2 => y b (by omega) (by omega)), b5.keep (r4.2.1 17 (by omega)) (r4.2.1 18 (by omega)) (r4.2.2 7 (by omega) (by omega) (by omega)) (r4.2.2 8 (by omega) (by omega) (by omega)) (y 101 (by omega) (by omega)) (y 102 (by omega) (by omega)), b6.keep (fun b b1 _ => x b (by omega) (by omega)) (yk 21 (by omega) (by omega)) (yk 47 (by omega) (by omega)) (fun b b1 b2 => y b (by omega) (by omega))⟩, t⟩
  by_cases k19 : X 5 4 = 19
  · obtain ⟨y1, y2⟩ := hk 19 (by omega) (by omega) k19
    obtain ⟨v, X1, Y1, r1, r2, r3, r4, r5, r6⟩ := k_meet (Ls := Ls) (p := p) (pp := pp) (K := K) (L := L) hp hT hF b1.nm b3
    refine line_fin (v1 := v) (X1 := X1) (Y1 := Y1) ho (fun z => ?_) (fun z v2 X2 hv re => ?_) (fun z => ?_) (fun z Q q => ?_) r3 (r4.gx (by omega) (by omega)) (r5.gy (by omega) (by omega) (by omega)) (r4.2.2 3 (by omega) (by omega) (by omega)) ?_
    · subst z
      exact fun Q h => E_LineReader_readsLine ⟨fun y => absurd y k17, fun _ => ⟨fun y => absurd y k18, fun _ => ⟨fun _ => r1 _ (T_LineReader_readsLine_92 ⟨fun _ => ⟨Or.inl rfl, h⟩, fun y => absurd rfl y⟩), fun y => absurd k19 y⟩⟩⟩
    · subst z
      exact fun Q h => E_LineReader_readsLine ⟨fun y => absurd y k17, fun _ => ⟨fun y => absurd y k18, fun _ => ⟨fun _ => r1 _ (T_LineReader_readsLine_92 ⟨fun y => by omega, fun _ => re _ (T_LineReader_readsLine_99 ⟨fun y => ⟨Or.inl rfl, by subst y; exact h⟩, fun y => ⟨Or.inr rfl, by rcases hv with hv | hv; exact absurd hv y; subst hv; exact h⟩⟩)⟩), fun y => absurd k19 y⟩⟩⟩
    · subst z
      exact fun Q h => E_M_lineRead ⟨fun y => absurd y1 y, fun _ => ⟨fun _ => ⟨fun y => absurd y (by omega), fun _ => ⟨fun y => absurd y (by omega), fun _ => ⟨fun _ => r2 _ (T_M_lineRead_84 ⟨fun y => absurd rfl y, fun _ => ⟨Or.inl rfl, h⟩⟩), fun y => absurd (by omega) y⟩⟩⟩, fun y => absurd (by omega) y⟩⟩
    · subst z
      exact E_M_lineRead ⟨fun y => absurd y1 y, fun _ => ⟨fun _ => ⟨fun y => absurd y (by omega), fun _ => ⟨fun y => absurd y (by omega), fun _ => ⟨fun _ => r2 _ (T_M_lineRead_84 ⟨fun _ => q, fun y => absurd (by omega) y⟩), fun y => absurd (by omega) y⟩⟩⟩, fun y => absurd (by omega) y⟩⟩
    · rcases r6 with z | ⟨z, hP, t⟩
      · exact Or.inl z
      · have x : ∀ b, o + 1 ≤ b → ¬ (o + 8 ≤ b ∧ b ≤ o + 10) → X1 b = X b := fun b hb hb2 => r4.1 b (by omega) (by omega) (by omega) (by omega)
        have y : ∀ b, 99 ≤ b → ¬ (110 ≤ b ∧ b ≤ 112) → Y1 b = Y b := fun b hb hb2 => r5.1 b (by omega) hb2
        have yk : ∀ k, 12 ≤ k → k ≠ 19 → Y1 98 k = Y 98 k := fun k hk hk2 => r5.2.1 k (by omega) (by omega) (by omega) (by omega)
        have hle : X o 13 ≤ X1 o 13 := by rw [r4.2.1 13 (by omega)]; omega
        exact Or.inr ⟨z, ⟨b1.keep (r4.2.1 13 (by omega)) (fun b b1 _ => x b (by omega) (by omega)) (yk 17 (by omega) (by omega)) (fun b b1 b2 => y b (by omega) (by omega)), b2.keep (r4.2.1 14 (by omega)) hle (fun b b1 _ => x b (by omega) (by omega)) (yk 18 (by omega) (by omega)) (fun b b1 b2 => y b (by omega) (by omega)), hP, b4.keep (r4.2.1 16 (by omega)) (fun b b1 _ => x b (by omega) (by omega)) (yk 20 (by omega) (by omega)) (fun b b1 b2 => y b (by omega) (by omega)), b5.keep (r4.2.1 17 (by omega)) (r4.2.1 18 (by omega)) (r4.2.2 7 (by omega) (by omega) (by omega)) (r4.2.2 8 (by omega) (by omega) (by omega)) (y 101 (by omega) (by omega)) (y 102 (by omega) (by omega)), b6.keep (fun b b1 _ => x b (by omega) (by omega)) (yk 21 (by omega) (by omega)) (yk 47 (by omega) (by omega)) (fun b b1 b2 => y b (by omega) (by omega))⟩, t⟩
  by_cases k20 : X 5 4 = 20
  · obtain ⟨y1, y2⟩ := hk 20 (by omega) (by omega) k20
    obtain ⟨v, X1, Y1, r1, r2, r3, r4, r5, r6⟩ := k_cold (Ls := Ls) (p := p) (pp := pp) (K := K) (L := L) hp hT hF b4
    refine line_fin (v1 := v) (X1 := X1) (Y1 := Y1) ho (fun z => ?_) (fun z v2 X2 hv re => ?_) (fun z => ?_) (fun z Q q => ?_) r3 (r4.gx (by omega) (by omega)) (r5.gy (by omega) (by omega) (by omega)) (r4.2.2 3 (by omega) (by omega) (by omega)) ?_
    · subst z
      exact fun Q h => E_LineReader_readsLine ⟨fun y => absurd y k17, fun _ => ⟨fun y => absurd y k18, fun _ => ⟨fun y => absurd y k19, fun _ => ⟨fun _ => r1 _ (T_LineReader_readsLine_112 ⟨fun _ => ⟨Or.inl rfl, h⟩, fun y => absurd rfl y⟩), fun y => absurd k20 y⟩⟩⟩⟩
    · subst z
      exact fun Q h => E_LineReader_readsLine ⟨fun y => absurd y k17, fun _ => ⟨fun y => absurd y k18, fun _ => ⟨fun y => absurd y k19, fun _ => ⟨fun _ => r1 _ (T_LineReader_readsLine_112 ⟨fun y => by omega, fun _ => re _ (T_LineReader_readsLine_119 ⟨fun y => ⟨Or.inl rfl, by subst y; exact h⟩, fun y => ⟨Or.inr rfl, by rcases hv with hv | hv; exact absurd hv y; subst hv; exact h⟩⟩)⟩), fun y => absurd k20 y⟩⟩⟩⟩
    · subst z
      exact fun Q h => E_M_lineRead ⟨fun y => absurd y1 y, fun _ => ⟨fun _ => ⟨fun y => absurd y (by omega), fun _ => ⟨fun y => absurd y (by omega), fun _ => ⟨fun y => absurd y (by omega), fun _ => ⟨fun _ => r2 _ (T_M_lineRead_92 ⟨fun y => absurd rfl y, fun _ => ⟨Or.inl rfl, h⟩⟩), fun y => absurd (by omega) y⟩⟩⟩⟩, fun y => absurd (by omega) y⟩⟩
    · subst z
      exact E_M_lineRead ⟨fun y => absurd y1 y, fun _ => ⟨fun _ => ⟨fun y => absurd y (by omega), fun _ => ⟨fun y => absurd y (by omega), fun _ => ⟨fun y => absurd y (by omega), fun _ => ⟨fun _ => r2 _ (T_M_lineRead_92 ⟨fun _ => q, fun y => absurd (by omega) y⟩), fun y => absurd (by omega) y⟩⟩⟩⟩, fun y => absurd (by omega) y⟩⟩
    · rcases r6 with z | ⟨z, hP, t⟩
      · exact Or.inl z
      · have x : ∀ b, o + 1 ≤ b → ¬ (o + 11 ≤ b ∧ b ≤ o + 12) → X1 b = X b := fun b hb hb2 => r4.1 b (by omega) (by omega) (by omega) (by omega)
        have y : ∀ b, 99 ≤ b → ¬ (113 ≤ b ∧ b ≤ 114) → Y1 b = Y b := fun b hb hb2 => r5.1 b (by omega) hb2
        have yk : ∀ k, 12 ≤ k → k ≠ 20 → Y1 98 k = Y 98 k := fun k hk hk2 => r5.2.1 k (by omega) (by omega) (by omega) (by omega)
        have hle : X o 13 ≤ X1 o 13 := by rw [r4.2.1 13 (by omega)]; omega
        exact Or.inr ⟨z, ⟨b1.keep (r4.2.1 13 (by omega)) (fun b b1 _ => x b (by omega) (by omega)) (yk 17 (by omega) (by omega)) (fun b b1 b2 => y b (by omega) (by omega)), b2.keep (r4.2.1 14 (by omega)) hle (fun b b1 _ => x b (by omega) (by omega)) (yk 18 (by omega) (by omega)) (fun b b1 b2 => y b (by omega) (by omega)), b3.keep (r4.2.1 15 (by omega)) hle (fun b b1 _ => x b (by omega) (by omega)) (yk 19 (by omega) (by omega)) (fun b b1 b2 => y b (by omega) (by omega)), hP, b5.keep (r4.2.1 17 (by omega)) (r4.2.1 18 (by omega)) (r4.2.2 7 (by omega) (by omega) (by omega)) (r4.2.2 8 (by omega) (by omega) (by omega)) (y 101 (by omega) (by omega)) (y 102 (by omega) (by omega)), b6.keep (fun b b1 _ => x b (by omega) (by omega)) (yk 21 (by omega) (by omega)) (yk 47 (by omega) (by omega)) (fun b b1 b2 => y b (by omega) (by omega))⟩, t⟩
  by_cases k21 : X 5 4 = 21
  · obtain ⟨y1, y2⟩ := hk 21 (by omega) (by omega) k21
    obtain ⟨v, X1, Y1, r1, r2, r3, r4, r5, r6⟩ := k_crowd (Ls := Ls) (p := p) (pp := pp) (K := K) (L := L) hp hT hF b5.2.2.1
    refine line_fin (v1 := v) (X1 := X1) (Y1 := Y1) ho (fun z => ?_) (fun z v2 X2 hv re => ?_) (fun z => ?_) (fun z Q q => ?_) r3 r4.gx (r5.gy (by omega)) (r4.2.2 3 (by omega) (by omega) (by omega) (by omega)) ?_
    · subst z
      exact fun Q h => E_LineReader_readsLine ⟨fun y => absurd y k17, fun _ => ⟨fun y => absurd y k18, fun _ => ⟨fun y => absurd y k19, fun _ => ⟨fun y => absurd y k20, fun _ => ⟨fun _ => r1 _ (T_LineReader_readsLine_132 ⟨fun _ => ⟨Or.inl rfl, h⟩, fun y => absurd rfl y⟩), fun y => absurd k21 y⟩⟩⟩⟩⟩
    · subst z
      exact fun Q h => E_LineReader_readsLine ⟨fun y => absurd y k17, fun _ => ⟨fun y => absurd y k18, fun _ => ⟨fun y => absurd y k19, fun _ => ⟨fun y => absurd y k20, fun _ => ⟨fun _ => r1 _ (T_LineReader_readsLine_132 ⟨fun y => by omega, fun _ => re _ (T_LineReader_readsLine_139 ⟨fun y => ⟨Or.inl rfl, by subst y; exact h⟩, fun y => ⟨Or.inr rfl, by rcases hv with hv | hv; exact absurd hv y; subst hv; exact h⟩⟩)⟩), fun y => absurd k21 y⟩⟩⟩⟩⟩
    · subst z
      exact fun Q h => E_M_lineRead ⟨fun y => absurd y1 y, fun _ => ⟨fun _ => ⟨fun y => absurd y (by omega), fun _ => ⟨fun y => absurd y (by omega), fun _ => ⟨fun y => absurd y (by omega), fun _ => ⟨fun y => absurd y (by omega), fun _ => ⟨fun _ => r2 _ (T_M_lineRead_103 ⟨fun y => absurd rfl y, fun _ => ⟨Or.inl rfl, h⟩⟩), fun y => absurd (by omega) y⟩⟩⟩⟩⟩, fun y => absurd (by omega) y⟩⟩
    · subst z
      exact E_M_lineRead ⟨fun y => absurd y1 y, fun _ => ⟨fun _ => ⟨fun y => absurd y (by omega), fun _ => ⟨fun y => absurd y (by omega), fun _ => ⟨fun y => absurd y (by omega), fun _ => ⟨fun y => absurd y (by omega), fun _ => ⟨fun _ => r2 _ (T_M_lineRead_103 ⟨fun _ => q, fun y => absurd (by omega) y⟩), fun y => absurd (by omega) y⟩⟩⟩⟩⟩, fun y => absurd (by omega) y⟩⟩
    · rcases r6 with z | ⟨z, u1, u2, u3, u4, u5, t⟩
      · exact Or.inl z
      · have x : ∀ b, o + 1 ≤ b → X1 b = X b := fun b hb => r4.1 b (by omega) (by omega) (by omega)
        have y : ∀ b, 103 ≤ b → Y1 b = Y b := fun b hb => r5.1 b (by omega) (by omega) (by omega)
        have yk : ∀ k, 12 ≤ k → Y1 98 k = Y 98 k := fun k hk => r5.2.1 k (by omega) (by omega) (by omega)
        have hle : X o 13 ≤ X1 o 13 := by rw [r4.2.1 13 (by omega)]; omega
        refine Or.inr ⟨z, ⟨b1.keep (r4.2.1 13 (by omega)) (fun b b1 _ => x b (by omega)) (yk 17 (by omega)) (fun b b1 b2 => y b (by omega)), b2.keep (r4.2.1 14 (by omega)) hle (fun b b1 _ => x b (by omega)) (yk 18 (by omega)) (fun b b1 b2 => y b (by omega)), b3.keep (r4.2.1 15 (by omega)) hle (fun b b1 _ => x b (by omega)) (yk 19 (by omega)) (fun b b1 b2 => y b (by omega)), b4.keep (r4.2.1 16 (by omega)) (fun b b1 _ => x b (by omega)) (yk 20 (by omega)) (fun b b1 b2 => y b (by omega)), ⟨⟨u1, u2, u3⟩, ?_, ⟨by rw [u4, u5], Or.inr u4⟩, ?_⟩, b6.keep (fun b b1 _ => x b (by omega)) (yk 21 (by omega)) (yk 47 (by omega)) (fun b b1 b2 => y b (by omega))⟩, t⟩
        · rw [r4.2.1 18 (by omega), r5.2.2.2 3 (by omega)]; exact b5.2.1
        · rw [r4.2.2 8 (by omega) (by omega) (by omega) (by omega), r5.2.2.1 1 (by omega)]; exact b5.2.2.2
  by_cases k22 : X 5 4 = 22
  · obtain ⟨y1, y2⟩ := hk 22 (by omega) (by omega) k22
    obtain ⟨v, X1, Y1, r1, r2, r3, r4, r5, r6⟩ := k_seed (Ls := Ls) (p := p) (pp := pp) (K := K) (L := L) hp hT hF b5.2.2.2
    refine line_fin (v1 := v) (X1 := X1) (Y1 := Y1) ho (fun z => ?_) (fun z v2 X2 hv re => ?_) (fun z => ?_) (fun z Q q => ?_) r3 r4.gx (r5.gy (by omega)) (r4.2.2 3 (by omega) (by omega) (by omega) (by omega)) ?_
    · subst z
      exact fun Q h => E_LineReader_readsLine ⟨fun y => absurd y k17, fun _ => ⟨fun y => absurd y k18, fun _ => ⟨fun y => absurd y k19, fun _ => ⟨fun y => absurd y k20, fun _ => ⟨fun y => absurd y k21, fun _ => ⟨fun _ => r1 _ (T_LineReader_readsLine_152 ⟨fun _ => ⟨Or.inl rfl, h⟩, fun y => absurd rfl y⟩), fun y => absurd k22 y⟩⟩⟩⟩⟩⟩
    · subst z
      exact fun Q h => E_LineReader_readsLine ⟨fun y => absurd y k17, fun _ => ⟨fun y => absurd y k18, fun _ => ⟨fun y => absurd y k19, fun _ => ⟨fun y => absurd y k20, fun _ => ⟨fun y => absurd y k21, fun _ => ⟨fun _ => r1 _ (T_LineReader_readsLine_152 ⟨fun y => by omega, fun _ => re _ (T_LineReader_readsLine_159 ⟨fun y => ⟨Or.inl rfl, by subst y; exact h⟩, fun y => ⟨Or.inr rfl, by rcases hv with hv | hv; exact absurd hv y; subst hv; exact h⟩⟩)⟩), fun y => absurd k22 y⟩⟩⟩⟩⟩⟩
    · subst z
      exact fun Q h => E_M_lineRead ⟨fun y => absurd y1 y, fun _ => ⟨fun _ => ⟨fun y => absurd y (by omega), fun _ => ⟨fun y => absurd y (by omega), fun _ => ⟨fun y => absurd y (by omega), fun _ => ⟨fun y => absurd y (by omega), fun _ => ⟨fun y => absurd y (by omega), fun _ => ⟨fun _ => r2 _ (T_M_lineRead_114 ⟨fun y => absurd rfl y, fun _ => ⟨Or.inl rfl, h⟩⟩), fun y => absurd (by omega) y⟩⟩⟩⟩⟩⟩, fun y => absurd (by omega) y⟩⟩
    · subst z
      exact E_M_lineRead ⟨fun y => absurd y1 y, fun _ => ⟨fun _ => ⟨fun y => absurd y (by omega), fun _ => ⟨fun y => absurd y (by omega), fun _ => ⟨fun y => absurd y (by omega), fun _ => ⟨fun y => absurd y (by omega), fun _ => ⟨fun y => absurd y (by omega), fun _ => ⟨fun _ => r2 _ (T_M_lineRead_114 ⟨fun _ => q, fun y => absurd (by omega) y⟩), fun y => absurd (by omega) y⟩⟩⟩⟩⟩⟩, fun y => absurd (by omega) y⟩⟩
    · rcases r6 with z | ⟨z, u1, u2, u3, u4, u5, t⟩
      · exact Or.inl z
      · have x : ∀ b, o + 1 ≤ b → X1 b = X b := fun b hb => r4.1 b (by omega) (by omega) (by omega)
        have y : ∀ b, 103 ≤ b → Y1 b = Y b := fun b hb => r5.1 b (by omega) (by omega) (by omega)
        have yk : ∀ k, 12 ≤ k → Y1 98 k = Y 98 k := fun k hk => r5.2.1 k (by omega) (by omega) (by omega)
        have hle : X o 13 ≤ X1 o 13 := by rw [r4.2.1 13 (by omega)]; omega
        refine Or.inr ⟨z, ⟨b1.keep (r4.2.1 13 (by omega)) (fun b b1 _ => x b (by omega)) (yk 17 (by omega)) (fun b b1 b2 => y b (by omega)), b2.keep (r4.2.1 14 (by omega)) hle (fun b b1 _ => x b (by omega)) (yk 18 (by omega)) (fun b b1 b2 => y b (by omega)), b3.keep (r4.2.1 15 (by omega)) hle (fun b b1 _ => x b (by omega)) (yk 19 (by omega)) (fun b b1 b2 => y b (by omega)), b4.keep (r4.2.1 16 (by omega)) (fun b b1 _ => x b (by omega)) (yk 20 (by omega)) (fun b b1 b2 => y b (by omega)), ⟨?_, ⟨u1, u2, u3⟩, ?_, ⟨by rw [u4, u5], Or.inr u4⟩⟩, b6.keep (fun b b1 _ => x b (by omega)) (yk 21 (by omega)) (yk 47 (by omega)) (fun b b1 b2 => y b (by omega))⟩, t⟩
        · rw [r4.2.1 17 (by omega), r5.2.2.2 2 (by omega)]; exact b5.1
        · rw [r4.2.2 7 (by omega) (by omega) (by omega) (by omega), r5.2.2.1 0 (by omega)]; exact b5.2.2.1
  by_cases k23 : X 5 4 = 23
  · obtain ⟨y1, y2⟩ := hk 23 (by omega) (by omega) k23
    obtain ⟨v, X1, Y1, r1, r3, r4, r5, r6⟩ := k_law (Ls := Ls) (p := p) (pp := pp) (K := K) (L := L) hp hT hF b6
    have mE : ∀ Q, m_Call i_M_token [.inr (.inr 98)] (mem Ls pp Y K) (fun v M' => m_Wp i_M_lineRead 122 0 0 [(0, .inr (.inr 98))] (v ++ []) M' Q) → m_Call i_M_lineRead [.inr (.inr 98)] (mem Ls pp Y K) Q := fun Q q => E_M_lineRead ⟨fun y => absurd y1 y, fun _ => ⟨fun _ => ⟨fun y => absurd y (by omega), fun _ => ⟨fun y => absurd y (by omega), fun _ => ⟨fun y => absurd y (by omega), fun _ => ⟨fun y => absurd y (by omega), fun _ => ⟨fun y => absurd y (by omega), fun _ => ⟨fun y => absurd y (by omega), fun _ => q⟩⟩⟩⟩⟩⟩, fun y => absurd (by omega) y⟩⟩
    refine line_fin (v1 := v) (X1 := X1) (Y1 := Y1) ho (fun z => ?_) (fun z v2 X2 hv re => ?_) (fun z => ?_) (fun z Q q => ?_) r3 r4.gx r5.gy (r4.2 3 (by omega) (by omega) (by omega)) ?_
    · subst z
      exact fun Q h => E_LineReader_readsLine ⟨fun y => absurd y k17, fun _ => ⟨fun y => absurd y k18, fun _ => ⟨fun y => absurd y k19, fun _ => ⟨fun y => absurd y k20, fun _ => ⟨fun y => absurd y k21, fun _ => ⟨fun y => absurd y k22, fun _ => ⟨fun _ => r1 _ (T_LineReader_readsLine_172 ⟨fun _ => ⟨Or.inl rfl, h⟩, fun y => absurd rfl y⟩), fun y => absurd k23 y⟩⟩⟩⟩⟩⟩⟩
    · subst z
      exact fun Q h => E_LineReader_readsLine ⟨fun y => absurd y k17, fun _ => ⟨fun y => absurd y k18, fun _ => ⟨fun y => absurd y k19, fun _ => ⟨fun y => absurd y k20, fun _ => ⟨fun y => absurd y k21, fun _ => ⟨fun y => absurd y k22, fun _ => ⟨fun _ => r1 _ (T_LineReader_readsLine_172 ⟨fun y => by omega, fun _ => re _ (T_LineReader_readsLine_179 ⟨fun y => ⟨Or.inl rfl, by subst y; exact h⟩, fun y => ⟨Or.inr rfl, by rcases hv with hv | hv; exact absurd hv y; subst hv; exact h⟩⟩)⟩), fun y => absurd k23 y⟩⟩⟩⟩⟩⟩⟩
    · rcases r6 with ⟨_, m⟩ | ⟨y, _⟩
      · exact fun Q h => mE Q (m Q h)
      · omega
    · rcases r6 with ⟨y, _⟩ | ⟨_, m, _⟩
      · omega
      · exact mE Q (m Q q)
    · rcases r6 with ⟨z, _⟩ | ⟨z, _, hP, t⟩
      · exact Or.inl z
      · have x : ∀ b, o ≤ b → b ≤ o + 12 → X1 b = X b := fun b hb hb2 => r4.1 b (by omega) (by omega) (by omega) (by omega) (by omega)
        have y : ∀ b, 99 ≤ b → b ≤ 114 → Y1 b = Y b := fun b hb hb2 => r5.1 b (by omega) (by omega)
        have yk : ∀ k, 12 ≤ k → k ≤ 20 → Y1 98 k = Y 98 k := fun k hk hk2 => r5.2.1 k (by omega) (by omega) (by omega) (by omega) (by omega)
        have xo := x o (by omega) (by omega)
        have hle : X o 13 ≤ X1 o 13 := by rw [xo]; omega
        exact Or.inr ⟨z, ⟨b1.keep (by rw [xo]) (fun b b1 _ => x b (by omega) (by omega)) (yk 17 (by omega) (by omega)) (fun b b1 b2 => y b (by omega) (by omega)), b2.keep (by rw [xo]) hle (fun b b1 _ => x b (by omega) (by omega)) (yk 18 (by omega) (by omega)) (fun b b1 b2 => y b (by omega) (by omega)), b3.keep (by rw [xo]) hle (fun b b1 _ => x b (by omega) (by omega)) (yk 19 (by omega) (by omega)) (fun b b1 b2 => y b (by omega) (by omega)), b4.keep (by rw [xo]) (fun b b1 _ => x b (by omega) (by omega)) (yk 20 (by omega) (by omega)) (fun b b1 b2 => y b (by omega) (by omega)), b5.keep (by rw [xo]) (by rw [xo]) (r4.2 7 (by omega) (by omega) (by omega)) (r4.2 8 (by omega) (by omega) (by omega)) (y 101 (by omega) (by omega)) (y 102 (by omega) (by omega)), hP⟩, t⟩
  · -- no LINE begins so
    have hno : ¬ (Y 98 8 = 1 ∧ Y 98 9 ≤ 6) := by
      unfold KR at hK
      rcases hK with h | h | h | h | h | h | ⟨h1, h2, h3, h4⟩
      · omega
      · omega
      · omega
      · omega
      · omega
      · omega
      · split at h4
        · omega
        · split at h4 <;> omega
    obtain ⟨X', Y', f1, f2, f3, f4, f5⟩ := k_fail (Ls := Ls) (p := p) (pp := pp) (K := K) (L := L) hT 1
    refine ⟨0, X', Y', fun Q h => E_LineReader_readsLine ⟨fun y => absurd y k17, fun _ => ⟨fun y => absurd y k18, fun _ => ⟨fun y => absurd y k19, fun _ => ⟨fun y => absurd y k20, fun _ => ⟨fun y => absurd y k21, fun _ => ⟨fun y => absurd y k22, fun _ => ⟨fun y => absurd y k23, fun _ => f1 _ (T_LineReader_readsLine_193 ⟨Or.inl rfl, h⟩)⟩⟩⟩⟩⟩⟩⟩, fun Q h => E_M_lineRead ⟨fun _ => f2 _ (T_M_lineRead_22 ⟨Or.inl rfl, h⟩), fun z => ⟨fun z' => absurd ⟨Classical.not_not.mp z, z'⟩ hno, fun _ => f2 _ (T_M_lineRead_22 ⟨Or.inl rfl, h⟩)⟩⟩, f3, f4.gx, f5.gy, f4.2 3 (by omega) (by omega) (by omega), Or.inl rfl⟩
end K16
