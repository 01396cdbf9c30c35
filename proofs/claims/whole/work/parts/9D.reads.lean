/-! ===== phase 2: a TEXT read, both in step, up to what is kept of it ===== -/
section K18
variable {Ls p pp o : Nat} {K L X Y : Nat → Nat → Int}
def Y0 (Y : Nat → Nat → Int) (n : Nat) : Nat → Nat → Int := mup (mup (mup Y 98 2 0) 98 6 (n : Int)) 98 1 0
set_option maxHeartbeats 1000000 in
theorem k_text (hp : (p = 68 ∧ o = 9) ∨ (p = 9 ∧ o = 68)) {n : Nat} (hn : n ≤ 700) (hY : (n : Int) ≤ Y 98 1) (hT : TPR X Y) (w7 : ∀ k : Nat, k < 20 → X 7 k = words7.getD k 0) (w100 : ∀ k : Nat, k < 100 → Y 100 k = words100.getD k 0) :
    ∃ v X' Y', RN Ls p L i_LineReader_readsAll [.inr (.inr 3), .inl (n : Int)] X [.inl v] X' ∧ FE X' Y' ∧ GX o X X' ∧ GY (Y0 Y n) Y' ∧
    ((v = 0 ∧ RN Ls pp K i_M_text [.inr (.inr 98), .inl (n : Int)] Y [.inl (-1)] Y') ∨
     (v = 1 ∧ BD o X' Y' ∧ ∀ Q : List mV → mM → Prop, m_Call i_M_keepText [.inr (.inr 98)] (mem Ls pp Y' K) (fun v M' => m_Wp i_M_text 81 0 0 [(0, .inr (.inr 98)), (2, .inl (X' 3 3))] (v ++ []) M' Q) → m_Call i_M_text [.inr (.inr 98), .inl (n : Int)] (mem Ls pp Y K) Q)) := by
  have ho : o = 9 ∨ o = 68 := by omega
  obtain ⟨X1, c1, c2, c3, c4, c5⟩ := k_clear (Ls := Ls) (p := p) (L := L) (X := X) hp
  generalize hX3 : mup (mup (mup (mup (mup (mup (mup X1 3 3 0) 3 4 0) 3 5 (-1)) 3 7 0) 3 8 0) 5 2 (n : Int)) 5 3 0 = X3
  generalize hY1 : mup (mup (mup (mup (mup (mup Y 98 2 0) 98 6 (n : Int)) 98 1 0) 98 4 0) 98 5 (-1)) 98 7 0 = Y1
  obtain ⟨Y2, d1, d2, d3, d4, d5, d6, d7⟩ := k_plain (Ls := Ls) (pp := pp) (K := K) (Y := Y1)
  have x3 : ∀ a, a ≠ 3 → a ≠ 5 → X3 a = X1 a := fun a h1 h2 => by rw [← hX3, mup_other h2, mup_other h2, mup_other h1, mup_other h1, mup_other h1, mup_other h1, mup_other h1]
  have y1 : ∀ a, a ≠ 98 → Y1 a = Y a := fun a h1 => by rw [← hY1, mup_other h1, mup_other h1, mup_other h1, mup_other h1, mup_other h1, mup_other h1]
  have x33 : X3 3 3 = 0 ∧ X3 3 4 = 0 ∧ X3 3 5 = -1 ∧ X3 3 7 = 0 ∧ X3 3 8 = 0 ∧ X3 5 2 = (n : Int) ∧ X3 5 3 = 0 := by
    rw [← hX3]; simp [mup_app]
  have y98 : Y1 98 4 = 0 ∧ Y1 98 5 = -1 ∧ Y1 98 6 = (n : Int) ∧ Y1 98 7 = 0 := by
    rw [← hY1]; simp [mup_app]
  have yk : ∀ k, k ≠ 4 → k ≠ 5 → k ≠ 7 → Y1 98 k = Y0 Y n 98 k := fun k h1 h2 h3 => by
    rw [← hY1, mup_ne (Or.inr h3), mup_ne (Or.inr h2), mup_ne (Or.inr h1)]; rfl
  have ya : ∀ a, a ≠ 98 → Y0 Y n a = Y a := fun a h1 => by unfold Y0; rw [mup_other h1, mup_other h1, mup_other h1]
  have hTK : TKS X3 Y2 n := by
    refine ⟨x33.2.2.2.2.2.1, by rw [d3 6 (by omega) (by omega) (by omega) (by omega) (by omega) (by omega)]; exact y98.2.2.1, hn, ?_, ?_, ?_⟩
    · unfold TPR at *
      rw [d2 99 (by omega) (by omega) (by omega) (by omega), y1 99 (by omega), x3 6 (by omega) (by omega), c2 6 (by omega)]; exact hT
    · rw [x3 7 (by omega) (by omega), c2 7 (by omega)]; exact w7
    · rw [d2 100 (by omega) (by omega) (by omega) (by omega), y1 100 (by omega)]; exact w100
  obtain ⟨X4, Y4, a', r1, r2, r3, r4, r5, r6, r7⟩ := k_tok (Ls := Ls) (p := p) (pp := pp) (K := K) (L := L) (a := 0) hTK (by omega) x33.2.2.2.2.2.2 (by rw [d3 7 (by omega) (by omega) (by omega) (by omega) (by omega) (by omega)]; exact y98.2.2.2)
  have xo : ∀ a, o ≤ a → X4 a = X1 a := fun a ha => by rw [r5 a (by omega), x3 a (by omega) (by omega)]
  have hF : FE X4 Y4 := by
    unfold FE
    rw [r5 3 (by omega), r7 4 (by omega), r7 5 (by omega), d3 4 (by omega) (by omega) (by omega) (by omega) (by omega) (by omega), d3 5 (by omega) (by omega) (by omega) (by omega) (by omega) (by omega), x33.2.1, x33.2.2.1, y98.1, y98.2.1]; exact ⟨rfl, rfl⟩
  have hB : BD o X4 Y4 := by
    obtain ⟨e1, e2, e3, e4, e5, e6⟩ := c3
    obtain ⟨f1, f2, f3, f4, f5, f6⟩ := d4
    obtain ⟨g1, g2, g3, g4⟩ := d5
    refine ⟨?_, ?_, ?_, ?_, ?_, 0, ?_, fun i hi => by omega, fun l hl => Or.inl ⟨?_, ?_, ?_⟩⟩
    · unfold PLr; rw [xo o (by omega), r7 17 (by omega), e1, f1]; exact ⟨rfl, by omega, fun q hq => by omega⟩
    · unfold RLr; rw [xo o (by omega), r7 18 (by omega), e2, f2]; exact ⟨rfl, by omega, fun q hq => by omega⟩
    · unfold MLr; rw [xo o (by omega), r7 19 (by omega), e3, f3]; exact ⟨rfl, by omega, fun q hq => by omega⟩
    · unfold CLr; rw [xo o (by omega), r7 20 (by omega), e4, f4]; exact ⟨rfl, by omega, fun q hq => by omega⟩
    · unfold OLr; rw [xo o (by omega), r5 3 (by omega), r6 101 (by omega), r6 102 (by omega), e5, e6, x33.2.2.2.1, x33.2.2.2.2.1, g1, g2, g3, g4]; exact ⟨⟨rfl, by omega⟩, ⟨rfl, by omega⟩, ⟨rfl, Or.inl rfl⟩, rfl, Or.inl rfl⟩
    · unfold CNT; rw [xo (o + 13) (by omega), r7 21 (by omega), r7 47 (by omega), c4.1, c4.2, f5, f6]; exact ⟨rfl, rfl, rfl, rfl, by omega⟩
    · rw [r6 115 (by omega)]; exact (d7 l hl).1
    · rw [xo _ (by omega)]; exact (c5 l hl).1
    · rw [xo _ (by omega)]; exact (c5 l hl).2
  obtain ⟨v, X', Y', s1, s2, s3, s4, s5⟩ := all_loop (Ls := Ls) (p := p) (pp := pp) (L := L) (K := K) hp (N := n) (n - a' + 1) X4 Y4 a' 0 r3 hF hB (by rw [r5 3 (by omega)]; exact x33.1) (by omega) (by omega)
  have gx : GX o X X4 := fun a h1 h2 h3 h4 h5 => by rw [r5 a h3, x3 a h1 h3, c2 a h5]
  have gy : GY (Y0 Y n) Y4 := by
    refine ⟨fun a h1 h2 => by rw [r6 a h1, d2 a h1 (by omega) (by omega) (by omega), y1 a h1, ya a h1], fun k hk => by rw [r7 k (by omega), d3 k (by omega) (by omega) (by omega) (by omega) (by omega) (by omega), yk k (by omega) (by omega) (by omega)], fun a k h1 h2 h3 => ?_⟩
    rw [r6 a (by omega), ya a (by omega), ← y1 a (by omega)]
    by_cases h101 : a = 101
    · subst h101; exact absurd h3 half_101
    · by_cases h102 : a = 102
      · subst h102; exact d6 k h3
      · by_cases h115 : a = 115
        · subst h115; exact (d7 k h3).2
        · rw [d2 a (by omega) h101 h102 h115]
  have cc : ∀ Q : List mV → mM → Prop, m_Wp i_LineReader_readsAll 42 0 0 [(0, .inr (.inr 3)), (2, .inl ((0 : Nat) : Int))] [] (mem Ls p X4 L) Q → m_Call i_LineReader_readsAll [.inr (.inr 3), .inl (n : Int)] (mem Ls p X L) Q := fun Q h => by
    refine E_LineReader_readsAll hp (c1 _ (T_LineReader_readsAll_7 ⟨Or.inl rfl, Or.inl rfl, E_Tokens_begin ?_⟩))
    rw [show m_min (n : Int) 700 = (n : Int) from if_neg (by omega), hX3]
    exact r1 _ (T_Tokens_begin_20 (T_LineReader_readsAll_40 h))
  have mm : ∀ Q : List mV → mM → Prop, m_Wp i_M_text 55 0 0 [(0, .inr (.inr 98)), (2, .inl ((0 : Nat) : Int))] [] (mem Ls pp Y4 K) Q → m_Call i_M_text [.inr (.inr 98), .inl (n : Int)] (mem Ls pp Y K) Q := fun Q h => by
    refine E_M_text ⟨fun z => by omega, fun _ => ⟨fun _ => ?_, fun z => absurd hY z⟩⟩
    rw [hY1]
    exact d1 _ (T_M_text_49 (r2 _ (T_M_text_53 h)))
  refine ⟨v, X', Y', fun Q h => cc Q (s1 Q h), s2, gx.tr s3, gy.tr s4, ?_⟩
  rcases s5 with ⟨hv, s5⟩ | ⟨hv, s6, s5⟩
  · exact Or.inl ⟨hv, fun Q h => mm Q (s5 Q h)⟩
  · exact Or.inr ⟨hv, s6, fun Q h => mm Q (s5 Q h)⟩
end K18
