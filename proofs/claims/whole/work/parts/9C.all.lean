/-! ===== phase 2: all LINES of a TEXT ===== -/
section K17
variable {Ls p pp o : Nat} {K L X Y : Nat → Nat → Int}
theorem BD.cnt {v : Int} (ho : o = 9 ∨ o = 68) (h : BD o X Y) : BD o (mup X 3 3 v) Y := by
  obtain ⟨h1, h2, h3, h4, h5, h6⟩ := h
  have x : ∀ a, o ≤ a → mup X 3 3 v a = X a := fun a ha => mup_other (by omega)
  have xo := x o (Nat.le_refl _)
  exact ⟨h1.keep (by rw [xo]) (fun a a1 _ => x a (by omega)) rfl (fun _ _ _ => rfl), h2.keep (by rw [xo]) (by rw [xo]; omega) (fun a a1 _ => x a (by omega)) rfl (fun _ _ _ => rfl), h3.keep (by rw [xo]) (by rw [xo]; omega) (fun a a1 _ => x a (by omega)) rfl (fun _ _ _ => rfl), h4.keep (by rw [xo]) (fun a a1 _ => x a (by omega)) rfl (fun _ _ _ => rfl), h5.keep (by rw [xo]) (by rw [xo]) (mup_ne (by omega)) (mup_ne (by omega)) rfl rfl, h6.keep (fun a a1 _ => x a (by omega)) rfl rfl (fun _ _ _ => rfl)⟩
/-- what all LINES come to, from the loops' heads on -/
def ALL (Ls p pp : Nat) (L K : Nat → Nat → Int) (o n : Nat) (X Y : Nat → Nat → Int) : Prop := ∃ v X' Y', (∀ Q : List mV → mM → Prop, Q [.inl v] (mem Ls p X' L) → m_Wp i_LineReader_readsAll 42 0 0 [(0, .inr (.inr 3)), (2, .inl (n : Int))] [] (mem Ls p X L) Q) ∧ FE X' Y' ∧ GX o X X' ∧ GY Y Y' ∧
  ((v = 0 ∧ ∀ Q : List mV → mM → Prop, Q [.inl (-1)] (mem Ls pp Y' K) → m_Wp i_M_text 55 0 0 [(0, .inr (.inr 98)), (2, .inl (n : Int))] [] (mem Ls pp Y K) Q) ∨
   (v = 1 ∧ BD o X' Y' ∧ ∀ Q : List mV → mM → Prop, m_Call i_M_keepText [.inr (.inr 98)] (mem Ls pp Y' K) (fun v M' => m_Wp i_M_text 81 0 0 [(0, .inr (.inr 98)), (2, .inl (X' 3 3))] (v ++ []) M' Q) → m_Wp i_M_text 55 0 0 [(0, .inr (.inr 98)), (2, .inl (n : Int))] [] (mem Ls pp Y K) Q))
theorem all_loop (hp : (p = 68 ∧ o = 9) ∨ (p = 9 ∧ o = 68)) {N : Nat} : ∀ (t : Nat) (X Y : Nat → Nat → Int) (a n : Nat), TK X Y N a → FE X Y → BD o X Y → X 3 3 = (n : Int) → n ≤ a → N - a < t → ALL Ls p pp L K o n X Y := by
  intro t
  induction t with
  | zero => intro X Y a n _ _ _ _ _ h; omega
  | succ t ih =>
    intro X Y a n hT hF hB h3 hn ht
    have hK := hT.2.2.2.2.1
    have hN : N ≤ 700 := hT.1.2.2.1
    have haN := hT.2.1
    have h0 : X 5 4 = 0 ↔ Y 98 8 = 0 := by unfold KR at hK; omega
    by_cases hk : X 5 4 = 0
    · exact ⟨1, X, Y, fun Q h => T_LineReader_readsAll_42 ⟨fun z => by omega, fun _ => ⟨fun _ => ⟨Or.inr rfl, h⟩, fun z => absurd hk z⟩⟩, hF, GX.rfl', GY.rfl', Or.inr ⟨rfl, hB, fun Q h => T_M_text_55 ⟨fun _ => by rw [h3] at h; exact h, fun z => absurd (h0.mp hk) z⟩⟩⟩
    · obtain ⟨v, X1, Y1, r1, r2, r3, r4, r5, r6, r7⟩ := k_line (Ls := Ls) (p := p) (pp := pp) (K := K) (L := L) hp hT hF hB
      rcases r7 with rfl | ⟨rfl, hB1, a1, hT1, ha1⟩
      · exact ⟨0, X1, Y1, fun Q h => T_LineReader_readsAll_42 ⟨fun z => by omega, fun _ => ⟨fun z => absurd z hk, fun _ => r1 _ (T_LineReader_readsAll_63 ⟨fun z => absurd rfl z, fun _ => ⟨Or.inl rfl, h⟩⟩)⟩⟩, r3, r4, r5, Or.inl ⟨rfl, fun Q h => T_M_text_55 ⟨fun z => absurd (h0.mpr z) hk, fun _ => r2 _ (T_M_text_66 ⟨fun z => absurd rfl z, fun _ => h⟩)⟩⟩⟩
      · have ho : o = 9 ∨ o = 68 := by omega
        have e : wr ((n : Int) + 1) = ((n + 1 : Nat) : Int) := by rw [wr_of] <;> omega
        have a1N := hT1.2.1
        have hT2 : TK (mup X1 3 3 ((n + 1 : Nat) : Int)) Y1 N a1 := hT1.congr (mup_other (by omega)) (mup_other (by omega)) (mup_other (by omega)) (fun _ _ _ => rfl) rfl rfl
        have hF2 : FE (mup X1 3 3 ((n + 1 : Nat) : Int)) Y1 := by
          unfold FE at *
          rw [mup_ne (by omega), mup_ne (by omega)]; exact r3
        obtain ⟨v, X', Y', s1, s2, s3, s4, s5⟩ := ih _ Y1 a1 (n + 1) hT2 hF2 (hB1.cnt ho) (mup_eq rfl rfl) (by omega) (by omega)
        have gx : GX o X X' := r4.tr (GX.tr (fun b h1 _ _ _ _ => mup_other h1) s3)
        have mh : ∀ Q : List mV → mM → Prop, m_Wp i_M_text 55 0 0 [(0, .inr (.inr 98)), (2, .inl ((n + 1 : Nat) : Int))] [] (mem Ls pp Y1 K) Q → m_Wp i_M_text 55 0 0 [(0, .inr (.inr 98)), (2, .inl (n : Int))] [] (mem Ls pp Y K) Q := fun Q h => T_M_text_55 ⟨fun z => absurd (h0.mpr z) hk, fun _ => r2 _ (T_M_text_66 ⟨fun _ => by rw [e]; exact h, fun z => absurd (by omega) z⟩)⟩
        refine ⟨v, X', Y', fun Q h => T_LineReader_readsAll_42 ⟨fun z => by omega, fun _ => ⟨fun z => absurd z hk, fun _ => r1 _ (T_LineReader_readsAll_63 ⟨fun _ => ?_, fun z => absurd (by omega) z⟩)⟩⟩, s2, gx, r5.tr s4, ?_⟩
        · rw [r6, h3, e]; exact s1 Q h
        · rcases s5 with ⟨hv, s5⟩ | ⟨hv, s6, s5⟩
          · exact Or.inl ⟨hv, fun Q h => mh Q (s5 Q h)⟩
          · exact Or.inr ⟨hv, s6, fun Q h => mh Q (s5 Q h)⟩
/-- the reader's plan, emptied -/
theorem k_clear (hp : (p = 68 ∧ o = 9) ∨ (p = 9 ∧ o = 68)) : ∃ X', RN Ls p L i_Plan_clear [.inr (.inr o)] X [] X' ∧ (∀ a, ¬ (o ≤ a ∧ a ≤ o + 18) → X' a = X a) ∧ (X' o 13 = 0 ∧ X' o 14 = 0 ∧ X' o 15 = 0 ∧ X' o 16 = 0 ∧ X' o 17 = 0 ∧ X' o 18 = 0) ∧ (X' (o + 13) 5 = 0 ∧ X' (o + 13) 6 = 0) ∧ ∀ l : Nat, l < 3 → X' (o + 13 + 3) l = 0 ∧ X' (o + 13 + 4) l = 0 := by
  have hw : o + 13 = 22 ∨ o + 13 = 81 := by omega
  refine ⟨(mup (mup (mup (mup (mup (mup (mup (mup (mup (mup (mup (mup (mup (mup X o 13 0) o 14 0) o 15 0) o 16 0) o 17 0) o 18 0) (o + 13) 5 0) (o + 13) 6 0) (o + 13 + 3) 0 0) (o + 13 + 4) 0 0) (o + 13 + 3) 1 0) (o + 13 + 4) 1 0) (o + 13 + 3) 2 0) (o + 13 + 4) 2 0), fun Q h => ?_, ?_⟩
  · refine E_Plan_clear_o hp (E_Laws_clear hw (T_Laws_clear_12 hw ⟨fun z => by omega, fun _ => ⟨by omega, by omega, ?_⟩⟩))
    rw [show wr ((0 : Int) + 1) = 1 from wr_of (by omega) (by omega)]
    refine T_Laws_clear_12 hw ⟨fun z => by omega, fun _ => ⟨by omega, by omega, ?_⟩⟩
    rw [show wr ((1 : Int) + 1) = 2 from wr_of (by omega) (by omega)]
    refine T_Laws_clear_12 hw ⟨fun z => by omega, fun _ => ⟨by omega, by omega, ?_⟩⟩
    rw [show wr ((2 : Int) + 1) = 3 from wr_of (by omega) (by omega)]
    exact T_Laws_clear_12 hw ⟨fun _ => T_Plan_clear_37_o hp h, fun z => by omega⟩
  · skip
    refine ⟨fun a ha => ?_, ⟨?_, ?_, ?_, ?_, ?_, ?_⟩, ⟨?_, ?_⟩, fun l hl => ?_⟩
    · iterate 14 refine (mup_other (by omega)).trans ?_
      rfl
    · simp only [mup_app]; grind
    · simp only [mup_app]; grind
    · simp only [mup_app]; grind
    · simp only [mup_app]; grind
    · simp only [mup_app]; grind
    · simp only [mup_app]; grind
    · simp only [mup_app]; grind
    · simp only [mup_app]; grind
    · have : l = 0 ∨ l = 1 ∨ l = 2 := by omega
      rcases this with rfl | rfl | rfl <;> simp only [mup_app] <;> grind
/-- the reference's, emptied -/
theorem k_plain : ∃ Y', RN Ls pp K i_M_plain [.inr (.inr 98)] Y [] Y' ∧ (∀ a, a ≠ 98 → a ≠ 101 → a ≠ 102 → a ≠ 115 → Y' a = Y a) ∧ (∀ k, k ≠ 17 → k ≠ 18 → k ≠ 19 → k ≠ 20 → k ≠ 21 → k ≠ 47 → Y' 98 k = Y 98 k) ∧ (Y' 98 17 = 0 ∧ Y' 98 18 = 0 ∧ Y' 98 19 = 0 ∧ Y' 98 20 = 0 ∧ Y' 98 21 = 0 ∧ Y' 98 47 = 0) ∧ (Y' 101 0 = 0 ∧ Y' 101 1 = 0 ∧ Y' 102 2 = 0 ∧ Y' 102 3 = 0) ∧ (∀ k, k < 2 → Y' 102 k = Y 102 k) ∧ (∀ l : Nat, l < 3 → Y' 115 (3 + l) = 0 ∧ Y' 115 l = Y 115 l) := by
  refine ⟨(mup (mup (mup (mup (mup (mup (mup (mup (mup (mup (mup (mup (mup Y 98 17 0) 98 18 0) 98 19 0) 98 20 0) 98 21 0) 98 47 0) 101 0 0) 102 2 0) 101 1 0) 102 3 0) 115 3 0) 115 4 0) 115 5 0), fun Q h => ?_, ?_⟩
  · refine E_M_plain (T_M_plain_32 ⟨fun z => by omega, fun _ => ⟨by omega, by rw [wr_of] <;> omega, ?_⟩⟩)
    rw [show wr ((0 : Int) + 1) = 1 from wr_of (by omega) (by omega), show wr ((2 : Int) + 0) = 2 from wr_of (by omega) (by omega)]
    refine T_M_plain_32 ⟨fun z => by omega, fun _ => ⟨by omega, by rw [wr_of] <;> omega, ?_⟩⟩
    rw [show wr ((1 : Int) + 1) = 2 from wr_of (by omega) (by omega), show wr ((2 : Int) + 1) = 3 from wr_of (by omega) (by omega)]
    refine T_M_plain_32 ⟨fun _ => T_M_plain_61 ⟨fun z => by omega, fun _ => ⟨by omega, ?_⟩⟩, fun z => by omega⟩
    rw [show wr ((3 : Int) + 1) = 4 from wr_of (by omega) (by omega)]
    refine T_M_plain_61 ⟨fun z => by omega, fun _ => ⟨by omega, ?_⟩⟩
    rw [show wr ((4 : Int) + 1) = 5 from wr_of (by omega) (by omega)]
    refine T_M_plain_61 ⟨fun z => by omega, fun _ => ⟨by omega, ?_⟩⟩
    rw [show wr ((5 : Int) + 1) = 6 from wr_of (by omega) (by omega)]
    exact T_M_plain_61 ⟨fun _ => h, fun z => by omega⟩
  · skip
    refine ⟨fun a h1 h2 h3 h4 => ?_, fun k h1 h2 h3 h4 h5 h6 => ?_, ⟨?_, ?_, ?_, ?_, ?_, ?_⟩, ⟨?_, ?_, ?_, ?_⟩, fun k hk => ?_, fun l hl => ⟨?_, ?_⟩⟩
    · funext j; simp only [mup_app]; grind
    all_goals (simp only [mup_app]; grind)
end K17
