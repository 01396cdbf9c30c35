/-! ===== phase 2: tokens ===== -/
def isWs (c : Int) : Prop := c = 10 ∨ c = 32
def isLt (c : Int) : Prop := 97 ≤ c ∧ c ≤ 122
def isDg (c : Int) : Prop := 48 ≤ c ∧ c ≤ 57
/-- the tape of the two -/
def TPR (X Y : Nat → Nat → Int) : Prop := ∀ j : Nat, j < 700 → (0 ≤ Y 99 j ∧ Y 99 j ≤ 255) ∧ X 6 j = sby (Y 99 j)
theorem sby_eq {c v : Int} (hc : 0 ≤ c ∧ c ≤ 255) (hv : 0 ≤ v ∧ v < 128) : sby c = v ↔ c = v := by unfold sby; split <;> omega
theorem sby_lt {c : Int} (hc : 0 ≤ c ∧ c ≤ 255) : (isLt (sby c) ↔ isLt c) ∧ (isDg (sby c) ↔ isDg c) ∧ (isWs (sby c) ↔ isWs c) := by unfold sby isLt isDg isWs; split <;> omega
/-- from a on to the first place where P does not hold -/
theorem run_to {P : Nat → Prop} (N : Nat) : ∀ (t a : Nat), a + t = N → ∃ s, a ≤ s ∧ s ≤ N ∧ (∀ j, a ≤ j → j < s → P j) ∧ (s < N → ¬ P s) := by
  intro t
  induction t with
  | zero => intro a ha; exact ⟨a, by omega, by omega, fun j h1 h2 => by omega, fun h => by omega⟩
  | succ t ih =>
    intro a ha
    by_cases h : P a
    · obtain ⟨s, s1, s2, s3, s4⟩ := ih (a + 1) (by omega)
      exact ⟨s, by omega, s2, fun j h1 h2 => by
        by_cases hj : j = a
        · subst hj; exact h
        · exact s3 j (by omega) h2, s4⟩
    · exact ⟨a, by omega, by omega, fun j h1 h2 => by omega, fun _ => h⟩
section V6
variable {Ls p kc ks c : Nat} {I J K L X Y Z : Nat → Nat → Int} {Q : List mV → mM → Prop}
theorem adv_ws {N s : Nat} (hN : N ≤ 700) (hsN : s ≤ N) (hs : s < N → ¬ isWs (X 6 s)) (hF : s < N → m_Call i_Tokens_isLetter [.inr (.inr 5), .inl (s : Int)] (mem Ls p (mup (mup X 5 3 (s : Int)) 5 5 (s : Int)) L) (fun v M' => m_Wp i_Tokens_advance 87 kc ks [(0, .inr (.inr 5))] (v ++ []) M' Q)) (hE : s = N → Q [] (mem Ls p (mup (mup (mup X 5 3 (s : Int)) 5 5 (s : Int)) 5 4 0) L)) : ∀ (t a : Nat), a + t = s → (∀ j, a ≤ j → j < s → isWs (X 6 j)) → X 5 2 = (N : Int) → m_Wp i_Tokens_advance 0 kc ks [(0, .inr (.inr 5))] [] (mem Ls p (mup X 5 3 (a : Int)) L) Q := by
  intro t
  induction t with
  | zero =>
    intro a ha hw h2
    have : a = s := by omega
    subst this
    refine T_Tokens_advance_0 ?_
    rw [mup_eq rfl rfl, mup_ne (show ¬ (5 : Nat) = 5 ∨ ¬ 2 = 3 by omega), mup_other (i := 6) (by omega), h2, Int.toNat_natCast]
    refine ⟨fun z => ⟨fun z2 => by omega, fun _ => hE (by omega)⟩, fun z => ⟨by omega, fun z2 => absurd (Or.inl z2) (hs (by omega)), fun z2 => ⟨by omega, fun z3 => ⟨fun _ => hF (by omega), fun z4 => by omega⟩, fun z3 => absurd (Or.inr (Classical.not_not.mp z3)) (hs (by omega))⟩⟩⟩
  | succ t ih =>
    intro a ha hw h2
    have hwa := hw a (by omega) (by omega)
    refine T_Tokens_advance_0 ?_
    rw [mup_eq rfl rfl, mup_ne (show ¬ (5 : Nat) = 5 ∨ ¬ 2 = 3 by omega), mup_other (i := 6) (by omega), h2, Int.toNat_natCast, wr_of (z := (a : Int) + 1) (by omega) (by omega), mup_mup, show (a : Int) + 1 = ((a + 1 : Nat) : Int) by omega]
    have go := ih (a + 1) (by omega) (fun j h1 h3 => hw j (by omega) h3) h2
    unfold isWs at hwa
    refine ⟨fun z => by omega, fun z => ⟨by omega, fun _ => go, fun z2 => ⟨by omega, fun z3 => by omega, fun _ => go⟩⟩⟩
theorem q_adv {N a s : Nat} (hN : N ≤ 700) (has : a ≤ s) (hsN : s ≤ N) (hs : s < N → ¬ isWs (X 6 s)) (hw : ∀ j, a ≤ j → j < s → isWs (X 6 j)) (h2 : X 5 2 = (N : Int)) (h3 : X 5 3 = (a : Int)) (hF : s < N → m_Call i_Tokens_isLetter [.inr (.inr 5), .inl (s : Int)] (mem Ls p (mup (mup X 5 3 (s : Int)) 5 5 (s : Int)) L) (fun v M' => m_Wp i_Tokens_advance 87 0 0 [(0, .inr (.inr 5))] (v ++ []) M' Q)) (hE : s = N → Q [] (mem Ls p (mup (mup (mup X 5 3 (s : Int)) 5 5 (s : Int)) 5 4 0) L)) : m_Call i_Tokens_advance [.inr (.inr 5)] (mem Ls p X L) Q := by
  refine E_Tokens_advance ?_
  rw [h2, h3, Int.toNat_natCast, wr_of (z := (a : Int) + 1) (by omega) (by omega), show (a : Int) + 1 = ((a + 1 : Nat) : Int) by omega]
  by_cases hsa : a = s
  · subst hsa
    rw [mup_same (J := X) (k := 5) (j := 3) h3] at hF hE
    refine ⟨fun z => ⟨fun z2 => by omega, fun _ => hE (by omega)⟩, fun z => ⟨by omega, fun z2 => absurd (Or.inl z2) (hs (by omega)), fun z2 => ⟨by omega, fun z3 => ⟨fun _ => hF (by omega), fun z4 => by omega⟩, fun z3 => absurd (Or.inr (Classical.not_not.mp z3)) (hs (by omega))⟩⟩⟩
  · have hwa := hw a (by omega) (by omega)
    have go := adv_ws hN hsN hs hF hE (s - (a + 1)) (a + 1) (by omega) (fun j h1 h3 => hw j (by omega) h3) h2
    unfold isWs at hwa
    refine ⟨fun z => by omega, fun z => ⟨by omega, fun _ => go, fun z2 => ⟨by omega, fun z3 => by omega, fun _ => go⟩⟩⟩
theorem q_isLetter {i : Nat} (hi : i < 700) (h1 : isLt (X 6 i) → Q [.inl 1] (mem Ls p X L)) (h0 : ¬ isLt (X 6 i) → Q [.inl 0] (mem Ls p X L)) : m_Call i_Tokens_isLetter [.inr (.inr 5), .inl (i : Int)] (mem Ls p X L) Q := by
  unfold isLt at h1 h0
  refine E_Tokens_isLetter ?_
  rw [Int.toNat_natCast]
  exact ⟨by omega, fun z => ⟨by omega, h0 (by omega)⟩, fun z => ⟨by omega, fun z2 => ⟨by omega, h0 (by omega)⟩, fun z2 => ⟨by omega, h1 (by omega)⟩⟩⟩
theorem q_isDigit {i : Nat} (hi : i < 700) (h1 : isDg (X 6 i) → Q [.inl 1] (mem Ls p X L)) (h0 : ¬ isDg (X 6 i) → Q [.inl 0] (mem Ls p X L)) : m_Call i_Tokens_isDigit [.inr (.inr 5), .inl (i : Int)] (mem Ls p X L) Q := by
  unfold isDg at h1 h0
  refine E_Tokens_isDigit ?_
  rw [Int.toNat_natCast]
  exact ⟨by omega, fun z => ⟨by omega, h0 (by omega)⟩, fun z => ⟨by omega, fun z2 => ⟨by omega, h0 (by omega)⟩, fun z2 => ⟨by omega, h1 (by omega)⟩⟩⟩
theorem tok_ws {N s : Nat} (hN : N ≤ 700) (hsN : s ≤ N) (hs : s < N → ¬ isWs (Y 99 s)) (hF : s < N → m_Call i_M_isSmall [.inr (.inr 98), .inl (s : Int)] (mem Ls p (mup (mup Y 98 7 (s : Int)) 98 10 (s : Int)) L) (fun v M' => m_Wp i_M_token 87 kc ks [(0, .inr (.inr 98))] (v ++ []) M' Q)) (hE : s = N → Q [] (mem Ls p (mup (mup (mup Y 98 7 (s : Int)) 98 10 (s : Int)) 98 8 0) L)) : ∀ (t a : Nat), a + t = s → (∀ j, a ≤ j → j < s → isWs (Y 99 j)) → Y 98 6 = (N : Int) → m_Wp i_M_token 0 kc ks [(0, .inr (.inr 98))] [] (mem Ls p (mup Y 98 7 (a : Int)) L) Q := by
  intro t
  induction t with
  | zero =>
    intro a ha hw h2
    have : a = s := by omega
    subst this
    refine T_M_token_0 ?_
    rw [mup_eq rfl rfl, mup_ne (show ¬ (98 : Nat) = 98 ∨ ¬ 6 = 7 by omega), mup_other (i := 99) (by omega), h2, Int.toNat_natCast]
    refine ⟨fun z => ⟨fun z2 => by omega, fun _ => hE (by omega)⟩, fun z => ⟨by omega, fun z2 => absurd (Or.inl z2) (hs (by omega)), fun z2 => ⟨by omega, fun z3 => ⟨fun _ => hF (by omega), fun z4 => by omega⟩, fun z3 => absurd (Or.inr (Classical.not_not.mp z3)) (hs (by omega))⟩⟩⟩
  | succ t ih =>
    intro a ha hw h2
    have hwa := hw a (by omega) (by omega)
    refine T_M_token_0 ?_
    rw [mup_eq rfl rfl, mup_ne (show ¬ (98 : Nat) = 98 ∨ ¬ 6 = 7 by omega), mup_other (i := 99) (by omega), h2, Int.toNat_natCast, wr_of (z := (a : Int) + 1) (by omega) (by omega), mup_mup, show (a : Int) + 1 = ((a + 1 : Nat) : Int) by omega]
    have go := ih (a + 1) (by omega) (fun j h1 h3 => hw j (by omega) h3) h2
    unfold isWs at hwa
    refine ⟨fun z => by omega, fun z => ⟨by omega, fun _ => go, fun z2 => ⟨by omega, fun z3 => by omega, fun _ => go⟩⟩⟩
theorem r_tok {N a s : Nat} (hN : N ≤ 700) (has : a ≤ s) (hsN : s ≤ N) (hs : s < N → ¬ isWs (Y 99 s)) (hw : ∀ j, a ≤ j → j < s → isWs (Y 99 j)) (h2 : Y 98 6 = (N : Int)) (h3 : Y 98 7 = (a : Int)) (hF : s < N → m_Call i_M_isSmall [.inr (.inr 98), .inl (s : Int)] (mem Ls p (mup (mup Y 98 7 (s : Int)) 98 10 (s : Int)) L) (fun v M' => m_Wp i_M_token 87 0 0 [(0, .inr (.inr 98))] (v ++ []) M' Q)) (hE : s = N → Q [] (mem Ls p (mup (mup (mup Y 98 7 (s : Int)) 98 10 (s : Int)) 98 8 0) L)) : m_Call i_M_token [.inr (.inr 98)] (mem Ls p Y L) Q := by
  refine E_M_token ?_
  rw [h2, h3, Int.toNat_natCast, wr_of (z := (a : Int) + 1) (by omega) (by omega), show (a : Int) + 1 = ((a + 1 : Nat) : Int) by omega]
  by_cases hsa : a = s
  · subst hsa
    rw [mup_same (J := Y) (k := 98) (j := 7) h3] at hF hE
    refine ⟨fun z => ⟨fun z2 => by omega, fun _ => hE (by omega)⟩, fun z => ⟨by omega, fun z2 => absurd (Or.inl z2) (hs (by omega)), fun z2 => ⟨by omega, fun z3 => ⟨fun _ => hF (by omega), fun z4 => by omega⟩, fun z3 => absurd (Or.inr (Classical.not_not.mp z3)) (hs (by omega))⟩⟩⟩
  · have hwa := hw a (by omega) (by omega)
    have go := tok_ws hN hsN hs hF hE (s - (a + 1)) (a + 1) (by omega) (fun j h1 h3 => hw j (by omega) h3) h2
    unfold isWs at hwa
    refine ⟨fun z => by omega, fun z => ⟨by omega, fun _ => go, fun z2 => ⟨by omega, fun z3 => by omega, fun _ => go⟩⟩⟩
theorem r_isSmall {N i : Nat} (hN : N ≤ 700) (h6 : Y 98 6 = (N : Int)) (h1 : i < N → isLt (Y 99 i) → Q [.inl 1] (mem Ls p Y L)) (h0 : ¬ (i < N ∧ isLt (Y 99 i)) → Q [.inl 0] (mem Ls p Y L)) : m_Call i_M_isSmall [.inr (.inr 98), .inl (i : Int)] (mem Ls p Y L) Q := by
  unfold isLt at h1 h0
  refine E_M_isSmall ?_
  rw [Int.toNat_natCast, h6]
  exact ⟨fun z => ⟨by omega, h0 (by omega)⟩, fun z => ⟨by omega, fun z1 => ⟨by omega, h0 (by omega)⟩, fun z1 => ⟨by omega, fun z2 => ⟨by omega, h0 (by omega)⟩, fun z2 => ⟨by omega, h1 (by omega) (by omega)⟩⟩⟩⟩
theorem r_isDigit {N i : Nat} (hN : N ≤ 700) (h6 : Y 98 6 = (N : Int)) (h1 : i < N → isDg (Y 99 i) → Q [.inl 1] (mem Ls p Y L)) (h0 : ¬ (i < N ∧ isDg (Y 99 i)) → Q [.inl 0] (mem Ls p Y L)) : m_Call i_M_isDigit [.inr (.inr 98), .inl (i : Int)] (mem Ls p Y L) Q := by
  unfold isDg at h1 h0
  refine E_M_isDigit ?_
  rw [Int.toNat_natCast, h6]
  exact ⟨fun z => ⟨by omega, h0 (by omega)⟩, fun z => ⟨by omega, fun z1 => ⟨by omega, h0 (by omega)⟩, fun z1 => ⟨by omega, fun z2 => ⟨by omega, h0 (by omega)⟩, fun z2 => ⟨by omega, h1 (by omega) (by omega)⟩⟩⟩⟩
end V6
