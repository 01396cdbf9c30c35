/-! ===== phase 2: the readers of a token, a number, a person: both in step ===== -/
/-- a call from X comes to v and X' -/
def RN (Ls p : Nat) (L : Nat → Nat → Int) (c : Nat) (as : List mV) (X : Nat → Nat → Int) (v : List mV) (X' : Nat → Nat → Int) : Prop := ∀ Q : List mV → mM → Prop, Q v (mem Ls p X' L) → m_Call c as (mem Ls p X L) Q
def SX (X X' : Nat → Nat → Int) : Prop := (∀ a, a ≠ 3 → a ≠ 5 → X' a = X a) ∧ (∀ k, k ≠ 4 → k ≠ 5 → k ≠ 6 → X' 3 k = X 3 k)
def SY (Y Y' : Nat → Nat → Int) : Prop := (∀ a, a ≠ 98 → Y' a = Y a) ∧ (∀ k, k ≠ 4 → k ≠ 5 → (k < 7 ∨ 11 < k) → Y' 98 k = Y 98 k)
theorem SX.rfl' {X : Nat → Nat → Int} : SX X X := ⟨fun _ _ _ => rfl, fun _ _ _ _ => rfl⟩
theorem SY.rfl' {Y : Nat → Nat → Int} : SY Y Y := ⟨fun _ _ => rfl, fun _ _ _ _ => rfl⟩
theorem SX.tr {X X1 X2 : Nat → Nat → Int} (h : SX X X1) (g : SX X1 X2) : SX X X2 := ⟨fun a h1 h2 => by rw [g.1 a h1 h2, h.1 a h1 h2], fun k h1 h2 h3 => by rw [g.2 k h1 h2 h3, h.2 k h1 h2 h3]⟩
theorem SY.tr {Y Y1 Y2 : Nat → Nat → Int} (h : SY Y Y1) (g : SY Y1 Y2) : SY Y Y2 := ⟨fun a h1 => by rw [g.1 a h1, h.1 a h1], fun k h1 h2 h3 => by rw [g.2 k h1 h2 h3, h.2 k h1 h2 h3]⟩
/-- the fault, told alike -/
def FE (X Y : Nat → Nat → Int) : Prop := X 3 4 = Y 98 4 ∧ X 3 5 = Y 98 5
/-- the token that stands there, alike; behind it place a -/
def TK (X Y : Nat → Nat → Int) (N a : Nat) : Prop := TKS X Y N ∧ a ≤ N ∧ X 5 3 = (a : Int) ∧ Y 98 7 = (a : Int) ∧ KR (X 5 4) (X 5 6) (X 5 7) (Y 98 8) (Y 98 9) ∧ X 5 5 = Y 98 10
def AD (X : Nat → Nat → Int) (a a' : Nat) : Prop := a ≤ a' ∧ (X 5 4 ≠ 0 → a < a')
theorem AD.tr {X1 X2 : Nat → Nat → Int} {a b c : Nat} (h : AD X1 a b) (g : AD X2 b c) : AD X2 a c := ⟨by have := h.1; have := g.1; omega, fun z => by have := h.1; have := g.2 z; omega⟩
theorem TKS.congr {X X' Y Y' : Nat → Nat → Int} {N : Nat} (h : TKS X Y N) (h5 : X' 5 2 = X 5 2) (h6 : X' 6 = X 6) (h7 : X' 7 = X 7) (g : Y' 98 6 = Y 98 6) (g99 : Y' 99 = Y 99) (g100 : Y' 100 = Y 100) : TKS X' Y' N := by
  unfold TKS TPR at *
  rw [h5, h6, h7, g, g99, g100]; exact h
theorem TK.congr {X X' Y Y' : Nat → Nat → Int} {N a : Nat} (h : TK X Y N a) (h5 : X' 5 = X 5) (h6 : X' 6 = X 6) (h7 : X' 7 = X 7) (g : ∀ k, 6 ≤ k → k ≤ 10 → Y' 98 k = Y 98 k) (g99 : Y' 99 = Y 99) (g100 : Y' 100 = Y 100) : TK X' Y' N a := by
  obtain ⟨t, r⟩ := h
  refine ⟨t.congr (by rw [h5]) h6 h7 (g 6 (by omega) (by omega)) g99 g100, ?_⟩
  rw [h5, g 7 (by omega) (by omega), g 8 (by omega) (by omega), g 9 (by omega) (by omega), g 10 (by omega) (by omega)]; exact r
section K1
variable {Ls p pp o kc ks : Nat} {K L X Y : Nat → Nat → Int}
theorem k_tok {N a : Nat} (hT : TKS X Y N) (ha : a ≤ N) (hX : X 5 3 = (a : Int)) (hY : Y 98 7 = (a : Int)) : ∃ X' Y' a', RN Ls p L i_Tokens_advance [.inr (.inr 5)] X [] X' ∧ RN Ls pp K i_M_token [.inr (.inr 98)] Y [] Y' ∧ TK X' Y' N a' ∧ AD X' a a' ∧ (∀ b, b ≠ 5 → X' b = X b) ∧ (∀ b, b ≠ 98 → Y' b = Y b) ∧ (∀ k, k < 7 ∨ 10 < k → Y' 98 k = Y 98 k) := by
  obtain ⟨a', pl, k, nm, lt, m, w, h1, h2, h3, h4, h5, h6⟩ := tok_pair (Ls := Ls) (p := p) (pp := pp) (K := K) (L := L) hT ha hX hY
  have x5 : ∀ b, b ≠ 5 → tX X (a' : Int) k (pl : Int) nm lt b = X b := fun b hb => by
    unfold tX; rw [mup_other hb, mup_other hb, mup_other hb, mup_other hb, mup_other hb]
  have y98 : ∀ b, b ≠ 98 → tY Y (a' : Int) m w (pl : Int) b = Y b := fun b hb => by
    unfold tY; rw [mup_other hb, mup_other hb, mup_other hb, mup_other hb]
  have yk : ∀ k, k < 7 ∨ 10 < k → tY Y (a' : Int) m w (pl : Int) 98 k = Y 98 k := fun k hk => by
    unfold tY; rw [mup_ne (by omega), mup_ne (by omega), mup_ne (by omega), mup_ne (by omega)]
  have x52 : tX X (a' : Int) k (pl : Int) nm lt 5 2 = X 5 2 := by
    unfold tX; rw [mup_ne (by omega), mup_ne (by omega), mup_ne (by omega), mup_ne (by omega), mup_ne (by omega)]
  have x53 : tX X (a' : Int) k (pl : Int) nm lt 5 3 = (a' : Int) := by
    unfold tX; rw [mup_ne (by omega), mup_ne (by omega), mup_ne (by omega), mup_ne (by omega), mup_eq rfl rfl]
  have x54 : tX X (a' : Int) k (pl : Int) nm lt 5 4 = k := by
    unfold tX; rw [mup_ne (by omega), mup_ne (by omega), mup_ne (by omega), mup_eq rfl rfl]
  have x55 : tX X (a' : Int) k (pl : Int) nm lt 5 5 = (pl : Int) := by
    unfold tX; rw [mup_ne (by omega), mup_ne (by omega), mup_eq rfl rfl]
  have x56 : tX X (a' : Int) k (pl : Int) nm lt 5 6 = nm := by
    unfold tX; rw [mup_ne (by omega), mup_eq rfl rfl]
  have x57 : tX X (a' : Int) k (pl : Int) nm lt 5 7 = lt := by
    unfold tX; rw [mup_eq rfl rfl]
  have y7 : tY Y (a' : Int) m w (pl : Int) 98 7 = (a' : Int) := by
    unfold tY; rw [mup_ne (by omega), mup_ne (by omega), mup_ne (by omega), mup_eq rfl rfl]
  have y8 : tY Y (a' : Int) m w (pl : Int) 98 8 = m := by
    unfold tY; rw [mup_ne (by omega), mup_ne (by omega), mup_eq rfl rfl]
  have y9 : tY Y (a' : Int) m w (pl : Int) 98 9 = w := by
    unfold tY; rw [mup_ne (by omega), mup_eq rfl rfl]
  have y10 : tY Y (a' : Int) m w (pl : Int) 98 10 = (pl : Int) := by
    unfold tY; rw [mup_eq rfl rfl]
  refine ⟨_, _, a', h1, h2, ⟨hT.congr x52 (x5 6 (by omega)) (x5 7 (by omega)) (yk 6 (by omega)) (y98 99 (by omega)) (y98 100 (by omega)), h4, x53, y7, ?_, by rw [x55, y10]⟩, ⟨h3, fun z => h5 (by rw [x54] at z; exact z)⟩, x5, y98, yk⟩
  rw [x54, x56, x57, y8, y9]; exact h6
/-- the next token, from one that stands there -/
theorem k_adv {N a : Nat} (hT : TK X Y N a) (hF : FE X Y) : ∃ X' Y' a', RN Ls p L i_Tokens_advance [.inr (.inr 5)] X [] X' ∧ RN Ls pp K i_M_token [.inr (.inr 98)] Y [] Y' ∧ TK X' Y' N a' ∧ AD X' a a' ∧ FE X' Y' ∧ SX X X' ∧ SY Y Y' ∧ X' 3 = X 3 ∧ Y' 98 11 = Y 98 11 := by
  obtain ⟨X', Y', a', r1, r2, r3, r4, r5, r6, r7⟩ := k_tok (Ls := Ls) (p := p) (pp := pp) (K := K) (L := L) hT.1 hT.2.1 hT.2.2.1 hT.2.2.2.1
  refine ⟨X', Y', a', r1, r2, r3, r4, ?_, ⟨fun b h1 h2 => r5 b h2, fun k _ _ _ => by rw [r5 3 (by omega)]⟩, ⟨r6, fun k h1 h2 h3 => r7 k (by omega)⟩, r5 3 (by omega), r7 11 (by omega)⟩
  unfold FE at *
  rw [r5 3 (by omega), r7 4 (by omega), r7 5 (by omega)]; exact hF
/-- a fault of the token that stands there -/
theorem k_fail {N a : Nat} (hT : TK X Y N a) (f : Int) : ∃ X' Y', RN Ls p L i_LineReader_fails [.inr (.inr 3), .inl f] X [.inl 0] X' ∧ RN Ls pp K i_M_wrong [.inr (.inr 98), .inl f] Y [.inl 0] Y' ∧ FE X' Y' ∧ SX X X' ∧ SY Y Y' := by
  refine ⟨_, _, fun Q h => E_LineReader_fails ⟨Or.inl rfl, h⟩, fun Q h => E_M_wrong ⟨Or.inl rfl, h⟩, ⟨?_, ?_⟩, ⟨fun b h1 _ => ?_, fun k h1 h2 _ => ?_⟩, ⟨fun b h1 => ?_, fun k h1 h2 _ => ?_⟩⟩
  · rw [mup_ne (by omega), mup_eq rfl rfl, mup_ne (by omega), mup_eq rfl rfl]
  · rw [mup_eq rfl rfl, mup_eq rfl rfl]; exact hT.2.2.2.2.2
  · rw [mup_other h1, mup_other h1]
  · rw [mup_ne (by omega), mup_ne (by omega)]
  · rw [mup_other h1, mup_other h1]
  · rw [mup_ne (by omega), mup_ne (by omega)]
/-- a number within bounds -/
theorem k_num {N a : Nat} {lo hi : Int} (hT : TK X Y N a) (hF : FE X Y) (hhi : hi ≤ 99999) : ∃ v X' Y', RN Ls p L i_LineReader_readsNumber [.inr (.inr 3), .inl lo, .inl hi] X [.inl v] X' ∧ RN Ls pp K i_M_number [.inr (.inr 98), .inl lo, .inl hi] Y [.inl v] Y' ∧ FE X' Y' ∧ SX X X' ∧ SY Y Y' ∧ (v = 0 ∨ (v = 1 ∧ ∃ a', TK X' Y' N a' ∧ AD X' a a' ∧ X' 3 6 = Y' 98 11 ∧ lo ≤ X' 3 6 ∧ X' 3 6 ≤ hi)) := by
  have hK := hT.2.2.2.2.1
  by_cases h2 : X 5 4 = 2
  · have h3 : Y 98 8 = 3 ∧ NR (X 5 6) (Y 98 9) := by
      unfold KR at hK
      rcases hK with h | h | h | h | h | h | h
      · omega
      · omega
      · exact ⟨h.2.1, h.2.2⟩
      · omega
      · omega
      · omega
      · omega
    by_cases hin : lo ≤ X 5 6 ∧ X 5 6 ≤ hi
    · have hw : Y 98 9 = X 5 6 := by have := h3.2; unfold NR at this; omega
      have hT1 : TK (mup X 3 6 (X 5 6)) (mup Y 98 11 (Y 98 9)) N a := hT.congr (mup_other (by omega)) (mup_other (by omega)) (mup_other (by omega)) (fun k h1 h2 => mup_ne (by omega)) (mup_other (by omega)) (mup_other (by omega))
      have hF1 : FE (mup X 3 6 (X 5 6)) (mup Y 98 11 (Y 98 9)) := by
        unfold FE at *
        rw [mup_ne (by omega), mup_ne (by omega), mup_ne (by omega), mup_ne (by omega)]; exact hF
      obtain ⟨X', Y', a', r1, r2, r3, r4, r5, r6, r7, r8, r9⟩ := k_adv (Ls := Ls) (p := p) (pp := pp) (K := K) (L := L) hT1 hF1
      refine ⟨1, X', Y', fun Q h => E_LineReader_readsNumber ⟨fun _ => ⟨fun z => by omega, fun _ => ⟨fun _ => r1 _ (T_LineReader_readsNumber_63 ⟨Or.inr rfl, h⟩), fun z => by omega⟩⟩, fun z => by omega⟩, fun Q h => E_M_number ⟨fun _ => E_M_isIn ⟨fun z => by omega, fun _ => ⟨fun z => by omega, fun _ => ⟨Or.inr rfl, T_M_number_23 ⟨fun _ => r2 _ (T_M_number_44 ⟨Or.inr rfl, h⟩), fun z => absurd (by omega) z⟩⟩⟩⟩, fun z => by omega⟩, r5, SX.tr ⟨fun b h1 _ => mup_other h1, fun k _ _ h1 => mup_ne (by omega)⟩ r6, SY.tr ⟨fun b h1 => mup_other h1, fun k _ _ h1 => mup_ne (by omega)⟩ r7, Or.inr ⟨rfl, a', r3, r4, ?_, ?_, ?_⟩⟩
      · rw [r8, r9, mup_eq rfl rfl, mup_eq rfl rfl, hw]
      · rw [r8, mup_eq rfl rfl]; omega
      · rw [r8, mup_eq rfl rfl]; omega
    · obtain ⟨X', Y', r1, r2, r3, r4, r5⟩ := k_fail (Ls := Ls) (p := p) (pp := pp) (K := K) (L := L) hT 2
      have hw : ¬ (lo ≤ Y 98 9 ∧ Y 98 9 ≤ hi) := by have := h3.2; unfold NR at this; omega
      refine ⟨0, X', Y', fun Q h => E_LineReader_readsNumber ⟨fun _ => ⟨fun _ => r1 _ (T_LineReader_readsNumber_44 ⟨Or.inl rfl, h⟩), fun _ => ⟨fun z => by omega, fun _ => r1 _ (T_LineReader_readsNumber_44 ⟨Or.inl rfl, h⟩)⟩⟩, fun z => by omega⟩, fun Q h => E_M_number ⟨fun _ => ?_, fun z => by omega⟩, r3, r4, r5, Or.inl rfl⟩
      have fin : m_Wp i_M_number 23 0 0 [(0, .inr (.inr 98)), (1, .inl lo), (2, .inl hi)] ([.inl 0] ++ []) (mem Ls pp Y K) Q := T_M_number_23 ⟨fun z => absurd rfl z, fun _ => r2 _ (T_M_number_31 ⟨Or.inl rfl, h⟩)⟩
      exact E_M_isIn ⟨fun _ => ⟨Or.inl rfl, fin⟩, fun _ => ⟨fun _ => ⟨Or.inl rfl, fin⟩, fun z => by omega⟩⟩
  · have h3 : ¬ Y 98 8 = 3 := by unfold KR at hK; omega
    obtain ⟨X', Y', r1, r2, r3, r4, r5⟩ := k_fail (Ls := Ls) (p := p) (pp := pp) (K := K) (L := L) hT 1
    exact ⟨0, X', Y', fun Q h => E_LineReader_readsNumber ⟨fun z => absurd z h2, fun _ => r1 _ (T_LineReader_readsNumber_16 ⟨Or.inl rfl, h⟩)⟩, fun Q h => E_M_number ⟨fun z => absurd z h3, fun _ => r2 _ (T_M_number_13 ⟨Or.inl rfl, h⟩)⟩, r3, r4, r5, Or.inl rfl⟩
/-- a number with or without '-' -/
theorem k_sgn {N a : Nat} {hi : Int} (hT : TK X Y N a) (hF : FE X Y) (hhi : hi ≤ 99999) : ∃ y v X1 X' Y', RN Ls p L i_LineReader_skipsMinus [.inr (.inr 3)] X [.inl y] X1 ∧ RN Ls p L i_LineReader_readsNumber [.inr (.inr 3), .inl 0, .inl hi] X1 [.inl v] X' ∧ RN Ls pp K i_M_signed [.inr (.inr 98), .inl hi] Y [.inl v] Y' ∧ FE X' Y' ∧ SX X X1 ∧ SX X X' ∧ SY Y Y' ∧ (v = 0 ∨ (v = 1 ∧ ∃ a', TK X' Y' N a' ∧ AD X' a a' ∧ (y = 0 → Y' 98 11 = X' 3 6) ∧ (y ≠ 0 → Y' 98 11 = -(X' 3 6)) ∧ 0 ≤ X' 3 6 ∧ X' 3 6 ≤ hi)) := by
  have hK := hT.2.2.2.2.1
  have up : ∀ {Z : Nat → Nat → Int} (w : Int), SY Z (mup Z 98 11 w) := fun w => ⟨fun b h1 => mup_other h1, fun k _ _ h1 => mup_ne (by omega)⟩
  have fe : ∀ {Z W : Nat → Nat → Int} (w : Int), FE Z W → FE Z (mup W 98 11 w) := fun w h => by
    unfold FE at *
    rw [mup_ne (by omega), mup_ne (by omega)]; exact h
  have tk : ∀ {Z W : Nat → Nat → Int} {a : Nat} (w : Int), TK Z W N a → TK Z (mup W 98 11 w) N a := fun w h => h.congr rfl rfl rfl (fun k h1 h2 => mup_ne (by omega)) (mup_other (by omega)) (mup_other (by omega))
  by_cases h8 : X 5 4 = 8
  · have h4 : Y 98 8 = 4 ∧ Y 98 9 = 45 := by unfold KR at hK; omega
    obtain ⟨X1, Y1, a1, r1, r2, r3, r4, r5, r6, r7, r8, r9⟩ := k_adv (Ls := Ls) (p := p) (pp := pp) (K := K) (L := L) hT hF
    obtain ⟨v, X', Y', n1, n2, n3, n4, n5, n6⟩ := k_num (Ls := Ls) (p := p) (pp := pp) (K := K) (L := L) (lo := 0) (hi := hi) r3 r5 hhi
    have mh : ∀ Q, m_Wp i_M_signed 21 0 0 [(0, .inr (.inr 98)), (1, .inl hi), (2, .inl 1)] ([.inl v] ++ []) (mem Ls pp Y' K) Q → m_Call i_M_signed [.inr (.inr 98), .inl hi] (mem Ls pp Y K) Q := fun Q h =>
      E_M_signed (E_M_isSign ⟨fun z => absurd h4.1 z, fun _ => ⟨fun z => absurd h4.2 z, fun _ => ⟨Or.inr rfl, T_M_signed_6 ⟨fun z => by omega, fun _ => r2 _ (T_M_signed_15 (n2 _ h))⟩⟩⟩⟩)
    rcases n6 with rfl | ⟨rfl, a', t1, t2, t3, t4, t5⟩
    · exact ⟨1, 0, X1, X', Y', fun Q h => E_LineReader_skipsMinus ⟨fun _ => r1 _ (T_LineReader_skipsMinus_21 ⟨Or.inr rfl, h⟩), fun z => absurd h8 z⟩, n1, fun Q h => mh Q (T_M_signed_21 ⟨fun z => absurd rfl z, fun _ => ⟨Or.inl rfl, h⟩⟩), n3, r6, r6.tr n4, r7.tr n5, Or.inl rfl⟩
    · refine ⟨1, 1, X1, X', _, fun Q h => E_LineReader_skipsMinus ⟨fun _ => r1 _ (T_LineReader_skipsMinus_21 ⟨Or.inr rfl, h⟩), fun z => absurd h8 z⟩, n1, fun Q h => mh Q (T_M_signed_21 ⟨fun _ => ⟨fun z => by omega, fun _ => ⟨Or.inr rfl, h⟩⟩, fun z => absurd (by omega) z⟩), fe _ n3, r6, r6.tr n4, (r7.tr n5).tr (up _), Or.inr ⟨rfl, a', tk _ t1, r4.tr t2, fun z => by omega, fun _ => ?_, t4, t5⟩⟩
      rw [mup_eq rfl rfl, ← t3, wr_of (by omega) (by omega)]
  · have h4 : ¬ (Y 98 8 = 4 ∧ Y 98 9 = 45) := by unfold KR at hK; omega
    obtain ⟨v, X', Y', n1, n2, n3, n4, n5, n6⟩ := k_num (Ls := Ls) (p := p) (pp := pp) (K := K) (L := L) (lo := 0) (hi := hi) hT hF hhi
    have mh : ∀ Q, m_Wp i_M_signed 21 0 0 [(0, .inr (.inr 98)), (1, .inl hi), (2, .inl 0)] ([.inl v] ++ []) (mem Ls pp Y' K) Q → m_Call i_M_signed [.inr (.inr 98), .inl hi] (mem Ls pp Y K) Q := fun Q h => by
      have fin : m_Wp i_M_signed 6 0 0 [(0, .inr (.inr 98)), (1, .inl hi)] ([.inl 0] ++ []) (mem Ls pp Y K) Q := T_M_signed_6 ⟨fun _ => n2 _ h, fun z => absurd rfl z⟩
      exact E_M_signed (E_M_isSign ⟨fun _ => ⟨Or.inl rfl, fin⟩, fun z => ⟨fun _ => ⟨Or.inl rfl, fin⟩, fun z' => absurd ⟨Classical.not_not.mp z, Classical.not_not.mp z'⟩ h4⟩⟩)
    rcases n6 with rfl | ⟨rfl, a', t1, t2, t3, t4, t5⟩
    · exact ⟨0, 0, X, X', Y', fun Q h => E_LineReader_skipsMinus ⟨fun z => absurd z h8, fun _ => ⟨Or.inl rfl, h⟩⟩, n1, fun Q h => mh Q (T_M_signed_21 ⟨fun z => absurd rfl z, fun _ => ⟨Or.inl rfl, h⟩⟩), n3, SX.rfl', n4, n5, Or.inl rfl⟩
    · refine ⟨0, 1, X, X', _, fun Q h => E_LineReader_skipsMinus ⟨fun z => absurd z h8, fun _ => ⟨Or.inl rfl, h⟩⟩, n1, fun Q h => mh Q (T_M_signed_21 ⟨fun _ => ⟨fun _ => ⟨Or.inr rfl, h⟩, fun z => absurd rfl z⟩, fun z => absurd (by omega) z⟩), fe _ n3, SX.rfl', n4, n5.tr (up _), Or.inr ⟨rfl, a', tk _ t1, t2, fun _ => ?_, fun z => absurd rfl z, t4, t5⟩⟩
      rw [mup_eq rfl rfl, ← t3]
end K1
