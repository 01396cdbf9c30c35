/-! ===== phase 2: signs; a token of the two ===== -/
def tX (X : Nat → Nat → Int) (a k pl nm lt : Int) : Nat → Nat → Int := mup (mup (mup (mup (mup X 5 3 a) 5 4 k) 5 5 pl) 5 6 nm) 5 7 lt
def tY (Y : Nat → Nat → Int) (a m w pl : Int) : Nat → Nat → Int := mup (mup (mup (mup Y 98 7 a) 98 8 m) 98 9 w) 98 10 pl
section V10
variable {Ls p kc ks kc' ks' c : Nat} {I J K L X Y Z : Nat → Nat → Int} {Q : List mV → mM → Prop}
theorem q_sign {N s : Nat} {k : Int} (hN : N ≤ 700) (hs : s < N) (h2 : X 5 2 = (N : Int)) (h3 : X 5 3 = (s : Int)) (h12 : s + 1 < N → k = 11 → X 6 (s + 1) = 61 → Q [] (mem Ls p (mup (mup X 5 4 12) 5 3 ((s + 2 : Nat) : Int)) L)) (h14 : s + 1 < N → k = 11 → X 6 (s + 1) = 62 → Q [] (mem Ls p (mup (mup X 5 4 14) 5 3 ((s + 2 : Nat) : Int)) L)) (h15 : s + 1 < N → k = 16 → X 6 (s + 1) = 61 → Q [] (mem Ls p (mup (mup X 5 4 15) 5 3 ((s + 2 : Nat) : Int)) L)) (hno : ¬ (s + 1 < N ∧ ((k = 11 ∧ (X 6 (s + 1) = 61 ∨ X 6 (s + 1) = 62)) ∨ (k = 16 ∧ X 6 (s + 1) = 61))) → Q [] (mem Ls p (mup (mup X 5 4 k) 5 3 ((s + 1 : Nat) : Int)) L)) : m_Wp i_Tokens_advance 128 kc ks [(0, .inr (.inr 5))] [.inl k, .inr (.inr 5)] (mem Ls p X L) Q := by
  refine T_Tokens_advance_128 (E_Tokens_lengthenSign ?_)
  rw [h3, wr_of (z := (s : Int) + 1) (by omega) (by omega), show (s : Int) + 1 = ((s + 1 : Nat) : Int) by omega]
  have e3 : mup (mup X 5 4 k) 5 3 ((s + 1 : Nat) : Int) 5 3 = ((s + 1 : Nat) : Int) := mup_eq rfl rfl
  have e2 : mup (mup X 5 4 k) 5 3 ((s + 1 : Nat) : Int) 5 2 = (N : Int) := by rw [mup_ne (by omega), mup_ne (by omega), h2]
  have e4 : mup (mup X 5 4 k) 5 3 ((s + 1 : Nat) : Int) 5 4 = k := by rw [mup_ne (by omega), mup_eq rfl rfl]
  have e6 : mup (mup X 5 4 k) 5 3 ((s + 1 : Nat) : Int) 6 = X 6 := by rw [mup_other (by omega), mup_other (by omega)]
  have set : ∀ v : Int, mup (mup (mup (mup X 5 4 k) 5 3 ((s + 1 : Nat) : Int)) 5 4 v) 5 3 ((s + 2 : Nat) : Int) = mup (mup X 5 4 v) 5 3 ((s + 2 : Nat) : Int) := fun v => by rw [mup_comm (J := mup X 5 4 k) (by omega), mup_mup, mup_mup]
  have done : ∀ v : Int, v ≠ k → Q [] (mem Ls p (mup (mup X 5 4 v) 5 3 ((s + 2 : Nat) : Int)) L) → m_Wp i_Tokens_lengthenSign 101 0 0 [(0, .inr (.inr 5)), (1, .inl v)] [] (mem Ls p (mup (mup X 5 4 k) 5 3 ((s + 1 : Nat) : Int)) L) (fun v M' => m_Wp i_Tokens_advance 145 kc ks [(0, .inr (.inr 5))] (v ++ []) M' Q) := fun v hv hq => by
    refine T_Tokens_lengthenSign_101 ?_
    rw [e4, e3, wr_of (z := ((s + 1 : Nat) : Int) + 1) (by omega) (by omega), show ((s + 1 : Nat) : Int) + 1 = ((s + 2 : Nat) : Int) by omega, set]
    exact ⟨fun z => absurd z hv, fun _ => T_Tokens_lengthenSign_124 (T_Tokens_advance_145 hq)⟩
  have same : Q [] (mem Ls p (mup (mup X 5 4 k) 5 3 ((s + 1 : Nat) : Int)) L) → m_Wp i_Tokens_lengthenSign 101 0 0 [(0, .inr (.inr 5)), (1, .inl k)] [] (mem Ls p (mup (mup X 5 4 k) 5 3 ((s + 1 : Nat) : Int)) L) (fun v M' => m_Wp i_Tokens_advance 145 kc ks [(0, .inr (.inr 5))] (v ++ []) M' Q) := fun hq => by
    refine T_Tokens_lengthenSign_101 ?_
    rw [e4]
    exact ⟨fun _ => T_Tokens_lengthenSign_124 (T_Tokens_advance_145 hq), fun z => absurd rfl z⟩
  rw [e2, e3, e4, e6, Int.toNat_natCast]
  have at75 : s + 1 < N → ¬ (k = 11 ∧ (X 6 (s + 1) = 61 ∨ X 6 (s + 1) = 62)) → m_Wp i_Tokens_lengthenSign 75 0 0 [(0, .inr (.inr 5)), (1, .inl k)] [] (mem Ls p (mup (mup X 5 4 k) 5 3 ((s + 1 : Nat) : Int)) L) (fun v M' => m_Wp i_Tokens_advance 145 kc ks [(0, .inr (.inr 5))] (v ++ []) M' Q) := fun hlt hk => by
    refine T_Tokens_lengthenSign_75 ?_
    rw [e4, e3, e6, Int.toNat_natCast]
    refine ⟨fun z => same (hno (by omega)), fun z => ⟨by omega, fun z2 => same (hno (by omega)), fun z2 => done 15 (by omega) (h15 hlt (by omega) (by omega))⟩⟩
  have at46 : s + 1 < N → ¬ (k = 11 ∧ X 6 (s + 1) = 61) → m_Wp i_Tokens_lengthenSign 46 0 0 [(0, .inr (.inr 5)), (1, .inl k)] [] (mem Ls p (mup (mup X 5 4 k) 5 3 ((s + 1 : Nat) : Int)) L) (fun v M' => m_Wp i_Tokens_advance 145 kc ks [(0, .inr (.inr 5))] (v ++ []) M' Q) := fun hlt hk => by
    refine T_Tokens_lengthenSign_46 ?_
    rw [e4, e3, e6, Int.toNat_natCast]
    refine ⟨fun z => at75 hlt (by omega), fun z => ⟨by omega, fun z2 => at75 hlt (by omega), fun z2 => done 14 (by omega) (h14 hlt (by omega) (by omega))⟩⟩
  refine ⟨fun z => ⟨fun z2 => at46 (by omega) (by omega), fun z2 => ⟨by omega, fun z3 => at46 (by omega) (by omega), fun z3 => done 12 (by omega) (h12 (by omega) (by omega) (by omega))⟩⟩, fun z => T_Tokens_advance_145 (hno (by omega))⟩
/-- a sign of comparing, by the reference -/
theorem r_comp {N s : Nat} {c : Int} (hN : N ≤ 700) (hs : s < N) (h6 : Y 98 6 = (N : Int)) (h7 : Y 98 7 = ((s + 1 : Nat) : Int)) (h9 : Y 98 9 = c) (hc : c = 60 ∨ c = 61 ∨ c = 62) (h0 : ∀ j : Nat, j < 700 → 0 ≤ Y 99 j) (hQ : ∀ w a : Int, (c = 60 ∧ s + 1 < N ∧ Y 99 (s + 1) = 61 ∧ w = 1 ∧ a = ((s + 2 : Nat) : Int)) ∨ (c = 60 ∧ s + 1 < N ∧ Y 99 (s + 1) = 62 ∧ w = 3 ∧ a = ((s + 2 : Nat) : Int)) ∨ (c = 60 ∧ ¬ (s + 1 < N ∧ (Y 99 (s + 1) = 61 ∨ Y 99 (s + 1) = 62)) ∧ w = 0 ∧ a = ((s + 1 : Nat) : Int)) ∨ (c = 61 ∧ w = 2 ∧ a = ((s + 1 : Nat) : Int)) ∨ (c = 62 ∧ s + 1 < N ∧ Y 99 (s + 1) = 61 ∧ w = 4 ∧ a = ((s + 2 : Nat) : Int)) ∨ (c = 62 ∧ ¬ (s + 1 < N ∧ Y 99 (s + 1) = 61) ∧ w = 5 ∧ a = ((s + 1 : Nat) : Int)) → Q [] (mem Ls p (mup (mup (mup Y 98 7 a) 98 8 5) 98 9 w) L)) : m_Wp i_M_signToken 50 kc ks [(0, .inr (.inr 98))] [] (mem Ls p Y L) Q := by
  have fin : ∀ x2 x3 : Int, ∀ a : Int, ∀ w : Int, (mup Y 98 7 a 98 9 = c) → (w = if c = 61 then 2 else if c = 60 then (if x2 = 0 then (if x3 = 0 then 0 else 3) else 1) else (if x2 = 0 then 5 else 4)) → Q [] (mem Ls p (mup (mup (mup Y 98 7 a) 98 8 5) 98 9 w) L) → m_Wp i_M_signToken 135 kc ks [(0, .inr (.inr 98)), (2, .inl x2), (3, .inl x3)] [] (mem Ls p (mup Y 98 7 a) L) Q := fun x2 x3 a w h9' hw hq => by
    refine T_M_signToken_135 ?_
    rw [h9']
    refine ⟨fun z => ⟨fun z2 => ⟨fun z3 => ?_, fun z3 => ?_⟩, fun z2 => ⟨fun z3 => ⟨fun z4 => ?_, fun z4 => ?_⟩, fun z3 => ?_⟩⟩, fun z => ?_⟩
    · rw [if_neg z, if_neg z2, if_pos z3] at hw; subst hw; exact T_M_signToken_192 (T_M_signToken_290 hq)
    · rw [if_neg z, if_neg z2, if_neg z3] at hw; subst hw; exact T_M_signToken_192 (T_M_signToken_290 hq)
    · rw [if_neg z, if_pos (Classical.not_not.mp z2), if_pos z3, if_pos z4] at hw; subst hw; exact T_M_signToken_192 (T_M_signToken_290 hq)
    · rw [if_neg z, if_pos (Classical.not_not.mp z2), if_pos z3, if_neg z4] at hw; subst hw; exact T_M_signToken_192 (T_M_signToken_290 hq)
    · rw [if_neg z, if_pos (Classical.not_not.mp z2), if_neg z3] at hw; subst hw; exact T_M_signToken_192 (T_M_signToken_290 hq)
    · rw [if_pos (Classical.not_not.mp z)] at hw; subst hw; exact T_M_signToken_192 (T_M_signToken_290 hq)
  have y9 : ∀ a : Int, mup Y 98 7 a 98 9 = c := fun a => by rw [mup_ne (by omega), h9]
  have idm : mup Y 98 7 ((s + 1 : Nat) : Int) = Y := mup_same h7
  have at116 : ∀ x2 x3 : Int, (∀ w a : Int, (w = if c = 61 then 2 else if c = 60 then (if x2 = 0 then (if x3 = 0 then 0 else 3) else 1) else (if x2 = 0 then 5 else 4)) → a = (if x2 = 0 ∧ x3 = 0 then ((s + 1 : Nat) : Int) else ((s + 2 : Nat) : Int)) → Q [] (mem Ls p (mup (mup (mup Y 98 7 a) 98 8 5) 98 9 w) L)) → m_Wp i_M_signToken 116 kc ks [(0, .inr (.inr 98)), (2, .inl x2)] [.inl x3] (mem Ls p Y L) Q := fun x2 x3 hq => by
    have two : ¬ (x2 = 0 ∧ x3 = 0) → m_Wp i_M_signToken 125 kc ks [(0, .inr (.inr 98)), (2, .inl x2), (3, .inl x3)] [] (mem Ls p Y L) Q := fun hx => by
      refine T_M_signToken_125 ?_
      rw [h7, wr_of (z := ((s + 1 : Nat) : Int) + 1) (by omega) (by omega), show ((s + 1 : Nat) : Int) + 1 = ((s + 2 : Nat) : Int) by omega]
      exact fin x2 x3 _ _ (y9 _) rfl (hq _ _ rfl (by rw [if_neg hx]))
    refine T_M_signToken_116 ⟨fun z => two (fun h => z h.1), fun z => ⟨fun z2 => ?_, fun z2 => two (fun h => z2 h.2)⟩⟩
    have := fin x2 x3 ((s + 1 : Nat) : Int) _ (y9 _) rfl (hq _ _ rfl (by rw [if_pos ⟨Classical.not_not.mp z, z2⟩]))
    rw [idm] at this; exact this
  have at95 : ∀ (y0 x2 : Int), (s + 1 < N ∧ y0 = Y 99 (s + 1)) ∨ (¬ s + 1 < N ∧ y0 = 0) → (x2 = if c ≠ 61 ∧ y0 = 61 then 1 else 0) → m_Wp i_M_signToken 95 kc ks [(0, .inr (.inr 98)), (1, .inl y0)] [.inl x2] (mem Ls p Y L) Q := fun y0 x2 hy hx2 => by
    have go : ∀ x3 : Int, (x3 = if c = 60 ∧ y0 = 62 then 1 else 0) → m_Wp i_M_signToken 116 kc ks [(0, .inr (.inr 98)), (2, .inl x2)] [.inl x3] (mem Ls p Y L) Q := fun x3 hx3 => at116 x2 x3 (fun w a hw ha => hQ w a (by
      by_cases d1 : c = 61
      · rw [if_pos d1] at hw
        rw [if_neg (fun z => z.1 d1)] at hx2
        rw [if_neg (fun z => by have := z.1; omega)] at hx3
        rw [if_pos ⟨hx2, hx3⟩] at ha
        exact Or.inr (Or.inr (Or.inr (Or.inl ⟨d1, hw, ha⟩)))
      · rw [if_neg d1] at hw
        by_cases d2 : c = 60
        · rw [if_pos d2] at hw
          by_cases d3 : y0 = 61
          · rw [if_pos ⟨d1, d3⟩] at hx2
            have hx20 : ¬ x2 = 0 := by omega
            rw [if_neg hx20] at hw
            rw [if_neg (fun z => hx20 z.1)] at ha
            have hy2 : s + 1 < N ∧ Y 99 (s + 1) = 61 := by omega
            exact Or.inl ⟨d2, hy2.1, hy2.2, hw, ha⟩
          · rw [if_neg (fun z => d3 z.2)] at hx2
            rw [if_pos hx2] at hw
            by_cases d4 : y0 = 62
            · rw [if_pos ⟨d2, d4⟩] at hx3
              have hx30 : ¬ x3 = 0 := by omega
              rw [if_neg hx30] at hw
              rw [if_neg (fun z => hx30 z.2)] at ha
              have hy2 : s + 1 < N ∧ Y 99 (s + 1) = 62 := by omega
              exact Or.inr (Or.inl ⟨d2, hy2.1, hy2.2, hw, ha⟩)
            · rw [if_neg (fun z => d4 z.2)] at hx3
              rw [if_pos hx3] at hw
              rw [if_pos ⟨hx2, hx3⟩] at ha
              have hy2 : ¬ (s + 1 < N ∧ (Y 99 (s + 1) = 61 ∨ Y 99 (s + 1) = 62)) := by omega
              exact Or.inr (Or.inr (Or.inl ⟨d2, hy2, hw, ha⟩))
        · rw [if_neg d2] at hw
          rw [if_neg (fun z => d2 z.1)] at hx3
          have d5 : c = 62 := by omega
          by_cases d3 : y0 = 61
          · rw [if_pos ⟨d1, d3⟩] at hx2
            have hx20 : ¬ x2 = 0 := by omega
            rw [if_neg hx20] at hw
            rw [if_neg (fun z => hx20 z.1)] at ha
            have hy2 : s + 1 < N ∧ Y 99 (s + 1) = 61 := by omega
            exact Or.inr (Or.inr (Or.inr (Or.inr (Or.inl ⟨d5, hy2.1, hy2.2, hw, ha⟩))))
          · rw [if_neg (fun z => d3 z.2)] at hx2
            rw [if_pos hx2] at hw
            rw [if_pos ⟨hx2, hx3⟩] at ha
            have hy2 : ¬ (s + 1 < N ∧ Y 99 (s + 1) = 61) := by omega
            exact Or.inr (Or.inr (Or.inr (Or.inr (Or.inr ⟨d5, hy2, hw, ha⟩))))))
    refine T_M_signToken_95 ?_
    rw [h9]
    refine ⟨fun z => T_M_signToken_115 (go 0 (by rw [if_neg (fun y => z y.1)])), fun z => ⟨fun z2 => T_M_signToken_115 (go 0 (by rw [if_neg (fun y => z2 y.2)])), fun z2 => go 1 (by rw [if_pos ⟨Classical.not_not.mp z, Classical.not_not.mp z2⟩])⟩⟩
  have at74 : ∀ y0 : Int, (s + 1 < N ∧ y0 = Y 99 (s + 1)) ∨ (¬ s + 1 < N ∧ y0 = 0) → m_Wp i_M_signToken 74 kc ks [(0, .inr (.inr 98))] [.inl y0] (mem Ls p Y L) Q := fun y0 hy => by
    refine T_M_signToken_74 ?_
    rw [h9]
    refine ⟨fun z => T_M_signToken_94 (at95 y0 0 hy (by rw [if_neg (fun y => y.1 z)])), fun z => ⟨fun z2 => T_M_signToken_94 (at95 y0 0 hy (by rw [if_neg (fun y => z2 y.2)])), fun z2 => at95 y0 1 hy (by rw [if_pos ⟨z, Classical.not_not.mp z2⟩])⟩⟩
  refine T_M_signToken_50 ?_
  rw [h6, h7, Int.toNat_natCast]
  exact ⟨fun z => at74 0 (Or.inr ⟨by omega, rfl⟩), fun z => ⟨by omega, at74 _ (Or.inl ⟨by omega, rfl⟩)⟩⟩
end V10
