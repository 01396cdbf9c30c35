/-! ===== phase 2: text, the call ===== -/
section K21
variable {Ls p o : Nat} {I L K X1 Y2 F d : Nat → Nat → Int}
theorem beq_no {k c : Nat} (h : k ≠ c) : Nat.beq k c = false := by
  cases hb : Nat.beq k c with
  | false => rfl
  | true => exact absurd (Nat.eq_of_beq_eq_true hb) h
theorem R_swap (hp : (p = 68 ∧ o = 9) ∨ (p = 9 ∧ o = 68)) : mupR (mupR (mupR (R0 p) 2 9 o) 64 3 o) 3 2 p = R0 o := by
  funext k j
  by_cases h3 : k = 3
  · subst h3
    rcases hp with ⟨rfl, rfl⟩ | ⟨rfl, rfl⟩ <;> (match j with
      | 0 => rfl
      | 1 => rfl
      | 2 => rfl
      | j + 3 => rfl)
  · by_cases h64 : k = 64
    · subst h64
      rcases hp with ⟨rfl, rfl⟩ | ⟨rfl, rfl⟩ <;> (match j with
        | 0 => rfl
        | 1 => rfl
        | 2 => rfl
        | 3 => rfl
        | j + 4 => rfl)
    · by_cases h2 : k = 2
      · subst h2
        rcases hp with ⟨rfl, rfl⟩ | ⟨rfl, rfl⟩ <;> (match j with
          | 0 => rfl
          | 1 => rfl
          | 2 => rfl
          | 3 => rfl
          | 4 => rfl
          | 5 => rfl
          | 6 => rfl
          | 7 => rfl
          | 8 => rfl
          | 9 => rfl
          | j + 10 => rfl)
      · unfold mupR
        rw [if_neg h3, if_neg h64, if_neg h2]
        have e2 : Nat.beq k 2 = false := beq_no h2
        have e3 : Nat.beq k 3 = false := beq_no h3
        have e64 : Nat.beq k 64 = false := beq_no h64
        unfold R0
        rw [e2, e3, e64]
        rfl
theorem BG.eqv {P M s : Int} {f t : Nat → Int} (h : BG P M s f t d) (g : ∀ j, j < 9 → F (28 + j) = d j) : BG P M s f t (dat F 28) := by
  unfold BG BGH BGP BGM at *
  rw [dat_at (by omega), dat_at (by omega), dat_at (by omega), dat_at (by omega), dat_at (by omega), dat_at (by omega), dat_at (by omega), dat_at (by omega), g 0 (by omega), g 1 (by omega), g 2 (by omega), g 3 (by omega), g 5 (by omega), g 6 (by omega), g 7 (by omega), g 8 (by omega)]
  exact h
theorem INV_told (ho : o = 9 ∨ o = 68) (hB : BD o X1 Y2) (hT : TPE I) (hW : WDS I) (f1 : ∀ a, o ≤ a → a ≤ o + 18 → F a = X1 a) (f28 : ∀ j, j < 9 → F (28 + j) = d j) (hd : BG (X1 o 13) (X1 o 15) (X1 o 18) (X1 (o + 4)) (X1 (o + 10)) d)
    (f2 : F 2 10 = 0 ∧ F 98 1 = 0 ∧ F 2 13 = 0 ∧ F 98 81 = 0) (hF : F 2 11 = F 98 4 ∧ F 2 12 = F 98 5) (f6 : F 6 = I 6 ∧ F 7 = I 7 ∧ F 99 = I 99 ∧ F 100 = I 100) (f87 : F 87 6 = 0 ∧ F 87 7 = -1 ∧ F 98 75 = 0 ∧ F 98 76 = -1 ∧ F 94 3 = 0 ∧ F 98 79 = 0)
    (f98 : F 98 12 = Y2 98 17 ∧ F 98 13 = Y2 98 18 ∧ F 98 14 = Y2 98 19 ∧ F 98 15 = Y2 98 20 ∧ F 98 16 = Y2 98 21) (fr : ∀ a k, 102 ≤ a → a ≤ 120 → k < half a → F a k = Y2 a (half a + k)) (fa : ∀ P M : Int, P ≤ 6 → M ≤ 6 → AFT (F 106) (F 112) P M (jat F 0)) (fk : K 98 66 = F 102 1) : INV o F K := by
  obtain ⟨⟨p1, p2, p3⟩, ⟨r1, r2, r3⟩, ⟨m1, m2, m3⟩, ⟨c1, c2, c3⟩, ⟨o1, o2, -, -⟩, ⟨n, ⟨n1, n2, n3, n4, n5⟩, hb, hl⟩⟩ := hB
  have g : ∀ k, k < 19 → F (o + k) = X1 (o + k) := fun k hk => f1 _ (by omega) (by omega)
  have g0 := g 0 (by omega)
  rw [Nat.add_zero] at g0
  have l2 : ∀ k, k < 2 → F 102 k = Y2 102 (2 + k) := fun k hk => fr 102 k (by omega) (by omega) hk
  have l6 : ∀ a k, 103 ≤ a ∧ a ≤ 107 → k < 6 → F a k = Y2 a (6 + k) := fun a k h1 h2 => by
    have e : half a = 6 := by unfold half; rw [if_neg (by omega), if_pos h1]
    have := fr a k (by omega) (by omega) (by omega); rw [e] at this; exact this
  have l10 : ∀ a k, 108 ≤ a ∧ a ≤ 109 → k < 10 → F a k = Y2 a (10 + k) := fun a k h1 h2 => by
    have e : half a = 10 := by unfold half; rw [if_neg (by omega), if_neg (by omega), if_pos (by omega)]
    have := fr a k (by omega) (by omega) (by omega); rw [e] at this; exact this
  have lm : ∀ a k, 110 ≤ a ∧ a ≤ 112 → k < 6 → F a k = Y2 a (6 + k) := fun a k h1 h2 => by
    have e : half a = 6 := by unfold half; rw [if_neg (by omega), if_neg (by omega), if_neg (by omega), if_pos h1]
    have := fr a k (by omega) (by omega) (by omega); rw [e] at this; exact this
  have l3 : ∀ a k, 113 ≤ a ∧ a ≤ 117 → k < 3 → F a k = Y2 a (3 + k) := fun a k h1 h2 => by
    have e : half a = 3 := by unfold half; rw [if_neg (by omega), if_neg (by omega), if_neg (by omega), if_neg (by omega), if_pos h1]
    have := fr a k (by omega) (by omega) (by omega); rw [e] at this; exact this
  have l64 : ∀ a k, 118 ≤ a ∧ a ≤ 120 → k < 64 → F a k = Y2 a (64 + k) := fun a k h1 h2 => by
    have e : half a = 64 := by unfold half; rw [if_neg (by omega), if_neg (by omega), if_neg (by omega), if_neg (by omega), if_neg (by omega), if_pos h1]
    have := fr a k (by omega) (by omega) (by omega); rw [e] at this; exact this
  have hpl : planOK F o := by
    unfold planOK lawOK
    rw [show o + 13 + 1 = o + 14 from rfl, show o + 13 + 2 = o + 15 from rfl, show o + 13 + 3 = o + 16 from rfl, show o + 13 + 4 = o + 17 from rfl, g0, g 6 (by omega), g 8 (by omega), g 9 (by omega), g 10 (by omega), g 2 (by omega), g 3 (by omega), g 4 (by omega), g 5 (by omega), g 14 (by omega), g 15 (by omega), g 16 (by omega), g 17 (by omega)]
    refine ⟨p2, r2, m2, c2, ⟨o1.2.1, o1.2.2⟩, ⟨o2.2.1, o2.2.2⟩, fun r hr => (r3 r hr).2, fun m hm => (m3 m hm).2, fun q hq => (p3 q hq).2, fun law hw i hi => ?_, fun law hw => ?_⟩
    · rcases hl law hw with ⟨h1, h2, h3⟩ | ⟨h1, fr', to, h2, h3, h4, h5, h6, h7⟩
      · have h3' : X1 (o + 17) law = 0 := h3
        omega
      · have h3' : X1 (o + 17) law = (to : Int) := h3
        exact hb i (by omega)
    · rcases hl law hw with ⟨h1, h2, h3⟩ | ⟨h1, fr', to, h2, h3, h4, h5, h6, h7⟩
      · have h2' : X1 (o + 16) law = 0 := h2
        have h3' : X1 (o + 17) law = 0 := h3
        omega
      · have h2' : X1 (o + 16) law = (fr' : Int) := h2
        have h3' : X1 (o + 17) law = (to : Int) := h3
        have := h7.1
        have := h7.2.1
        omega
  have hPR : PR F o F := by
    unfold PR
    rw [g0, g 1 (by omega), g 2 (by omega), g 3 (by omega), g 4 (by omega), g 5 (by omega), g 6 (by omega), g 7 (by omega), g 8 (by omega), g 9 (by omega), g 10 (by omega), g 11 (by omega), g 12 (by omega), g 13 (by omega), g 14 (by omega), g 15 (by omega), g 16 (by omega), g 17 (by omega), f98.1, f98.2.1, f98.2.2.1, f98.2.2.2.1, f98.2.2.2.2, l2 0 (by omega), l2 1 (by omega), p1, r1, m1, c1]
    refine ⟨⟨rfl, rfl, rfl, rfl, o1.1.symm, o2.1.symm⟩, fun q hq => ?_, fun r hr => ?_, fun m hm => ?_, fun k hk => ?_, fun law hw => ?_, by rw [n2, n3]⟩
    · rw [l6 103 q (by omega) (by omega), l6 104 q (by omega) (by omega), l6 105 q (by omega) (by omega), l6 106 q (by omega) (by omega), l6 107 q (by omega) (by omega)]
      have := (p3 q (by omega)).1
      exact ⟨this.1.symm, this.2.1.symm, this.2.2.1.symm, this.2.2.2.1.symm, this.2.2.2.2.symm⟩
    · rw [l10 108 r (by omega) (by omega), l10 109 r (by omega) (by omega)]
      have := (r3 r (by omega)).1
      exact ⟨this.1.symm, this.2.symm⟩
    · rw [lm 110 m (by omega) (by omega), lm 111 m (by omega) (by omega), lm 112 m (by omega) (by omega)]
      have := (m3 m (by omega)).1
      exact ⟨this.1.symm, this.2.1.symm, this.2.2.symm⟩
    · rw [l3 113 k (by omega) (by omega), l3 114 k (by omega) (by omega)]
      have := c3 k (by omega)
      exact ⟨this.1.symm, this.2.symm⟩
    · rw [l3 115 law (by omega) hw, l3 116 law (by omega) hw, l3 117 law (by omega) hw]
      rcases hl law hw with ⟨h1, h2, h3⟩ | ⟨h1, fr', to, h2, h3, h4, h5, h6, h7⟩
      · exact Or.inl ⟨h1, h2.trans h3.symm⟩
      · refine Or.inr ⟨h1, fr', to, h2, h3, h4, h5, h7.congr (fun i hi => ?_)⟩
        have := h7.2.1
        exact ⟨rfl, rfl, l64 118 i (by omega) (by omega), l64 119 i (by omega) (by omega), l64 120 i (by omega) (by omega)⟩
  have hb' := hd.eqv f28
  have hD : DAY F K (X1 o 13) (X1 o 15) := by
    have e28 : ∀ k, dat F 28 0 k = F 28 k := fun k => by rw [dat_at (by omega)]
    obtain ⟨⟨b1, b2, b3, b4, b5, b6, b7, b8⟩, -, -⟩ := id hb'
    have a := fa (X1 o 13) (X1 o 15) p2.2 m2.2
    refine ⟨BG_DOK p2 m2 o2.2 (fun q hq => ?_) hb', BG_DR p2 m2 hb' ⟨a.1, a.2.1, a.2.2.1, a.2.2.2.1, fun q hq => ?_, fun m hm => ?_⟩, ?_, ?_⟩
    · have := (p3 q hq).2; omega
    · have h := a.2.2.2.2.1 q hq
      rw [l6 106 q (by omega) (by omega), ← (p3 q hq).1.2.2.2.1] at h; exact h
    · have h := a.2.2.2.2.2 m hm
      rw [lm 112 m (by omega) (by omega), ← (m3 m hm).1.2.2] at h; exact h
    · rw [fk, l2 1 (by omega), ← o2.1, ← b7, e28]
    · rw [← e28, b3]; omega
  unfold INV
  rw [g0]
  refine ⟨by unfold isPlan; omega, hpl, hPR, hD, ?_, hF, ?_, ?_, ?_, ?_⟩
  · unfold TPE at *
    rw [f2.1, f2.2.1, f6.1, f6.2.2.1]; exact ⟨by omega, rfl, hT.2.2⟩
  · unfold WDS at *
    rw [f6.2.1, f6.2.2.2]; exact hW
  · unfold SEE
    rw [f87.1, f87.2.1, f87.2.2.1, f87.2.2.2.1]; exact ⟨by omega, rfl, rfl, by omega, fun k hk => by omega⟩
  · unfold LOG
    rw [f87.2.2.2.2.1, f87.2.2.2.2.2]; exact ⟨by omega, rfl, trivial⟩
  · unfold IMG
    rw [f2.2.2.1, f2.2.2.2]; exact ⟨Or.inl rfl, rfl, fun h => absurd rfl h⟩
end K21
