/-! ===== phase 2: what is kept of a TEXT ===== -/
section K20
variable {Ls p kc ks : Nat} {L Y : Nat → Nat → Int} {Q : List mV → mM → Prop}
theorem cl_115 (h01 : ∀ l : Nat, l < 3 → Y 115 (3 + l) = 0 ∨ Y 115 (3 + l) = 1) (hQ : m_Call i_M_copies [.inr (.inr 116), .inl 3] (mem Ls p (cpp Y 116 0) L) (fun v M' => m_Wp i_M_keepText 189 kc ks [(0, .inr (.inr 98)), (1, .inl 3)] (v ++ []) M' Q)) : ∀ t k : Nat, k + t = 3 → m_Wp i_M_keepText 156 kc ks [(0, .inr (.inr 98)), (1, .inl (k : Int))] [] (mem Ls p (cpp Y 115 k) L) Q := by
  intro t
  induction t with
  | zero =>
    intro k hk
    have : k = 3 := by omega
    subst this
    rw [cpp_next (m := 115) (by omega) (show half 115 = 3 from rfl)]
    exact T_M_keepText_156 ⟨fun _ => hQ, fun z => by omega⟩
  | succ t ih =>
    intro k hk
    refine T_M_keepText_156 ?_
    rw [show wr (3 + (k : Int)) = ((3 + k : Nat) : Int) by rw [wr_of] <;> omega, show wr ((k : Int) + 1) = ((k + 1 : Nat) : Int) by rw [wr_of] <;> omega, Int.toNat_natCast, Int.toNat_natCast, cpp_step (show half 115 = 3 from rfl), cpp_at (by omega)]
    exact ⟨fun z => by omega, fun _ => ⟨by omega, ⟨by omega, h01 k (by omega)⟩, ih (k + 1) (by omega)⟩⟩
/-- the counts kept -/
def kc5 (Y : Nat → Nat → Int) : Nat → Nat → Int := mup (mup (mup (mup (mup Y 98 12 (Y 98 17)) 98 13 (Y 98 18)) 98 14 (Y 98 19)) 98 15 (Y 98 20)) 98 16 (Y 98 21)
theorem r_keepText (h01 : ∀ l : Nat, l < 3 → Y 115 (3 + l) = 0 ∨ Y 115 (3 + l) = 1) (hQ : ∀ Z, AFR (cpp (kc5 Y) 121 0) Z 0 6 → Z 130 0 = 0 → Z 131 0 = -1 → Z 136 0 = 0 → Z 137 0 = 0 → Q [] (mem Ls p (mup (mup (mup (mup (plainJ Z) 98 75 0) 98 76 (-1)) 98 79 0) 98 81 0) (mup L 98 66 (Z 102 1)))) : m_Call i_M_keepText [.inr (.inr 98)] (mem Ls p Y L) Q := by
  have k01 : ∀ l : Nat, l < 3 → kc5 Y 115 (3 + l) = 0 ∨ kc5 Y 115 (3 + l) = 1 := fun l hl => by
    unfold kc5; rw [mup_other (by omega), mup_other (by omega), mup_other (by omega), mup_other (by omega), mup_other (by omega)]; exact h01 l hl
  refine E_M_keepText ?_
  show m_Call i_M_copies [.inr (.inr 102), .inl 2] (mem Ls p (kc5 Y) L) _
  have c0 : kc5 Y = cpp (kc5 Y) 102 0 := cpp_0.symm
  rw [c0]
  rw [← c0]
  have h102 : ∀ R : List mV → mM → Prop, R [] (mem Ls p (cpp (kc5 Y) 103 0) L) → m_Call i_M_copies [.inr (.inr 102), .inl 2] (mem Ls p (kc5 Y) L) R := fun R h => by
    have := cp_102 (Ls := Ls) (p := p) (L := L) (Y := kc5 Y) (Q := R) h
    rw [← c0] at this; exact this
  refine h102 _ (T_M_keepText_48 (cp_103 (T_M_keepText_57 (cp_104 (T_M_keepText_66 (cp_105 (T_M_keepText_75 (cp_106 (T_M_keepText_84 (cp_107 (T_M_keepText_93 (cp_108 (T_M_keepText_102 (cp_109 (T_M_keepText_111 (cp_110 (T_M_keepText_120 (cp_111 (T_M_keepText_129 (cp_112 (T_M_keepText_138 (cp_113 (T_M_keepText_146 (cp_114 (T_M_keepText_154 (cl_115 (kc := 0) (ks := 0) k01 (cp_116 (T_M_keepText_189 (cp_117 (T_M_keepText_197 (cp_118 (T_M_keepText_206 (cp_119 (T_M_keepText_215 (cp_120 (T_M_keepText_224 (E_M_begin (r_atFirst (b := 0) (by omega) (fun Z z1 z2 z3 z4 z5 => T_M_begin_5 ⟨by omega, r_plainTried (T_M_begin_20 ⟨Or.inl rfl, T_M_keepText_228 (hQ Z z1 z2 z3 z4 z5)⟩)⟩))))))))))))) 3 0 (by omega)))))))))))))))))))))))))))
/-- what of the reference's rows the plan is held against -/
theorem PR_low {I Z : Nat → Nat → Int} (hpl : planOK I p) (hR : PR I p I) (gp : ∀ k, k < 19 → Z (p + k) = I (p + k)) (g98 : ∀ k, 12 ≤ k → k ≤ 16 → Z 98 k = I 98 k) (low : ∀ a k, 101 ≤ a → a ≤ 120 → k < half a → Z a k = I a k) : PR Z p Z := by
  obtain ⟨⟨a1, a2, a3, a4, a5, a6⟩, b, c, d, e, f, g⟩ := hR
  obtain ⟨⟨-, p13⟩, ⟨-, p14⟩, ⟨-, p15⟩, ⟨-, p16⟩, -⟩ := hpl
  have g0 := gp 0 (by omega)
  rw [Nat.add_zero] at g0
  have l6 : ∀ a k, 103 ≤ a ∧ a ≤ 107 → k < 6 → Z a k = I a k := fun a k h1 h2 => low a k (by omega) (by omega) (by unfold half; rw [if_neg (by omega), if_pos h1]; exact h2)
  have l10 : ∀ a k, 108 ≤ a ∧ a ≤ 109 → k < 10 → Z a k = I a k := fun a k h1 h2 => low a k (by omega) (by omega) (by unfold half; rw [if_neg (by omega), if_neg (by omega), if_pos (by omega)]; exact h2)
  have lm : ∀ a k, 110 ≤ a ∧ a ≤ 112 → k < 6 → Z a k = I a k := fun a k h1 h2 => low a k (by omega) (by omega) (by unfold half; rw [if_neg (by omega), if_neg (by omega), if_neg (by omega), if_pos h1]; exact h2)
  have l3 : ∀ a k, 113 ≤ a ∧ a ≤ 117 → k < 3 → Z a k = I a k := fun a k h1 h2 => low a k (by omega) (by omega) (by unfold half; rw [if_neg (by omega), if_neg (by omega), if_neg (by omega), if_neg (by omega), if_pos h1]; exact h2)
  have l64 : ∀ a k, 118 ≤ a ∧ a ≤ 120 → k < 64 → Z a k = I a k := fun a k h1 h2 => low a k (by omega) (by omega) (by unfold half; rw [if_neg (by omega), if_neg (by omega), if_neg (by omega), if_neg (by omega), if_neg (by omega), if_pos h1]; exact h2)
  unfold PR
  rw [g0, gp 1 (by omega), gp 2 (by omega), gp 3 (by omega), gp 4 (by omega), gp 5 (by omega), gp 6 (by omega), gp 7 (by omega), gp 8 (by omega), gp 9 (by omega), gp 10 (by omega), gp 11 (by omega), gp 12 (by omega), gp 13 (by omega), gp 14 (by omega), gp 15 (by omega), gp 16 (by omega), gp 17 (by omega)]
  refine ⟨⟨by rw [g98 12 (by omega) (by omega)]; exact a1, by rw [g98 13 (by omega) (by omega)]; exact a2, by rw [g98 14 (by omega) (by omega)]; exact a3, by rw [g98 15 (by omega) (by omega)]; exact a4, by rw [low 102 0 (by omega) (by omega) (by decide)]; exact a5, by rw [low 102 1 (by omega) (by omega) (by decide)]; exact a6⟩, fun q hq => ?_, fun r hr => ?_, fun m hm => ?_, fun k hk => ?_, fun law hl => ?_, by rw [g98 16 (by omega) (by omega)]; exact g⟩
  · rw [l6 103 q (by omega) (by omega), l6 104 q (by omega) (by omega), l6 105 q (by omega) (by omega), l6 106 q (by omega) (by omega), l6 107 q (by omega) (by omega)]; exact b q hq
  · rw [l10 108 r (by omega) (by omega), l10 109 r (by omega) (by omega)]; exact c r hr
  · rw [lm 110 m (by omega) (by omega), lm 111 m (by omega) (by omega), lm 112 m (by omega) (by omega)]; exact d m hm
  · rw [l3 113 k (by omega) (by omega), l3 114 k (by omega) (by omega)]; exact e k hk
  · rw [l3 115 law (by omega) hl]
    rcases f law hl with h | ⟨h1, fr, to, h2, h3, h4, h5, h6⟩
    · exact Or.inl h
    · refine Or.inr ⟨h1, fr, to, h2, h3, by rw [l3 116 law (by omega) hl]; exact h4, by rw [l3 117 law (by omega) hl]; exact h5, h6.congr (fun i hi => ?_)⟩
      have := h6.2.1
      exact ⟨rfl, rfl, l64 118 i (by omega) (by omega), l64 119 i (by omega) (by omega), l64 120 i (by omega) (by omega)⟩
/-- a TEXT that is not told -/
theorem INV_not {o : Nat} {I Z L : Nat → Nat → Int} (ho : (p = 68 ∧ o = 9) ∨ (p = 9 ∧ o = 68)) (hI : INV p I L) (h1 : ∀ a, a < 46 ∨ (67 ≤ a ∧ a < 98) → a ≠ 2 → a ≠ 3 → a ≠ 4 → a ≠ 5 → a ≠ 8 → ¬ (o ≤ a ∧ a ≤ o + 18) → Z a = I a) (h2 : ∀ k, k ≠ 10 → k ≠ 11 → k ≠ 12 → Z 2 k = I 2 k) (h10 : Z 2 10 = 0 ∧ Z 98 1 = 0) (hF : Z 2 11 = Z 98 4 ∧ Z 2 12 = Z 98 5) (h98 : ∀ k, (12 ≤ k ∧ k ≤ 16) ∨ 74 < k → Z 98 k = I 98 k) (h3 : ∀ a, a = 99 ∨ a = 100 ∨ 122 < a → Z a = I a) (low : ∀ a k, 101 ≤ a → a ≤ 120 → k < half a → Z a k = I a k) : INV p Z L := by
  obtain ⟨hp, hpl, hR, hD, hT, _, hW, hS, hLg, hIm⟩ := hI
  have gp : ∀ k, k < 19 → Z (p + k) = I (p + k) := fun k hk => h1 _ (by omega) (by omega) (by omega) (by omega) (by omega) (by omega) (by omega)
  have gp0 : Z p = I p := gp 0 (by omega)
  have d28 : dat Z 28 = dat I 28 := dat_congr (fun j hj => h1 _ (by omega) (by omega) (by omega) (by omega) (by omega) (by omega) (by omega))
  have d37 : dat Z 37 = dat I 37 := dat_congr (fun j hj => h1 _ (by omega) (by omega) (by omega) (by omega) (by omega) (by omega) (by omega))
  have j0 : jat Z 0 = jat I 0 := jat_congr (fun r k _ _ => by rw [h3 (125 + r) (by omega)])
  have c : ∀ a, (28 ≤ a ∧ a < 46) ∨ (87 ≤ a ∧ a < 98) → Z a = I a := fun a ha => h1 a (by omega) (by omega) (by omega) (by omega) (by omega) (by omega) (by omega)
  unfold INV
  rw [gp0]
  refine ⟨hp, planOK_congr hp gp hpl, PR_low hpl hR gp (fun k a b => h98 k (by omega)) low, ?_, ?_, hF, ?_, ?_, ?_, ?_⟩
  · unfold DAY at *
    rw [d28, j0, c 28 (by omega)]; exact hD
  · unfold TPE at *
    rw [h10.1, h10.2, h3 99 (by omega), h1 6 (by omega) (by omega) (by omega) (by omega) (by omega) (by omega) (by omega)]
    exact ⟨by omega, rfl, hT.2.2⟩
  · unfold WDS at *
    rw [h1 7 (by omega) (by omega) (by omega) (by omega) (by omega) (by omega) (by omega), h3 100 (by omega)]; exact hW
  · unfold SEE at *
    rw [c 87 (by omega), c 88 (by omega), c 89 (by omega), c 90 (by omega), c 91 (by omega), c 92 (by omega), h98 75 (by omega), h98 76 (by omega), h3 138 (by omega)]; exact hS
  · unfold LOG at *
    rw [c 94 (by omega), c 95 (by omega), c 96 (by omega), c 97 (by omega), h98 79 (by omega), h3 140 (by omega), d28]; exact hLg
  · unfold IMG at *
    rw [h2 13 (by omega) (by omega) (by omega), c 37 (by omega), c 40 (by omega), c 43 (by omega), c 44 (by omega), c 45 (by omega), h98 81 (by omega), h3 141 (by omega), h3 142 (by omega), d37]; exact hIm
end K20
