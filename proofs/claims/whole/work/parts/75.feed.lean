/-! ===== phase 2: feed ===== -/
theorem m_and_255 (z : Int) : m_and z 255 = z % 256 := by
  unfold m_and
  have h : (Int32.ofInt z &&& Int32.ofInt 255).toInt = ((BitVec.ofInt 32 z &&& 255#32).toInt) := rfl
  have h2 : (BitVec.ofInt 32 z &&& 255#32).toNat = (z % 4294967296).toNat % 256 := by
    rw [BitVec.toNat_and, BitVec.toNat_ofInt, show (255#32).toNat = 2 ^ 8 - 1 from rfl, Nat.and_two_pow_sub_one_eq_mod]; rfl
  rw [h, BitVec.toInt_eq_toNat_of_lt (by omega), h2]
  omega
theorem m_i2b_eq (z : Int) : m_i2b z = sby (z % 256) := by
  unfold m_i2b sby
  rw [Int8.toInt_toInt32, Int32.toInt_toInt8, Int32.toInt_ofInt, show Int32.size = 4294967296 from rfl]
  simp only [Int.bmod]
  omega
theorem m_i2b_range (z : Int) : -128 ≤ m_i2b z ∧ m_i2b z ≤ 127 := by rw [m_i2b_eq]; unfold sby; omega
section W12
variable {Ls p kc ks : Nat} {P M : Int} {I I0 I1 I2 J K L L1 L2 K2 X X1 X2 Y Z d d' e : Nat → Nat → Int} {Q : List mV → mM → Prop} {x : Int}
/-- four bytes more on the class's tape -/
def TF (I X : Nat → Nat → Int) (n t : Nat) (f : Nat → Int) : Prop := (∀ b, b ≠ 2 → b ≠ 6 → X b = I b) ∧ (∀ k, k ≠ 10 → X 2 k = I 2 k) ∧ X 2 10 = ((n + t : Nat) : Int) ∧ (∀ k, k < n ∨ n + t ≤ k → X 6 k = I 6 k) ∧ ∀ b, b < t → X 6 (n + b) = m_i2b (f b)
theorem four_loop {n : Nat} {a : Int} (h7 : n + 4 ≤ 700) (hQ : ∀ X, TF I X n 4 (fun b => m_shr a (24 - 8 * (b : Int))) → Q [] (mem Ls p X L)) : ∀ (t k : Nat) (X : Nat → Nat → Int), k + t = 4 → TF I X n k (fun b => m_shr a (24 - 8 * (b : Int))) → m_Wp i_C_tapeFour 3 kc ks [(0, .inr (.inr 2)), (1, .inl a), (2, .inl (24 - 8 * (k : Int)))] [] (mem Ls p X L) Q := by
  intro t
  induction t with
  | zero =>
    intro k X hk hX
    have : k = 4 := by omega
    subst this
    exact T_C_tapeFour_3 ⟨fun _ => hQ X hX, fun h => by omega⟩
  | succ t ih =>
    intro k X hk hX
    obtain ⟨h1, h2, h3, h4, h5⟩ := hX
    refine T_C_tapeFour_3 ⟨fun h => by omega, fun _ => ?_⟩
    rw [h3, wr_of (z := 24 - 8 * (k : Int) + -8) (by omega) (by omega), wr_of (z := ((n + k : Nat) : Int) + 1) (by omega) (by omega), Int.toNat_natCast, show 24 - 8 * (k : Int) + -8 = 24 - 8 * ((k + 1 : Nat) : Int) by omega]
    refine ⟨fun h => by omega, fun _ => ⟨⟨by omega, m_i2b_range _⟩, ih (k + 1) _ (by omega) ⟨fun b b1 b2 => ?_, fun j hj => ?_, ?_, fun j hj => ?_, fun b hb => ?_⟩⟩⟩
    · rw [mup_other b1, mup_other b2]; exact h1 b b1 b2
    · rw [mup_ne (Or.inr hj), mup_ne (by omega)]; exact h2 j hj
    · rw [mup_eq rfl rfl]; omega
    · rw [mup_ne (by omega), mup_ne (by omega)]; exact h4 j (by omega)
    · by_cases hbk : b = k
      · subst hbk; rw [mup_ne (by omega), mup_eq rfl rfl]
      · rw [mup_ne (by omega), mup_ne (by omega)]; exact h5 b (by omega)
theorem q_tapeFour {n : Nat} {a : Int} (hn : I 2 10 = (n : Int)) (h7 : n + 4 ≤ 700) (hQ : ∀ X, TF I X n 4 (fun b => m_shr a (24 - 8 * (b : Int))) → Q [] (mem Ls p X L)) : m_Call i_C_tapeFour [.inr (.inr 2), .inl a] (mem Ls p I L) Q :=
  E_C_tapeFour (four_loop h7 hQ 4 0 I (by omega) ⟨fun _ _ _ => rfl, fun _ _ => rfl, hn, fun _ _ => rfl, fun b hb => by omega⟩)
def fw (a b c d e : Int) (j : Nat) : Int := if j < 4 then a else if j < 8 then b else if j < 12 then c else if j < 16 then d else e
def fb (a b c d e : Int) (j : Nat) : Int := m_shr (fw a b c d e j) (24 - 8 * ((j % 4 : Nat) : Int))
theorem TF_next {n t : Nat} {f : Nat → Int} {a0 a1 a2 a3 a4 : Int} (h : TF I X n (4 * t) (fb a0 a1 a2 a3 a4)) (ht : t < 5) (g : TF X Y (n + 4 * t) 4 (fun b => m_shr (fw a0 a1 a2 a3 a4 (4 * t)) (24 - 8 * (b : Int)))) : TF I Y n (4 * (t + 1)) (fb a0 a1 a2 a3 a4) := by
  obtain ⟨h1, h2, h3, h4, h5⟩ := h
  obtain ⟨g1, g2, g3, g4, g5⟩ := g
  refine ⟨fun b b1 b2 => by rw [g1 b b1 b2, h1 b b1 b2], fun k hk => by rw [g2 k hk, h2 k hk], by rw [g3]; congr 1, fun k hk => by rw [g4 k (by omega), h4 k (by omega)], fun b hb => ?_⟩
  by_cases hb4 : b < 4 * t
  · rw [g4 _ (by omega), h5 b hb4]
  · have := g5 (b - 4 * t) (by omega)
    rw [show n + 4 * t + (b - 4 * t) = n + b by omega] at this
    rw [this]
    unfold fb
    have e1 : fw a0 a1 a2 a3 a4 (4 * t) = fw a0 a1 a2 a3 a4 b := by unfold fw; grind
    rw [e1, show b - 4 * t = b % 4 by omega]
theorem feed_loop {n : Nat} {a b c d e : Int} (hn : X 98 1 = (n : Int)) (h7 : n + 20 ≤ 700) (hQ : ∀ Y, (∀ b, b ≠ 99 → Y b = X b) → (∀ k, k < n ∨ n + 20 ≤ k → Y 99 k = X 99 k) → (∀ j, j < 20 → Y 99 (n + j) = m_and (fb a b c d e j) 255) → Q [.inl ((n + 20 : Nat) : Int)] (mem Ls p (mup Y 98 1 ((n + 20 : Nat) : Int)) L)) : ∀ (t k : Nat) (Y : Nat → Nat → Int), k + t = 20 → (∀ b, b ≠ 99 → Y b = X b) → (∀ j, j < n ∨ n + k ≤ j → Y 99 j = X 99 j) → (∀ j, j < k → Y 99 (n + j) = m_and (fb a b c d e j) 255) → m_Wp i_M_feed 23 kc ks [(0, .inr (.inr 98)), (1, .inl a), (2, .inl b), (3, .inl c), (4, .inl d), (5, .inl e), (6, .inl (k : Int))] [] (mem Ls p Y L) Q := by
  intro t
  induction t with
  | zero =>
    intro k Y hk h1 h2 h3
    have : k = 20 := by omega
    subst this
    refine T_M_feed_23 ⟨fun _ => ?_, fun h => by omega⟩
    rw [h1 98 (by omega), hn, wr_of (z := (n : Int) + 20) (by omega) (by omega), show (n : Int) + 20 = ((n + 20 : Nat) : Int) by omega]
    exact hQ Y h1 h2 h3
  | succ t ih =>
    intro k Y hk h1 h2 h3
    refine T_M_feed_23 ⟨fun h => by omega, fun _ => ?_⟩
    have hm : Int.tmod (k : Int) 4 = ((k % 4 : Nat) : Int) := by rw [Int.tmod_eq_emod_of_nonneg (by omega)]; omega
    rw [h1 98 (by omega), hn, wr_of (z := (n : Int) + (k : Int)) (by omega) (by omega), wr_of (z := (k : Int) + 1) (by omega) (by omega), hm, wr_of (z := 8 * ((k % 4 : Nat) : Int)) (by omega) (by omega), wr_of (z := 24 - 8 * ((k % 4 : Nat) : Int)) (by omega) (by omega), show ((n : Int) + (k : Int)).toNat = n + k by omega]
    have fin : ∀ w : Int, w = fw a b c d e k → (¬ (4 : Int) = 0) ∧ (0 ≤ (n : Int) + (k : Int) ∧ (n : Int) + (k : Int) < 700) ∧ m_Wp i_M_feed 23 kc ks [(0, .inr (.inr 98)), (1, .inl a), (2, .inl b), (3, .inl c), (4, .inl d), (5, .inl e), (6, .inl ((k : Int) + 1))] [] (mem Ls p (mup Y 99 (n + k) (m_and (m_shr w (24 - 8 * ((k % 4 : Nat) : Int))) 255)) L) Q := fun w hw => by
      refine ⟨by omega, by omega, ih (k + 1) _ (by omega) (fun b b1 => by rw [mup_other b1]; exact h1 b b1) (fun j hj => by rw [mup_ne (by omega)]; exact h2 j (by omega)) (fun j hj => ?_)⟩
      by_cases hjk : j = k
      · subst hjk; rw [mup_eq rfl rfl, hw]; rfl
      · rw [mup_ne (by omega)]; exact h3 j (by omega)
    unfold fw at fin
    refine ⟨fun z1 => ⟨fun z2 => ⟨fun z3 => ⟨fun z4 => fin _ ?_, fun z4 => fin _ ?_⟩, fun z3 => fin _ ?_⟩, fun z2 => fin _ ?_⟩, fun z1 => fin _ ?_⟩
    · rw [if_neg (by omega), if_neg (by omega), if_neg (by omega), if_neg (by omega)]
    · rw [if_neg (by omega), if_neg (by omega), if_neg (by omega), if_pos (by omega)]
    · rw [if_neg (by omega), if_neg (by omega), if_pos (by omega)]
    · rw [if_neg (by omega), if_pos (by omega)]
    · rw [if_pos (by omega)]
theorem INV_tape (hI : INV p I L) (h1 : ∀ a, a < 46 ∨ (67 ≤ a ∧ a < 98) → a ≠ 2 → a ≠ 6 → Z a = I a) (h2 : ∀ k, k ≠ 10 → Z 2 k = I 2 k) (h98 : ∀ k, k ≠ 1 → k ≠ 2 → k ≠ 52 → k < 67 ∨ 74 < k → Z 98 k = I 98 k) (h3 : ∀ a, 100 ≤ a → Z a = I a) (hT : TPE Z) : INV p Z L := by
  obtain ⟨hp, hpl, hR, hD, _, hF, hW, hS, hLg, hIm⟩ := hI
  have hp' := hp
  unfold isPlan at hp'
  have gp : ∀ k, k < 19 → Z (p + k) = I (p + k) := fun k hk => h1 _ (by omega) (by omega) (by omega)
  have gp0 : Z p = I p := gp 0 (by omega)
  have d28 : dat Z 28 = dat I 28 := dat_congr (fun j hj => h1 _ (by omega) (by omega) (by omega))
  have d37 : dat Z 37 = dat I 37 := dat_congr (fun j hj => h1 _ (by omega) (by omega) (by omega))
  have j0 : jat Z 0 = jat I 0 := jat_congr (fun r k h1 h2 => by rw [h3 _ (by omega)])
  unfold INV
  rw [gp0]
  refine ⟨hp, planOK_congr hp gp hpl, PR_congr gp (fun k a b => h98 k (by omega) (by omega) (by omega) (by omega)) (fun a b c => h3 a (by omega)) hR, ?_, hT, ?_, ?_, ?_, ?_, ?_⟩
  · unfold DAY at *
    rw [d28, j0, h1 28 (by omega) (by omega) (by omega)]; exact hD
  · rw [h2 11 (by omega), h2 12 (by omega), h98 4 (by omega) (by omega) (by omega) (by omega), h98 5 (by omega) (by omega) (by omega) (by omega)]; exact hF
  · unfold WDS at *
    rw [h1 7 (by omega) (by omega) (by omega), h3 100 (by omega)]; exact hW
  · unfold SEE at *
    rw [h1 87 (by omega) (by omega) (by omega), h1 88 (by omega) (by omega) (by omega), h1 89 (by omega) (by omega) (by omega), h1 90 (by omega) (by omega) (by omega), h1 91 (by omega) (by omega) (by omega), h1 92 (by omega) (by omega) (by omega), h98 75 (by omega) (by omega) (by omega) (by omega), h98 76 (by omega) (by omega) (by omega) (by omega), h3 138 (by omega)]; exact hS
  · unfold LOG at *
    rw [h1 94 (by omega) (by omega) (by omega), h1 95 (by omega) (by omega) (by omega), h1 96 (by omega) (by omega) (by omega), h1 97 (by omega) (by omega) (by omega), h98 79 (by omega) (by omega) (by omega) (by omega), h3 140 (by omega), d28]; exact hLg
  · unfold IMG at *
    rw [h2 13 (by omega), h1 37 (by omega) (by omega) (by omega), h1 40 (by omega) (by omega) (by omega), h1 43 (by omega) (by omega) (by omega), h1 44 (by omega) (by omega) (by omega), h1 45 (by omega) (by omega) (by omega), h98 81 (by omega) (by omega) (by omega) (by omega), h3 141 (by omega), h3 142 (by omega), d37]; exact hIm
theorem pair_feed {a b c d e : Int} (hI : INV p I L) : PAIR Ls i_C_feed i_M_feed [.inl a, .inl b, .inl c, .inl d, .inl e] (mem Ls p I L) := by
  have hT := hI.2.2.2.2.1
  have h10 := hT.1
  obtain ⟨n, hn⟩ : ∃ n : Nat, I 2 10 = (n : Int) := ⟨(I 2 10).toNat, by omega⟩
  have h1 : I 98 1 = (n : Int) := by rw [hT.2.1, hn]
  refine E_C_feed ?_
  rw [hn, wr_of (z := (n : Int) + 20) (by omega) (by omega)]
  refine ⟨fun h7 => ?_, fun h7 => E_M_feed ?_⟩
  · refine q_tapeFour hn (by omega) (fun X1 f1 => T_C_feed_20 (q_tapeFour (n := n + 4) f1.2.2.1 (by omega) (fun X2 f2 => T_C_feed_25 (q_tapeFour (n := n + 4 + 4) f2.2.2.1 (by omega) (fun X3 f3 => T_C_feed_30 (q_tapeFour (n := n + 4 + 4 + 4) f3.2.2.1 (by omega) (fun X4 f4 => T_C_feed_36 (q_tapeFour (n := n + 4 + 4 + 4 + 4) f4.2.2.1 (by omega) (fun X5 f5 => T_C_feed_42 ?_)))))))))
    have t0 : TF I I n (4 * 0) (fb a b c d e) := ⟨fun _ _ _ => rfl, fun _ _ => rfl, hn, fun _ _ => rfl, fun b hb => by omega⟩
    have t1 := TF_next (f := fun _ => 0) t0 (by omega) f1
    have t2 := TF_next (f := fun _ => 0) t1 (by omega) f2
    have t3 := TF_next (f := fun _ => 0) t2 (by omega) f3
    have t4 := TF_next (f := fun _ => 0) t3 (by omega) f4
    obtain ⟨g1, g2, g3, g4, g5⟩ := TF_next (f := fun _ => 0) t4 (by omega) f5
    have g3' : X5 2 10 = ((n + 20 : Nat) : Int) := g3
    rw [g3']
    refine E_M_feed ?_
    rw [g1 98 (by omega) (by omega), h1, wr_of (z := (n : Int) + 20) (by omega) (by omega)]
    refine ⟨fun _ => ?_, fun z => absurd h7 z⟩
    refine feed_loop (X := mup X5 98 2 0) (n := n) (by rw [mup_ne (by omega), g1 98 (by omega) (by omega), h1]) (by omega) (fun Y y1 y2 y3 => ⟨rfl, p, _, _, rfl, ?_⟩) 20 0 _ (by omega) (fun _ _ => rfl) (fun _ _ => rfl) (fun j hj => by omega)
    refine INV_tape hI (fun b b1 b2 b3 => ?_) (fun k hk => ?_) (fun k b1 b2 b3 _ => ?_) (fun b b1 => ?_) ?_
    · rw [mup_other (by omega), y1 b (by omega), mup_other (by omega), g1 b b2 b3]
    · rw [mup_other (by omega), y1 2 (by omega), mup_other (by omega), g2 k hk]
    · rw [mup_ne (Or.inr b1), y1 98 (by omega), mup_ne (Or.inr b2), g1 98 (by omega) (by omega)]
    · rw [mup_other (by omega), y1 b (by omega), mup_other (by omega), g1 b (by omega) (by omega)]
    · unfold TPE
      rw [mup_other (i := 2) (by omega), y1 2 (by omega), mup_other (i := 2) (by omega), g3', mup_eq rfl rfl, mup_other (i := 6) (by omega), y1 6 (by omega), mup_other (i := 6) (by omega), mup_other (i := 99) (by omega)]
      refine ⟨by omega, rfl, fun j hj => ?_⟩
      by_cases hj2 : j < n ∨ n + 20 ≤ j
      · rw [y2 j hj2, mup_other (by omega), g1 99 (by omega) (by omega), g4 j (by omega)]; exact hT.2.2 j hj
      · have e1 := y3 (j - n) (by omega)
        have e2 := g5 (j - n) (by omega)
        rw [show n + (j - n) = j by omega] at e1 e2
        rw [e1, e2, m_and_255, m_i2b_eq]
        exact ⟨by omega, rfl⟩
  · rw [h1, wr_of (z := (n : Int) + 20) (by omega) (by omega)]
    exact ⟨fun z => absurd z h7, fun _ => ⟨rfl, okT hI⟩⟩
end W12
