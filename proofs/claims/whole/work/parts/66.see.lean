section Q17
variable {Ls p kc ks : Nat} {P M : Int} {I I0 I1 I2 J K L L1 L2 K2 Z d d' e : Nat → Nat → Int} {Q : List mV → mM → Prop} {x : Int}
theorem pair_see {a b c f : Int} (hI : INV p I L) (hf : f = 0 ∨ f = 1) : PAIR Ls i_C_see i_M_see [.inl a, .inl b, .inl c, .inl f] (mem Ls p I L) := by
  have hS := hI.2.2.2.2.2.2.2.1
  have h75 := hS.2.1
  have h24 := hS.1
  have h6 := hI.2.1.1
  have h12 : I 98 12 = I p 13 := hI.2.2.1.1.1
  have ref : I 87 6 = 24 ∨ ¬ (1 ≤ a ∧ a ≤ 99) ∨ ¬ (0 ≤ b ∧ b < I p 13) ∨ ¬ (-200 ≤ c ∧ c ≤ 400) → m_Call i_M_see [.inr (.inr 98), .inl a, .inl b, .inl c, .inl f] (mem Ls p I L) (fun w M2 => w = [.inl (-1)] ∧ OKM Ls M2) := fun h => by
    refine E_M_see ⟨fun _ => ⟨rfl, okT hI⟩, fun h1 => r_isIn (T_M_see_21 ⟨fun _ => ⟨rfl, okT hI⟩, fun h2 => r_isMan ?_⟩)⟩
    rw [mup_ne (by omega), h12]
    refine T_M_see_29 ⟨fun _ => ⟨rfl, okT hI⟩, fun h3 => r_isIn (T_M_see_42 ⟨fun h4 => ?_, fun _ => ⟨rfl, okT hI⟩⟩)⟩
    rw [b01_zero] at h2 h3 h4
    rw [h75] at h1; omega
  refine E_C_see ⟨fun h => ref (by omega), fun h => ⟨fun h2 => ref (by omega), fun h2 => q_isPerson hI.1 (T_C_see_16 ⟨fun h3 => ref (Or.inr (Or.inr (Or.inl (b01_zero.mp h3)))), fun h3 => ⟨fun h4 => ref (by omega), fun h4 => ⟨fun h5 => E_Seen_addSight ⟨fun h7 => ?_, fun h7 => T_C_see_47 (ref (by omega))⟩, fun h5 => ref (by omega)⟩⟩⟩)⟩⟩
  rw [b01_zero] at h3
  obtain ⟨n, hn⟩ : ∃ n : Nat, I 87 6 = (n : Int) := ⟨(I 87 6).toNat, by omega⟩
  rw [hn, Int.toNat_natCast, wr_of (z := (n : Int) + 1) (by omega) (by omega), wr_of (z := (n : Int) + 1 - 1) (by omega) (by omega), show (n : Int) + 1 - 1 = (n : Int) by omega]
  refine ⟨by omega, by omega, by omega, by omega, by omega, T_C_see_47 (E_M_see ?_)⟩
  have X98 : ∀ k, mup (mup (mup (mup (mup (mup I 88 n a) 89 n b) 90 n c) 92 n f) 91 n (-1)) 87 6 ((n : Int) + 1) 98 k = I 98 k := fun k => by rw [mup_ne (by omega), mup_ne (by omega), mup_ne (by omega), mup_ne (by omega), mup_ne (by omega), mup_ne (by omega)]
  rw [X98, h75, hn]
  refine ⟨fun z => by omega, fun _ => r_isIn (T_M_see_21 ⟨fun z => absurd (b01_zero.mp z) (fun y => y (by omega)), fun _ => r_isMan ?_⟩)⟩
  rw [mup_ne (by omega), X98, h12]
  refine T_M_see_29 ⟨fun z => absurd (b01_zero.mp z) (fun y => y (by omega)), fun _ => r_isIn (T_M_see_42 ?_)⟩
  have fin : ∀ v : Int, v = f → m_Call i_M_noted [.inr (.inr 98), .inl a, .inl b, .inl c, .inl v] (mem Ls p (mup (mup (mup (mup (mup (mup (mup I 88 n a) 89 n b) 90 n c) 92 n f) 91 n (-1)) 87 6 ((n : Int) + 1)) 98 2 0) L) (fun v M' => m_Wp i_M_see 66 0 0 [] (v ++ []) M' (fun w M2 => w = [.inl (n : Int)] ∧ OKM Ls M2)) := by
    intro v hv
    subst hv
    refine E_M_noted ?_
    rw [mup_ne (by omega), X98, h75, hn, wr_of (z := 4 * (n : Int)) (by omega) (by omega), wr_of (z := 4 * (n : Int) + 1) (by omega) (by omega), wr_of (z := 4 * (n : Int) + 2) (by omega) (by omega), wr_of (z := 4 * (n : Int) + 3) (by omega) (by omega), wr_of (z := (n : Int) + 1) (by omega) (by omega), wr_of (z := (n : Int) + 1 - 1) (by omega) (by omega), show (4 * (n : Int)).toNat = 4 * n by omega, show (4 * (n : Int) + 1).toNat = 4 * n + 1 by omega, show (4 * (n : Int) + 2).toNat = 4 * n + 2 by omega, show (4 * (n : Int) + 3).toNat = 4 * n + 3 by omega, show (n : Int) + 1 - 1 = (n : Int) by omega]
    refine ⟨by omega, by omega, by omega, by omega, T_M_see_66 ⟨rfl, p, _, _, rfl, ?_⟩⟩
    refine INV_seen hI (fun b' b1 b2 => ?_) (fun k b1 b2 b3 b4 b5 => ?_) (fun b' b1 b2 => ?_) (fun b' b1 => ?_) ?_ ⟨rfl, rfl⟩
    · funext k; simp only [mup_app, show ¬ b' = 98 by omega, show ¬ b' = 138 by omega, show ¬ b' = 87 by omega, show ¬ b' = 88 by omega, show ¬ b' = 89 by omega, show ¬ b' = 90 by omega, show ¬ b' = 91 by omega, show ¬ b' = 92 by omega, false_and, if_false]
    · simp [mup_app, b1, b3]
    · funext k; simp only [mup_app, show ¬ b' = 98 by omega, show ¬ b' = 138 by omega, show ¬ b' = 87 by omega, show ¬ b' = 88 by omega, show ¬ b' = 89 by omega, show ¬ b' = 90 by omega, show ¬ b' = 91 by omega, show ¬ b' = 92 by omega, false_and, if_false]
    · funext k; simp only [mup_app, show ¬ b' = 98 by omega, show ¬ b' = 138 by omega, show ¬ b' = 87 by omega, show ¬ b' = 88 by omega, show ¬ b' = 89 by omega, show ¬ b' = 90 by omega, show ¬ b' = 91 by omega, show ¬ b' = 92 by omega, false_and, if_false]
    · unfold SEE at *
      refine ⟨by simp [mup_app]; omega, by simp [mup_app], ?_, ?_, fun k hk => ?_⟩
      · simp [mup_app]; exact hS.2.2.1
      · simp [mup_app]; have := hS.2.2.2.1; omega
      · have hk' : (k : Int) < (n : Int) + 1 := by simpa [mup_app] using hk
        by_cases hkn : k = n
        · subst hkn
          left
          simp [mup_app]
          omega
        · have h8 := hS.2.2.2.2 k (by omega)
          have e0 : ¬ 4 * k = 4 * n := by omega
          have e1 : ¬ 4 * k + 1 = 4 * n + 1 := by omega
          have e2 : ¬ 4 * k + 2 = 4 * n + 2 := by omega
          have e3 : ¬ 4 * k + 3 = 4 * n + 3 := by omega
          have g : ∀ i j : Nat, i < 4 → j < 4 → ¬ 4 * k + i = 4 * n + j := fun i j _ _ => by omega
          have g01 := g 0 1 (by omega) (by omega)
          have g02 := g 0 2 (by omega) (by omega)
          have g03 := g 0 3 (by omega) (by omega)
          have g10 := g 1 0 (by omega) (by omega)
          have g12 := g 1 2 (by omega) (by omega)
          have g13 := g 1 3 (by omega) (by omega)
          have g20 := g 2 0 (by omega) (by omega)
          have g21 := g 2 1 (by omega) (by omega)
          have g23 := g 2 3 (by omega) (by omega)
          have g30 := g 3 0 (by omega) (by omega)
          have g31 := g 3 1 (by omega) (by omega)
          have g32 := g 3 2 (by omega) (by omega)
          simp only [Nat.add_zero] at g01 g02 g03 g10 g20 g30
          simp only [mup_app, hkn, e0, e1, e2, e3, g01, g02, g03, g10, g12, g13, g20, g21, g23, g30, g31, g32, and_false, if_false, Nat.reduceEqDiff, false_and]
          exact h8
  refine ⟨fun _ => ⟨fun z => fin 0 z.symm, fun z => fin 1 (by omega)⟩, fun z => absurd (b01_zero.mp (Classical.not_not.mp z)) (fun y => y (by omega))⟩
theorem pair_strike {a : Int} (hI : INV p I L) : PAIR Ls i_C_strike i_M_strike [.inl a] (mem Ls p I L) := by
  have hS := hI.2.2.2.2.2.2.2.1
  have h75 := hS.2.1
  have h24 := hS.1
  have ref : I 87 6 = 24 ∨ ¬ (0 ≤ a ∧ a < I 87 6) → m_Call i_M_strike [.inr (.inr 98), .inl a] (mem Ls p I L) (fun w M2 => w = [.inl (-1)] ∧ OKM Ls M2) := fun h => by
    refine E_M_strike ?_
    rw [h75]
    exact ⟨fun _ => ⟨rfl, okT hI⟩, fun h1 => ⟨fun _ => ⟨rfl, okT hI⟩, fun h2 => ⟨fun h3 => by omega, fun _ => ⟨rfl, okT hI⟩⟩⟩⟩
  refine E_C_strike (E_Seen_addStrike ⟨fun h => T_C_strike_8 (ref (by omega)), fun h => ⟨fun h2 => T_C_strike_8 (ref (by omega)), fun h2 => ⟨fun h3 => ?_, fun h3 => T_C_strike_8 (ref (by omega))⟩⟩⟩)
  obtain ⟨n, hn⟩ : ∃ n : Nat, I 87 6 = (n : Int) := ⟨(I 87 6).toNat, by omega⟩
  rw [hn, Int.toNat_natCast, wr_of (z := (n : Int) + 1) (by omega) (by omega), wr_of (z := (n : Int) + 1 - 1) (by omega) (by omega), show (n : Int) + 1 - 1 = (n : Int) by omega]
  refine ⟨by omega, T_C_strike_8 (E_M_strike ?_)⟩
  have X98 : ∀ k, mup (mup I 91 n a) 87 6 ((n : Int) + 1) 98 k = I 98 k := fun k => by rw [mup_ne (by omega), mup_ne (by omega)]
  rw [X98, h75, hn]
  refine ⟨fun z => by omega, fun _ => ⟨fun z => by omega, fun _ => ⟨fun _ => E_M_noted ?_, fun z => by omega⟩⟩⟩
  rw [mup_ne (by omega), X98, h75, hn, wr_of (z := 4 * (n : Int)) (by omega) (by omega), wr_of (z := 4 * (n : Int) + 1) (by omega) (by omega), wr_of (z := 4 * (n : Int) + 2) (by omega) (by omega), wr_of (z := 4 * (n : Int) + 3) (by omega) (by omega), wr_of (z := (n : Int) + 1) (by omega) (by omega), wr_of (z := (n : Int) + 1 - 1) (by omega) (by omega), show (4 * (n : Int)).toNat = 4 * n by omega, show (4 * (n : Int) + 1).toNat = 4 * n + 1 by omega, show (4 * (n : Int) + 2).toNat = 4 * n + 2 by omega, show (4 * (n : Int) + 3).toNat = 4 * n + 3 by omega, show (n : Int) + 1 - 1 = (n : Int) by omega]
  refine ⟨by omega, by omega, by omega, by omega, T_M_strike_38 ⟨rfl, p, _, _, rfl, ?_⟩⟩
  refine INV_seen hI (fun b' b1 b2 => ?_) (fun k b1 b2 b3 b4 b5 => ?_) (fun b' b1 b2 => ?_) (fun b' b1 => ?_) ?_ ⟨rfl, rfl⟩
  · funext k; simp only [mup_app, show ¬ b' = 98 by omega, show ¬ b' = 138 by omega, show ¬ b' = 87 by omega, show ¬ b' = 91 by omega, false_and, if_false]
  · simp [mup_app, b1, b3]
  · funext k; simp only [mup_app, show ¬ b' = 98 by omega, show ¬ b' = 138 by omega, show ¬ b' = 87 by omega, show ¬ b' = 91 by omega, false_and, if_false]
  · funext k; simp only [mup_app, show ¬ b' = 98 by omega, show ¬ b' = 138 by omega, show ¬ b' = 87 by omega, show ¬ b' = 91 by omega, false_and, if_false]
  · unfold SEE at *
    refine ⟨by simp [mup_app]; omega, by simp [mup_app], ?_, ?_, fun k hk => ?_⟩
    · simp [mup_app]; exact hS.2.2.1
    · simp [mup_app]; have := hS.2.2.2.1; omega
    · have hk' : (k : Int) < (n : Int) + 1 := by simpa [mup_app] using hk
      by_cases hkn : k = n
      · subst hkn
        right
        simp [mup_app]
        omega
      · have h8 := hS.2.2.2.2 k (by omega)
        have e0 : ¬ 4 * k = 4 * n := by omega
        have e1 : ¬ 4 * k + 1 = 4 * n + 1 := by omega
        have e2 : ¬ 4 * k + 2 = 4 * n + 2 := by omega
        have e3 : ¬ 4 * k + 3 = 4 * n + 3 := by omega
        have g : ∀ i j : Nat, i < 4 → j < 4 → ¬ 4 * k + i = 4 * n + j := fun i j _ _ => by omega
        have g01 := g 0 1 (by omega) (by omega)
        have g02 := g 0 2 (by omega) (by omega)
        have g03 := g 0 3 (by omega) (by omega)
        have g10 := g 1 0 (by omega) (by omega)
        have g12 := g 1 2 (by omega) (by omega)
        have g13 := g 1 3 (by omega) (by omega)
        have g20 := g 2 0 (by omega) (by omega)
        have g21 := g 2 1 (by omega) (by omega)
        have g23 := g 2 3 (by omega) (by omega)
        have g30 := g 3 0 (by omega) (by omega)
        have g31 := g 3 1 (by omega) (by omega)
        have g32 := g 3 2 (by omega) (by omega)
        simp only [Nat.add_zero] at g01 g02 g03 g10 g20 g30
        simp only [mup_app, hkn, e0, e1, e2, e3, g01, g02, g03, g10, g12, g13, g20, g21, g23, g30, g31, g32, and_false, if_false, Nat.reduceEqDiff, false_and]
        exact h8
end Q17
