/-! ===== phase 2: text, the pair ===== -/
section K22
variable {Ls p : Nat} {I L : Nat → Nat → Int}
/-- two runs of one call -/
theorem RN_det {c : Nat} {as : List mV} {v v' : Int} {X X1 X2 : Nat → Nat → Int} (h : RN Ls p L c as X [.inl v] X1) (h' : RN Ls p L c as X [.inl v'] X2) : v = v' ∧ X1 = X2 := by
  obtain ⟨u, M, ⟨e1, e2⟩, e3, e4⟩ := m_Call_det (h (fun u M => u = [.inl v] ∧ M = mem Ls p X1 L) ⟨rfl, rfl⟩) (h' (fun u M => u = [.inl v'] ∧ M = mem Ls p X2 L) ⟨rfl, rfl⟩)
  subst e1
  subst e2
  injection e3 with e3 _
  injection e3 with e3
  exact ⟨e3, (mem_inj e4).1⟩
set_option maxHeartbeats 1000000 in
theorem pair_text {a : Int} (hI : INV p I L) : PAIR Ls i_C_text i_M_text [.inl a] (mem Ls p I L) := by
  unfold PAIR
  have hI0 := hI
  obtain ⟨hp, hpl, hR, hD, hT, hF, hW, hS, hLg, hIm⟩ := hI
  obtain ⟨⟨t0, t7⟩, t1, t2⟩ := id hT
  by_cases ha : a < 0
  · exact E_C_text ⟨fun _ => E_M_text ⟨fun _ => ⟨rfl, okT hI0⟩, fun z => absurd ha z⟩, fun z => absurd ha z⟩
  by_cases hb : a ≤ I 2 10
  case neg =>
    exact E_C_text ⟨fun z => absurd z ha, fun _ => ⟨fun z => absurd z hb, fun _ => E_M_text ⟨fun z => absurd z ha, fun _ => ⟨fun z => by rw [t1] at z; exact absurd z hb, fun _ => ⟨rfl, okT hI0⟩⟩⟩⟩⟩
  obtain ⟨n, rfl⟩ : ∃ n : Nat, a = (n : Int) := ⟨a.toNat, by omega⟩
  obtain ⟨o, ho⟩ : ∃ o : Nat, (p = 68 ∧ o = 9) ∨ (p = 9 ∧ o = 68) := ⟨77 - p, by unfold isPlan at hp; omega⟩
  have x6 : ∀ b, b ≠ 2 → mup I 2 10 0 b = I b := fun b h => mup_other h
  have w7 : ∀ k : Nat, k < 20 → mup I 2 10 0 7 k = words7.getD k 0 := fun k hk => by rw [x6 7 (by omega)]; exact hW.1 k hk
  have tp : ∀ Y : Nat → Nat → Int, Y 99 = I 99 → TPR (mup I 2 10 0) Y := fun Y h => by
    unfold TPR; rw [h, x6 6 (by omega)]; exact t2
  obtain ⟨v, X1, _, c1, -, c3, -, c5⟩ := k_text (Ls := Ls) (p := p) (pp := p) (K := L) (L := L) (X := mup I 2 10 0) (Y := I) ho (n := n) (by omega) (by rw [t1]; exact hb) (tp I rfl) w7 hW.2
  have hv : v = 0 ∨ v = 1 := by rcases c5 with ⟨h, _⟩ | ⟨h, _⟩; exact Or.inl h; exact Or.inr h
  clear c5
  have xa : ∀ b, b ≠ 2 → b ≠ 3 → b ≠ 4 → b ≠ 5 → b ≠ 8 → ¬ (o ≤ b ∧ b ≤ o + 18) → X1 b = I b := fun b h0 h1 h2 h3 h4 h5 => by rw [c3 b h1 h2 h3 h4 h5, x6 b h0]
  have x2 : X1 2 = mup I 2 10 0 2 := c3 2 (by omega) (by omega) (by omega) (by omega) (by omega)
  refine E_C_text ⟨fun z => absurd z ha, fun _ => ⟨fun _ => c1 _ ?_, fun z => absurd hb z⟩⟩
  rcases hv with rfl | rfl
  · refine T_C_text_28 ho ⟨fun z => absurd rfl z, fun _ => ?_⟩
    generalize hJ : mup (mup X1 2 11 (X1 3 4)) 2 12 (X1 3 5) = J
    have ja : ∀ b, b ≠ 2 → J b = X1 b := fun b h => by rw [← hJ, mup_other h, mup_other h]
    obtain ⟨v', X2, Y2, d1, d2, d3, d4, d5⟩ := k_text (Ls := Ls) (p := p) (pp := p) (K := L) (L := L) (X := mup I 2 10 0) (Y := J) ho (n := n) (by omega) (by rw [ja 98 (by omega), xa 98 (by omega) (by omega) (by omega) (by omega) (by omega) (by omega), t1]; exact hb) (tp J (by rw [ja 99 (by omega), xa 99 (by omega) (by omega) (by omega) (by omega) (by omega) (by omega)])) w7 (by rw [ja 100 (by omega), xa 100 (by omega) (by omega) (by omega) (by omega) (by omega) (by omega)]; exact hW.2)
    obtain ⟨e1, e2⟩ := RN_det c1 d1
    subst e1
    subst e2
    rcases d5 with ⟨-, d5⟩ | ⟨h, -⟩
    · refine d5 _ ⟨rfl, p, Y2, L, rfl, ?_⟩
      obtain ⟨g1, g2, g3⟩ := d4
      have y0 : ∀ b, b ≠ 98 → Y0 J n b = J b := fun b h => by unfold Y0; rw [mup_other h, mup_other h, mup_other h]
      have yk : ∀ k, k ≠ 1 → k ≠ 2 → k ≠ 6 → Y0 J n 98 k = I 98 k := fun k h1 h2 h3 => by unfold Y0; rw [mup_ne (Or.inr h1), mup_ne (Or.inr h3), mup_ne (Or.inr h2), ja 98 (by omega), xa 98 (by omega) (by omega) (by omega) (by omega) (by omega) (by omega)]
      have y1 : ∀ b, b < 98 ∨ b = 99 ∨ b = 100 ∨ 122 < b → Y2 b = J b := fun b h => by rw [g1 b (by omega) (by omega), y0 b (by omega)]
      refine INV_not ho hI0 (fun b h h2 h3 h4 h5 h8 ho' => ?_) (fun k h1 h2 h3 => ?_) ⟨?_, ?_⟩ ⟨?_, ?_⟩ (fun k hk => ?_) (fun b hb => ?_) (fun b k h1 h2 h3 => ?_)
      · rw [y1 b (by omega), ja b h2, xa b h2 h3 h4 h5 h8 ho']
      · rw [y1 2 (by omega), ← hJ, mup_ne (Or.inr h3), mup_ne (Or.inr h2), x2, mup_ne (Or.inr h1)]
      · rw [y1 2 (by omega), ← hJ, mup_ne (by omega), mup_ne (by omega), x2, mup_eq rfl rfl]
      · rw [g2 1 (by omega)]; unfold Y0; rw [mup_eq rfl rfl]
      · rw [y1 2 (by omega), ← hJ, mup_ne (by omega), mup_eq rfl rfl]; exact d2.1
      · rw [y1 2 (by omega), ← hJ, mup_eq rfl rfl]; exact d2.2
      · rw [g2 k (by omega), yk k (by omega) (by omega) (by omega)]
      · rw [y1 b (by omega), ja b (by omega), xa b (by omega) (by omega) (by omega) (by omega) (by omega) (by omega)]
      · rw [g3 b k h1 h2 h3, y0 b (by omega), ja b (by omega), xa b (by omega) (by omega) (by omega) (by omega) (by omega) (by omega)]
    · omega
  · refine T_C_text_28 ho ⟨fun _ => ?_, fun z => absurd (by omega) z⟩
    rw [R_swap ho]
    show m_Call i_Day_begin [.inr (.inr 28), .inr (.inr o)] (mem Ls o (mup (mup X1 2 11 (X1 3 4)) 2 12 (X1 3 5)) L) _
    generalize hJ : mup (mup X1 2 11 (X1 3 4)) 2 12 (X1 3 5) = J
    have ja : ∀ b, b ≠ 2 → J b = X1 b := fun b h => by rw [← hJ, mup_other h, mup_other h]
    obtain ⟨v', X2, Y2, d1, d2, d3, d4, d5⟩ := k_text (Ls := Ls) (p := p) (pp := o) (K := L) (L := L) (X := mup I 2 10 0) (Y := I) ho (n := n) (by omega) (by rw [t1]; exact hb) (tp I rfl) w7 hW.2
    obtain ⟨e1, e2⟩ := RN_det c1 d1
    subst e1
    subst e2
    rcases d5 with ⟨h, -⟩ | ⟨-, hB0, -⟩
    · omega
    clear d1 d2 d3 d4
    have jo := ja o (by omega)
    refine q_begin (by unfold isPlan; omega) (Or.inl rfl) (by rw [jo]; exact hB0.1.2.1) (by rw [jo]; exact hB0.2.2.1.2.1) (fun d hd => T_C_text_103 (E_Seen_forget (T_C_text_110 ⟨Or.inl rfl, ?_⟩)))
    rw [jo, ja (o + 4) (by omega), ja (o + 10) (by omega)] at hd
    clear hB0 Y2
    generalize hG : mup (mup (mup (mup (dput J 28 d) 87 6 0) 87 7 (-1)) 94 3 0) 2 13 0 = G
    have dj : ∀ b, ¬ (28 ≤ b ∧ b < 37) → dput J 28 d b = J b := fun b h => by unfold dput; rw [if_neg (by omega)]
    have ga : ∀ b, b ≠ 2 → ¬ (28 ≤ b ∧ b < 37) → b ≠ 87 → b ≠ 94 → G b = X1 b := fun b h1 h2 h3 h4 => by rw [← hG, mup_other h1, mup_other h4, mup_other h3, mup_other h3, dj b h2, ja b h1]
    have gi : ∀ b, 97 < b → G b = I b := fun b hb => by rw [ga b (by omega) (by omega) (by omega) (by omega), xa b (by omega) (by omega) (by omega) (by omega) (by omega) (by omega)]
    have e33 : mup (mup (dput J 28 d) 87 6 0) 87 7 (-1) 3 3 = X1 3 3 := by rw [mup_ne (by omega), mup_ne (by omega), dj 3 (by omega), ja 3 (by omega)]
    rw [e33]
    obtain ⟨v', X2, Y2, d1, d2, d3, d4, d5⟩ := k_text (Ls := Ls) (p := p) (pp := o) (K := L) (L := L) (X := mup I 2 10 0) (Y := G) ho (n := n) (by omega) (by rw [gi 98 (by omega), t1]; exact hb) (tp G (gi 99 (by omega))) w7 (by rw [gi 100 (by omega)]; exact hW.2)
    obtain ⟨e1, e2⟩ := RN_det c1 d1
    subst e1
    subst e2
    rcases d5 with ⟨h, -⟩ | ⟨-, hB, d5⟩
    · omega
    obtain ⟨g1, g2, g3⟩ := d4
    have h01 : ∀ l : Nat, l < 3 → Y2 115 (3 + l) = 0 ∨ Y2 115 (3 + l) = 1 := fun l hl => by
      obtain ⟨-, -, -, -, -, ⟨_, -, -, hl'⟩⟩ := hB
      rcases hl' l hl with h | h
      · exact Or.inl h.1
      · exact Or.inr h.1
    refine d5 _ (r_keepText h01 (fun Z z1 z2 z3 z4 z5 => T_M_text_81 ⟨rfl, o, _, _, rfl, ?_⟩))
    generalize hFF : mup (mup (mup (mup (plainJ Z) 98 75 0) 98 76 (-1)) 98 79 0) 98 81 0 = F
    have y0 : ∀ b, b ≠ 98 → Y0 G n b = G b := fun b h => by unfold Y0; rw [mup_other h, mup_other h, mup_other h]
    have k5 : ∀ b, b ≠ 98 → kc5 Y2 b = Y2 b := fun b h => by unfold kc5; rw [mup_other h, mup_other h, mup_other h, mup_other h, mup_other h]
    have k5k : ∀ k, ¬ (12 ≤ k ∧ k ≤ 16) → kc5 Y2 98 k = Y2 98 k := fun k h => by unfold kc5; rw [mup_ne (by omega), mup_ne (by omega), mup_ne (by omega), mup_ne (by omega), mup_ne (by omega)]
    have cpo : ∀ b, ¬ (102 ≤ b ∧ b ≤ 120) → cpp (kc5 Y2) 121 0 b = kc5 Y2 b := fun b h => by
      unfold cpp
      rw [if_neg (by omega)]
      split
      · funext j; rw [if_neg (by omega)]
      · rfl
    have cpi : ∀ b k, 102 ≤ b → b ≤ 120 → k < half b → cpp (kc5 Y2) 121 0 b k = Y2 b (half b + k) := fun b k h1 h2 h3 => by
      unfold cpp
      rw [if_pos (by omega), if_pos h3, k5 b (by omega)]
    have fz : ∀ b, b ≠ 98 → F b = Z b := fun b h => by rw [← hFF]; unfold plainJ; rw [mup_other h, mup_other h, mup_other h, mup_other h, mup_other h, mup_other h, mup_other h, mup_other h, mup_other h, mup_other h, mup_other h, mup_other h]
    have fzk : ∀ k, k < 67 → F 98 k = Z 98 k := fun k h => by rw [← hFF]; unfold plainJ; rw [mup_ne (by omega), mup_ne (by omega), mup_ne (by omega), mup_ne (by omega), mup_ne (by omega), mup_ne (by omega), mup_ne (by omega), mup_ne (by omega), mup_ne (by omega), mup_ne (by omega), mup_ne (by omega), mup_ne (by omega)]
    have f98 : ∀ k, k < 67 → F 98 k = kc5 Y2 98 k := fun k h => by rw [fzk k h, z1.1 98 (by omega), cpo 98 (by omega)]
    have fy : ∀ b, b < 98 ∨ b = 99 ∨ b = 100 → F b = G b := fun b h => by rw [fz b (by omega), z1.1 b (by omega), cpo b (by omega), k5 b (by omega), g1 b (by omega) (by omega), y0 b (by omega)]
    refine INV_told (I := I) (d := d) (Y2 := Y2) (X1 := X1) (by omega) hB hT hW (fun b h1 h2 => ?_) (fun j hj => ?_) hd ⟨?_, ?_, ?_, ?_⟩ ⟨?_, ?_⟩ ⟨?_, ?_, ?_, ?_⟩ ⟨?_, ?_, ?_, ?_, ?_, ?_⟩ ⟨?_, ?_, ?_, ?_, ?_⟩ (fun b k h1 h2 h3 => ?_) (fun P M hP hM => ?_) ?_
    · rw [fy b (by omega), ga b (by omega) (by omega) (by omega) (by omega)]
    · rw [fy _ (by omega), ← hG, mup_other (by omega), mup_other (by omega), mup_other (by omega), mup_other (by omega)]
      unfold dput; rw [if_pos (by omega), show 28 + j - 28 = j by omega]
    · rw [fy 2 (by omega), ← hG, mup_ne (by omega), mup_ne (by omega), mup_ne (by omega), mup_ne (by omega), dj 2 (by omega), ← hJ, mup_ne (by omega), mup_ne (by omega), x2, mup_eq rfl rfl]
    · rw [f98 1 (by omega), k5k 1 (by omega), g2 1 (by omega)]; unfold Y0; rw [mup_eq rfl rfl]
    · rw [fy 2 (by omega), ← hG, mup_eq rfl rfl]
    · rw [← hFF, mup_eq rfl rfl]
    · rw [fy 2 (by omega), ← hG, mup_ne (by omega), mup_ne (by omega), mup_ne (by omega), mup_ne (by omega), dj 2 (by omega), ← hJ, mup_ne (by omega), mup_eq rfl rfl, f98 4 (by omega), k5k 4 (by omega)]; exact d2.1
    · rw [fy 2 (by omega), ← hG, mup_ne (by omega), mup_ne (by omega), mup_ne (by omega), mup_ne (by omega), dj 2 (by omega), ← hJ, mup_eq rfl rfl, f98 5 (by omega), k5k 5 (by omega)]; exact d2.2
    · rw [fy 6 (by omega), ga 6 (by omega) (by omega) (by omega) (by omega), xa 6 (by omega) (by omega) (by omega) (by omega) (by omega) (by omega)]
    · rw [fy 7 (by omega), ga 7 (by omega) (by omega) (by omega) (by omega), xa 7 (by omega) (by omega) (by omega) (by omega) (by omega) (by omega)]
    · rw [fy 99 (by omega), gi 99 (by omega)]
    · rw [fy 100 (by omega), gi 100 (by omega)]
    · rw [fy 87 (by omega), ← hG, mup_ne (by omega), mup_ne (by omega), mup_ne (by omega), mup_eq rfl rfl]
    · rw [fy 87 (by omega), ← hG, mup_ne (by omega), mup_ne (by omega), mup_eq rfl rfl]
    · rw [← hFF, mup_ne (by omega), mup_ne (by omega), mup_ne (by omega), mup_eq rfl rfl]
    · rw [← hFF, mup_ne (by omega), mup_ne (by omega), mup_eq rfl rfl]
    · rw [fy 94 (by omega), ← hG, mup_ne (by omega), mup_eq rfl rfl]
    · rw [← hFF, mup_ne (by omega), mup_eq rfl rfl]
    · rw [f98 12 (by omega)]; unfold kc5; simp [mup_app]
    · rw [f98 13 (by omega)]; unfold kc5; simp [mup_app]
    · rw [f98 14 (by omega)]; unfold kc5; simp [mup_app]
    · rw [f98 15 (by omega)]; unfold kc5; simp [mup_app]
    · rw [f98 16 (by omega)]; unfold kc5; simp [mup_app]
    · rw [fz b (by omega), z1.1 b (by omega), cpi b k h1 h2 h3]
    · have := AFR_AFT (P := P) (M := M) hP hM z1 z2 z3 z4 z5
      rw [fz 106 (by omega), fz 112 (by omega), z1.1 106 (by omega), z1.1 112 (by omega)]
      rw [show jat F 0 = jat Z 0 from jat_congr (fun r k _ _ => by rw [fz _ (by omega)])]
      exact this
    · rw [mup_eq rfl rfl, fz 102 (by omega)]
end K22
