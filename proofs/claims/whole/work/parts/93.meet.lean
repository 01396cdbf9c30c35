/-! ===== phase 2: the LINES meet, crowd, seed: both in step ===== -/
section K6
variable {Ls p pp o kc ks : Nat} {K L X Y : Nat → Nat → Int} {Q : List mV → mM → Prop}
set_option maxHeartbeats 4000000 in
theorem k_meet {N a : Nat} (hp : (p = 68 ∧ o = 9) ∨ (p = 9 ∧ o = 68)) (hT : TK X Y N a) (hF : FE X Y) (hM : NMR o X Y) (hR : MLr o X Y) : ∃ v X' Y', RN Ls p L i_LineReader_readsMeet [.inr (.inr 3)] X [.inl v] X' ∧ RN Ls pp K i_M_meetLine [.inr (.inr 98)] Y [.inl v] Y' ∧ FE X' Y' ∧ LFX o (o + 8) (o + 10) 15 X X' ∧ LFY 110 112 19 Y Y' ∧ (v = 0 ∨ (v = 1 ∧ MLr o X' Y' ∧ ∃ a', TK X' Y' N a' ∧ AD X' a a')) := by
  have ho : o = 9 ∨ o = 68 := by omega
  obtain ⟨n, hn⟩ : ∃ n : Nat, X o 15 = (n : Int) := ⟨(X o 15).toNat, by have := hR.2.1; omega⟩
  have hny : Y 98 19 = (n : Int) := by rw [← hR.1, hn]
  have hn6 : n ≤ 6 := by have := hR.2.1; omega
  by_cases h6 : n = 6
  · obtain ⟨X', Y', f1, f2, f3, f4, f5⟩ := k_fail (Ls := Ls) (p := p) (pp := pp) (K := K) (L := L) hT 2
    exact ⟨0, X', Y', fun Q h => E_LineReader_readsMeet hp ⟨fun z => by omega, fun _ => f1 _ (T_LineReader_readsMeet_19 ⟨Or.inl rfl, h⟩)⟩, fun Q h => E_M_meetLine ⟨fun z => by omega, fun _ => f2 _ (T_M_meetLine_14 ⟨Or.inl rfl, h⟩)⟩, f3, LFX.sx ho f4, LFY.sy (by omega) f5, Or.inl rfl⟩
  obtain ⟨X1, Y1, a1, s1, s2, s3, s4, s5, s6, s7, -, -⟩ := k_adv (Ls := Ls) (p := p) (pp := pp) (K := K) (L := L) hT hF
  have cA : ∀ Q, m_Wp i_LineReader_readsMeet 27 0 0 [(0, .inr (.inr 3)), (1, .inl (n : Int))] [] (mem Ls p X1 L) Q → m_Call i_LineReader_readsMeet [.inr (.inr 3)] (mem Ls p X L) Q := fun Q h => by
    refine E_LineReader_readsMeet hp ?_
    rw [hn]
    exact ⟨fun _ => s1 _ h, fun z => by omega⟩
  have mA : ∀ Q, m_Wp i_M_meetLine 19 0 0 [(0, .inr (.inr 98))] [] (mem Ls pp Y1 K) Q → m_Call i_M_meetLine [.inr (.inr 98)] (mem Ls pp Y K) Q := fun Q h => E_M_meetLine ⟨fun _ => s2 _ h, fun z => by omega⟩
  have hN1 : NMR o X1 Y1 := hM.congr (by rw [s6.1 o (by omega) (by omega)]) (fun q _ => by rw [s6.1 (o + 1) (by omega) (by omega)]) (s7.2 17 (by omega) (by omega) (by omega)) (fun q _ => by rw [s7.1 103 (by omega)])
  have fX1 : LFX o (o + 8) (o + 10) 15 X X1 := LFX.sx ho s6
  have fY1 : LFY 110 112 19 Y Y1 := LFY.sy (by omega) s7
  obtain ⟨v2, X2, Y2, t1, t2, t3, t4, t5, t6⟩ := k_person (Ls := Ls) (p := p) (pp := pp) (K := K) (L := L) hp s3 s5 hN1
  have fX2 := fX1.tr (LFX.sx ho t4)
  have fY2 := fY1.tr (LFY.sy (by omega) t5)
  have cB : ∀ Q, m_Wp i_LineReader_readsMeet 31 0 0 [(0, .inr (.inr 3)), (1, .inl (n : Int))] [.inl v2] (mem Ls p X2 L) Q → m_Call i_LineReader_readsMeet [.inr (.inr 3)] (mem Ls p X L) Q := fun Q h => cA Q (T_LineReader_readsMeet_27 (t1 _ h))
  have mB : ∀ Q, m_Wp i_M_meetLine 23 0 0 [(0, .inr (.inr 98))] [.inl v2] (mem Ls pp Y2 K) Q → m_Call i_M_meetLine [.inr (.inr 98)] (mem Ls pp Y K) Q := fun Q h => mA Q (T_M_meetLine_19 (t2 _ h))
  rcases t6 with ⟨rfl, -⟩ | ⟨rfl, t7, a2, t8, t9, t10, t11, t12, t13⟩
  · exact ⟨0, X2, Y2, fun Q h => cB Q (T_LineReader_readsMeet_31 hp ⟨fun z => absurd rfl z, fun _ => ⟨Or.inl rfl, h⟩⟩), fun Q h => mB Q (T_M_meetLine_23 ⟨fun z => absurd rfl z, fun _ => ⟨Or.inl rfl, h⟩⟩), t3, fX2, fY2, Or.inl rfl⟩
  -- the first one stands; the second one
  have hT3 : TK (mup X2 (o + 8) n (X2 3 6)) Y2 N a2 := t8.congr (mup_other (by omega)) (mup_other (by omega)) (mup_other (by omega)) (fun k _ _ => rfl) rfl rfl
  have hF3 : FE (mup X2 (o + 8) n (X2 3 6)) Y2 := by
    unfold FE at *
    rw [mup_ne (by omega), mup_ne (by omega)]; exact t3
  have hN3 : NMR o (mup X2 (o + 8) n (X2 3 6)) Y2 := hN1.congr (by rw [mup_ne (by omega), t4.1 o (by omega) (by omega)]) (fun q _ => by rw [mup_ne (by omega), t4.1 (o + 1) (by omega) (by omega)]) (t5.2 17 (by omega) (by omega) (by omega)) (fun q _ => by rw [t5.1 103 (by omega)])
  have fX3 := fX2.tr (LFX.up (a := o + 8) (k := n) (v := X2 3 6) ho (by omega) (by omega) (by omega))
  have x36 : mup X2 (o + 8) n (X2 3 6) 3 6 = X2 3 6 := mup_ne (by omega)
  have x54 : mup X2 (o + 8) n (X2 3 6) 5 = X2 5 := mup_other (by omega)
  obtain ⟨v5, X5, Y5, i1, i2, i3, i4, i5, i6⟩ := k_person (Ls := Ls) (p := p) (pp := pp) (K := K) (L := L) hp hT3 hF3 hN3
  have mC : ∀ Q, m_Wp i_M_meetLine 42 0 0 [(0, .inr (.inr 98)), (1, .inl (X2 3 6)), (2, .inl (Y2 98 10))] [.inl v5] (mem Ls pp Y5 K) Q → m_Call i_M_meetLine [.inr (.inr 98)] (mem Ls pp Y K) Q := fun Q h => by
    refine mB Q (T_M_meetLine_23 ⟨fun _ => ?_, fun z => absurd (by omega) z⟩)
    rw [← t10]
    exact i2 _ h
  obtain ⟨r, hr⟩ : ∃ r, pOf (mup X2 (o + 8) n (X2 3 6) (o + 1)) (X2 5 7) 0 (mup X2 (o + 8) n (X2 3 6) o 13).toNat = r := ⟨_, rfl⟩
  have rn := k_nof (Ls := Ls) (L := L) (y := X2 5 7) hp hN3
  rw [hr] at rn
  rw [x54, hr] at i6
  -- the class, if it goes on to the second person
  have cC : ¬ (X2 5 4 = 3 ∧ r = X2 3 6) → ∀ Q, m_Wp i_LineReader_readsMeet 91 0 0 [(0, .inr (.inr 3)), (1, .inl (n : Int))] [.inl v5] (mem Ls p X5 L) Q → m_Call i_LineReader_readsMeet [.inr (.inr 3)] (mem Ls p X L) Q := fun hne Q h => by
    refine cB Q (T_LineReader_readsMeet_31 hp ⟨fun _ => ⟨by omega, fun _ => i1 _ h, fun z => ?_⟩, fun z => absurd (by omega) z⟩)
    refine rn _ (T_LineReader_readsMeet_74 ?_)
    rw [x36]
    exact ⟨fun _ => i1 _ h, fun z' => absurd ⟨Classical.not_not.mp z, Classical.not_not.mp z'⟩ hne⟩
  have fX5 := fX3.tr (LFX.sx ho i4)
  have fY5 := fY2.tr (LFY.sy (by omega) i5)
  by_cases hsame : X2 5 4 = 3 ∧ r = X2 3 6
  · -- with oneself
    rcases i6 with ⟨-, z⟩ | ⟨rfl, -, a5, i7, i8, i9, i10, i11, i12⟩
    · exfalso
      rcases z with z | z
      · exact z hsame.1
      · omega
    obtain ⟨f1, f3, f4⟩ : RN Ls p L i_LineReader_fails [.inr (.inr 3), .inl 5] (mup X2 (o + 8) n (X2 3 6)) [.inl 0] (mup (mup (mup X2 (o + 8) n (X2 3 6)) 3 4 5) 3 5 (X2 5 5)) ∧ SX (mup X2 (o + 8) n (X2 3 6)) (mup (mup (mup X2 (o + 8) n (X2 3 6)) 3 4 5) 3 5 (X2 5 5)) ∧ True := by
      refine ⟨fun Q h => E_LineReader_fails ⟨Or.inl rfl, ?_⟩, ⟨fun b h1 _ => by rw [mup_other h1, mup_other h1], fun k h1 h2 _ => by rw [mup_ne (by omega), mup_ne (by omega)]⟩, True.intro⟩
      rw [x54]; exact h
    have y42 : ∀ Q, Q [.inl 0] (mem Ls pp (mup (mup (mup Y5 98 10 (Y2 98 10)) 98 4 5) 98 5 (Y2 98 10)) K) → m_Wp i_M_meetLine 42 0 0 [(0, .inr (.inr 98)), (1, .inl (X2 3 6)), (2, .inl (Y2 98 10))] [.inl 1] (mem Ls pp Y5 K) Q := fun Q h => by
      refine T_M_meetLine_42 ⟨fun _ => ⟨fun z => absurd (show X2 3 6 = Y5 98 11 by rw [← i9, i10, hsame.2]) z, fun _ => E_M_wrong ⟨Or.inl rfl, T_M_meetLine_65 ⟨Or.inl rfl, ?_⟩⟩⟩, fun z => absurd (by omega) z⟩
      rw [mup_eq rfl rfl]; exact h
    refine ⟨0, _, _, fun Q h => cB Q (T_LineReader_readsMeet_31 hp ⟨fun _ => ⟨by omega, fun z => absurd hsame.1 z, fun z => rn _ (T_LineReader_readsMeet_74 ⟨fun z => absurd (by rw [x36]; exact hsame.2) z, fun _ => f1 _ (T_LineReader_readsMeet_86 ⟨Or.inl rfl, h⟩)⟩)⟩, fun z => absurd (by omega) z⟩), fun Q h => mC Q (y42 Q h), ?_, fX3.tr (LFX.sx ho f3), fY5.tr (LFY.sy (by omega) ⟨fun b h1 => by rw [mup_other h1, mup_other h1, mup_other h1], fun k h1 h2 h3 => by rw [mup_ne (by omega), mup_ne (by omega), mup_ne (by omega)]⟩), Or.inl rfl⟩
    unfold FE
    rw [mup_ne (by omega), mup_eq rfl rfl, mup_ne (by omega), mup_eq rfl rfl, mup_eq rfl rfl, mup_eq rfl rfl]
    exact ⟨rfl, t8.2.2.2.2.2⟩
  rcases i6 with ⟨rfl, -⟩ | ⟨rfl, i6', a5, i7, i8, i9, i10, i11, i12⟩
  · exact ⟨0, X5, Y5, fun Q h => cC hsame Q (T_LineReader_readsMeet_91 hp ⟨fun z => absurd rfl z, fun _ => ⟨Or.inl rfl, h⟩⟩), fun Q h => mC Q (T_M_meetLine_42 ⟨fun z => absurd rfl z, fun _ => ⟨Or.inl rfl, h⟩⟩), i3, fX5, fY5, Or.inl rfl⟩
  have hdif : ¬ X2 3 6 = Y5 98 11 := fun z => hsame ⟨i6', by rw [← i10, i9, z]⟩
  have y19 : Y5 98 19 = (n : Int) := by rw [i5.2 19 (by omega) (by omega) (by omega), t5.2 19 (by omega) (by omega) (by omega), s7.2 19 (by omega) (by omega) (by omega), hny]
  have w19 : wr (6 + (n : Int)) = ((6 + n : Nat) : Int) := by rw [wr_of (by omega) (by omega)]; omega
  have hT6 : TK (mup X5 (o + 9) n (X5 3 6)) (mup (mup Y5 110 (6 + n) (X2 3 6)) 111 (6 + n) (Y5 98 11)) N a5 := i7.congr (mup_other (by omega)) (mup_other (by omega)) (mup_other (by omega)) (fun k _ _ => by rw [mup_ne (by omega), mup_ne (by omega)]) (by rw [mup_other (by omega), mup_other (by omega)]) (by rw [mup_other (by omega), mup_other (by omega)])
  have hF6 : FE (mup X5 (o + 9) n (X5 3 6)) (mup (mup Y5 110 (6 + n) (X2 3 6)) 111 (6 + n) (Y5 98 11)) := by
    unfold FE at *
    rw [mup_ne (by omega), mup_ne (by omega), mup_ne (by omega), mup_ne (by omega), mup_ne (by omega), mup_ne (by omega)]; exact i3
  obtain ⟨v7, X7, Y7, j1, j2, j3, j4, j5, j6⟩ := k_num (Ls := Ls) (p := p) (pp := pp) (K := K) (L := L) (lo := 0) (hi := 300) hT6 hF6 (by omega)
  have fX7 := (fX5.tr (LFX.up (a := o + 9) (k := n) (v := X5 3 6) ho (by omega) (by omega) (by omega))).tr (LFX.sx ho j4)
  have fY7 := ((fY5.tr (LFY.up (a := 110) (k := 6 + n) (v := X2 3 6) (by omega) (by omega) (by omega) (Nat.le_trans (m := 6) (by decide) (by omega)))).tr (LFY.up (a := 111) (k := 6 + n) (v := Y5 98 11) (by omega) (by omega) (by omega) (Nat.le_trans (m := 6) (by decide) (by omega)))).tr (LFY.sy (by omega) j5)
  have cD : ∀ Q, m_Wp i_LineReader_readsMeet 117 0 0 [(0, .inr (.inr 3)), (1, .inl (n : Int))] [.inl v7] (mem Ls p X7 L) Q → m_Call i_LineReader_readsMeet [.inr (.inr 3)] (mem Ls p X L) Q := fun Q h => cC hsame Q (T_LineReader_readsMeet_91 hp ⟨fun _ => ⟨by omega, j1 _ h⟩, fun z => absurd (by omega) z⟩)
  have mD : ∀ Q, m_Wp i_M_meetLine 103 0 0 [(0, .inr (.inr 98)), (1, .inl (X2 3 6)), (2, .inl (Y2 98 10))] [.inl v7] (mem Ls pp Y7 K) Q → m_Call i_M_meetLine [.inr (.inr 98)] (mem Ls pp Y K) Q := fun Q h => by
    refine mC Q (T_M_meetLine_42 ?_)
    rw [y19, w19, Int.toNat_natCast]
    exact ⟨fun _ => ⟨fun _ => ⟨by omega, by omega, j2 _ h⟩, fun z => absurd hdif z⟩, fun z => absurd (by omega) z⟩
  rcases j6 with rfl | ⟨rfl, a7, j7, j8, j9, j10, j11⟩
  · exact ⟨0, X7, Y7, fun Q h => cD Q (T_LineReader_readsMeet_117 hp ⟨fun z => absurd rfl z, fun _ => ⟨Or.inl rfl, h⟩⟩), fun Q h => mD Q (T_M_meetLine_103 ⟨fun z => absurd rfl z, fun _ => ⟨Or.inl rfl, h⟩⟩), j3, fX7, fY7, Or.inl rfl⟩
  have x15 : X7 o 15 = (n : Int) := by rw [j4.1 o (by omega) (by omega), mup_ne (by omega), i4.1 o (by omega) (by omega), mup_ne (by omega), t4.1 o (by omega) (by omega), s6.1 o (by omega) (by omega), hn]
  have y19' : Y7 98 19 = (n : Int) := by rw [j5.2 19 (by omega) (by omega) (by omega), mup_ne (by omega), mup_ne (by omega), y19]
  have wn : wr ((n : Int) + 1) = ((n + 1 : Nat) : Int) := by rw [wr_of (by omega) (by omega)]; omega
  refine ⟨1, mup (mup X7 (o + 10) n (X7 3 6)) o 15 ((n + 1 : Nat) : Int), mup (mup Y7 112 (6 + n) (Y7 98 11)) 98 19 ((n + 1 : Nat) : Int), fun Q h => ?_, fun Q h => ?_, ?_, (fX7.tr (LFX.up ho (by omega) (by omega) (by omega))).tr (LFX.cnt ho (by omega)), (fY7.tr (LFY.up (by omega) (by omega) (by omega) (Nat.le_trans (m := 6) (by decide) (by omega)))).tr (LFY.cnt (by omega)), Or.inr ⟨rfl, ?_, a7, ?_, ?_⟩⟩
  · refine cD Q (T_LineReader_readsMeet_117 hp ?_)
    rw [x15, wn]
    exact ⟨fun _ => ⟨by omega, Or.inr rfl, h⟩, fun z => absurd (by omega) z⟩
  · refine mD Q (T_M_meetLine_103 ?_)
    rw [y19', w19, wn]
    exact ⟨fun _ => ⟨by omega, Or.inr rfl, h⟩, fun z => absurd (by omega) z⟩
  · unfold FE at *
    rw [mup_ne (by omega), mup_ne (by omega), mup_ne (by omega), mup_ne (by omega), mup_ne (by omega), mup_ne (by omega), mup_ne (by omega), mup_ne (by omega)]; exact j3
  · refine ⟨by rw [mup_eq rfl rfl, mup_eq rfl rfl], by rw [mup_eq rfl rfl]; omega, fun q hq => ?_⟩
    rw [mup_eq rfl rfl] at hq
    have x13 : mup (mup X7 (o + 10) n (X7 3 6)) o 15 ((n + 1 : Nat) : Int) o 13 = X o 13 := by
      rw [mup_ne (by omega), mup_ne (by omega), j4.1 o (by omega) (by omega), mup_ne (by omega), i4.1 o (by omega) (by omega), mup_ne (by omega), t4.1 o (by omega) (by omega), s6.1 o (by omega) (by omega)]
    have x1 : X1 o 13 = X o 13 := by rw [s6.1 o (by omega) (by omega)]
    have x3 : mup X2 (o + 8) n (X2 3 6) o 13 = X o 13 := by rw [mup_ne (by omega), t4.1 o (by omega) (by omega), x1]
    rw [x13]
    by_cases hqn : q = n
    · subst hqn
      have c1 : mup (mup X7 (o + 10) q (X7 3 6)) o 15 ((q + 1 : Nat) : Int) (o + 8) q = X2 3 6 := by
        rw [mup_ne (by omega), mup_ne (by omega), j4.1 _ (by omega) (by omega), mup_ne (by omega), i4.1 _ (by omega) (by omega), mup_eq rfl rfl]
      have c2 : mup (mup X7 (o + 10) q (X7 3 6)) o 15 ((q + 1 : Nat) : Int) (o + 9) q = X5 3 6 := by
        rw [mup_ne (by omega), mup_ne (by omega), j4.1 _ (by omega) (by omega), mup_eq rfl rfl]
      have c3 : mup (mup X7 (o + 10) q (X7 3 6)) o 15 ((q + 1 : Nat) : Int) (o + 10) q = X7 3 6 := by
        rw [mup_ne (by omega), mup_eq rfl rfl]
      have d1 : mup (mup Y7 112 (6 + q) (Y7 98 11)) 98 19 ((q + 1 : Nat) : Int) 110 (6 + q) = X2 3 6 := by
        rw [mup_other (by omega), mup_other (by omega), j5.1 _ (by omega), mup_other (by omega), mup_eq rfl rfl]
      have d2 : mup (mup Y7 112 (6 + q) (Y7 98 11)) 98 19 ((q + 1 : Nat) : Int) 111 (6 + q) = Y5 98 11 := by
        rw [mup_other (by omega), mup_other (by omega), j5.1 _ (by omega), mup_eq rfl rfl]
      have d3 : mup (mup Y7 112 (6 + q) (Y7 98 11)) 98 19 ((q + 1 : Nat) : Int) 112 (6 + q) = Y7 98 11 := by
        rw [mup_other (by omega), mup_eq rfl rfl]
      rw [c1, c2, c3, d1, d2, d3]
      exact ⟨⟨rfl, i9, j9⟩, by omega⟩
    · have := hR.2.2 q (by omega)
      have xo : ∀ b, o + 8 ≤ b → b ≤ o + 10 → mup (mup X7 (o + 10) n (X7 3 6)) o 15 ((n + 1 : Nat) : Int) b q = X b q := fun b h1 h2 => by
        rw [mup_ne (by omega), mup_ne (by omega), j4.1 _ (by omega) (by omega), mup_ne (by omega), i4.1 _ (by omega) (by omega), mup_ne (by omega), t4.1 _ (by omega) (by omega), s6.1 _ (by omega) (by omega)]
      have yo : ∀ b, 110 ≤ b → b ≤ 112 → mup (mup Y7 112 (6 + n) (Y7 98 11)) 98 19 ((n + 1 : Nat) : Int) b (6 + q) = Y b (6 + q) := fun b h1 h2 => by
        rw [mup_other (by omega), mup_ne (by omega), j5.1 _ (by omega), mup_ne (by omega), mup_ne (by omega), i5.1 _ (by omega), t5.1 _ (by omega), s7.1 _ (by omega)]
      rw [xo _ (by omega) (by omega), xo _ (by omega) (by omega), xo _ (by omega) (by omega), yo _ (by omega) (by omega), yo _ (by omega) (by omega), yo _ (by omega) (by omega)]
      exact this
  · exact j7.congr (by rw [mup_other (by omega), mup_other (by omega)]) (by rw [mup_other (by omega), mup_other (by omega)]) (by rw [mup_other (by omega), mup_other (by omega)]) (fun k _ _ => by rw [mup_ne (by omega), mup_ne (by omega)]) (by rw [mup_other (by omega), mup_other (by omega)]) (by rw [mup_other (by omega), mup_other (by omega)])
  · have r1 := ((s4.tr t9).tr i8).tr j8
    refine ⟨r1.1, fun z => r1.2 ?_⟩
    rw [mup_other (by omega), mup_other (by omega)] at z; exact z
/-- crowd and seed: k 0, 1 -/
def OFX (o k : Nat) (X X' : Nat → Nat → Int) : Prop := (∀ a, a ≠ 3 → a ≠ 5 → a ≠ o → X' a = X a) ∧ (∀ j, j ≠ 17 + k → X' o j = X o j) ∧ (∀ j, j ≠ 4 → j ≠ 5 → j ≠ 6 → j ≠ 7 + k → X' 3 j = X 3 j)
def OFY (k : Nat) (Y Y' : Nat → Nat → Int) : Prop := (∀ a, a ≠ 98 → a ≠ 101 → a ≠ 102 → Y' a = Y a) ∧ (∀ j, j ≠ 4 → j ≠ 5 → (j < 7 ∨ 11 < j) → Y' 98 j = Y 98 j) ∧ (∀ j, j ≠ k → Y' 101 j = Y 101 j) ∧ (∀ j, j ≠ 2 + k → Y' 102 j = Y 102 j)
theorem k_once {N a k : Nat} {c : Nat} {most : Int} (ho : o = 9 ∨ o = 68) (hk : k < 2) (hm : 0 ≤ most ∧ most ≤ 99999) (hT : TK X Y N a) (hF : FE X Y) (hO : X 3 (7 + k) = Y 101 k ∧ (X 3 (7 + k) = 0 ∨ X 3 (7 + k) = 1))
    (hE0 : ∀ (Q : List mV → mM → Prop) (X1 : Nat → Nat → Int), X 3 (7 + k) = 0 → RN Ls p L i_Tokens_advance [.inr (.inr 5)] (mup X 3 (7 + k) 1) [] X1 → ∀ v X2, RN Ls p L i_LineReader_readsNumber [.inr (.inr 3), .inl 0, .inl most] X1 [.inl v] X2 → (v = 0 → Q [.inl 0] (mem Ls p X2 L)) → (v = 1 → Q [.inl 1] (mem Ls p (mup X2 o (17 + k) (X2 3 6)) L)) → (v = 0 ∨ v = 1) → m_Call c [.inr (.inr 3)] (mem Ls p X L) Q)
    (hE1 : ∀ (Q : List mV → mM → Prop) (X1 : Nat → Nat → Int), ¬ X 3 (7 + k) = 0 → RN Ls p L i_LineReader_fails [.inr (.inr 3), .inl 3] X [.inl 0] X1 → Q [.inl 0] (mem Ls p X1 L) → m_Call c [.inr (.inr 3)] (mem Ls p X L) Q) :
    ∃ v X' Y', RN Ls p L c [.inr (.inr 3)] X [.inl v] X' ∧ RN Ls pp K i_M_onceLine [.inr (.inr 98), .inl (k : Int), .inl most] Y [.inl v] Y' ∧ FE X' Y' ∧ OFX o k X X' ∧ OFY k Y Y' ∧ (v = 0 ∨ (v = 1 ∧ X' o (17 + k) = Y' 102 (2 + k) ∧ 0 ≤ X' o (17 + k) ∧ X' o (17 + k) ≤ most ∧ X' 3 (7 + k) = 1 ∧ Y' 101 k = 1 ∧ ∃ a', TK X' Y' N a' ∧ AD X' a a')) := by
  by_cases h0 : X 3 (7 + k) = 0
  · have hT1 : TK (mup X 3 (7 + k) 1) (mup Y 101 k 1) N a := hT.congr (mup_other (by omega)) (mup_other (by omega)) (mup_other (by omega)) (fun j _ _ => mup_ne (by omega)) (mup_other (by omega)) (mup_other (by omega))
    have hF1 : FE (mup X 3 (7 + k) 1) (mup Y 101 k 1) := by
      unfold FE at *
      rw [mup_ne (by omega), mup_ne (by omega), mup_ne (by omega), mup_ne (by omega)]; exact hF
    obtain ⟨X1, Y1, a1, s1, s2, s3, s4, s5, s6, s7, s8, -⟩ := k_adv (Ls := Ls) (p := p) (pp := pp) (K := K) (L := L) hT1 hF1
    obtain ⟨v, X2, Y2, t1, t2, t3, t4, t5, t6⟩ := k_num (Ls := Ls) (p := p) (pp := pp) (K := K) (L := L) (lo := 0) (hi := most) s3 s5 (by omega)
    have mB : ∀ Q, m_Wp i_M_onceLine 32 0 0 [(0, .inr (.inr 98)), (1, .inl (k : Int)), (2, .inl most)] [.inl v] (mem Ls pp Y2 K) Q → m_Call i_M_onceLine [.inr (.inr 98), .inl (k : Int), .inl most] (mem Ls pp Y K) Q := fun Q h => by
      refine E_M_onceLine ?_
      rw [Int.toNat_natCast]
      exact ⟨by omega, fun _ => ⟨⟨by omega, Or.inr rfl⟩, s2 _ (T_M_onceLine_26 (t2 _ h))⟩, fun z => absurd (by rw [← hO.1]; exact h0) z⟩
    have w2 : wr (2 + (k : Int)) = ((2 + k : Nat) : Int) := by rw [wr_of (by omega) (by omega)]; omega
    have fX2 : OFX o k X X2 := ⟨fun b h1 h2 _ => by rw [t4.1 b h1 h2, s6.1 b h1 h2, mup_other h1], fun j _ => by rw [t4.1 o (by omega) (by omega), s6.1 o (by omega) (by omega), mup_other (by omega)], fun j h1 h2 h3 h4 => by rw [t4.2 j h1 h2 h3, s6.2 j h1 h2 h3, mup_ne (by omega)]⟩
    have fY2 : OFY k Y Y2 := ⟨fun b h1 h2 _ => by rw [t5.1 b h1, s7.1 b h1, mup_other h2], fun j h1 h2 h3 => by rw [t5.2 j h1 h2 h3, s7.2 j h1 h2 h3, mup_ne (by omega)], fun j h1 => by rw [t5.1 101 (by omega), s7.1 101 (by omega), mup_ne (by omega)], fun j _ => by rw [t5.1 102 (by omega), s7.1 102 (by omega), mup_ne (by omega)]⟩
    rcases t6 with rfl | ⟨rfl, a2, t8, t9, t10, t11, t12⟩
    · exact ⟨0, X2, Y2, fun Q h => hE0 Q X1 h0 s1 0 X2 t1 (fun _ => h) (fun z => by omega) (Or.inl rfl), fun Q h => mB Q (T_M_onceLine_32 ⟨fun z => absurd rfl z, fun _ => ⟨Or.inl rfl, h⟩⟩), t3, fX2, fY2, Or.inl rfl⟩
    · refine ⟨1, mup X2 o (17 + k) (X2 3 6), mup Y2 102 (2 + k) (Y2 98 11), fun Q h => hE0 Q X1 h0 s1 1 X2 t1 (fun z => by omega) (fun _ => h) (Or.inr rfl), fun Q h => mB Q (T_M_onceLine_32 ⟨fun _ => ⟨by omega, Or.inr rfl, ?_⟩, fun z => absurd (by omega) z⟩), ?_, ?_, ?_, Or.inr ⟨rfl, ?_, ?_, ?_, ?_, ?_, a2, ?_, ?_⟩⟩
      · rw [w2, Int.toNat_natCast]; exact h
      · unfold FE at *
        rw [mup_ne (by omega), mup_ne (by omega), mup_ne (by omega), mup_ne (by omega)]; exact t3
      · exact ⟨fun b h1 h2 h3 => by rw [mup_other h3]; exact fX2.1 b h1 h2 h3, fun j h1 => by rw [mup_ne (by omega)]; exact fX2.2.1 j h1, fun j h1 h2 h3 h4 => by rw [mup_ne (by omega)]; exact fX2.2.2 j h1 h2 h3 h4⟩
      · exact ⟨fun b h1 h2 h3 => by rw [mup_other h3]; exact fY2.1 b h1 h2 h3, fun j h1 h2 h3 => by rw [mup_ne (by omega)]; exact fY2.2.1 j h1 h2 h3, fun j h1 => by rw [mup_ne (by omega)]; exact fY2.2.2.1 j h1, fun j h1 => by rw [mup_ne (by omega)]; exact fY2.2.2.2 j h1⟩
      · rw [mup_eq rfl rfl, mup_eq rfl rfl]; exact t10
      · rw [mup_eq rfl rfl]; exact t11
      · rw [mup_eq rfl rfl]; exact t12
      · rw [mup_ne (by omega), t4.2 _ (by omega) (by omega) (by omega), s6.2 _ (by omega) (by omega) (by omega), mup_eq rfl rfl]
      · rw [mup_ne (by omega), t5.1 101 (by omega), s7.1 101 (by omega), mup_eq rfl rfl]
      · exact t8.congr (mup_other (by omega)) (mup_other (by omega)) (mup_other (by omega)) (fun j _ _ => mup_ne (by omega)) (mup_other (by omega)) (mup_other (by omega))
      · have r1 := s4.tr t9
        refine ⟨r1.1, fun z => r1.2 ?_⟩
        rw [mup_other (by omega)] at z; exact z
  · obtain ⟨X', Y', f1, f2, f3, f4, f5⟩ := k_fail (Ls := Ls) (p := p) (pp := pp) (K := K) (L := L) hT 3
    refine ⟨0, X', Y', fun Q h => hE1 Q X' h0 f1 h, fun Q h => E_M_onceLine ⟨by omega, fun z => absurd (by rw [hO.1]; rw [Int.toNat_natCast] at z; exact z) h0, fun _ => f2 _ (T_M_onceLine_14 ⟨Or.inl rfl, h⟩)⟩, f3, ⟨fun b h1 h2 _ => f4.1 b h1 h2, fun j _ => by rw [f4.1 o (by omega) (by omega)], fun j h1 h2 h3 _ => f4.2 j h1 h2 h3⟩, ⟨fun b h1 _ _ => f5.1 b h1, f5.2, fun j _ => by rw [f5.1 101 (by omega)], fun j _ => by rw [f5.1 102 (by omega)]⟩, Or.inl rfl⟩
theorem k_crowd {N a : Nat} (hp : (p = 68 ∧ o = 9) ∨ (p = 9 ∧ o = 68)) (hT : TK X Y N a) (hF : FE X Y) (hO : X 3 7 = Y 101 0 ∧ (X 3 7 = 0 ∨ X 3 7 = 1)) :
    ∃ v X' Y', RN Ls p L i_LineReader_readsCrowd [.inr (.inr 3)] X [.inl v] X' ∧ RN Ls pp K i_M_onceLine [.inr (.inr 98), .inl 0, .inl 100] Y [.inl v] Y' ∧ FE X' Y' ∧ OFX o 0 X X' ∧ OFY 0 Y Y' ∧ (v = 0 ∨ (v = 1 ∧ X' o 17 = Y' 102 2 ∧ 0 ≤ X' o 17 ∧ X' o 17 ≤ 100 ∧ X' 3 7 = 1 ∧ Y' 101 0 = 1 ∧ ∃ a', TK X' Y' N a' ∧ AD X' a a')) :=
  k_once (k := 0) (by omega) (by omega) (by omega) hT hF hO
    (fun Q X1 h0 s1 v X2 t1 q0 q1 hv => E_LineReader_readsCrowd ⟨fun _ => ⟨Or.inr rfl, s1 _ (T_LineReader_readsCrowd_25 (t1 _ (T_LineReader_readsCrowd_32 hp ⟨fun z => ⟨Or.inr rfl, q1 (by omega)⟩, fun z => ⟨Or.inl rfl, q0 (by omega)⟩⟩)))⟩, fun z => absurd h0 z⟩)
    (fun Q X1 h0 f1 h => E_LineReader_readsCrowd ⟨fun z => absurd z h0, fun _ => f1 _ (T_LineReader_readsCrowd_12 ⟨Or.inl rfl, h⟩)⟩)
theorem k_seed {N a : Nat} (hp : (p = 68 ∧ o = 9) ∨ (p = 9 ∧ o = 68)) (hT : TK X Y N a) (hF : FE X Y) (hO : X 3 8 = Y 101 1 ∧ (X 3 8 = 0 ∨ X 3 8 = 1)) :
    ∃ v X' Y', RN Ls p L i_LineReader_readsSeed [.inr (.inr 3)] X [.inl v] X' ∧ RN Ls pp K i_M_onceLine [.inr (.inr 98), .inl 1, .inl 99999] Y [.inl v] Y' ∧ FE X' Y' ∧ OFX o 1 X X' ∧ OFY 1 Y Y' ∧ (v = 0 ∨ (v = 1 ∧ X' o 18 = Y' 102 3 ∧ 0 ≤ X' o 18 ∧ X' o 18 ≤ 99999 ∧ X' 3 8 = 1 ∧ Y' 101 1 = 1 ∧ ∃ a', TK X' Y' N a' ∧ AD X' a a')) :=
  k_once (k := 1) (by omega) (by omega) (by omega) hT hF hO
    (fun Q X1 h0 s1 v X2 t1 q0 q1 hv => E_LineReader_readsSeed ⟨fun _ => ⟨Or.inr rfl, s1 _ (T_LineReader_readsSeed_25 (t1 _ (T_LineReader_readsSeed_32 hp ⟨fun z => ⟨Or.inr rfl, q1 (by omega)⟩, fun z => ⟨Or.inl rfl, q0 (by omega)⟩⟩)))⟩, fun z => absurd h0 z⟩)
    (fun Q X1 h0 f1 h => E_LineReader_readsSeed ⟨fun z => absurd z h0, fun _ => f1 _ (T_LineReader_readsSeed_12 ⟨Or.inl rfl, h⟩)⟩)
end K6
