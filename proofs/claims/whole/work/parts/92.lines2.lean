/-! ===== phase 2: the LINES ring, meet, cold, crowd, seed: both in step ===== -/
section K5
variable {Ls p pp o kc ks : Nat} {K L X Y : Nat → Nat → Int} {Q : List mV → mM → Prop}
set_option maxHeartbeats 4000000 in
theorem k_ring {N a : Nat} (hp : (p = 68 ∧ o = 9) ∨ (p = 9 ∧ o = 68)) (hT : TK X Y N a) (hF : FE X Y) (hM : NMR o X Y) (hR : RLr o X Y) : ∃ v X' Y', RN Ls p L i_LineReader_readsRing [.inr (.inr 3)] X [.inl v] X' ∧ RN Ls pp K i_M_ringLine [.inr (.inr 98)] Y [.inl v] Y' ∧ FE X' Y' ∧ LFX o (o + 6) (o + 7) 14 X X' ∧ LFY 108 109 18 Y Y' ∧ (v = 0 ∨ (v = 1 ∧ RLr o X' Y' ∧ ∃ a', TK X' Y' N a' ∧ AD X' a a')) := by
  have ho : o = 9 ∨ o = 68 := by omega
  obtain ⟨n, hn⟩ : ∃ n : Nat, X o 14 = (n : Int) := ⟨(X o 14).toNat, by have := hR.2.1; omega⟩
  have hny : Y 98 18 = (n : Int) := by rw [← hR.1, hn]
  have hn6 : n ≤ 10 := by have := hR.2.1; omega
  by_cases h6 : n = 10
  · obtain ⟨X', Y', f1, f2, f3, f4, f5⟩ := k_fail (Ls := Ls) (p := p) (pp := pp) (K := K) (L := L) hT 2
    exact ⟨0, X', Y', fun Q h => E_LineReader_readsRing hp ⟨fun z => by omega, fun _ => f1 _ (T_LineReader_readsRing_19 ⟨Or.inl rfl, h⟩)⟩, fun Q h => E_M_ringLine ⟨fun z => by omega, fun _ => f2 _ (T_M_ringLine_14 ⟨Or.inl rfl, h⟩)⟩, f3, LFX.sx ho f4, LFY.sy (by omega) f5, Or.inl rfl⟩
  obtain ⟨X1, Y1, a1, s1, s2, s3, s4, s5, s6, s7, -, -⟩ := k_adv (Ls := Ls) (p := p) (pp := pp) (K := K) (L := L) hT hF
  have cA : ∀ Q, m_Wp i_LineReader_readsRing 27 0 0 [(0, .inr (.inr 3)), (1, .inl (n : Int))] [] (mem Ls p X1 L) Q → m_Call i_LineReader_readsRing [.inr (.inr 3)] (mem Ls p X L) Q := fun Q h => by
    refine E_LineReader_readsRing hp ?_
    rw [hn]
    exact ⟨fun _ => s1 _ h, fun z => by omega⟩
  have mA : ∀ Q, m_Wp i_M_ringLine 19 0 0 [(0, .inr (.inr 98))] [] (mem Ls pp Y1 K) Q → m_Call i_M_ringLine [.inr (.inr 98)] (mem Ls pp Y K) Q := fun Q h => E_M_ringLine ⟨fun _ => s2 _ h, fun z => by omega⟩
  have hN1 : NMR o X1 Y1 := hM.congr (by rw [s6.1 o (by omega) (by omega)]) (fun q _ => by rw [s6.1 (o + 1) (by omega) (by omega)]) (s7.2 17 (by omega) (by omega) (by omega)) (fun q _ => by rw [s7.1 103 (by omega)])
  have fX1 : LFX o (o + 6) (o + 7) 14 X X1 := LFX.sx ho s6
  have fY1 : LFY 108 109 18 Y Y1 := LFY.sy (by omega) s7
  obtain ⟨v2, X2, Y2, t1, t2, t3, t4, t5, t6⟩ := k_person (Ls := Ls) (p := p) (pp := pp) (K := K) (L := L) hp s3 s5 hN1
  have fX2 := fX1.tr (LFX.sx ho t4)
  have fY2 := fY1.tr (LFY.sy (by omega) t5)
  have cB : ∀ Q, m_Wp i_LineReader_readsRing 31 0 0 [(0, .inr (.inr 3)), (1, .inl (n : Int))] [.inl v2] (mem Ls p X2 L) Q → m_Call i_LineReader_readsRing [.inr (.inr 3)] (mem Ls p X L) Q := fun Q h => cA Q (T_LineReader_readsRing_27 (t1 _ h))
  have mB : ∀ Q, m_Wp i_M_ringLine 23 0 0 [(0, .inr (.inr 98))] [.inl v2] (mem Ls pp Y2 K) Q → m_Call i_M_ringLine [.inr (.inr 98)] (mem Ls pp Y K) Q := fun Q h => mA Q (T_M_ringLine_19 (t2 _ h))
  rcases t6 with ⟨rfl, -⟩ | ⟨rfl, t7, a2, t8, t9, t10, t11, t12, t13⟩
  · exact ⟨0, X2, Y2, fun Q h => cB Q (T_LineReader_readsRing_31 hp ⟨fun z => absurd rfl z, fun _ => ⟨Or.inl rfl, h⟩⟩), fun Q h => mB Q (T_M_ringLine_23 ⟨fun z => absurd rfl z, fun _ => ⟨Or.inl rfl, h⟩⟩), t3, fX2, fY2, Or.inl rfl⟩
  have y18 : Y2 98 18 = (n : Int) := by rw [t5.2 18 (by omega) (by omega) (by omega), s7.2 18 (by omega) (by omega) (by omega), hny]
  have w18 : wr (10 + (n : Int)) = ((10 + n : Nat) : Int) := by rw [wr_of (by omega) (by omega)]; omega
  have hT3 : TK (mup X2 (o + 6) n (X2 3 6)) (mup Y2 108 (10 + n) (Y2 98 11)) N a2 := t8.congr (mup_other (by omega)) (mup_other (by omega)) (mup_other (by omega)) (fun k _ _ => mup_ne (by omega)) (mup_other (by omega)) (mup_other (by omega))
  have hF3 : FE (mup X2 (o + 6) n (X2 3 6)) (mup Y2 108 (10 + n) (Y2 98 11)) := by
    unfold FE at *
    rw [mup_ne (by omega), mup_ne (by omega), mup_ne (by omega), mup_ne (by omega)]; exact t3
  obtain ⟨v4, X4, Y4, i1, i2, i3, i4, i5, i6⟩ := k_num (Ls := Ls) (p := p) (pp := pp) (K := K) (L := L) (lo := 0) (hi := 200) hT3 hF3 (by omega)
  have fX4 := (fX2.tr (LFX.up (a := o + 6) (k := n) (v := X2 3 6) ho (by omega) (by omega) (by omega))).tr (LFX.sx ho i4)
  have fY4 := (fY2.tr (LFY.up (a := 108) (k := 10 + n) (v := Y2 98 11) (by omega) (by omega) (by omega) (Nat.le_trans (m := 10) (by decide) (by omega)))).tr (LFY.sy (by omega) i5)
  have cC : ∀ Q, m_Wp i_LineReader_readsRing 57 0 0 [(0, .inr (.inr 3)), (1, .inl (n : Int))] [.inl v4] (mem Ls p X4 L) Q → m_Call i_LineReader_readsRing [.inr (.inr 3)] (mem Ls p X L) Q := fun Q h => cB Q (T_LineReader_readsRing_31 hp ⟨fun _ => ⟨by omega, i1 _ h⟩, fun z => absurd (by omega) z⟩)
  have mC : ∀ Q, m_Wp i_M_ringLine 52 0 0 [(0, .inr (.inr 98))] [.inl v4] (mem Ls pp Y4 K) Q → m_Call i_M_ringLine [.inr (.inr 98)] (mem Ls pp Y K) Q := fun Q h => by
    refine mB Q (T_M_ringLine_23 ?_)
    rw [y18, w18, Int.toNat_natCast]
    exact ⟨fun _ => ⟨by omega, i2 _ h⟩, fun z => absurd (by omega) z⟩
  rcases i6 with rfl | ⟨rfl, a4, i7, i8, i9, i10, i11⟩
  · exact ⟨0, X4, Y4, fun Q h => cC Q (T_LineReader_readsRing_57 hp ⟨fun z => absurd rfl z, fun _ => ⟨Or.inl rfl, h⟩⟩), fun Q h => mC Q (T_M_ringLine_52 ⟨fun z => absurd rfl z, fun _ => ⟨Or.inl rfl, h⟩⟩), i3, fX4, fY4, Or.inl rfl⟩
  have x14 : X4 o 14 = (n : Int) := by rw [i4.1 o (by omega) (by omega), mup_ne (by omega), t4.1 o (by omega) (by omega), s6.1 o (by omega) (by omega), hn]
  have y18' : Y4 98 18 = (n : Int) := by rw [i5.2 18 (by omega) (by omega) (by omega), mup_ne (by omega), y18]
  have wn : wr ((n : Int) + 1) = ((n + 1 : Nat) : Int) := by rw [wr_of (by omega) (by omega)]; omega
  refine ⟨1, mup (mup X4 (o + 7) n (X4 3 6)) o 14 ((n + 1 : Nat) : Int), mup (mup Y4 109 (10 + n) (Y4 98 11)) 98 18 ((n + 1 : Nat) : Int), fun Q h => ?_, fun Q h => ?_, ?_, (fX4.tr (LFX.up ho (by omega) (by omega) (by omega))).tr (LFX.cnt ho (by omega)), (fY4.tr (LFY.up (by omega) (by omega) (by omega) (Nat.le_trans (m := 10) (by decide) (by omega)))).tr (LFY.cnt (by omega)), Or.inr ⟨rfl, ?_, a4, ?_, ?_⟩⟩
  · refine cC Q (T_LineReader_readsRing_57 hp ?_)
    rw [x14, wn]
    exact ⟨fun _ => ⟨by omega, Or.inr rfl, h⟩, fun z => absurd (by omega) z⟩
  · refine mC Q (T_M_ringLine_52 ?_)
    rw [y18', w18, wn]
    exact ⟨fun _ => ⟨by omega, Or.inr rfl, h⟩, fun z => absurd (by omega) z⟩
  · unfold FE at *
    rw [mup_ne (by omega), mup_ne (by omega), mup_ne (by omega), mup_ne (by omega), mup_ne (by omega), mup_ne (by omega), mup_ne (by omega), mup_ne (by omega)]; exact i3
  · refine ⟨by rw [mup_eq rfl rfl, mup_eq rfl rfl], by rw [mup_eq rfl rfl]; omega, fun q hq => ?_⟩
    rw [mup_eq rfl rfl] at hq
    have x13 : mup (mup X4 (o + 7) n (X4 3 6)) o 14 ((n + 1 : Nat) : Int) o 13 = X o 13 := by
      rw [mup_ne (by omega), mup_ne (by omega), i4.1 o (by omega) (by omega), mup_ne (by omega), t4.1 o (by omega) (by omega), s6.1 o (by omega) (by omega)]
    have x1 : X1 o 13 = X o 13 := by rw [s6.1 o (by omega) (by omega)]
    rw [x13]
    by_cases hqn : q = n
    · subst hqn
      have c1 : mup (mup X4 (o + 7) q (X4 3 6)) o 14 ((q + 1 : Nat) : Int) (o + 6) q = X2 3 6 := by
        rw [mup_ne (by omega), mup_ne (by omega), i4.1 _ (by omega) (by omega), mup_eq rfl rfl]
      have c2 : mup (mup X4 (o + 7) q (X4 3 6)) o 14 ((q + 1 : Nat) : Int) (o + 7) q = X4 3 6 := by
        rw [mup_ne (by omega), mup_eq rfl rfl]
      have d1 : mup (mup Y4 109 (10 + q) (Y4 98 11)) 98 18 ((q + 1 : Nat) : Int) 108 (10 + q) = Y2 98 11 := by
        rw [mup_other (by omega), mup_other (by omega), i5.1 _ (by omega), mup_eq rfl rfl]
      have d2 : mup (mup Y4 109 (10 + q) (Y4 98 11)) 98 18 ((q + 1 : Nat) : Int) 109 (10 + q) = Y4 98 11 := by
        rw [mup_other (by omega), mup_eq rfl rfl]
      rw [c1, c2, d1, d2]
      exact ⟨⟨t10, i9⟩, t12, by omega⟩
    · have := hR.2.2 q (by omega)
      have xo : ∀ b, o + 6 ≤ b → b ≤ o + 7 → mup (mup X4 (o + 7) n (X4 3 6)) o 14 ((n + 1 : Nat) : Int) b q = X b q := fun b h1 h2 => by
        rw [mup_ne (by omega), mup_ne (by omega), i4.1 _ (by omega) (by omega), mup_ne (by omega), t4.1 _ (by omega) (by omega), s6.1 _ (by omega) (by omega)]
      have yo : ∀ b, 108 ≤ b → b ≤ 109 → mup (mup Y4 109 (10 + n) (Y4 98 11)) 98 18 ((n + 1 : Nat) : Int) b (10 + q) = Y b (10 + q) := fun b h1 h2 => by
        rw [mup_other (by omega), mup_ne (by omega), i5.1 _ (by omega), mup_ne (by omega), t5.1 _ (by omega), s7.1 _ (by omega)]
      rw [xo _ (by omega) (by omega), xo _ (by omega) (by omega), yo _ (by omega) (by omega), yo _ (by omega) (by omega)]
      exact this
  · exact i7.congr (by rw [mup_other (by omega), mup_other (by omega)]) (by rw [mup_other (by omega), mup_other (by omega)]) (by rw [mup_other (by omega), mup_other (by omega)]) (fun k _ _ => by rw [mup_ne (by omega), mup_ne (by omega)]) (by rw [mup_other (by omega), mup_other (by omega)]) (by rw [mup_other (by omega), mup_other (by omega)])
  · have r1 := (s4.tr t9).tr i8
    refine ⟨r1.1, fun z => r1.2 ?_⟩
    rw [mup_other (by omega), mup_other (by omega)] at z; exact z
set_option maxHeartbeats 4000000 in
theorem k_cold {N a : Nat} (hp : (p = 68 ∧ o = 9) ∨ (p = 9 ∧ o = 68)) (hT : TK X Y N a) (hF : FE X Y) (hR : CLr o X Y) : ∃ v X' Y', RN Ls p L i_LineReader_readsCold [.inr (.inr 3)] X [.inl v] X' ∧ RN Ls pp K i_M_coldLine [.inr (.inr 98)] Y [.inl v] Y' ∧ FE X' Y' ∧ LFX o (o + 11) (o + 12) 16 X X' ∧ LFY 113 114 20 Y Y' ∧ (v = 0 ∨ (v = 1 ∧ CLr o X' Y' ∧ ∃ a', TK X' Y' N a' ∧ AD X' a a')) := by
  have ho : o = 9 ∨ o = 68 := by omega
  obtain ⟨n, hn⟩ : ∃ n : Nat, X o 16 = (n : Int) := ⟨(X o 16).toNat, by have := hR.2.1; omega⟩
  have hny : Y 98 20 = (n : Int) := by rw [← hR.1, hn]
  have hn6 : n ≤ 3 := by have := hR.2.1; omega
  by_cases h6 : n = 3
  · obtain ⟨X', Y', f1, f2, f3, f4, f5⟩ := k_fail (Ls := Ls) (p := p) (pp := pp) (K := K) (L := L) hT 2
    exact ⟨0, X', Y', fun Q h => E_LineReader_readsCold hp ⟨fun z => by omega, fun _ => f1 _ (T_LineReader_readsCold_18 ⟨Or.inl rfl, h⟩)⟩, fun Q h => E_M_coldLine ⟨fun z => by omega, fun _ => f2 _ (T_M_coldLine_13 ⟨Or.inl rfl, h⟩)⟩, f3, LFX.sx ho f4, LFY.sy (by omega) f5, Or.inl rfl⟩
  obtain ⟨X1, Y1, a1, s1, s2, s3, s4, s5, s6, s7, -, -⟩ := k_adv (Ls := Ls) (p := p) (pp := pp) (K := K) (L := L) hT hF
  have cA : ∀ Q, m_Wp i_LineReader_readsCold 26 0 0 [(0, .inr (.inr 3)), (1, .inl (n : Int))] [] (mem Ls p X1 L) Q → m_Call i_LineReader_readsCold [.inr (.inr 3)] (mem Ls p X L) Q := fun Q h => by
    refine E_LineReader_readsCold hp ?_
    rw [hn]
    exact ⟨fun _ => s1 _ h, fun z => by omega⟩
  have mA : ∀ Q, m_Wp i_M_coldLine 18 0 0 [(0, .inr (.inr 98))] [] (mem Ls pp Y1 K) Q → m_Call i_M_coldLine [.inr (.inr 98)] (mem Ls pp Y K) Q := fun Q h => E_M_coldLine ⟨fun _ => s2 _ h, fun z => by omega⟩
  have fX1 : LFX o (o + 11) (o + 12) 16 X X1 := LFX.sx ho s6
  have fY1 : LFY 113 114 20 Y Y1 := LFY.sy (by omega) s7
  obtain ⟨v2, X2, Y2, t1, t2, t3, t4, t5, t6⟩ := k_num (Ls := Ls) (p := p) (pp := pp) (K := K) (L := L) (lo := 0) (hi := 200) s3 s5 (by omega)
  have fX2 := fX1.tr (LFX.sx ho t4)
  have fY2 := fY1.tr (LFY.sy (by omega) t5)
  have cB : ∀ Q, m_Wp i_LineReader_readsCold 34 0 0 [(0, .inr (.inr 3)), (1, .inl (n : Int))] [.inl v2] (mem Ls p X2 L) Q → m_Call i_LineReader_readsCold [.inr (.inr 3)] (mem Ls p X L) Q := fun Q h => cA Q (T_LineReader_readsCold_26 (t1 _ h))
  have mB : ∀ Q, m_Wp i_M_coldLine 26 0 0 [(0, .inr (.inr 98))] [.inl v2] (mem Ls pp Y2 K) Q → m_Call i_M_coldLine [.inr (.inr 98)] (mem Ls pp Y K) Q := fun Q h => mA Q (T_M_coldLine_18 (t2 _ h))
  rcases t6 with rfl | ⟨rfl, a2, t8, t9, t10, t11, t12⟩
  · exact ⟨0, X2, Y2, fun Q h => cB Q (T_LineReader_readsCold_34 hp ⟨fun z => absurd rfl z, fun _ => ⟨Or.inl rfl, h⟩⟩), fun Q h => mB Q (T_M_coldLine_26 ⟨fun z => absurd rfl z, fun _ => ⟨Or.inl rfl, h⟩⟩), t3, fX2, fY2, Or.inl rfl⟩
  have y18 : Y2 98 20 = (n : Int) := by rw [t5.2 20 (by omega) (by omega) (by omega), s7.2 20 (by omega) (by omega) (by omega), hny]
  have w18 : wr (3 + (n : Int)) = ((3 + n : Nat) : Int) := by rw [wr_of (by omega) (by omega)]; omega
  have hT3 : TK (mup X2 (o + 11) n (X2 3 6)) (mup Y2 113 (3 + n) (Y2 98 11)) N a2 := t8.congr (mup_other (by omega)) (mup_other (by omega)) (mup_other (by omega)) (fun k _ _ => mup_ne (by omega)) (mup_other (by omega)) (mup_other (by omega))
  have hF3 : FE (mup X2 (o + 11) n (X2 3 6)) (mup Y2 113 (3 + n) (Y2 98 11)) := by
    unfold FE at *
    rw [mup_ne (by omega), mup_ne (by omega), mup_ne (by omega), mup_ne (by omega)]; exact t3
  obtain ⟨v4, X4, Y4, i1, i2, i3, i4, i5, i6⟩ := k_num (Ls := Ls) (p := p) (pp := pp) (K := K) (L := L) (lo := X2 3 6) (hi := 200) hT3 hF3 (by omega)
  have fX4 := (fX2.tr (LFX.up (a := o + 11) (k := n) (v := X2 3 6) ho (by omega) (by omega) (by omega))).tr (LFX.sx ho i4)
  have fY4 := (fY2.tr (LFY.up (a := 113) (k := 3 + n) (v := Y2 98 11) (by omega) (by omega) (by omega) (Nat.le_trans (m := 3) (by decide) (by omega)))).tr (LFY.sy (by omega) i5)
  have cC : ∀ Q, m_Wp i_LineReader_readsCold 63 0 0 [(0, .inr (.inr 3)), (1, .inl (n : Int))] [.inl v4] (mem Ls p X4 L) Q → m_Call i_LineReader_readsCold [.inr (.inr 3)] (mem Ls p X L) Q := fun Q h => cB Q (T_LineReader_readsCold_34 hp ⟨fun _ => ⟨by omega, i1 _ h⟩, fun z => absurd (by omega) z⟩)
  have mC : ∀ Q, m_Wp i_M_coldLine 56 0 0 [(0, .inr (.inr 98)), (1, .inl (Y2 98 11))] [.inl v4] (mem Ls pp Y4 K) Q → m_Call i_M_coldLine [.inr (.inr 98)] (mem Ls pp Y K) Q := fun Q h => by
    refine mB Q (T_M_coldLine_26 ?_)
    rw [y18, w18, Int.toNat_natCast]
    refine ⟨fun _ => ⟨by omega, ?_⟩, fun z => absurd (by omega) z⟩
    rw [t10] at i2
    exact i2 _ h
  rcases i6 with rfl | ⟨rfl, a4, i7, i8, i9, i10, i11⟩
  · exact ⟨0, X4, Y4, fun Q h => cC Q (T_LineReader_readsCold_63 hp ⟨fun z => absurd rfl z, fun _ => ⟨Or.inl rfl, h⟩⟩), fun Q h => mC Q (T_M_coldLine_56 ⟨fun z => absurd rfl z, fun _ => ⟨Or.inl rfl, h⟩⟩), i3, fX4, fY4, Or.inl rfl⟩
  have x14 : X4 o 16 = (n : Int) := by rw [i4.1 o (by omega) (by omega), mup_ne (by omega), t4.1 o (by omega) (by omega), s6.1 o (by omega) (by omega), hn]
  have y18' : Y4 98 20 = (n : Int) := by rw [i5.2 20 (by omega) (by omega) (by omega), mup_ne (by omega), y18]
  have wn : wr ((n : Int) + 1) = ((n + 1 : Nat) : Int) := by rw [wr_of (by omega) (by omega)]; omega
  refine ⟨1, mup (mup X4 (o + 12) n (X4 3 6)) o 16 ((n + 1 : Nat) : Int), mup (mup Y4 114 (3 + n) (Y4 98 11)) 98 20 ((n + 1 : Nat) : Int), fun Q h => ?_, fun Q h => ?_, ?_, (fX4.tr (LFX.up ho (by omega) (by omega) (by omega))).tr (LFX.cnt ho (by omega)), (fY4.tr (LFY.up (by omega) (by omega) (by omega) (Nat.le_trans (m := 3) (by decide) (by omega)))).tr (LFY.cnt (by omega)), Or.inr ⟨rfl, ?_, a4, ?_, ?_⟩⟩
  · refine cC Q (T_LineReader_readsCold_63 hp ?_)
    rw [x14, wn]
    exact ⟨fun _ => ⟨by omega, Or.inr rfl, h⟩, fun z => absurd (by omega) z⟩
  · refine mC Q (T_M_coldLine_56 ?_)
    rw [y18', w18, wn]
    exact ⟨fun _ => ⟨by omega, Or.inr rfl, h⟩, fun z => absurd (by omega) z⟩
  · unfold FE at *
    rw [mup_ne (by omega), mup_ne (by omega), mup_ne (by omega), mup_ne (by omega), mup_ne (by omega), mup_ne (by omega), mup_ne (by omega), mup_ne (by omega)]; exact i3
  · refine ⟨by rw [mup_eq rfl rfl, mup_eq rfl rfl], by rw [mup_eq rfl rfl]; omega, fun q hq => ?_⟩
    rw [mup_eq rfl rfl] at hq
    by_cases hqn : q = n
    · subst hqn
      have c1 : mup (mup X4 (o + 12) q (X4 3 6)) o 16 ((q + 1 : Nat) : Int) (o + 11) q = X2 3 6 := by
        rw [mup_ne (by omega), mup_ne (by omega), i4.1 _ (by omega) (by omega), mup_eq rfl rfl]
      have c2 : mup (mup X4 (o + 12) q (X4 3 6)) o 16 ((q + 1 : Nat) : Int) (o + 12) q = X4 3 6 := by
        rw [mup_ne (by omega), mup_eq rfl rfl]
      have d1 : mup (mup Y4 114 (3 + q) (Y4 98 11)) 98 20 ((q + 1 : Nat) : Int) 113 (3 + q) = Y2 98 11 := by
        rw [mup_other (by omega), mup_other (by omega), i5.1 _ (by omega), mup_eq rfl rfl]
      have d2 : mup (mup Y4 114 (3 + q) (Y4 98 11)) 98 20 ((q + 1 : Nat) : Int) 114 (3 + q) = Y4 98 11 := by
        rw [mup_other (by omega), mup_eq rfl rfl]
      rw [c1, c2, d1, d2]
      exact ⟨t10, i9⟩
    · have := hR.2.2 q (by omega)
      have xo : ∀ b, o + 11 ≤ b → b ≤ o + 12 → mup (mup X4 (o + 12) n (X4 3 6)) o 16 ((n + 1 : Nat) : Int) b q = X b q := fun b h1 h2 => by
        rw [mup_ne (by omega), mup_ne (by omega), i4.1 _ (by omega) (by omega), mup_ne (by omega), t4.1 _ (by omega) (by omega), s6.1 _ (by omega) (by omega)]
      have yo : ∀ b, 113 ≤ b → b ≤ 114 → mup (mup Y4 114 (3 + n) (Y4 98 11)) 98 20 ((n + 1 : Nat) : Int) b (3 + q) = Y b (3 + q) := fun b h1 h2 => by
        rw [mup_other (by omega), mup_ne (by omega), i5.1 _ (by omega), mup_ne (by omega), t5.1 _ (by omega), s7.1 _ (by omega)]
      rw [xo _ (by omega) (by omega), xo _ (by omega) (by omega), yo _ (by omega) (by omega), yo _ (by omega) (by omega)]
      exact this
  · exact i7.congr (by rw [mup_other (by omega), mup_other (by omega)]) (by rw [mup_other (by omega), mup_other (by omega)]) (by rw [mup_other (by omega), mup_other (by omega)]) (fun k _ _ => by rw [mup_ne (by omega), mup_ne (by omega)]) (by rw [mup_other (by omega), mup_other (by omega)]) (by rw [mup_other (by omega), mup_other (by omega)])
  · have r1 := (s4.tr t9).tr i8
    refine ⟨r1.1, fun z => r1.2 ?_⟩
    rw [mup_other (by omega), mup_other (by omega)] at z; exact z
end K5
