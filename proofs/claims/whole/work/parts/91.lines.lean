/-! ===== phase 2: the LINES man, ring, meet, cold, crowd, seed: both in step ===== -/
def PLr (o : Nat) (X Y : Nat → Nat → Int) : Prop := X o 13 = Y 98 17 ∧ (0 ≤ X o 13 ∧ X o 13 ≤ 6) ∧ ∀ q : Nat, (q : Int) < X o 13 → (X (o + 1) q = Y 103 (6 + q) ∧ X (o + 2) q = Y 104 (6 + q) ∧ X (o + 3) q = Y 105 (6 + q) ∧ X (o + 4) q = Y 106 (6 + q) ∧ X (o + 5) q = Y 107 (6 + q)) ∧ (1 ≤ X (o + 2) q ∧ X (o + 2) q ≤ 9 ∧ 0 ≤ X (o + 3) q ∧ X (o + 3) q ≤ 30 ∧ -30 ≤ X (o + 4) q ∧ X (o + 4) q ≤ 30 ∧ -9 ≤ X (o + 5) q ∧ X (o + 5) q ≤ 9)
def RLr (o : Nat) (X Y : Nat → Nat → Int) : Prop := X o 14 = Y 98 18 ∧ (0 ≤ X o 14 ∧ X o 14 ≤ 10) ∧ ∀ r : Nat, (r : Int) < X o 14 → (X (o + 6) r = Y 108 (10 + r) ∧ X (o + 7) r = Y 109 (10 + r)) ∧ (0 ≤ X (o + 6) r ∧ X (o + 6) r < X o 13)
def MLr (o : Nat) (X Y : Nat → Nat → Int) : Prop := X o 15 = Y 98 19 ∧ (0 ≤ X o 15 ∧ X o 15 ≤ 6) ∧ ∀ m : Nat, (m : Int) < X o 15 → (X (o + 8) m = Y 110 (6 + m) ∧ X (o + 9) m = Y 111 (6 + m) ∧ X (o + 10) m = Y 112 (6 + m)) ∧ (0 ≤ X (o + 8) m ∧ X (o + 8) m < X o 13 ∧ 0 ≤ X (o + 9) m ∧ X (o + 9) m < X o 13 ∧ 0 ≤ X (o + 10) m ∧ X (o + 10) m ≤ 300)
def CLr (o : Nat) (X Y : Nat → Nat → Int) : Prop := X o 16 = Y 98 20 ∧ (0 ≤ X o 16 ∧ X o 16 ≤ 3) ∧ ∀ k : Nat, (k : Int) < X o 16 → (X (o + 11) k = Y 113 (3 + k) ∧ X (o + 12) k = Y 114 (3 + k))
def OLr (o : Nat) (X Y : Nat → Nat → Int) : Prop := (X o 17 = Y 102 2 ∧ 0 ≤ X o 17 ∧ X o 17 ≤ 100) ∧ (X o 18 = Y 102 3 ∧ 0 ≤ X o 18 ∧ X o 18 ≤ 99999) ∧ (X 3 7 = Y 101 0 ∧ (X 3 7 = 0 ∨ X 3 7 = 1)) ∧ (X 3 8 = Y 101 1 ∧ (X 3 8 = 0 ∨ X 3 8 = 1))
theorem PLr.nm {o : Nat} {X Y : Nat → Nat → Int} (h : PLr o X Y) : NMR o X Y := ⟨h.1, h.2.1, fun q hq => (h.2.2 q hq).1.1⟩
section K4
variable {Ls p pp o kc ks : Nat} {K L X Y : Nat → Nat → Int} {Q : List mV → mM → Prop}
set_option maxHeartbeats 4000000 in
theorem k_man {N a : Nat} (hp : (p = 68 ∧ o = 9) ∨ (p = 9 ∧ o = 68)) (hT : TK X Y N a) (hF : FE X Y) (hP : PLr o X Y) : ∃ v X' Y', RN Ls p L i_LineReader_readsMan [.inr (.inr 3)] X [.inl v] X' ∧ RN Ls pp K i_M_manLine [.inr (.inr 98)] Y [.inl v] Y' ∧ FE X' Y' ∧ LFX o (o + 1) (o + 5) 13 X X' ∧ LFY 103 107 17 Y Y' ∧ (v = 0 ∨ (v = 1 ∧ PLr o X' Y' ∧ X o 13 ≤ X' o 13 ∧ ∃ a', TK X' Y' N a' ∧ AD X' a a')) := by
  have ho : o = 9 ∨ o = 68 := by omega
  obtain ⟨n, hn⟩ : ∃ n : Nat, X o 13 = (n : Int) := ⟨(X o 13).toNat, by have := hP.2.1; omega⟩
  have hny : Y 98 17 = (n : Int) := by rw [← hP.1, hn]
  have hn6 : n ≤ 6 := by have := hP.2.1; omega
  by_cases h6 : n = 6
  · obtain ⟨X', Y', f1, f2, f3, f4, f5⟩ := k_fail (Ls := Ls) (p := p) (pp := pp) (K := K) (L := L) hT 2
    exact ⟨0, X', Y', fun Q h => E_LineReader_readsMan hp ⟨fun z => by omega, fun _ => f1 _ (T_LineReader_readsMan_19 ⟨Or.inl rfl, h⟩)⟩, fun Q h => E_M_manLine ⟨fun z => by omega, fun _ => f2 _ (T_M_manLine_14 ⟨Or.inl rfl, h⟩)⟩, f3, LFX.sx ho f4, LFY.sy (by omega) f5, Or.inl rfl⟩
  obtain ⟨X1, Y1, a1, s1, s2, s3, s4, s5, s6, s7, -, -⟩ := k_adv (Ls := Ls) (p := p) (pp := pp) (K := K) (L := L) hT hF
  have cA : ∀ Q, m_Wp i_LineReader_readsMan 27 0 0 [(0, .inr (.inr 3)), (1, .inl (n : Int))] [] (mem Ls p X1 L) Q → m_Call i_LineReader_readsMan [.inr (.inr 3)] (mem Ls p X L) Q := fun Q h => by
    refine E_LineReader_readsMan hp ?_
    rw [hn]
    exact ⟨fun _ => s1 _ h, fun z => by omega⟩
  have mA : ∀ Q, m_Wp i_M_manLine 19 0 0 [(0, .inr (.inr 98))] [] (mem Ls pp Y1 K) Q → m_Call i_M_manLine [.inr (.inr 98)] (mem Ls pp Y K) Q := fun Q h => E_M_manLine ⟨fun _ => s2 _ h, fun z => by omega⟩
  have hN1 : NMR o X1 Y1 := hP.nm.congr (by rw [s6.1 o (by omega) (by omega)]) (fun q _ => by rw [s6.1 (o + 1) (by omega) (by omega)]) (s7.2 17 (by omega) (by omega) (by omega)) (fun q _ => by rw [s7.1 103 (by omega)])
  have hK1 := s3.2.2.2.2.1
  have fX1 : LFX o (o + 1) (o + 5) 13 X X1 := LFX.sx ho s6
  have fY1 : LFY 103 107 17 Y Y1 := LFY.sy (by omega) s7
  by_cases h3 : ¬ X1 5 4 = 3
  · have h2 : ¬ Y1 98 8 = 2 := by unfold KR at hK1; omega
    obtain ⟨X', Y', f1, f2, f3, f4, f5⟩ := k_fail (Ls := Ls) (p := p) (pp := pp) (K := K) (L := L) s3 1
    exact ⟨0, X', Y', fun Q h => cA Q (T_LineReader_readsMan_27 hp ⟨fun z => absurd z h3, fun _ => f1 _ (T_LineReader_readsMan_43 ⟨Or.inl rfl, h⟩)⟩), fun Q h => mA Q (T_M_manLine_19 ⟨fun z => absurd z h2, fun _ => f2 _ (T_M_manLine_32 ⟨Or.inl rfl, h⟩)⟩), f3, fX1.tr (LFX.sx ho f4), fY1.tr (LFY.sy (by omega) f5), Or.inl rfl⟩
  have h3 := Classical.not_not.mp h3
  have h2 : Y1 98 8 = 2 ∧ Y1 98 9 = X1 5 7 := by unfold KR at hK1; omega
  have e13 : X1 o 13 = (n : Int) := by rw [s6.1 o (by omega) (by omega), hn]
  have e17 : Y1 98 17 = (n : Int) := by rw [← hN1.1, e13]
  obtain ⟨r, hr⟩ : ∃ r, pOf (X1 (o + 1)) (X1 5 7) 0 (X1 o 13).toNat = r := ⟨_, rfl⟩
  have rn := k_nof (Ls := Ls) (L := L) (y := X1 5 7) hp hN1
  have rf := k_find (Ls := Ls) (pp := pp) (K := K) (y := X1 5 7) hN1
  rw [hr] at rn rf
  have hge := pOf_ge (f := X1 (o + 1)) (x := X1 5 7) (X1 o 13).toNat 0
  rw [hr] at hge
  have cB : ∀ Q, m_Wp i_LineReader_readsMan 58 0 0 [(0, .inr (.inr 3)), (1, .inl (n : Int))] [.inl r] (mem Ls p X1 L) Q → m_Call i_LineReader_readsMan [.inr (.inr 3)] (mem Ls p X L) Q := fun Q h => cA Q (T_LineReader_readsMan_27 hp ⟨fun _ => rn _ h, fun z => absurd h3 z⟩)
  have mB : ∀ Q, m_Wp i_M_manLine 50 0 0 [(0, .inr (.inr 98))] [.inl r] (mem Ls pp Y1 K) Q → m_Call i_M_manLine [.inr (.inr 98)] (mem Ls pp Y K) Q := fun Q h => by
    refine mA Q (T_M_manLine_19 ⟨fun _ => ?_, fun z => absurd h2.1 z⟩)
    rw [h2.2]
    exact rf _ h
  by_cases hr1 : ¬ r = -1
  · obtain ⟨X', Y', f1, f2, f3, f4, f5⟩ := k_fail (Ls := Ls) (p := p) (pp := pp) (K := K) (L := L) s3 3
    exact ⟨0, X', Y', fun Q h => cB Q (T_LineReader_readsMan_58 hp ⟨fun z => absurd z hr1, fun _ => f1 _ (T_LineReader_readsMan_67 ⟨Or.inl rfl, h⟩)⟩), fun Q h => mB Q (T_M_manLine_50 ⟨fun z => by omega, fun _ => f2 _ (T_M_manLine_58 ⟨Or.inl rfl, h⟩)⟩), f3, fX1.tr (LFX.sx ho f4), fY1.tr (LFY.sy (by omega) f5), Or.inl rfl⟩
  have hr1 := Classical.not_not.mp hr1
  -- the name
  have w17 : wr (6 + (n : Int)) = ((6 + n : Nat) : Int) := by rw [wr_of (by omega) (by omega)]; omega
  have hT2 : TK (mup X1 (o + 1) n (X1 5 7)) (mup Y1 103 (6 + n) (X1 5 7)) N a1 := s3.congr (mup_other (by omega)) (mup_other (by omega)) (mup_other (by omega)) (fun k _ _ => mup_ne (by omega)) (mup_other (by omega)) (mup_other (by omega))
  have hF2 : FE (mup X1 (o + 1) n (X1 5 7)) (mup Y1 103 (6 + n) (X1 5 7)) := by
    unfold FE at *
    rw [mup_ne (by omega), mup_ne (by omega), mup_ne (by omega), mup_ne (by omega)]; exact s5
  obtain ⟨X3, Y3, a3, t1, t2, t3, t4, t5, t6, t7, -, -⟩ := k_adv (Ls := Ls) (p := p) (pp := pp) (K := K) (L := L) hT2 hF2
  have fX3 : LFX o (o + 1) (o + 5) 13 X X3 := (fX1.tr (LFX.up ho (by omega) (by omega) (by omega))).tr (LFX.sx ho t6)
  have fY3 : LFY 103 107 17 Y Y3 := (fY1.tr (LFY.up (by omega) (by omega) (by omega) (Nat.le_trans (m := 6) (by decide) (by omega)))).tr (LFY.sy (by omega) t7)
  have cC : ∀ Q, m_Wp i_LineReader_readsMan 91 0 0 [(0, .inr (.inr 3)), (1, .inl (n : Int))] [] (mem Ls p X3 L) Q → m_Call i_LineReader_readsMan [.inr (.inr 3)] (mem Ls p X L) Q := fun Q h => cB Q (T_LineReader_readsMan_58 hp ⟨fun _ => ⟨by omega, t1 _ h⟩, fun z => absurd hr1 z⟩)
  have mC : ∀ Q, m_Wp i_M_manLine 81 0 0 [(0, .inr (.inr 98)), (1, .inl ((6 + n : Nat) : Int))] [] (mem Ls pp Y3 K) Q → m_Call i_M_manLine [.inr (.inr 98)] (mem Ls pp Y K) Q := fun Q h => by
    refine mB Q (T_M_manLine_50 ?_)
    rw [e17, w17, Int.toNat_natCast, h2.2]
    exact ⟨fun _ => ⟨by omega, t2 _ h⟩, fun z => by omega⟩
  -- TALKS
  obtain ⟨v4, X4, Y4, u1, u2, u3, u4, u5, u6⟩ := k_num (Ls := Ls) (p := p) (pp := pp) (K := K) (L := L) (lo := 1) (hi := 9) t3 t5 (by omega)
  have fX4 := fX3.tr (LFX.sx ho u4)
  have fY4 := fY3.tr (LFY.sy (by omega) u5)
  rcases u6 with rfl | ⟨rfl, a4, u7, u8, u9, u10, u11⟩
  · exact ⟨0, X4, Y4, fun Q h => cC Q (T_LineReader_readsMan_91 (u1 _ (T_LineReader_readsMan_98 hp ⟨fun z => absurd rfl z, fun _ => ⟨Or.inl rfl, h⟩⟩))), fun Q h => mC Q (T_M_manLine_81 (u2 _ (T_M_manLine_88 ⟨fun z => absurd rfl z, fun _ => ⟨Or.inl rfl, h⟩⟩))), u3, fX4, fY4, Or.inl rfl⟩
  have hT5 : TK (mup X4 (o + 2) n (X4 3 6)) (mup Y4 104 (6 + n) (Y4 98 11)) N a4 := u7.congr (mup_other (by omega)) (mup_other (by omega)) (mup_other (by omega)) (fun k _ _ => mup_ne (by omega)) (mup_other (by omega)) (mup_other (by omega))
  have hF5 : FE (mup X4 (o + 2) n (X4 3 6)) (mup Y4 104 (6 + n) (Y4 98 11)) := by
    unfold FE at *
    rw [mup_ne (by omega), mup_ne (by omega), mup_ne (by omega), mup_ne (by omega)]; exact u3
  -- WAITS
  obtain ⟨v6, X6, Y6, i1, i2, i3, i4, i5, i6⟩ := k_num (Ls := Ls) (p := p) (pp := pp) (K := K) (L := L) (lo := 0) (hi := 30) hT5 hF5 (by omega)
  have fX6 := (fX4.tr (LFX.up (a := o + 2) (k := n) (v := X4 3 6) ho (by omega) (by omega) (by omega))).tr (LFX.sx ho i4)
  have fY6 := (fY4.tr (LFY.up (a := 104) (k := 6 + n) (v := Y4 98 11) (by omega) (by omega) (by omega) (Nat.le_trans (m := 6) (by decide) (by omega)))).tr (LFY.sy (by omega) i5)
  have cD : ∀ Q, m_Wp i_LineReader_readsMan 123 0 0 [(0, .inr (.inr 3)), (1, .inl (n : Int))] [.inl v6] (mem Ls p X6 L) Q → m_Call i_LineReader_readsMan [.inr (.inr 3)] (mem Ls p X L) Q := fun Q h => cC Q (T_LineReader_readsMan_91 (u1 _ (T_LineReader_readsMan_98 hp ⟨fun _ => ⟨by omega, i1 _ h⟩, fun z => absurd (by omega) z⟩)))
  have mD : ∀ Q, m_Wp i_M_manLine 110 0 0 [(0, .inr (.inr 98)), (1, .inl ((6 + n : Nat) : Int))] [.inl v6] (mem Ls pp Y6 K) Q → m_Call i_M_manLine [.inr (.inr 98)] (mem Ls pp Y K) Q := fun Q h => mC Q (T_M_manLine_81 (u2 _ (T_M_manLine_88 ⟨fun _ => ⟨by omega, i2 _ h⟩, fun z => absurd (by omega) z⟩)))
  rcases i6 with rfl | ⟨rfl, a6, i7, i8, i9, i10, i11⟩
  · exact ⟨0, X6, Y6, fun Q h => cD Q (T_LineReader_readsMan_123 hp ⟨fun z => absurd rfl z, fun _ => ⟨Or.inl rfl, h⟩⟩), fun Q h => mD Q (T_M_manLine_110 ⟨fun z => absurd rfl z, fun _ => ⟨Or.inl rfl, h⟩⟩), i3, fX6, fY6, Or.inl rfl⟩
  have hT7 : TK (mup X6 (o + 3) n (X6 3 6)) (mup Y6 105 (6 + n) (Y6 98 11)) N a6 := i7.congr (mup_other (by omega)) (mup_other (by omega)) (mup_other (by omega)) (fun k _ _ => mup_ne (by omega)) (mup_other (by omega)) (mup_other (by omega))
  have hF7 : FE (mup X6 (o + 3) n (X6 3 6)) (mup Y6 105 (6 + n) (Y6 98 11)) := by
    unfold FE at *
    rw [mup_ne (by omega), mup_ne (by omega), mup_ne (by omega), mup_ne (by omega)]; exact i3
  -- OFF
  obtain ⟨y8, v8, Z8, X8, Y8, j0, j1, j2, j3, j4', j4, j5, j6⟩ := k_sgn (Ls := Ls) (p := p) (pp := pp) (K := K) (L := L) (hi := 30) hT7 hF7 (by omega)
  have fX8 := (fX6.tr (LFX.up (a := o + 3) (k := n) (v := X6 3 6) ho (by omega) (by omega) (by omega))).tr (LFX.sx ho j4)
  have fY8 := (fY6.tr (LFY.up (a := 105) (k := 6 + n) (v := Y6 98 11) (by omega) (by omega) (by omega) (Nat.le_trans (m := 6) (by decide) (by omega)))).tr (LFY.sy (by omega) j5)
  have cE : ∀ Q, m_Wp i_LineReader_readsMan 153 0 0 [(0, .inr (.inr 3)), (1, .inl (n : Int)), (2, .inl y8)] [.inl v8] (mem Ls p X8 L) Q → m_Call i_LineReader_readsMan [.inr (.inr 3)] (mem Ls p X L) Q := fun Q h => cD Q (T_LineReader_readsMan_123 hp ⟨fun _ => ⟨by omega, j0 _ (T_LineReader_readsMan_145 (j1 _ h))⟩, fun z => absurd (by omega) z⟩)
  have mE : ∀ Q, m_Wp i_M_manLine 131 0 0 [(0, .inr (.inr 98)), (1, .inl ((6 + n : Nat) : Int))] [.inl v8] (mem Ls pp Y8 K) Q → m_Call i_M_manLine [.inr (.inr 98)] (mem Ls pp Y K) Q := fun Q h => mD Q (T_M_manLine_110 ⟨fun _ => ⟨by omega, j2 _ h⟩, fun z => absurd (by omega) z⟩)
  rcases j6 with rfl | ⟨rfl, a8, j7, j8, j9, j10, j11, j12⟩
  · exact ⟨0, X8, Y8, fun Q h => cE Q (T_LineReader_readsMan_153 hp ⟨fun z => absurd rfl z, fun _ => ⟨Or.inl rfl, h⟩⟩), fun Q h => mE Q (T_M_manLine_131 ⟨fun z => absurd rfl z, fun _ => ⟨Or.inl rfl, h⟩⟩), j3, fX8, fY8, Or.inl rfl⟩
  have b8 : -30 ≤ Y8 98 11 ∧ Y8 98 11 ≤ 30 := by
    by_cases z : y8 = 0
    · rw [j9 z]; omega
    · rw [j10 z]; omega
  have hT9 : TK (mup X8 (o + 4) n (Y8 98 11)) (mup Y8 106 (6 + n) (Y8 98 11)) N a8 := j7.congr (mup_other (by omega)) (mup_other (by omega)) (mup_other (by omega)) (fun k _ _ => mup_ne (by omega)) (mup_other (by omega)) (mup_other (by omega))
  have hF9 : FE (mup X8 (o + 4) n (Y8 98 11)) (mup Y8 106 (6 + n) (Y8 98 11)) := by
    unfold FE at *
    rw [mup_ne (by omega), mup_ne (by omega), mup_ne (by omega), mup_ne (by omega)]; exact j3
  -- RATE
  obtain ⟨y10, v10, Z10, X10, Y10, l0, l1, l2, l3, l4', l4, l5, l6⟩ := k_sgn (Ls := Ls) (p := p) (pp := pp) (K := K) (L := L) (hi := 9) hT9 hF9 (by omega)
  have fX10 := (fX8.tr (LFX.up (a := o + 4) (k := n) (v := Y8 98 11) ho (by omega) (by omega) (by omega))).tr (LFX.sx ho l4)
  have fY10 := (fY8.tr (LFY.up (a := 106) (k := 6 + n) (v := Y8 98 11) (by omega) (by omega) (by omega) (Nat.le_trans (m := 6) (by decide) (by omega)))).tr (LFY.sy (by omega) l5)
  have cF : ∀ Q, m_Wp i_LineReader_readsMan 195 0 0 [(0, .inr (.inr 3)), (1, .inl (n : Int)), (3, .inl y10)] [.inl v10] (mem Ls p X10 L) Q → m_Call i_LineReader_readsMan [.inr (.inr 3)] (mem Ls p X L) Q := fun Q h => by
    refine cE Q (T_LineReader_readsMan_153 hp ⟨fun _ => ⟨fun z => ⟨by omega, ?_⟩, fun z => ⟨by omega, ?_⟩⟩, fun z => absurd (by omega) z⟩)
    · rw [← j9 z]; exact l0 _ (T_LineReader_readsMan_187 (l1 _ h))
    · rw [wr_of (by omega) (by omega), ← j10 z]; exact l0 _ (T_LineReader_readsMan_187 (l1 _ h))
  have mF : ∀ Q, m_Wp i_M_manLine 152 0 0 [(0, .inr (.inr 98)), (1, .inl ((6 + n : Nat) : Int))] [.inl v10] (mem Ls pp Y10 K) Q → m_Call i_M_manLine [.inr (.inr 98)] (mem Ls pp Y K) Q := fun Q h => mE Q (T_M_manLine_131 ⟨fun _ => ⟨by omega, l2 _ h⟩, fun z => absurd (by omega) z⟩)
  rcases l6 with rfl | ⟨rfl, a10, l7, l8, l9, l10, l11, l12⟩
  · exact ⟨0, X10, Y10, fun Q h => cF Q (T_LineReader_readsMan_195 hp ⟨fun z => absurd rfl z, fun _ => ⟨Or.inl rfl, h⟩⟩), fun Q h => mF Q (T_M_manLine_152 ⟨fun z => absurd rfl z, fun _ => ⟨Or.inl rfl, h⟩⟩), l3, fX10, fY10, Or.inl rfl⟩
  have b10 : -9 ≤ Y10 98 11 ∧ Y10 98 11 ≤ 9 := by
    by_cases z : y10 = 0
    · rw [l9 z]; omega
    · rw [l10 z]; omega
  have x13 : X10 o 13 = (n : Int) := by rw [l4.1 o (by omega) (by omega), mup_ne (by omega), j4.1 o (by omega) (by omega), mup_ne (by omega), i4.1 o (by omega) (by omega), mup_ne (by omega), u4.1 o (by omega) (by omega), t6.1 o (by omega) (by omega), mup_ne (by omega), e13]
  have y17 : Y10 98 17 = (n : Int) := by rw [l5.2 17 (by omega) (by omega) (by omega), mup_ne (by omega), j5.2 17 (by omega) (by omega) (by omega), mup_ne (by omega), i5.2 17 (by omega) (by omega) (by omega), mup_ne (by omega), u5.2 17 (by omega) (by omega) (by omega), t7.2 17 (by omega) (by omega) (by omega), mup_ne (by omega), e17]
  have wn : wr ((n : Int) + 1) = ((n + 1 : Nat) : Int) := by rw [wr_of (by omega) (by omega)]; omega
  refine ⟨1, mup (mup X10 (o + 5) n (Y10 98 11)) o 13 ((n + 1 : Nat) : Int), mup (mup Y10 107 (6 + n) (Y10 98 11)) 98 17 ((n + 1 : Nat) : Int), fun Q h => ?_, fun Q h => ?_, ?_, (fX10.tr (LFX.up ho (by omega) (by omega) (by omega))).tr (LFX.cnt ho (by omega)), (fY10.tr (LFY.up (by omega) (by omega) (by omega) (Nat.le_trans (m := 6) (by decide) (by omega)))).tr (LFY.cnt (by omega)), Or.inr ⟨rfl, ?_, ?_, a10, ?_, ?_⟩⟩
  · refine cF Q (T_LineReader_readsMan_195 hp ?_)
    rw [x13, wn]
    refine ⟨fun _ => ⟨fun z => ⟨by omega, Or.inr rfl, ?_⟩, fun z => ⟨by omega, Or.inr rfl, ?_⟩⟩, fun z => absurd (by omega) z⟩
    · rw [← l9 z]; exact h
    · rw [wr_of (by omega) (by omega), ← l10 z]; exact h
  · refine mF Q (T_M_manLine_152 ?_)
    rw [y17, wn]
    exact ⟨fun _ => ⟨by omega, Or.inr rfl, h⟩, fun z => absurd (by omega) z⟩
  · unfold FE at *
    rw [mup_ne (by omega), mup_ne (by omega), mup_ne (by omega), mup_ne (by omega), mup_ne (by omega), mup_ne (by omega), mup_ne (by omega), mup_ne (by omega)]; exact l3
  · refine ⟨by rw [mup_eq rfl rfl, mup_eq rfl rfl], by rw [mup_eq rfl rfl]; omega, fun q hq => ?_⟩
    rw [mup_eq rfl rfl] at hq
    -- the rows, from the last step back
    have xo : ∀ b k, b ≠ 3 → b ≠ 5 → (b ≠ o + 5 ∨ k ≠ n) → (b ≠ o ∨ k ≠ 13) → (b ≠ o + 4 ∨ k ≠ n) → (b ≠ o + 3 ∨ k ≠ n) → (b ≠ o + 2 ∨ k ≠ n) → (b ≠ o + 1 ∨ k ≠ n) → mup (mup X10 (o + 5) n (Y10 98 11)) o 13 ((n + 1 : Nat) : Int) b k = X b k := fun b k h1 h2 h3 h4 h5 h6 h7 h8 => by
      rw [mup_ne h4, mup_ne h3, l4.1 b h1 h2, mup_ne h5, j4.1 b h1 h2, mup_ne h6, i4.1 b h1 h2, mup_ne h7, u4.1 b h1 h2, t6.1 b h1 h2, mup_ne h8, s6.1 b h1 h2]
    have yo : ∀ b k, b ≠ 98 → (b ≠ 107 ∨ k ≠ 6 + n) → (b ≠ 106 ∨ k ≠ 6 + n) → (b ≠ 105 ∨ k ≠ 6 + n) → (b ≠ 104 ∨ k ≠ 6 + n) → (b ≠ 103 ∨ k ≠ 6 + n) → mup (mup Y10 107 (6 + n) (Y10 98 11)) 98 17 ((n + 1 : Nat) : Int) b k = Y b k := fun b k h1 h3 h5 h6 h7 h8 => by
      rw [mup_other h1, mup_ne h3, l5.1 b h1, mup_ne h5, j5.1 b h1, mup_ne h6, i5.1 b h1, mup_ne h7, u5.1 b h1, t7.1 b h1, mup_ne h8, s7.1 b h1]
    by_cases hqn : q = n
    · subst hqn
      have c1 : mup (mup X10 (o + 5) q (Y10 98 11)) o 13 ((q + 1 : Nat) : Int) (o + 1) q = X1 5 7 := by
        rw [mup_ne (by omega), mup_ne (by omega), l4.1 _ (by omega) (by omega), mup_ne (by omega), j4.1 _ (by omega) (by omega), mup_ne (by omega), i4.1 _ (by omega) (by omega), mup_ne (by omega), u4.1 _ (by omega) (by omega), t6.1 _ (by omega) (by omega), mup_eq rfl rfl]
      have c2 : mup (mup X10 (o + 5) q (Y10 98 11)) o 13 ((q + 1 : Nat) : Int) (o + 2) q = X4 3 6 := by
        rw [mup_ne (by omega), mup_ne (by omega), l4.1 _ (by omega) (by omega), mup_ne (by omega), j4.1 _ (by omega) (by omega), mup_ne (by omega), i4.1 _ (by omega) (by omega), mup_eq rfl rfl]
      have c3 : mup (mup X10 (o + 5) q (Y10 98 11)) o 13 ((q + 1 : Nat) : Int) (o + 3) q = X6 3 6 := by
        rw [mup_ne (by omega), mup_ne (by omega), l4.1 _ (by omega) (by omega), mup_ne (by omega), j4.1 _ (by omega) (by omega), mup_eq rfl rfl]
      have c4 : mup (mup X10 (o + 5) q (Y10 98 11)) o 13 ((q + 1 : Nat) : Int) (o + 4) q = Y8 98 11 := by
        rw [mup_ne (by omega), mup_ne (by omega), l4.1 _ (by omega) (by omega), mup_eq rfl rfl]
      have c5 : mup (mup X10 (o + 5) q (Y10 98 11)) o 13 ((q + 1 : Nat) : Int) (o + 5) q = Y10 98 11 := by
        rw [mup_ne (by omega), mup_eq rfl rfl]
      have d1 : mup (mup Y10 107 (6 + q) (Y10 98 11)) 98 17 ((q + 1 : Nat) : Int) 103 (6 + q) = X1 5 7 := by
        rw [mup_other (by omega), mup_other (by omega), l5.1 _ (by omega), mup_other (by omega), j5.1 _ (by omega), mup_other (by omega), i5.1 _ (by omega), mup_other (by omega), u5.1 _ (by omega), t7.1 _ (by omega), mup_eq rfl rfl]
      have d2 : mup (mup Y10 107 (6 + q) (Y10 98 11)) 98 17 ((q + 1 : Nat) : Int) 104 (6 + q) = Y4 98 11 := by
        rw [mup_other (by omega), mup_other (by omega), l5.1 _ (by omega), mup_other (by omega), j5.1 _ (by omega), mup_other (by omega), i5.1 _ (by omega), mup_eq rfl rfl]
      have d3 : mup (mup Y10 107 (6 + q) (Y10 98 11)) 98 17 ((q + 1 : Nat) : Int) 105 (6 + q) = Y6 98 11 := by
        rw [mup_other (by omega), mup_other (by omega), l5.1 _ (by omega), mup_other (by omega), j5.1 _ (by omega), mup_eq rfl rfl]
      have d4 : mup (mup Y10 107 (6 + q) (Y10 98 11)) 98 17 ((q + 1 : Nat) : Int) 106 (6 + q) = Y8 98 11 := by
        rw [mup_other (by omega), mup_other (by omega), l5.1 _ (by omega), mup_eq rfl rfl]
      have d5 : mup (mup Y10 107 (6 + q) (Y10 98 11)) 98 17 ((q + 1 : Nat) : Int) 107 (6 + q) = Y10 98 11 := by
        rw [mup_other (by omega), mup_eq rfl rfl]
      rw [c1, c2, c3, c4, c5, d1, d2, d3, d4, d5]
      exact ⟨⟨rfl, u9, i9, rfl, rfl⟩, by omega⟩
    · have := hP.2.2 q (by omega)
      rw [xo _ _ (by omega) (by omega) (by omega) (by omega) (by omega) (by omega) (by omega) (by omega), xo _ _ (by omega) (by omega) (by omega) (by omega) (by omega) (by omega) (by omega) (by omega), xo _ _ (by omega) (by omega) (by omega) (by omega) (by omega) (by omega) (by omega) (by omega), xo _ _ (by omega) (by omega) (by omega) (by omega) (by omega) (by omega) (by omega) (by omega), xo _ _ (by omega) (by omega) (by omega) (by omega) (by omega) (by omega) (by omega) (by omega), yo _ _ (by omega) (by omega) (by omega) (by omega) (by omega) (by omega), yo _ _ (by omega) (by omega) (by omega) (by omega) (by omega) (by omega), yo _ _ (by omega) (by omega) (by omega) (by omega) (by omega) (by omega), yo _ _ (by omega) (by omega) (by omega) (by omega) (by omega) (by omega), yo _ _ (by omega) (by omega) (by omega) (by omega) (by omega) (by omega)]
      exact this
  · rw [mup_eq rfl rfl]; omega
  · exact l7.congr (by rw [mup_other (by omega), mup_other (by omega)]) (by rw [mup_other (by omega), mup_other (by omega)]) (by rw [mup_other (by omega), mup_other (by omega)]) (fun k _ _ => by rw [mup_ne (by omega), mup_ne (by omega)]) (by rw [mup_other (by omega), mup_other (by omega)]) (by rw [mup_other (by omega), mup_other (by omega)])
  · have r1 := (((s4.tr t4).tr u8).tr i8).tr (j8.tr l8)
    refine ⟨r1.1, fun z => r1.2 ?_⟩
    rw [mup_other (by omega), mup_other (by omega)] at z; exact z
end K4
