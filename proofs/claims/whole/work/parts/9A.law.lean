/-! ===== phase 2: the LINE law: both in step ===== -/
section K14
variable {Ls p pp o : Nat} {K L X Y : Nat → Nat → Int}
set_option maxHeartbeats 4000000 in
theorem k_law {N a : Nat} (hp : (p = 68 ∧ o = 9) ∨ (p = 9 ∧ o = 68)) (hT : TK X Y N a) (hF : FE X Y) (hL : LLr (o + 13) X Y) :
    ∃ v X' Y', RN Ls p L i_LineReader_readsLaw [.inr (.inr 3)] X [.inl v] X' ∧ FE X' Y' ∧ WX (o + 13) X X' ∧ WY Y Y' ∧
      ((v = 0 ∧ ∀ Q : List mV → mM → Prop, Q [.inl 0] (mem Ls pp Y' K) → m_Call i_M_token [.inr (.inr 98)] (mem Ls pp Y K) (fun v M' => m_Wp i_M_lineRead 122 0 0 [(0, .inr (.inr 98))] (v ++ []) M' Q)) ∨
       (v = 1 ∧ (∀ Q : List mV → mM → Prop, m_Call i_M_isSign [.inr (.inr 98), .inl 59] (mem Ls pp Y' K) (fun v M' => m_Wp i_M_lineRead 227 0 0 [(0, .inr (.inr 98)), (1, .inl 1)] (v ++ []) M' Q) → m_Call i_M_token [.inr (.inr 98)] (mem Ls pp Y K) (fun v M' => m_Wp i_M_lineRead 122 0 0 [(0, .inr (.inr 98))] (v ++ []) M' Q)) ∧ LLr (o + 13) X' Y' ∧ ∃ a', TK X' Y' N a' ∧ AD X' a a')) := by
  have hw : o + 13 = 22 ∨ o + 13 = 81 := by omega
  obtain ⟨X1, Y1, a1, s1, s2, s3, s4, s5, s6, s7, -, -⟩ := k_adv (Ls := Ls) (p := p) (pp := pp) (K := K) (L := L) hT hF
  have hK1 := s3.2.2.2.2.1
  have hkk : (24 ≤ X1 5 4 ∧ X1 5 4 ≤ 26) ↔ (Y1 98 8 = 1 ∧ 7 ≤ Y1 98 9 ∧ Y1 98 9 ≤ 9) := by
    unfold KR at hK1
    rcases hK1 with h | h | h | h | h | h | ⟨h1, h2, h3, h4⟩
    · omega
    · omega
    · omega
    · omega
    · omega
    · omega
    · split at h4
      · omega
      · split at h4 <;> omega
  by_cases h3 : ¬ (24 ≤ X1 5 4 ∧ X1 5 4 ≤ 26)
  · obtain ⟨X', Y', f1, f2, f3, f4, f5⟩ := k_fail (Ls := Ls) (p := p) (pp := pp) (K := K) (L := L) s3 1
    refine ⟨0, X', Y', fun Q h => E_LineReader_readsLaw (s1 _ (T_LineReader_readsLaw_7 hp ⟨fun _ => f1 _ (T_LineReader_readsLaw_36 ⟨Or.inl rfl, h⟩), fun _ => ⟨fun z => by omega, fun _ => f1 _ (T_LineReader_readsLaw_36 ⟨Or.inl rfl, h⟩)⟩⟩)), f3, s6.wx.tr f4.wx, s7.wy.tr f5.wy, Or.inl ⟨rfl, fun Q h => s2 _ ?_⟩⟩
    have fin : m_Call i_M_wrong [.inr (.inr 98), .inl 1] (mem Ls pp Y1 K) (fun v M' => m_Wp i_M_lineRead 153 0 0 [(0, .inr (.inr 98))] (v ++ []) M' Q) := f2 _ (T_M_lineRead_153 ⟨Or.inl rfl, h⟩)
    exact T_M_lineRead_122 ⟨fun _ => fin, fun z => ⟨fun _ => fin, fun z' => ⟨fun z'' => absurd (hkk.mpr ⟨Classical.not_not.mp z, by omega, z''⟩) h3, fun _ => fin⟩⟩⟩
  have h3 := Classical.not_not.mp h3
  have hy1 := hkk.mp h3
  obtain ⟨l, hl⟩ : ∃ l : Nat, X1 5 4 - 24 = (l : Int) := ⟨(X1 5 4 - 24).toNat, by omega⟩
  have hl3 : l < 3 := by omega
  have hyl : Y1 98 9 - 7 = (l : Int) := by
    unfold KR at hK1
    rcases hK1 with h | h | h | h | h | h | ⟨h1, h2, h3, h4⟩
    · omega
    · omega
    · omega
    · omega
    · omega
    · omega
    · rw [if_neg (by omega), if_neg (by omega)] at h4
      omega
  have wx : wr (X1 5 4 - 24) = (l : Int) := by rw [wr_of (by omega) (by omega), hl]
  have wy : wr (wr (3 + Y1 98 9) - 7) = ((3 + l : Nat) : Int) := by rw [wr_of (z := 3 + Y1 98 9) (by omega) (by omega), wr_of (by omega) (by omega)]; omega
  obtain ⟨n, ⟨c1, c2, c3, c4, c5⟩, hbg, hlw⟩ := hL
  have x16 : X1 (o + 13 + 3) = X (o + 13 + 3) := s6.1 _ (by omega) (by omega)
  have x17 : X1 (o + 13 + 4) = X (o + 13 + 4) := s6.1 _ (by omega) (by omega)
  have y115 : Y1 115 = Y 115 := s7.1 _ (by omega)
  -- is it told already?
  by_cases htold : ¬ Y 115 (3 + l) = 0
  · obtain ⟨X', Y', f1, f2, f3, f4, f5⟩ := k_fail (Ls := Ls) (p := p) (pp := pp) (K := K) (L := L) s3 3
    refine ⟨0, X', Y', fun Q h => E_LineReader_readsLaw (s1 _ (T_LineReader_readsLaw_7 hp ⟨fun z => by omega, fun _ => ⟨fun _ => ?_, fun z => by omega⟩⟩)), f3, s6.wx.tr f4.wx, s7.wy.tr f5.wy, Or.inl ⟨rfl, fun Q h => s2 _ ?_⟩⟩
    · rw [wx]
      refine E_Laws_isTold hw ⟨by omega, by omega, fun z => ?_, fun _ => ⟨Or.inr rfl, T_LineReader_readsLaw_59 ⟨fun z => by omega, fun _ => f1 _ (T_LineReader_readsLaw_67 ⟨Or.inl rfl, h⟩)⟩⟩⟩
      exfalso
      rw [Int.toNat_natCast, x16, x17] at z
      rcases hlw l hl3 with h | ⟨_, fr, to, g1, g2, _, _, _, g3⟩
      · exact htold h.1
      · rw [g1, g2] at z
        have := g3.1
        omega
    · refine T_M_lineRead_122 ?_
      rw [wy, Int.toNat_natCast, y115]
      exact ⟨fun z => absurd hy1.1 z, fun _ => ⟨fun z => by omega, fun _ => ⟨fun _ => ⟨by omega, fun z => absurd z htold, fun _ => f2 _ (T_M_lineRead_178 ⟨Or.inl rfl, h⟩)⟩, fun z => by omega⟩⟩⟩
  have htold := Classical.not_not.mp htold
  have hunt : X (o + 13 + 3) l = 0 ∧ X (o + 13 + 4) l = 0 := by
    rcases hlw l hl3 with h | h
    · exact h.2
    · omega
  -- it is told now; the next token
  have hT2 : TK X1 (mup Y1 115 (3 + l) 1) N a1 := s3.congr rfl rfl rfl (fun k _ _ => mup_ne (by omega)) (mup_other (by omega)) (mup_other (by omega))
  have hF2 : FE X1 (mup Y1 115 (3 + l) 1) := by
    unfold FE at *
    rw [mup_ne (by omega), mup_ne (by omega)]; exact s5
  obtain ⟨X2, Y2, a2, t1, t2, t3, t4, t5, t6, t7, t8, -⟩ := k_adv (Ls := Ls) (p := p) (pp := pp) (K := K) (L := L) hT2 hF2
  have ha1 : 1 ≤ a1 := by have := s4.2 (by omega); omega
  have cA : ∀ Q, m_Call i_LawReader_readsLaw [.inr (.inr 4), .inr (.inr (o + 13)), .inl (l : Int)] (mem Ls p X2 L) (fun v M' => m_Wp i_LineReader_readsLaw 90 0 0 [(0, .inr (.inr 3)), (1, .inl (l : Int))] (v ++ []) M' Q) → m_Call i_LineReader_readsLaw [.inr (.inr 3)] (mem Ls p X L) Q := fun Q h => by
    refine E_LineReader_readsLaw (s1 _ (T_LineReader_readsLaw_7 hp ⟨fun z => by omega, fun _ => ⟨fun _ => ?_, fun z => by omega⟩⟩))
    rw [wx]
    refine E_Laws_isTold hw ⟨by omega, by omega, fun _ => ⟨Or.inl rfl, T_LineReader_readsLaw_59 ⟨fun _ => t1 _ (T_LineReader_readsLaw_75 hp h), fun z => absurd rfl z⟩⟩, fun z => ?_⟩
    rw [Int.toNat_natCast, x16, x17, hunt.1, hunt.2] at z
    omega
  have mA : ∀ Q, m_Call i_M_sumRead [.inr (.inr 98)] (mem Ls pp (mup Y2 116 (3 + l) (Y2 98 21)) K) (fun v M' => m_Wp i_M_lineRead 204 0 0 [(0, .inr (.inr 98)), (2, .inl ((3 + l : Nat) : Int))] (v ++ []) M' Q) → m_Call i_M_token [.inr (.inr 98)] (mem Ls pp Y K) (fun v M' => m_Wp i_M_lineRead 122 0 0 [(0, .inr (.inr 98))] (v ++ []) M' Q) := fun Q h => by
    refine s2 _ (T_M_lineRead_122 ?_)
    rw [wy, Int.toNat_natCast, y115]
    exact ⟨fun z => absurd hy1.1 z, fun _ => ⟨fun z => by omega, fun _ => ⟨fun _ => ⟨by omega, fun _ => ⟨⟨by omega, Or.inr rfl⟩, t2 _ (T_M_lineRead_190 ⟨by omega, h⟩)⟩, fun z => absurd htold z⟩, fun z => by omega⟩⟩⟩
  -- the state at the beginning of E
  have x2w : ∀ b, b ≠ 3 → b ≠ 5 → X2 b = X b := fun b b1 b2 => by rw [t6.1 b b1 b2, s6.1 b b1 b2]
  have y2b : ∀ b, b ≠ 98 → b ≠ 115 → Y2 b = Y b := fun b b1 b2 => by rw [t7.1 b b1, mup_other b2, s7.1 b b1]
  have y2k : ∀ k, k ≠ 4 → k ≠ 5 → (k < 7 ∨ 11 < k) → Y2 98 k = Y 98 k := fun k k1 k2 k3 => by rw [t7.2 k k1 k2 k3, mup_ne (by omega), s7.2 k k1 k2 k3]
  have y21 : Y2 98 21 = (n : Int) := by rw [y2k 21 (by omega) (by omega) (by omega), c2]
  obtain ⟨X3, hX3⟩ : ∃ X3, X3 = mup (mup (mup X2 4 2 0) 4 3 0) 4 4 1 := ⟨_, rfl⟩
  obtain ⟨Y3, hY3⟩ : ∃ Y3, Y3 = mup (mup (mup (mup (mup (mup Y2 116 (3 + l) (n : Int)) 98 44 0) 98 45 0) 98 46 0) 98 48 1) 98 49 1 := ⟨_, rfl⟩
  have x3o : ∀ b, b ≠ 4 → X3 b = X2 b := fun b b1 => by rw [hX3, mup_other b1, mup_other b1, mup_other b1]
  have y3o : ∀ b, b ≠ 98 → b ≠ 116 → Y3 b = Y2 b := fun b b1 b2 => by rw [hY3, mup_other b1, mup_other b1, mup_other b1, mup_other b1, mup_other b1, mup_other b2]
  have y3k : ∀ k, ¬ (44 ≤ k ∧ k ≤ 49) → Y3 98 k = Y2 98 k := fun k k1 => by rw [hY3, mup_ne (by omega), mup_ne (by omega), mup_ne (by omega), mup_ne (by omega), mup_ne (by omega), mup_ne (by omega)]
  have y347 : Y3 98 47 = Y2 98 47 := by rw [hY3, mup_ne (by omega), mup_ne (by omega), mup_ne (by omega), mup_ne (by omega), mup_ne (by omega), mup_ne (by omega)]
  have hS3 : LSt (o + 13) X3 Y3 N a2 n n n [] [] := by
    refine ⟨t3.congr (x3o 5 (by omega)) (x3o 6 (by omega)) (x3o 7 (by omega)) (fun k _ _ => y3k k (by omega)) (y3o 99 (by omega) (by omega)) (y3o 100 (by omega) (by omega)), ?_, ⟨⟨?_, ?_, True.intro, True.intro, fun e he => by cases he⟩, ⟨?_, ?_, by simp [nOp]⟩, ⟨?_, ?_, ?_, ?_, c5⟩, ⟨?_, True.intro, Nat.le_refl _, fun i i1 i2 => by omega, fun i i1 i2 => ?_, fun _ => [], rfl, fun i i1 i2 => by omega, rfl⟩, by simp [nOp]⟩, Or.inl ⟨?_, ?_, by simp [nBi], ?_⟩⟩
    · unfold FE at *
      rw [x3o 3 (by omega), y3k 4 (by omega), y3k 5 (by omega)]; exact t5
    · rw [hX3, mup_ne (by omega), mup_ne (by omega), mup_eq rfl rfl]; rfl
    · rw [hY3, mup_ne (by omega), mup_ne (by omega), mup_ne (by omega), mup_ne (by omega), mup_eq rfl rfl]; rfl
    · rw [hX3, mup_ne (by omega), mup_eq rfl rfl]; rfl
    · rw [hY3, mup_ne (by omega), mup_ne (by omega), mup_eq rfl rfl]; rfl
    · rw [x3o _ (by omega), x2w _ (by omega) (by omega)]; exact c1
    · rw [y3k 21 (by omega)]; exact y21
    · rw [x3o _ (by omega), x2w _ (by omega) (by omega)]; exact c3
    · rw [y347, y2k 47 (by omega) (by omega) (by omega)]; exact c4
    · rw [hY3, mup_ne (by omega), mup_ne (by omega), mup_ne (by omega), mup_eq rfl rfl]; rfl
    · rw [x3o _ (by omega), x2w _ (by omega) (by omega)] at i2 ⊢; exact hbg i i1 i2
    · rw [hX3, mup_eq rfl rfl]
    · rw [hY3, mup_ne (by omega), mup_eq rfl rfl]
    · rw [hY3, mup_eq rfl rfl]; exact ⟨fun _ => (by show (0 : Int) ≤ 3; omega), fun _ => by omega⟩
  have ha2 := t4.1
  have cB : ∀ Q, m_Wp i_LawReader_readsLaw 23 0 0 [(0, .inr (.inr 4)), (1, .inr (.inr (o + 13))), (2, .inl (l : Int)), (3, .inl (n : Int)), (4, .inl ((0 : Nat) : Int))] [] (mem Ls p X3 L) (fun v M' => m_Wp i_LineReader_readsLaw 90 0 0 [(0, .inr (.inr 3)), (1, .inl (l : Int))] (v ++ []) M' Q) → m_Call i_LineReader_readsLaw [.inr (.inr 3)] (mem Ls p X L) Q := fun Q h => by
    refine cA Q (E_LawReader_readsLaw hw ⟨Or.inr rfl, ?_⟩)
    rw [x2w _ (by omega) (by omega), c1, ← hX3]
    exact h
  have mB : ∀ Q, m_Wp i_M_sumRead 25 0 0 [(0, .inr (.inr 98))] [] (mem Ls pp Y3 K) (fun v M' => m_Wp i_M_lineRead 204 0 0 [(0, .inr (.inr 98)), (2, .inl ((3 + l : Nat) : Int))] (v ++ []) M' Q) → m_Call i_M_token [.inr (.inr 98)] (mem Ls pp Y K) (fun v M' => m_Wp i_M_lineRead 122 0 0 [(0, .inr (.inr 98))] (v ++ []) M' Q) := fun Q h => by
    refine mA Q (E_M_sumRead ⟨Or.inr rfl, Or.inr rfl, ?_⟩)
    rw [y21, ← hY3]
    exact h
  have fX3 : WX (o + 13) X X3 := (s6.wx.tr t6.wx).tr ⟨fun b _ b2 _ _ _ => x3o b b2, fun k _ _ _ => by rw [x3o 3 (by omega)]⟩
  have fY3 : WY Y Y3 := by
    refine ⟨fun b b1 b2 => by rw [y3o b b1 (by omega), y2b b b1 (by omega)], fun k k1 k2 k3 k4 k5 => by rw [y3k k k5, y2k k k1 k2 k4], fun b k b1 b2 b3 => ?_⟩
    by_cases e6 : b = 116
    · subst e6
      have b3' : k < 3 := b3
      rw [hY3, mup_ne (by omega), mup_ne (by omega), mup_ne (by omega), mup_ne (by omega), mup_ne (by omega), mup_ne (by omega), y2b 116 (by omega) (by omega)]
    · by_cases e5 : b = 115
      · subst e5
        have b3' : k < 3 := b3
        rw [y3o 115 (by omega) (by omega), t7.1 115 (by omega), mup_ne (by omega), y115]
      · rw [y3o b (by omega) e6, y2b b (by omega) e5]
  rcases sum_loop (Ls := Ls) (p := p) (pp := pp) (K := K) (L := L) (law := (l : Int)) hw (by omega) (2 * (N - a2) + 2) X3 Y3 a2 n n 0 [] [] hS3 (by split <;> omega) (by omega) (fun _ => by omega) with ⟨f, X4, Y4, f0, q1, q2, q3, q4, q5, q6⟩ | ⟨X4, Y4, a4, s4', q1, q2, q3, q4, q5, q6, q7, q8, q9, q10⟩
  · -- a fault
    have x4 : X4 3 = X3 3 := q5.1 3 (by omega) (by omega) (by omega) (by omega) (by omega) (by omega)
    refine ⟨0, mup (mup X4 3 4 f) 3 5 (X4 5 5), mup Y4 117 (3 + l) (Y4 98 21), fun Q h => cB Q (q1 _ (T_LineReader_readsLaw_90 ⟨fun z => absurd z f0, fun _ => E_LineReader_fails ⟨Or.inl rfl, T_LineReader_readsLaw_100 ⟨fun _ => ⟨Or.inl rfl, h⟩, fun z => absurd rfl z⟩⟩⟩)), ⟨?_, ?_⟩, (fX3.tr (q5.wx hw)).tr ⟨fun b b1 _ _ _ _ => by rw [mup_other b1, mup_other b1], fun k k1 k2 _ => by rw [mup_ne (by omega), mup_ne (by omega)]⟩, (fY3.tr q6.wy).tr ⟨fun b b1 b2 => mup_other (by omega), fun k _ _ _ _ _ => mup_ne (by omega), fun b k b1 b2 b3 => ?_⟩, Or.inl ⟨rfl, fun Q h => mB Q (q2 _ (T_M_lineRead_204 ?_))⟩⟩
    · rw [mup_ne (by omega), mup_eq rfl rfl, mup_ne (by omega)]; exact q3.symm
    · rw [mup_eq rfl rfl, mup_ne (by omega)]; exact q4.symm
    · by_cases e7 : b = 117
      · subst e7
        have b3' : k < 3 := b3
        exact mup_ne (by omega)
      · rw [mup_other e7]
    · rw [Int.toNat_natCast]
      exact ⟨by omega, fun z => absurd rfl z, fun _ => ⟨Or.inl rfl, h⟩⟩
  · -- it stands
    obtain ⟨hP4, hO4, ⟨e1, e2, e3, e4, e5⟩, hH4, -⟩ := q7
    have xr : ∀ i, i < n → X4 (o + 13 + 1) i = X (o + 13 + 1) i ∧ X4 (o + 13 + 2) i = X (o + 13 + 2) i := fun i hi => by
      have := q9.2 i hi
      rw [this.1, this.2, x3o _ (by omega), x3o _ (by omega), x2w _ (by omega) (by omega), x2w _ (by omega) (by omega)]
      exact ⟨rfl, rfl⟩
    have yr : ∀ b i, b = 118 ∨ b = 119 ∨ b = 120 → i < n → KN Y4 b i = KN Y b i := fun b i b1 hi => by
      unfold KN
      rw [q10.2.2 b (64 + i) b1 (by omega), y3o b (by omega) (by omega), y2b b (by omega) (by omega)]
    refine ⟨1, mup (mup X4 (o + 13 + 3) l (n : Int)) (o + 13 + 4) l (s4' : Int), mup Y4 117 (3 + l) (s4' : Int), fun Q h => cB Q (q1 _ ?_), ?_, (fX3.tr (q9.wx hw)).tr ⟨fun b _ _ _ _ b5 => by rw [mup_other (by omega), mup_other (by omega)], fun k _ _ _ => by rw [mup_ne (by omega), mup_ne (by omega)]⟩, (fY3.tr q10.wy).tr ⟨fun b b1 b2 => mup_other (by omega), fun k _ _ _ _ _ => mup_ne (by omega), fun b k b1 b2 b3 => ?_⟩, Or.inr ⟨rfl, fun Q h => mB Q (q2 _ (T_M_lineRead_204 ?_)), ⟨s4', ⟨?_, ?_, ?_, ?_, e5⟩, fun i i1 i2 => ?_, fun law hlaw => ?_⟩, a4, ?_, ?_⟩⟩
    · rw [Int.toNat_natCast]
      exact T_LineReader_readsLaw_90 ⟨fun _ => ⟨Or.inr rfl, h⟩, fun z => absurd rfl z⟩
    · unfold FE at *
      rw [mup_ne (by omega), mup_ne (by omega), mup_ne (by omega), mup_ne (by omega), mup_ne (by omega), mup_ne (by omega)]; exact q4
    · by_cases e7 : b = 117
      · subst e7
        have b3' : k < 3 := b3
        exact mup_ne (by omega)
      · rw [mup_other e7]
    · rw [e2, Int.toNat_natCast]
      exact ⟨by omega, fun _ => h, fun z => absurd (by omega) z⟩
    · rw [mup_ne (by omega), mup_ne (by omega)]; exact e1
    · rw [mup_ne (by omega)]; exact e2
    · rw [mup_ne (by omega), mup_ne (by omega)]; exact e3
    · rw [mup_ne (by omega)]; exact e4
    · rw [mup_ne (by omega), mup_ne (by omega)] at i2 ⊢
      exact hH4.2.2.2.2.1 i i1 i2
    · have hkn : ∀ b, b = 118 ∨ b = 119 ∨ b = 120 → KN (mup Y4 117 (3 + l) (s4' : Int)) b = KN Y4 b := fun b b1 => by
        funext i
        unfold KN
        exact mup_ne (by omega)
      have x1' : mup (mup X4 (o + 13 + 3) l (n : Int)) (o + 13 + 4) l (s4' : Int) (o + 13 + 1) = X4 (o + 13 + 1) := by rw [mup_other (by omega), mup_other (by omega)]
      have x2' : mup (mup X4 (o + 13 + 3) l (n : Int)) (o + 13 + 4) l (s4' : Int) (o + 13 + 2) = X4 (o + 13 + 2) := by rw [mup_other (by omega), mup_other (by omega)]
      have x43 : X4 (o + 13 + 3) = X (o + 13 + 3) := by rw [q9.1 _ (by omega) (by omega) (by omega) (by omega) (by omega) (by omega), x3o _ (by omega), x2w _ (by omega) (by omega)]
      have x44 : X4 (o + 13 + 4) = X (o + 13 + 4) := by rw [q9.1 _ (by omega) (by omega) (by omega) (by omega) (by omega) (by omega), x3o _ (by omega), x2w _ (by omega) (by omega)]
      have y415 : Y4 115 = Y3 115 := q10.1 115 (by omega) (by omega)
      have y416 : Y4 116 = Y3 116 := q10.1 116 (by omega) (by omega)
      have y417 : Y4 117 = Y 117 := by rw [q10.1 117 (by omega) (by omega), y3o 117 (by omega) (by omega), y2b 117 (by omega) (by omega)]
      have y315 : Y3 115 = mup Y1 115 (3 + l) 1 115 := by rw [y3o 115 (by omega) (by omega), t7.1 115 (by omega)]
      have y316 : ∀ j, j ≠ 3 + l → Y3 116 j = Y 116 j := fun j hj => by rw [hY3, mup_ne (by omega), mup_ne (by omega), mup_ne (by omega), mup_ne (by omega), mup_ne (by omega), mup_ne (by omega), y2b 116 (by omega) (by omega)]
      by_cases hll : law = l
      · subst hll
        refine Or.inr ⟨?_, n, s4', ?_, ?_, ?_, ?_, Nat.le_refl _, ?_⟩
        · rw [mup_ne (by omega), y415, y315, mup_eq rfl rfl]
        · rw [mup_ne (by omega), mup_eq rfl rfl]
        · rw [mup_eq rfl rfl]
        · rw [mup_ne (by omega), y416, hY3, mup_ne (by omega), mup_ne (by omega), mup_ne (by omega), mup_ne (by omega), mup_ne (by omega), mup_eq rfl rfl]
        · rw [mup_eq rfl rfl]
        · rw [x1', x2', hkn 118 (by omega), hkn 119 (by omega), hkn 120 (by omega)]
          obtain ⟨_, _, _, g4, _, H, g6, g7, g8⟩ := hH4
          exact ⟨q8, e5, g4, H, g6, g7, g8⟩
      · have hold := hlw law hlaw
        rw [mup_ne (by omega), mup_ne (by omega), mup_ne (by omega), mup_ne (by omega), mup_ne (by omega), mup_ne (by omega), mup_ne (by omega), x1', x2', hkn 118 (by omega), hkn 119 (by omega), hkn 120 (by omega), x43, x44, y415, y315, mup_ne (by omega), y115, y416, y316 _ (by omega), y417]
        rcases hold with h | ⟨h1, fr, to, h2, h3, h4, h5, h6, h7⟩
        · exact Or.inl h
        · exact Or.inr ⟨h1, fr, to, h2, h3, h4, h5, by omega, h7.congr (fun i hi => ⟨(xr i (by omega)).1, (xr i (by omega)).2, yr 118 i (by omega) (by omega), yr 119 i (by omega) (by omega), yr 120 i (by omega) (by omega)⟩)⟩
    · exact q3.congr (by rw [mup_other (by omega), mup_other (by omega)]) (by rw [mup_other (by omega), mup_other (by omega)]) (by rw [mup_other (by omega), mup_other (by omega)]) (fun k _ _ => mup_ne (by omega)) (mup_other (by omega)) (mup_other (by omega))
    · have := s4.2 (by omega)
      exact ⟨by omega, fun _ => by omega⟩
end K14
