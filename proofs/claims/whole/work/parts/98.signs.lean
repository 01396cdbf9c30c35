/-! ===== phase 2: an E: a sign: both in step ===== -/
/-- the reference's sign of a token; 0: none -/
def sgM (m w : Int) : Int := if m = 1 ∧ w = 10 then 3 else if m = 1 ∧ w = 11 then 4 else if m = 5 then 5 + w else if m = 4 ∧ w = 43 then 11 else if m = 4 ∧ w = 45 then 12 else if m = 4 ∧ w = 42 then 13 else if m = 4 ∧ w = 47 then 14 else 0
theorem sgM_KR {k nm lt m w : Int} (h : KR k nm lt m w) : (sgM m w = 0 ∧ (lvl k = 0 ∨ lvl k = 3)) ∨ (kMap k (sgM m w) ∧ 3 ≤ sgM m w ∧ lvl k ≠ 0 ∧ lvl k ≠ 3 ∧ k ≠ 0 ∧ k ≠ 5 ∧ k ≠ 29 ∧ k ≠ 6) := by
  unfold KR at h
  have hk : ∀ a b : Int, kMap a b → lvl a ≠ 0 ∧ lvl a ≠ 3 ∧ 3 ≤ b ∧ a ≠ 0 ∧ a ≠ 5 ∧ a ≠ 29 ∧ a ≠ 6 := fun a b z => by
    unfold kMap at z
    unfold lvl
    refine ⟨?_, ?_, by omega, by omega, by omega, by omega, by omega⟩
    · repeat' split
      all_goals omega
    · repeat' split
      all_goals omega
  have yes : ∀ b : Int, sgM m w = b → kMap k b → (sgM m w = 0 ∧ (lvl k = 0 ∨ lvl k = 3)) ∨ (kMap k (sgM m w) ∧ 3 ≤ sgM m w ∧ lvl k ≠ 0 ∧ lvl k ≠ 3 ∧ k ≠ 0 ∧ k ≠ 5 ∧ k ≠ 29 ∧ k ≠ 6) := fun b h1 h2 => by
    obtain ⟨g1, g2, g3, g4⟩ := hk k b h2
    rw [h1]
    exact Or.inr ⟨h2, g3, g1, g2, g4⟩
  have no : (¬ (7 ≤ k ∧ k ≤ 16) ∧ k ≠ 27 ∧ k ≠ 28) → sgM m w = 0 → (sgM m w = 0 ∧ (lvl k = 0 ∨ lvl k = 3)) ∨ (kMap k (sgM m w) ∧ 3 ≤ sgM m w ∧ lvl k ≠ 0 ∧ lvl k ≠ 3 ∧ k ≠ 0 ∧ k ≠ 5 ∧ k ≠ 29 ∧ k ≠ 6) := fun h1 h2 => by
    refine Or.inl ⟨h2, ?_⟩
    unfold lvl
    rw [if_neg (by omega), if_neg (by omega), if_neg (by omega), if_neg (by omega), if_neg (by omega), if_neg (by omega), if_neg (by omega)]
    split
    · exact Or.inr rfl
    · exact Or.inl rfl
  have sg0 : m ≠ 5 → ¬ (m = 1 ∧ (w = 10 ∨ w = 11)) → ¬ (m = 4 ∧ (w = 43 ∨ w = 45 ∨ w = 42 ∨ w = 47)) → sgM m w = 0 := fun h1 h2 h3 => by
    unfold sgM
    rw [if_neg (by omega), if_neg (by omega), if_neg h1, if_neg (by omega), if_neg (by omega), if_neg (by omega), if_neg (by omega)]
  rcases h with h | h | h | h | h | h | h
  · exact no (by omega) (sg0 (by omega) (by omega) (by omega))
  · exact no (by omega) (sg0 (by omega) (by omega) (by omega))
  · exact no (by omega) (sg0 (by omega) (by omega) (by omega))
  · exact no (by omega) (sg0 (by omega) (by omega) (by omega))
  · obtain ⟨rfl, h⟩ := h
    rcases h with ⟨rfl, rfl⟩ | ⟨rfl, rfl⟩ | ⟨rfl, rfl⟩ | ⟨rfl, rfl⟩ | ⟨rfl, rfl⟩ | ⟨rfl, rfl⟩ | ⟨rfl, rfl⟩
    · exact no (by omega) rfl
    · exact no (by omega) rfl
    · exact no (by omega) rfl
    · exact yes 11 rfl (by unfold kMap; omega)
    · exact yes 12 rfl (by unfold kMap; omega)
    · exact yes 13 rfl (by unfold kMap; omega)
    · exact yes 14 rfl (by unfold kMap; omega)
  · refine yes (5 + w) ?_ (by unfold kMap; omega)
    unfold sgM
    rw [if_neg (by omega), if_neg (by omega), if_pos (by omega)]
  · obtain ⟨rfl, h1, h2, h3⟩ := h
    by_cases k27 : k = 27
    · subst k27
      rw [if_pos rfl] at h3
      subst h3
      exact yes 4 rfl (by unfold kMap; omega)
    · by_cases k28 : k = 28
      · subst k28
        rw [if_neg (by omega), if_pos rfl] at h3
        subst h3
        exact yes 3 rfl (by unfold kMap; omega)
      · rw [if_neg k27, if_neg k28] at h3
        by_cases k29 : k = 27 ∨ k = 28
        · omega
        · exact no (by omega) (sg0 (by omega) (by omega) (by omega))
section K12
variable {Ls p pp w kc ks : Nat} {K L X Y : Nat → Nat → Int} {Q : List mV → mM → Prop}
/-- which sign it is -/
theorem r_signs {Y : Nat → Nat → Int} (h5 : Y 98 8 = 5 → 0 ≤ Y 98 9 ∧ Y 98 9 ≤ 5) (hno : ¬ (Y 98 8 = 4 ∧ Y 98 9 = 41 ∧ 0 < Y 98 46))
    (hy : sgM (Y 98 8) (Y 98 9) ≠ 0 → m_Wp i_M_signs 163 0 0 [(0, .inr (.inr 98)), (1, .inl (sgM (Y 98 8) (Y 98 9)))] [.inl (rnk (sgM (Y 98 8) (Y 98 9))), .inr (.inr 98)] (mem Ls pp Y K) Q)
    (hn : sgM (Y 98 8) (Y 98 9) = 0 → Q [.inl 0] (mem Ls pp (mup (mup Y 98 4 1) 98 5 (Y 98 10)) K)) : m_Call i_M_signs [.inr (.inr 98)] (mem Ls pp Y K) Q := by
  unfold sgM at hy hn
  have s53 : m_Call i_M_isKey [.inr (.inr 98), .inl 10] (mem Ls pp Y K) (fun v M' => m_Wp i_M_signs 53 0 0 [(0, .inr (.inr 98))] (v ++ []) M' Q) := by
    refine r_isKey (fun z => T_M_signs_53 ⟨fun y => by omega, fun _ => ⟨fun _ => r_rank ?_, fun y => absurd (by omega) y⟩⟩) (fun z1 => T_M_signs_53 ⟨fun _ => ?_, fun y => absurd rfl y⟩)
    · rw [if_pos z] at hy; exact hy (by omega)
    rw [if_neg z1] at hy hn
    refine r_isKey (fun z => T_M_signs_66 ⟨fun y => by omega, fun _ => ⟨fun _ => r_rank ?_, fun y => absurd (by omega) y⟩⟩) (fun z2 => T_M_signs_66 ⟨fun _ => ⟨fun z3 => ?_, fun z3 => ?_⟩, fun y => absurd rfl y⟩)
    · rw [if_pos z] at hy; exact hy (by omega)
    · rw [if_neg z2, if_neg z3] at hy hn
      refine r_isSign (fun z => T_M_signs_96 ⟨fun y => by omega, fun _ => ⟨fun _ => r_rank ?_, fun y => absurd (by omega) y⟩⟩) (fun z4 => T_M_signs_96 ⟨fun _ => ?_, fun y => absurd rfl y⟩)
      · rw [if_pos z] at hy; exact hy (by omega)
      rw [if_neg z4] at hy hn
      refine r_isSign (fun z => T_M_signs_110 ⟨fun y => by omega, fun _ => ⟨fun _ => r_rank ?_, fun y => absurd (by omega) y⟩⟩) (fun z5 => T_M_signs_110 ⟨fun _ => ?_, fun y => absurd rfl y⟩)
      · rw [if_pos z] at hy; exact hy (by omega)
      rw [if_neg z5] at hy hn
      refine r_isSign (fun z => T_M_signs_124 ⟨fun y => by omega, fun _ => ⟨fun _ => r_rank ?_, fun y => absurd (by omega) y⟩⟩) (fun z6 => T_M_signs_124 ⟨fun _ => ?_, fun y => absurd rfl y⟩)
      · rw [if_pos z] at hy; exact hy (by omega)
      rw [if_neg z6] at hy hn
      refine r_isSign (fun z => T_M_signs_138 ⟨fun y => by omega, fun _ => ⟨fun _ => r_rank ?_, fun y => absurd (by omega) y⟩⟩) (fun z7 => T_M_signs_138 ⟨fun _ => ⟨fun y => absurd rfl y, fun _ => E_M_wrong ⟨Or.inl rfl, T_M_signs_157 ⟨Or.inl rfl, ?_⟩⟩⟩, fun y => absurd rfl y⟩)
      · rw [if_pos z] at hy; exact hy (by omega)
      rw [if_neg z7] at hn
      exact hn rfl
    · have h8 := Classical.not_not.mp z3
      have hw := h5 h8
      rw [if_neg z2, if_pos h8] at hy
      rw [wr_of (z := 5 + Y 98 9) (by omega) (by omega)]
      exact ⟨fun _ => r_rank (hy (by omega)), fun y => absurd (by omega) y⟩
  exact E_M_signs (r_isSign (fun z => T_M_signs_6 ⟨fun _ => s53, fun _ => ⟨fun _ => s53, fun y => absurd ⟨z.1, z.2, by omega⟩ hno⟩⟩) (fun z => T_M_signs_6 ⟨fun _ => s53, fun _ => ⟨fun _ => s53, fun y => absurd rfl (by assumption)⟩⟩))
set_option maxHeartbeats 4000000 in
theorem k_sign {N a fr s c : Nat} {W : List (Int × Int)} {Hs : List Nat} (hw : w = 22 ∨ w = 81) (hS : LSt w X Y N a fr s c W Hs) (h44 : X 4 4 = 0) : OUT Ls p pp L K w i_LawReader_takesSign i_M_signs X Y N a fr s := by
  obtain ⟨hT, hF, hL, hst⟩ := hS
  have hL' := hL
  obtain ⟨hP, ⟨o1, o2, o3⟩, ⟨c1, c2, c3, c4, c5⟩, hH, hsum⟩ := hL'
  obtain ⟨w1, w2, w3⟩ : X 4 4 = 0 ∧ Y 98 48 = 0 ∧ Hs.length = nBi W + 1 := by
    rcases hst with h | h
    · omega
    · exact h
  have hop := nOp_le W
  have hpl := hT.2.2.2.2.2
  have hK := hT.2.2.2.2.1
  have h5 : Y 98 8 = 5 → 0 ≤ Y 98 9 ∧ Y 98 9 ≤ 5 := by unfold KR at hK; omega
  by_cases k6 : X 5 4 = 6
  · have hy : Y 98 8 = 4 ∧ Y 98 9 = 41 := by unfold KR at hK; omega
    by_cases h0 : nOp W = 0
    · exact o_fault (f := 1) (X1 := X) (Y1 := Y) (by omega) (fun Q h => E_LawReader_takesSign hw ⟨fun z => absurd k6 z, fun _ => ⟨fun z => by omega, fun _ => h⟩⟩) (fun Q h => r_signs h5 (fun z => by omega) (fun z => absurd (by rw [hy.1, hy.2]; rfl) z) (fun _ => h)) hpl.symm LX.rfl' LY.rfl'
    · -- ')'
      obtain ⟨X1, Y1, W1, s1, Hs1, u1, u2, u3, u4, u5, u6, u7, u8, u9⟩ := k_unp (Ls := Ls) (p := p) (pp := pp) (K := K) (L := L) (lev := 1) hw (by omega) hL w3
      match W1, u3, u4, u5, u7 with
      | [], _, _, u5, _ => exact absurd u5 (by simp only [nOp]; omega)
      | e :: W2, u3, u4, u5, u7 =>
        obtain ⟨⟨p1, p2, p3, p4, p5⟩, ⟨q1, q2, q3⟩, ⟨d1, d2, d3, d4, d5⟩, hH1, hsum1⟩ := u3
        have he := pRel_open (p5 e (by simp)) u7
        simp only [List.length_cons] at p1 p2 hsum1
        have hn1 : nOp (e :: W2) = nOp W2 + 1 := by simp only [nOp, if_pos he.1]; omega
        have hb1 : nBi (e :: W2) = nBi W2 := by simp only [nBi, if_pos (Or.inl he.1 : e.1 = 5 ∨ e.1 = 29)]; omega
        rw [hn1] at q1 q2 q3 hsum1
        rw [hb1] at u4
        have hop2 := nOp_le W2
        have wl : wr (((W2.length + 1 : Nat) : Int) - 1) = (W2.length : Int) := by rw [wr_of (by omega) (by omega)]; omega
        have wo : wr (((nOp W2 + 1 : Nat) : Int) - 1) = (nOp W2 : Int) := by rw [wr_of (by omega) (by omega)]; omega
        have x5 : X1 5 = X 5 := u8.1 5 (by omega) (by omega) (by omega) (by omega)
        refine o_next (X1 := mup (mup X1 4 2 (W2.length : Int)) 4 3 (nOp W2 : Int)) (Y1 := mup (mup Y1 98 44 (W2.length : Int)) 98 46 (nOp W2 : Int)) (s' := s1) (c' := c) (W' := W2) (Hs' := Hs1) hw hT hF (by omega) (fun Q h => ?_) (fun Y' r Q h => ?_) ?_ ?_ ?_ ?_ (fun k k1 k2 => ?_) ?_ ?_ ⟨⟨?_, ?_, ?_, ?_, fun e' he' => p5 e' (by simp [he'])⟩, ⟨?_, ?_, by omega⟩, ⟨?_, ?_, ?_, ?_, d5⟩, hH1.congr ?_ ?_ ?_ ?_ ?_ ?_ ?_, ?_⟩ (Or.inr ⟨?_, ?_, u4⟩) u6 ⟨fun b b1 b2 b3 b4 b5 b6 => ?_, fun i hi => ⟨?_, ?_⟩⟩ ⟨fun b b1 b2 => ?_, fun k k1 k2 k3 k4 k5 => ?_, fun b i b1 b2 => ?_⟩
        · refine E_LawReader_takesSign hw ⟨fun z => absurd k6 z, fun _ => ⟨fun _ => u1 _ (T_LawReader_takesSign_29 hw ?_), fun z => by omega⟩⟩
          rw [p1, q1, wl, wo]; exact h
        · refine E_M_signs (r_isSign (fun _ => T_M_signs_6 ⟨fun z => by omega, fun _ => ⟨fun z => by omega, fun _ => u2 _ (T_M_signs_21 ?_)⟩⟩) (fun z => absurd hy z))
          rw [p2, q2, wl, wo]
          exact r _ (T_M_signs_45 ⟨Or.inr rfl, h⟩)
        · rw [mup_other (by omega), mup_other (by omega)]; exact u8.1 3 (by omega) (by omega) (by omega) (by omega)
        · rw [mup_other (by omega), mup_other (by omega)]; exact x5
        · rw [mup_other (by omega), mup_other (by omega)]; exact u8.1 6 (by omega) (by omega) (by omega) (by omega)
        · rw [mup_other (by omega), mup_other (by omega)]; exact u8.1 7 (by omega) (by omega) (by omega) (by omega)
        · rw [mup_ne (by omega), mup_ne (by omega)]; exact u9.2.1 k (by omega) (by omega) (by omega)
        · rw [mup_other (by omega), mup_other (by omega)]; exact u9.1 99 (by omega) (by omega) (by omega) (by omega) (by omega)
        · rw [mup_other (by omega), mup_other (by omega)]; exact u9.1 100 (by omega) (by omega) (by omega) (by omega) (by omega)
        · rw [mup_ne (by omega), mup_eq rfl rfl]
        · rw [mup_ne (by omega), mup_eq rfl rfl]
        · rw [mup_other (by omega), mup_other (by omega)]; exact p3.2
        · rw [mup_other (by omega), mup_other (by omega)]; exact p4.2
        · rw [mup_eq rfl rfl]
        · rw [mup_eq rfl rfl]
        · rw [mup_ne (by omega), mup_ne (by omega)]; exact d1
        · rw [mup_ne (by omega), mup_ne (by omega)]; exact d2
        · rw [mup_ne (by omega), mup_ne (by omega)]; exact d3
        · rw [mup_ne (by omega), mup_ne (by omega)]; exact d4
        · rw [mup_other (by omega), mup_other (by omega)]
        · rw [mup_other (by omega), mup_other (by omega)]
        · rw [mup_other (by omega), mup_other (by omega)]
        · rw [mup_other (by omega), mup_other (by omega)]
        · rw [mup_other (by omega), mup_other (by omega)]
        · rw [mup_other (by omega), mup_other (by omega)]
        · rw [mup_ne (by omega), mup_ne (by omega)]
        · omega
        · rw [mup_ne (by omega), mup_ne (by omega), u8.2.1 4 (by omega)]; exact w1
        · rw [mup_ne (by omega), mup_ne (by omega), u9.2.1 48 (by omega) (by omega) (by omega)]; exact w2
        · rw [mup_other b1, mup_other b1]; exact u8.1 b b1 b4 b5 b6
        · rw [mup_ne (by omega), mup_ne (by omega)]; exact (u8.2.2 i hi).1
        · rw [mup_ne (by omega), mup_ne (by omega)]; exact (u8.2.2 i hi).2
        · rw [mup_other b1, mup_other b1]; exact u9.1 b b1 (by omega) (by omega) (by omega) (by omega)
        · rw [mup_ne (by omega), mup_ne (by omega)]; exact u9.2.1 k (by omega) (by omega) (by omega)
        · rw [mup_ne (by omega), mup_ne (by omega)]; exact u9.2.2 b i b1 b2
  have hn41 : ¬ (Y 98 8 = 4 ∧ Y 98 9 = 41 ∧ 0 < Y 98 46) := by unfold KR at hK; omega
  rcases sgM_KR hK with ⟨g0, gl⟩ | ⟨gk, g3, gl0, gl3, gn0, gn5, gn29, gn6⟩
  · -- no sign
    exact o_fault (f := 1) (X1 := X) (Y1 := Y) (by omega) (fun Q h => E_LawReader_takesSign hw ⟨fun _ => q_levelOf (T_LawReader_takesSign_55 hw ⟨fun _ => h, fun z => ⟨fun z' => absurd gl (by omega), fun _ => h⟩⟩), fun z => absurd (Classical.not_not.mp z) k6⟩) (fun Q h => r_signs h5 hn41 (fun z => absurd g0 z) (fun _ => h)) hpl.symm LX.rfl' LY.rfl'
  obtain ⟨kk, hkk⟩ : ∃ kk, sgM (Y 98 8) (Y 98 9) = kk := ⟨_, rfl⟩
  rw [hkk] at gk g3
  have hrel : pRel (X 5 4) kk := Or.inr (Or.inr gk)
  have hrk := lvl_rnk hrel
  have hlv : 1 ≤ lvl (X 5 4) := by
    unfold kMap at gk
    unfold lvl at gl0 ⊢
    repeat' split
    all_goals omega
  have cH : ∀ Q, m_Wp i_LawReader_takesSign 55 0 0 [(0, .inr (.inr 4)), (1, .inr (.inr w)), (2, .inl (X 5 4))] [.inl (lvl (X 5 4))] (mem Ls p X L) Q → m_Call i_LawReader_takesSign [.inr (.inr 4), .inr (.inr w)] (mem Ls p X L) Q := fun Q h => E_LawReader_takesSign hw ⟨fun _ => q_levelOf h, fun z => absurd (Classical.not_not.mp z) k6⟩
  have mH : ∀ Q, m_Wp i_M_signs 163 0 0 [(0, .inr (.inr 98)), (1, .inl kk)] [.inl (lvl (X 5 4)), .inr (.inr 98)] (mem Ls pp Y K) Q → m_Call i_M_signs [.inr (.inr 98)] (mem Ls pp Y K) Q := fun Q h => r_signs h5 hn41 (fun _ => by rw [hkk, hrk]; exact h) (fun z => by omega)
  -- the end, behind the signs that are done
  have fin : ∀ (X1 Y1 : Nat → Nat → Int) (s1 : Nat) (W1 : List (Int × Int)) (Hs1 : List Nat), LR w X1 Y1 fr s1 c W1 Hs1 → Hs1.length = nBi W1 + 1 → s ≤ s1 → UX w fr X X1 → UY fr Y Y1 →
      (∀ Q, m_Wp i_LawReader_takesSign 96 0 0 [(0, .inr (.inr 4)), (1, .inr (.inr w)), (2, .inl (X 5 4)), (3, .inl (lvl (X 5 4)))] [] (mem Ls p X1 L) Q → m_Call i_LawReader_takesSign [.inr (.inr 4), .inr (.inr w)] (mem Ls p X L) Q) →
      (∀ Q, m_Call i_M_isCounted [.inr (.inr 98)] (mem Ls pp Y1 K) (fun v M' => m_Wp i_M_signs 221 0 0 [(0, .inr (.inr 98)), (1, .inl kk)] (v ++ []) M' Q) → m_Call i_M_signs [.inr (.inr 98)] (mem Ls pp Y K) Q) → OUT Ls p pp L K w i_LawReader_takesSign i_M_signs X Y N a fr s := by
    intro X1 Y1 s1 W1 Hs1 hL1 hl1 hss u8 u9 cc mm
    obtain ⟨hP1, ⟨q1, q2, q3⟩, ⟨d1, d2, d3, d4, d5⟩, hH1, hsum1⟩ := hL1
    have hop1 := nOp_le W1
    have p1 := hP1.1
    have p2 := hP1.2.1
    have x5 : X1 5 = X 5 := u8.1 5 (by omega) (by omega) (by omega) (by omega)
    by_cases h64 : c = 64
    · subst h64
      refine o_fault (f := 2) (X1 := mup X1 4 4 1) (Y1 := Y1) (by omega) (fun Q h => cc Q (T_LawReader_takesSign_96 hw ⟨Or.inr rfl, q_pilesKnot2 hw (by rw [mup_ne (by omega)]; exact d3) (T_LawReader_takesSign_107 hw h)⟩)) (fun Q h => mm Q (r_isCounted2 d4 (T_M_signs_221 ⟨fun z => absurd rfl z, fun _ => ⟨Or.inl rfl, h⟩⟩))) ?_ ?_ u9.ly
      · rw [mup_other (by omega), x5, u9.2.1 10 (by omega) (by omega) (by omega)]; exact hpl.symm
      · exact u8.lx.tr ⟨fun b b1 _ _ _ _ _ => mup_other b1, fun i _ => ⟨mup_ne (by omega), mup_ne (by omega)⟩⟩
    · have hnk : (if (5 : Int) = X 5 4 then 1 else 0) + nOp W1 = nOp W1 := by rw [if_neg (by omega)]; omega
      have hno : nOp ((X 5 4, kk) :: W1) = nOp W1 := by simp only [nOp, if_neg gn5]; omega
      have hnb : nBi ((X 5 4, kk) :: W1) = nBi W1 + 1 := by simp only [nBi, if_neg (show ¬ (X 5 4 = 5 ∨ X 5 4 = 29) by omega)]; omega
      refine o_next (X1 := mup (mup (mup (mup X1 4 4 1) w 6 ((c + 1 : Nat) : Int)) 8 W1.length (X 5 4)) 4 2 ((W1.length + 1 : Nat) : Int)) (Y1 := mup (mup (mup (mup (mup Y1 98 47 ((c + 1 : Nat) : Int)) 121 W1.length kk) 98 44 ((W1.length + 1 : Nat) : Int)) 98 48 1) 98 49 (if 3 ≤ rnk kk then 0 else 1)) (s' := s1) (c' := c + 1) (W' := (X 5 4, kk) :: W1) (Hs' := Hs1) hw hT hF gn0 (fun Q h => ?_) (fun Y' r Q h => ?_) ?_ ?_ ?_ ?_ (fun k k1 k2 => ?_) ?_ ?_ ⟨hP1.push hrel ?_ ?_ (fun j hj => ?_) ?_ (fun j hj => ?_) ?_, ⟨?_, ?_, ?_⟩, ⟨?_, ?_, ?_, ?_, by omega⟩, hH1.congr ?_ ?_ ?_ ?_ ?_ ?_ ?_, ?_⟩ (Or.inl ⟨?_, ?_, ?_, ?_⟩) hss ⟨fun b b1 b2 b3 b4 b5 b6 => ?_, fun i hi => ⟨?_, ?_⟩⟩ ⟨fun b b1 b2 => ?_, fun k k1 k2 k3 k4 k5 => ?_, fun b i b1 b2 => ?_⟩
      · exact cc Q (T_LawReader_takesSign_96 hw ⟨Or.inr rfl, q_pilesKnot hw (by rw [mup_ne (by omega)]; exact p1) (by omega) (by rw [mup_ne (by omega)]; exact d3) (by omega) (T_LawReader_takesSign_107 hw h)⟩)
      · refine mm Q (r_isCounted d4 (by omega) (T_M_signs_221 ⟨fun _ => r_waitsFor (n := W1.length) (by rw [mup_ne (by omega)]; exact p2) (by omega) (T_M_signs_231 ⟨Or.inr rfl, r_rank (T_M_signs_241 ⟨fun z => ⟨Or.inl rfl, ?_⟩, fun z => ⟨Or.inr rfl, ?_⟩⟩)⟩), fun z => absurd (by omega) z⟩))
        · rw [if_pos z] at r; exact r _ (T_M_signs_257 ⟨Or.inr rfl, h⟩)
        · rw [if_neg z] at r; exact r _ (T_M_signs_257 ⟨Or.inr rfl, h⟩)
      · rw [mup_other (by omega), mup_other (by omega), mup_other (by omega), mup_other (by omega)]; exact u8.1 3 (by omega) (by omega) (by omega) (by omega)
      · rw [mup_other (by omega), mup_other (by omega), mup_other (by omega), mup_other (by omega)]; exact x5
      · rw [mup_other (by omega), mup_other (by omega), mup_other (by omega), mup_other (by omega)]; exact u8.1 6 (by omega) (by omega) (by omega) (by omega)
      · rw [mup_other (by omega), mup_other (by omega), mup_other (by omega), mup_other (by omega)]; exact u8.1 7 (by omega) (by omega) (by omega) (by omega)
      · rw [mup_ne (by omega), mup_ne (by omega), mup_ne (by omega), mup_ne (by omega), mup_ne (by omega)]; exact u9.2.1 k (by omega) (by omega) (by omega)
      · rw [mup_other (by omega), mup_other (by omega), mup_other (by omega), mup_other (by omega), mup_other (by omega)]; exact u9.1 99 (by omega) (by omega) (by omega) (by omega) (by omega)
      · rw [mup_other (by omega), mup_other (by omega), mup_other (by omega), mup_other (by omega), mup_other (by omega)]; exact u9.1 100 (by omega) (by omega) (by omega) (by omega) (by omega)
      · rw [mup_eq rfl rfl]
      · rw [mup_ne (by omega), mup_ne (by omega), mup_eq rfl rfl]
      · rw [mup_ne (by omega), mup_ne (by omega), mup_ne (by omega), mup_ne (by omega)]
      · rw [mup_ne (by omega), mup_eq rfl rfl]
      · rw [mup_ne (by omega), mup_ne (by omega), mup_ne (by omega), mup_ne (by omega), mup_ne (by omega)]
      · rw [mup_ne (by omega), mup_ne (by omega), mup_ne (by omega), mup_eq rfl rfl]
      · rw [hno, mup_ne (by omega), mup_ne (by omega), mup_ne (by omega), mup_ne (by omega)]; exact q1
      · rw [hno, mup_ne (by omega), mup_ne (by omega), mup_ne (by omega), mup_ne (by omega), mup_ne (by omega)]; exact q2
      · rw [hno]; exact q3
      · rw [mup_ne (by omega), mup_ne (by omega), mup_ne (by omega), mup_ne (by omega)]; exact d1
      · rw [mup_ne (by omega), mup_ne (by omega), mup_ne (by omega), mup_ne (by omega), mup_ne (by omega)]; exact d2
      · rw [mup_ne (by omega), mup_ne (by omega), mup_eq rfl rfl]
      · rw [mup_ne (by omega), mup_ne (by omega), mup_ne (by omega), mup_ne (by omega), mup_eq rfl rfl]
      · rw [mup_other (by omega), mup_other (by omega), mup_other (by omega), mup_other (by omega)]
      · rw [mup_other (by omega), mup_other (by omega), mup_other (by omega), mup_other (by omega)]
      · rw [mup_other (by omega), mup_other (by omega), mup_other (by omega), mup_other (by omega), mup_other (by omega)]
      · rw [mup_other (by omega), mup_other (by omega), mup_other (by omega), mup_other (by omega), mup_other (by omega)]
      · rw [mup_other (by omega), mup_other (by omega), mup_other (by omega), mup_other (by omega), mup_other (by omega)]
      · rw [mup_other (by omega), mup_other (by omega), mup_other (by omega), mup_other (by omega), mup_other (by omega)]
      · rw [mup_ne (by omega), mup_ne (by omega), mup_ne (by omega), mup_ne (by omega), mup_ne (by omega)]
      · rw [hno]; simp only [List.length_cons]; omega
      · rw [mup_ne (by omega), mup_ne (by omega), mup_ne (by omega), mup_eq rfl rfl]
      · rw [mup_ne (by omega), mup_eq rfl rfl]
      · rw [hnb]; exact hl1
      · rw [mup_eq rfl rfl]
        show (if 3 ≤ rnk kk then (0 : Int) else 1) ≠ 0 ↔ lvl (X 5 4) ≤ 3
        rw [hrk]
        split
        · exact ⟨fun z => absurd rfl z, fun z => by omega⟩
        · exact ⟨fun _ => by omega, fun _ => by omega⟩
      · rw [mup_other b1, mup_other b3, mup_other b4, mup_other b1]; exact u8.1 b b1 b4 b5 b6
      · rw [mup_ne (by omega), mup_ne (by omega), mup_ne (by omega), mup_ne (by omega)]; exact (u8.2.2 i hi).1
      · rw [mup_ne (by omega), mup_ne (by omega), mup_ne (by omega), mup_ne (by omega)]; exact (u8.2.2 i hi).2
      · rw [mup_other b1, mup_other b1, mup_other b1, mup_other (by omega), mup_other b1]; exact u9.1 b b1 (by omega) (by omega) (by omega) (by omega)
      · rw [mup_ne (by omega), mup_ne (by omega), mup_ne (by omega), mup_ne (by omega), mup_ne (by omega)]; exact u9.2.1 k (by omega) (by omega) (by omega)
      · rw [mup_ne (by omega), mup_ne (by omega), mup_ne (by omega), mup_ne (by omega), mup_ne (by omega)]; exact u9.2.2 b i b1 b2
  by_cases l4 : lvl (X 5 4) = 4
  · -- comparing
    obtain ⟨X1, Y1, W1, s1, Hs1, u1, u2, u3, u4, u5, u6, u7, u8, u9⟩ := k_unp (Ls := Ls) (p := p) (pp := pp) (K := K) (L := L) (lev := 5) hw (by omega) hL w3
    have hop1 := nOp_le W1
    have hs1 := u3.2.2.2.2
    have hw72 : W1.length ≤ 72 := by have := u3.2.1.2.2; omega
    have cT : ∀ Q, m_Wp i_LawReader_takesSign 84 0 0 [(0, .inr (.inr 4)), (1, .inr (.inr w)), (2, .inl (X 5 4)), (3, .inl (lvl (X 5 4)))] [.inl (tl W1)] (mem Ls p X1 L) Q → m_Call i_LawReader_takesSign [.inr (.inr 4), .inr (.inr w)] (mem Ls p X L) Q := fun Q h => by
      refine cH Q (T_LawReader_takesSign_55 hw ⟨fun z => absurd z gl0, fun _ => ⟨fun _ => ⟨fun z => absurd l4 z, fun _ => ?_⟩, fun z => absurd (Classical.not_not.mp z) gl3⟩⟩)
      rw [l4, show wr (4 + 1) = 5 from rfl]
      refine u1 _ (T_LawReader_takesSign_80 hw (q_topLevel u3.1 hw72 ?_))
      rw [l4] at h
      exact h
    have mT : ∀ Q, m_Wp i_M_signs 182 0 0 [(0, .inr (.inr 98)), (1, .inl kk)] [.inl 4] (mem Ls pp Y1 K) Q → m_Call i_M_signs [.inr (.inr 98)] (mem Ls pp Y K) Q := fun Q h => by
      refine mH Q (T_M_signs_163 ⟨fun z => absurd l4 z, fun _ => u2 _ (T_M_signs_178 (r_rank ?_))⟩)
      rw [hrk, l4]; exact h
    -- the reference looks at what waits on top
    have mU : ∀ Q, (tl W1 = 4 → Q [.inl 0] (mem Ls pp (mup (mup Y1 98 4 1) 98 5 (Y1 98 10)) K)) → (tl W1 ≠ 4 → m_Call i_M_isCounted [.inr (.inr 98)] (mem Ls pp Y1 K) (fun v M' => m_Wp i_M_signs 221 0 0 [(0, .inr (.inr 98)), (1, .inl kk)] (v ++ []) M' Q)) → m_Call i_M_signs [.inr (.inr 98)] (mem Ls pp Y K) Q := fun Q q1 q2 => by
      refine mT Q (T_M_signs_182 ?_)
      match W1, u3, q1, q2 with
      | [], u3, _, q2 =>
        have := u3.1.2.1
        simp only [List.length_nil] at this
        exact ⟨fun z => absurd rfl z, fun _ => ⟨fun _ => q2 (by show (0 : Int) ≠ 4; omega), fun z => by omega⟩⟩
      | e :: r, u3, q1, q2 =>
        have h2 := u3.1.2.1
        simp only [List.length_cons] at h2
        have hl2 := u3.2.2.2.2
        simp only [List.length_cons] at hl2
        have hn2 := nOp_le (e :: r)
        simp only [List.length_cons] at hn2
        have h3 := u3.2.1.2.2
        have h4 := u3.2.2.1.2.2.2.2
        have y8 : Y1 121 r.length = e.2 := by have := u3.1.2.2.2.1.1; rw [List.length_map] at this; exact this
        have hre := lvl_rnk (u3.1.2.2.2.2 e (by simp))
        rw [h2, show wr (((r.length + 1 : Nat) : Int) - 1) = (r.length : Int) by rw [wr_of (by omega) (by omega)]; omega, Int.toNat_natCast, y8]
        refine ⟨fun z => absurd rfl z, fun _ => ⟨fun z => by omega, fun _ => ⟨by omega, r_rank ?_⟩⟩⟩
        rw [hre]
        exact T_M_signs_207 ⟨fun z => q2 z, fun z => E_M_wrong ⟨Or.inl rfl, T_M_signs_216 ⟨Or.inl rfl, q1 (Classical.not_not.mp z)⟩⟩⟩
    by_cases ht : tl W1 = 4
    · refine o_fault (f := 1) (X1 := X1) (Y1 := Y1) (by omega) (fun Q h => cT Q (T_LawReader_takesSign_84 hw ⟨fun z => absurd (by omega) z, fun _ => h⟩)) (fun Q h => mU Q (fun _ => h) (fun z => absurd ht z)) ?_ u8.lx u9.ly
      rw [u8.1 5 (by omega) (by omega) (by omega) (by omega), u9.2.1 10 (by omega) (by omega) (by omega)]; exact hpl.symm
    · exact fin X1 Y1 s1 W1 Hs1 u3 u4 u6 u8 u9 (fun Q h => cT Q (T_LawReader_takesSign_84 hw ⟨fun _ => q_unp0 hw u3.1 hw72 (by omega) h, fun z => absurd (Classical.not_not.mp z) (by omega)⟩)) (fun Q h => mU Q (fun z => absurd z ht) (fun _ => h))
  · -- another sign
    obtain ⟨X1, Y1, W1, s1, Hs1, u1, u2, u3, u4, u5, u6, u7, u8, u9⟩ := k_unp (Ls := Ls) (p := p) (pp := pp) (K := K) (L := L) (lev := lvl (X 5 4)) hw hlv hL w3
    refine fin X1 Y1 s1 W1 Hs1 u3 u4 u6 u8 u9 (fun Q h => cH Q (T_LawReader_takesSign_55 hw ⟨fun z => absurd z gl0, fun _ => ⟨fun _ => ⟨fun _ => u1 _ h, fun z => absurd (Classical.not_not.mp z) l4⟩, fun z => absurd (Classical.not_not.mp z) gl3⟩⟩)) (fun Q h => mH Q (T_M_signs_163 ⟨fun _ => r_rank ?_, fun z => absurd (Classical.not_not.mp z) l4⟩))
    rw [hrk]
    refine T_M_signs_175 (u2 _ (T_M_signs_178 (r_rank ?_)))
    rw [hrk]
    exact T_M_signs_182 ⟨fun _ => h, fun z => absurd (Classical.not_not.mp z) l4⟩
end K12
