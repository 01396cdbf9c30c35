/-! ===== phase 2: an E as a whole; the LINE law: both in step ===== -/
theorem one_held {w fr s : Nat} {X Y : Nat → Nat → Int} {h : Nat} (hH : HLD w X Y fr s [h]) : fr < s ∧ h = s - 1 := by
  obtain ⟨_, _, h3, _, _, H, h6, h7, h8⟩ := hH
  have hlt : fr < s := by
    by_cases e : fr = s
    · rw [← e, h6] at h8; cases h8
    · omega
  refine ⟨hlt, ?_⟩
  have := h7 (s - 1) (by omega) (by omega)
  rw [show s - 1 + 1 = s by omega, h8] at this
  unfold hSt at this
  rcases this with ⟨_, h2⟩ | ⟨_, a, t, _, _, h2⟩ | ⟨_, a, b, t, _, _, _, h2⟩
  · exact (List.cons.inj h2).1
  · exact (List.cons.inj h2).1
  · exact (List.cons.inj h2).1
section K13
variable {Ls p pp w : Nat} {K L : Nat → Nat → Int}
set_option maxHeartbeats 4000000 in
theorem sum_loop (hw : w = 22 ∨ w = 81) {law : Int} (hlaw : 0 ≤ law ∧ law < 3) {N fr : Nat} : ∀ (t : Nat) (X Y : Nat → Nat → Int) (a s c i : Nat) (W : List (Int × Int)) (Hs : List Nat), LSt w X Y N a fr s c W Hs → 2 * (N - a) + (if X 5 4 = 0 then 0 else 1) < t → i ≤ a → (X 5 4 ≠ 0 → i + 1 ≤ a) →
    (∃ (f : Int) (X1 Y' : Nat → Nat → Int), f ≠ 0 ∧ (∀ Q : List mV → mM → Prop, Q [.inl f] (mem Ls p X1 L) → m_Wp i_LawReader_readsLaw 23 0 0 [(0, .inr (.inr 4)), (1, .inr (.inr w)), (2, .inl law), (3, .inl (fr : Int)), (4, .inl (i : Int))] [] (mem Ls p X L) Q) ∧ (∀ Q : List mV → mM → Prop, Q [.inl 0] (mem Ls pp Y' K) → m_Wp i_M_sumRead 25 0 0 [(0, .inr (.inr 98))] [] (mem Ls pp Y K) Q) ∧ Y' 98 4 = f ∧ Y' 98 5 = X1 5 5 ∧ LX w fr X X1 ∧ LY fr Y Y') ∨
    (∃ (X1 Y' : Nat → Nat → Int) (a' s' : Nat), (∀ Q : List mV → mM → Prop, Q [.inl 0] (mem Ls p (mup (mup X1 (w + 3) law.toNat (fr : Int)) (w + 4) law.toNat (s' : Int)) L) → m_Wp i_LawReader_readsLaw 23 0 0 [(0, .inr (.inr 4)), (1, .inr (.inr w)), (2, .inl law), (3, .inl (fr : Int)), (4, .inl (i : Int))] [] (mem Ls p X L) Q) ∧ (∀ Q : List mV → mM → Prop, Q [.inl 1] (mem Ls pp Y' K) → m_Wp i_M_sumRead 25 0 0 [(0, .inr (.inr 98))] [] (mem Ls pp Y K) Q) ∧ TK X1 Y' N a' ∧ FE X1 Y' ∧ a ≤ a' ∧ X1 5 4 = 4 ∧ LR w X1 Y' fr s' s' [] [s' - 1] ∧ fr < s' ∧ LX w fr X X1 ∧ LY fr Y Y') := by
  intro t
  induction t with
  | zero => intro X Y a s c i W Hs _ h; omega
  | succ t ih =>
    intro X Y a s c i W Hs hS hm hi hi2
    have hT := hS.1
    have hK := hT.2.2.2.2.1
    have hN : N ≤ 700 := hT.1.2.2.1
    have haN := hT.2.1
    have h59 : X 5 4 = 4 ↔ (Y 98 8 = 4 ∧ Y 98 9 = 59) := by unfold KR at hK; omega
    have wi : wr ((i : Int) + 1) = ((i + 1 : Nat) : Int) := by rw [wr_of (by omega) (by omega)]; omega
    have hopn : X 4 3 = (nOp W : Int) ∧ Y 98 46 = (nOp W : Int) ∧ nOp W ≤ 8 := hS.2.2.1.2.1
    by_cases h44 : X 4 4 = 0
    · have h48 : Y 98 48 = 0 ∧ Hs.length = nBi W + 1 := by
        rcases hS.2.2.2 with h | h
        · omega
        · exact h.2
      by_cases hend : X 5 4 = 4 ∧ nOp W = 0
      · -- the end of E
        obtain ⟨X1, Y1, W1, s1, Hs1, u1, u2, u3, u4, u5, u6, u7, u8, u9⟩ := k_unp (Ls := Ls) (p := p) (pp := pp) (K := K) (L := L) (lev := 1) hw (by omega) hS.2.2.1 h48.2
        have hW1 : W1 = [] := by
          match W1, u3, u5, u7 with
          | [], _, _, _ => rfl
          | e :: r, u3, u5, u7 =>
            have he := pRel_open (u3.1.2.2.2.2 e (by simp)) u7
            rw [hend.2] at u5
            simp only [nOp, if_pos he.1] at u5
            omega
        subst hW1
        have hsum := u3.2.2.2.2
        simp only [nOp, List.length_nil] at hsum
        have hcs : c = s1 := by omega
        subst hcs
        match Hs1, u3, u4 with
        | [h], u3, _ =>
          obtain ⟨g1, g2⟩ := one_held u3.2.2.2.1
          subst g2
          have x5 : X1 5 = X 5 := u8.1 5 (by omega) (by omega) (by omega) (by omega)
          have c1 := u3.2.2.1.1
          refine Or.inr ⟨X1, Y1, a, c, fun Q h => T_LawReader_readsLaw_23 hw ⟨fun z => by omega, fun _ => ⟨fun z => absurd h44 z, fun _ => ⟨fun z => absurd (by omega) z, fun _ => ⟨fun z => absurd hend.1 z, fun _ => u1 _ (T_LawReader_readsLaw_62 hw ⟨hlaw, hlaw, ?_⟩)⟩⟩⟩⟩, fun Q h => T_M_sumRead_25 (r_isSign (fun _ => T_M_sumRead_31 ⟨fun z => by omega, fun _ => ⟨fun z => absurd h48.1 z, fun _ => ⟨fun _ => u2 _ (T_M_sumRead_79 ⟨Or.inr rfl, h⟩), fun z => absurd (by omega) z⟩⟩⟩) (fun z => absurd (h59.mp hend.1) z)), ?_, ?_, Nat.le_refl _, ?_, u3, g1, u8.lx, u9.ly⟩
          · rw [c1]; exact h
          · exact hT.congr x5 (u8.1 6 (by omega) (by omega) (by omega) (by omega)) (u8.1 7 (by omega) (by omega) (by omega) (by omega)) (fun k k1 k2 => u9.2.1 k (by omega) (by omega) (by omega)) (u9.1 99 (by omega) (by omega) (by omega) (by omega) (by omega)) (u9.1 100 (by omega) (by omega) (by omega) (by omega) (by omega))
          · have hF := hS.2.1
            unfold FE at *
            rw [u8.1 3 (by omega) (by omega) (by omega) (by omega), u9.2.1 4 (by omega) (by omega) (by omega), u9.2.1 5 (by omega) (by omega) (by omega)]; exact hF
          · rw [x5]; exact hend.1
      · -- a sign
        have cS : ∀ Q, m_Call i_LawReader_takesSign [.inr (.inr 4), .inr (.inr w)] (mem Ls p X L) (fun v M' => m_Wp i_LawReader_readsLaw 101 0 0 [(0, .inr (.inr 4)), (1, .inr (.inr w)), (2, .inl law), (3, .inl (fr : Int)), (4, .inl (i : Int))] (v ++ []) M' Q) → m_Wp i_LawReader_readsLaw 23 0 0 [(0, .inr (.inr 4)), (1, .inr (.inr w)), (2, .inl law), (3, .inl (fr : Int)), (4, .inl (i : Int))] [] (mem Ls p X L) Q := fun Q h =>
          T_LawReader_readsLaw_23 hw ⟨fun z => by omega, fun _ => ⟨fun z => absurd h44 z, fun _ => ⟨fun _ => ⟨fun _ => h, fun z => absurd h44 z⟩, fun z => ⟨fun _ => ⟨fun _ => h, fun z' => absurd h44 z'⟩, fun z' => absurd ⟨Classical.not_not.mp z', by omega⟩ hend⟩⟩⟩⟩
        have mS : ∀ Q, m_Call i_M_signs [.inr (.inr 98)] (mem Ls pp Y K) (fun v M' => m_Wp i_M_sumRead 69 0 0 [(0, .inr (.inr 98))] (v ++ []) M' Q) → m_Wp i_M_sumRead 25 0 0 [(0, .inr (.inr 98))] [] (mem Ls pp Y K) Q := fun Q h =>
          T_M_sumRead_25 (r_isSign (fun z => T_M_sumRead_31 ⟨fun _ => ⟨fun _ => h, fun z' => absurd h48.1 z'⟩, fun _ => ⟨fun z' => absurd h48.1 z', fun _ => ⟨fun z' => absurd ⟨h59.mpr z, by omega⟩ hend, fun _ => ⟨fun _ => h, fun z' => absurd h48.1 z'⟩⟩⟩⟩) (fun _ => T_M_sumRead_31 ⟨fun _ => ⟨fun _ => h, fun z' => absurd h48.1 z'⟩, fun z' => absurd rfl z'⟩))
        rcases k_sign (Ls := Ls) (p := p) (pp := pp) (K := K) (L := L) hw hS h44 with ⟨f, X1, Y', f0, r1, r2, r3, r4, r5, r6⟩ | ⟨X1, X', Y', a', s', c', W', Hs', r0, r1, r2, r3, r4, r5, r6, r7, r8⟩
        · exact Or.inl ⟨f, X1, Y', f0, fun Q h => cS Q (r1 _ (T_LawReader_readsLaw_101 hw ⟨fun z => absurd z f0, fun _ => h⟩)), fun Q h => mS Q (r2 _ (T_M_sumRead_69 ⟨fun z => absurd rfl z, fun _ => ⟨Or.inl rfl, h⟩⟩)), r3, r4, r5, r6⟩
        · have hi1 := hi2 r0
          have hle := r4.1
          have haN' := r5.1.2.1
          have nx : ∀ Q, m_Wp i_LawReader_readsLaw 23 0 0 [(0, .inr (.inr 4)), (1, .inr (.inr w)), (2, .inl law), (3, .inl (fr : Int)), (4, .inl ((i + 1 : Nat) : Int))] [] (mem Ls p X' L) Q → m_Wp i_LawReader_readsLaw 23 0 0 [(0, .inr (.inr 4)), (1, .inr (.inr w)), (2, .inl law), (3, .inl (fr : Int)), (4, .inl (i : Int))] [] (mem Ls p X L) Q := fun Q h => by
            refine cS Q (r1 _ (T_LawReader_readsLaw_101 hw ⟨fun _ => r2 _ (T_LawReader_readsLaw_118 hw ?_), fun z => absurd rfl z⟩))
            rw [wi]; exact h
          have ny : ∀ Q, m_Wp i_M_sumRead 25 0 0 [(0, .inr (.inr 98))] [] (mem Ls pp Y' K) Q → m_Wp i_M_sumRead 25 0 0 [(0, .inr (.inr 98))] [] (mem Ls pp Y K) Q := fun Q h => mS Q (r3 _ (T_M_sumRead_69 ⟨fun _ => h, fun z => absurd (by omega) z⟩))
          have hms : 2 * (N - a') + (if X' 5 4 = 0 then 0 else 1) < t := by
            rw [if_neg r0] at hm
            by_cases z : X' 5 4 = 0
            · rw [if_pos z]; omega
            · rw [if_neg z]; have := r4.2 z; omega
          rcases ih X' Y' a' s' c' (i + 1) W' Hs' r5 hms (by omega) (fun z => by have := r4.2 z; omega) with ⟨f, X2, Y2, f0, q1, q2, q3, q4, q5, q6⟩ | ⟨X2, Y2, a2, s2, q1, q2, q3, q4, q5, q6, q7, q8, q9, q10⟩
          · exact Or.inl ⟨f, X2, Y2, f0, fun Q h => nx Q (q1 Q h), fun Q h => ny Q (q2 Q h), q3, q4, r7.tr q5, r8.tr q6⟩
          · exact Or.inr ⟨X2, Y2, a2, s2, fun Q h => nx Q (q1 Q h), fun Q h => ny Q (q2 Q h), q3, q4, by omega, q6, q7, q8, r7.tr q9, r8.tr q10⟩
    · -- a value
      have h48 : Y 98 48 = 1 := by
        rcases hS.2.2.2 with h | h
        · exact h.2.1
        · exact absurd h.1 h44
      have cS : ∀ Q, m_Call i_LawReader_takesValue [.inr (.inr 4), .inr (.inr w)] (mem Ls p X L) (fun v M' => m_Wp i_LawReader_readsLaw 93 0 0 [(0, .inr (.inr 4)), (1, .inr (.inr w)), (2, .inl law), (3, .inl (fr : Int)), (4, .inl (i : Int))] (v ++ []) M' Q) → m_Wp i_LawReader_readsLaw 23 0 0 [(0, .inr (.inr 4)), (1, .inr (.inr w)), (2, .inl law), (3, .inl (fr : Int)), (4, .inl (i : Int))] [] (mem Ls p X L) Q := fun Q h =>
        T_LawReader_readsLaw_23 hw ⟨fun z => by omega, fun _ => ⟨fun _ => ⟨fun z => absurd z h44, fun _ => h⟩, fun z => absurd (Classical.not_not.mp z) h44⟩⟩
      have mS : ∀ Q, m_Call i_M_leafRead [.inr (.inr 98)] (mem Ls pp Y K) (fun v M' => m_Wp i_M_sumRead 59 0 0 [(0, .inr (.inr 98))] (v ++ []) M' Q) → m_Wp i_M_sumRead 25 0 0 [(0, .inr (.inr 98))] [] (mem Ls pp Y K) Q := fun Q h =>
        T_M_sumRead_25 (r_isSign (fun _ => T_M_sumRead_31 ⟨fun z => by omega, fun _ => ⟨fun _ => ⟨fun z => by omega, fun _ => h⟩, fun z => absurd (by omega) z⟩⟩) (fun _ => T_M_sumRead_31 ⟨fun _ => ⟨fun z => by omega, fun _ => h⟩, fun z => absurd rfl z⟩))
      rcases k_value (Ls := Ls) (p := p) (pp := pp) (K := K) (L := L) hw hS h44 with ⟨f, X1, Y', f0, r1, r2, r3, r4, r5, r6⟩ | ⟨X1, X', Y', a', s', c', W', Hs', r0, r1, r2, r3, r4, r5, r6, r7, r8⟩
      · exact Or.inl ⟨f, X1, Y', f0, fun Q h => cS Q (r1 _ (T_LawReader_readsLaw_93 hw ⟨fun z => absurd z f0, fun _ => h⟩)), fun Q h => mS Q (r2 _ (T_M_sumRead_59 ⟨fun _ => ⟨Or.inl rfl, h⟩, fun z => absurd rfl z⟩)), r3, r4, r5, r6⟩
      · have hi1 := hi2 r0
        have hle := r4.1
        have haN' := r5.1.2.1
        have nx : ∀ Q, m_Wp i_LawReader_readsLaw 23 0 0 [(0, .inr (.inr 4)), (1, .inr (.inr w)), (2, .inl law), (3, .inl (fr : Int)), (4, .inl ((i + 1 : Nat) : Int))] [] (mem Ls p X' L) Q → m_Wp i_LawReader_readsLaw 23 0 0 [(0, .inr (.inr 4)), (1, .inr (.inr w)), (2, .inl law), (3, .inl (fr : Int)), (4, .inl (i : Int))] [] (mem Ls p X L) Q := fun Q h => by
          refine cS Q (r1 _ (T_LawReader_readsLaw_93 hw ⟨fun _ => r2 _ (T_LawReader_readsLaw_118 hw ?_), fun z => absurd rfl z⟩))
          rw [wi]; exact h
        have ny : ∀ Q, m_Wp i_M_sumRead 25 0 0 [(0, .inr (.inr 98))] [] (mem Ls pp Y' K) Q → m_Wp i_M_sumRead 25 0 0 [(0, .inr (.inr 98))] [] (mem Ls pp Y K) Q := fun Q h => mS Q (r3 _ (T_M_sumRead_59 ⟨fun z => by omega, fun _ => h⟩))
        have hms : 2 * (N - a') + (if X' 5 4 = 0 then 0 else 1) < t := by
          rw [if_neg r0] at hm
          by_cases z : X' 5 4 = 0
          · rw [if_pos z]; omega
          · rw [if_neg z]; have := r4.2 z; omega
        rcases ih X' Y' a' s' c' (i + 1) W' Hs' r5 hms (by omega) (fun z => by have := r4.2 z; omega) with ⟨f, X2, Y2, f0, q1, q2, q3, q4, q5, q6⟩ | ⟨X2, Y2, a2, s2, q1, q2, q3, q4, q5, q6, q7, q8, q9, q10⟩
        · exact Or.inl ⟨f, X2, Y2, f0, fun Q h => nx Q (q1 Q h), fun Q h => ny Q (q2 Q h), q3, q4, r7.tr q5, r8.tr q6⟩
        · exact Or.inr ⟨X2, Y2, a2, s2, fun Q h => nx Q (q1 Q h), fun Q h => ny Q (q2 Q h), q3, q4, by omega, q6, q7, q8, r7.tr q9, r8.tr q10⟩
end K13
/-- the laws told so far -/
def LLr (w : Nat) (X Y : Nat → Nat → Int) : Prop := ∃ n : Nat, CNT w X Y n n ∧ (∀ i : Nat, i < n → X (w + 1) i = 2 → big (X (w + 2) i)) ∧ ∀ law : Nat, law < 3 → (Y 115 (3 + law) = 0 ∧ X (w + 3) law = 0 ∧ X (w + 4) law = 0) ∨ (Y 115 (3 + law) = 1 ∧ ∃ fr to : Nat, X (w + 3) law = (fr : Int) ∧ X (w + 4) law = (to : Int) ∧ Y 116 (3 + law) = (fr : Int) ∧ Y 117 (3 + law) = (to : Int) ∧ to ≤ n ∧ LawH (X (w + 1)) (X (w + 2)) (KN Y 118) (KN Y 119) (KN Y 120) fr to)
theorem LawH.congr {st st' nu nu' kn kn' pa pa' ot ot' : Nat → Int} {fr to : Nat} (h : LawH st nu kn pa ot fr to) (g : ∀ i, i < to → st' i = st i ∧ nu' i = nu i ∧ kn' i = kn i ∧ pa' i = pa i ∧ ot' i = ot i) : LawH st' nu' kn' pa' ot' fr to := by
  obtain ⟨h1, h2, h3, H, h4, h5, h6⟩ := h
  refine ⟨h1, h2, fun i i1 i2 => ?_, H, h4, fun i i1 i2 => ?_, h6⟩
  · have := h3 i i1 i2
    obtain ⟨g1, g2, g3, g4, g5⟩ := g i i2
    unfold kRel at *
    rw [g1, g2, g3, g4]; exact this
  · have := h5 i i1 i2
    obtain ⟨g1, g2, g3, g4, g5⟩ := g i i2
    unfold hSt at *
    rw [g3, g4, g5]; exact this
def WX (w : Nat) (X X' : Nat → Nat → Int) : Prop := (∀ a, a ≠ 3 → a ≠ 4 → a ≠ 5 → a ≠ 8 → ¬ (w ≤ a ∧ a ≤ w + 4) → X' a = X a) ∧ (∀ k, k ≠ 4 → k ≠ 5 → k ≠ 6 → X' 3 k = X 3 k)
def WY (Y Y' : Nat → Nat → Int) : Prop := (∀ a, a ≠ 98 → ¬ (115 ≤ a ∧ a ≤ 122) → Y' a = Y a) ∧ (∀ k, k ≠ 4 → k ≠ 5 → k ≠ 21 → (k < 7 ∨ 11 < k) → ¬ (44 ≤ k ∧ k ≤ 49) → Y' 98 k = Y 98 k) ∧ (∀ a k, 115 ≤ a → a ≤ 120 → k < half a → Y' a k = Y a k)
theorem WX.tr {w : Nat} {X X1 X2 : Nat → Nat → Int} (h : WX w X X1) (g : WX w X1 X2) : WX w X X2 := ⟨fun a h1 h2 h3 h4 h5 => by rw [g.1 a h1 h2 h3 h4 h5, h.1 a h1 h2 h3 h4 h5], fun k h1 h2 h3 => by rw [g.2 k h1 h2 h3, h.2 k h1 h2 h3]⟩
theorem WY.tr {Y Y1 Y2 : Nat → Nat → Int} (h : WY Y Y1) (g : WY Y1 Y2) : WY Y Y2 := ⟨fun a h1 h2 => by rw [g.1 a h1 h2, h.1 a h1 h2], fun k h1 h2 h3 h4 h5 => by rw [g.2.1 k h1 h2 h3 h4 h5, h.2.1 k h1 h2 h3 h4 h5], fun a k h1 h2 h3 => by rw [g.2.2 a k h1 h2 h3, h.2.2 a k h1 h2 h3]⟩
theorem SX.wx {w : Nat} {X X1 : Nat → Nat → Int} (h : SX X X1) : WX w X X1 := ⟨fun a h1 _ h3 _ _ => h.1 a h1 h3, h.2⟩
theorem SY.wy {Y Y1 : Nat → Nat → Int} (h : SY Y Y1) : WY Y Y1 := ⟨fun a h1 _ => h.1 a h1, fun k h1 h2 _ h4 _ => h.2 k h1 h2 h4, fun a k h1 _ _ => by rw [h.1 a (by omega)]⟩
theorem LX.wx {w fr : Nat} (hw : w = 22 ∨ w = 81) {X X1 : Nat → Nat → Int} (h : LX w fr X X1) : WX w X X1 := ⟨fun a _ h2 h3 h4 h5 => h.1 a h2 h3 h4 (by omega) (by omega) (by omega), fun k _ _ _ => by rw [h.1 3 (by omega) (by omega) (by omega) (by omega) (by omega) (by omega)]⟩
theorem LY.wy {fr : Nat} {Y Y1 : Nat → Nat → Int} (h : LY fr Y Y1) : WY Y Y1 := ⟨fun a h1 h2 => h.1 a h1 (by omega), h.2.1, fun a k h1 h2 h3 => by
  by_cases e : a = 118 ∨ a = 119 ∨ a = 120
  · refine h.2.2 a k e ?_
    have : half a = 64 := by rcases e with rfl | rfl | rfl <;> rfl
    omega
  · rw [h.1 a (by omega) (by omega)]⟩
