/-! ===== phase 2: an E: a value: both in step ===== -/
section K11
variable {Ls p pp w kc ks : Nat} {K L X Y : Nat → Nat → Int}
/-- a number or a name: the class's step and the reference's knot -/
def lfX (w : Nat) (X : Nat → Nat → Int) (s c : Nat) (k n : Int) : Nat → Nat → Int := mup (mup (mup (mup (mup X w 6 ((c + 1 : Nat) : Int)) (w + 1) s k) (w + 2) s n) w 5 ((s + 1 : Nat) : Int)) 4 4 0
def lfY (Y : Nat → Nat → Int) (s c h : Nat) (k n : Int) : Nat → Nat → Int := mup (mup (mup (mup (mup (mup (mup (mup Y 98 47 ((c + 1 : Nat) : Int)) 118 (64 + s) k) 119 (64 + s) n) 120 (64 + s) 0) 122 h (s : Int)) 98 45 ((h + 1 : Nat) : Int)) 98 21 ((s + 1 : Nat) : Int)) 98 48 0
theorem k_leaf {N a fr s c : Nat} {W : List (Int × Int)} {Hs : List Nat} {k n m v : Int} (hw : w = 22 ∨ w = 81) (hT : TK X Y N a) (hF : FE X Y) (hL : LR w X Y fr s c W Hs) (hl : Hs.length = nBi W) (hc : c < 64) (h0 : X 5 4 ≠ 0) (hr : (k = 2 ∧ m = 0 ∧ v = n ∧ big n) ∨ (30 ≤ k ∧ k < 37 ∧ m = 1 ∧ v = k - 30))
    (cC : RN Ls p L i_LawReader_takesValue [.inr (.inr 4), .inr (.inr w)] X [.inl 0] (lfX w X s c k n)) (mC : ∀ Y', RN Ls pp K i_M_token [.inr (.inr 98)] (lfY Y s c Hs.length m v) [] Y' → RN Ls pp K i_M_leafRead [.inr (.inr 98)] Y [.inl 1] Y') : OUT Ls p pp L K w i_LawReader_takesValue i_M_leafRead X Y N a fr s := by
  obtain ⟨hP, hO, ⟨c1, c2, c3, c4, c5⟩, hH, hsum⟩ := hL
  have hop := nOp_le W
  have xo : ∀ b, b ≠ 4 → b ≠ w → b ≠ w + 1 → b ≠ w + 2 → lfX w X s c k n b = X b := fun b b1 b2 b3 b4 => by
    unfold lfX; rw [mup_other b1, mup_other b2, mup_other b4, mup_other b3, mup_other b2]
  have x4 : ∀ j, j ≠ 4 → lfX w X s c k n 4 j = X 4 j := fun j hj => by
    unfold lfX; rw [mup_ne (by omega), mup_ne (by omega), mup_ne (by omega), mup_ne (by omega), mup_ne (by omega)]
  have x44 : lfX w X s c k n 4 4 = 0 := by unfold lfX; rw [mup_eq rfl rfl]
  have xw5 : lfX w X s c k n w 5 = ((s + 1 : Nat) : Int) := by unfold lfX; rw [mup_ne (by omega), mup_eq rfl rfl]
  have xw6 : lfX w X s c k n w 6 = ((c + 1 : Nat) : Int) := by unfold lfX; rw [mup_ne (by omega), mup_ne (by omega), mup_ne (by omega), mup_ne (by omega), mup_eq rfl rfl]
  have xa : ∀ i, lfX w X s c k n (w + 1) i = if i = s then k else X (w + 1) i := fun i => by
    unfold lfX
    by_cases hi : i = s
    · rw [mup_ne (by omega), mup_ne (by omega), mup_ne (by omega), mup_eq rfl hi, if_pos hi]
    · rw [mup_ne (by omega), mup_ne (by omega), mup_ne (by omega), mup_ne (by omega), mup_ne (by omega), if_neg hi]
  have xb : ∀ i, lfX w X s c k n (w + 2) i = if i = s then n else X (w + 2) i := fun i => by
    unfold lfX
    by_cases hi : i = s
    · rw [mup_ne (by omega), mup_ne (by omega), mup_eq rfl hi, if_pos hi]
    · rw [mup_ne (by omega), mup_ne (by omega), mup_ne (by omega), mup_ne (by omega), mup_ne (by omega), if_neg hi]
  have yo : ∀ b, b ≠ 98 → b ≠ 118 → b ≠ 119 → b ≠ 120 → b ≠ 122 → lfY Y s c Hs.length m v b = Y b := fun b b1 b2 b3 b4 b5 => by
    unfold lfY; rw [mup_other b1, mup_other b1, mup_other b1, mup_other b5, mup_other b4, mup_other b3, mup_other b2, mup_other b1]
  have yk : ∀ j, j ≠ 47 → j ≠ 45 → j ≠ 21 → j ≠ 48 → lfY Y s c Hs.length m v 98 j = Y 98 j := fun j j1 j2 j3 j4 => by
    unfold lfY; rw [mup_ne (by omega), mup_ne (by omega), mup_ne (by omega), mup_ne (by omega), mup_ne (by omega), mup_ne (by omega), mup_ne (by omega), mup_ne (by omega)]
  have y48 : lfY Y s c Hs.length m v 98 48 = 0 := by unfold lfY; rw [mup_eq rfl rfl]
  have y21 : lfY Y s c Hs.length m v 98 21 = ((s + 1 : Nat) : Int) := by unfold lfY; rw [mup_ne (by omega), mup_eq rfl rfl]
  have y45 : lfY Y s c Hs.length m v 98 45 = ((Hs.length + 1 : Nat) : Int) := by unfold lfY; rw [mup_ne (by omega), mup_ne (by omega), mup_eq rfl rfl]
  have y47 : lfY Y s c Hs.length m v 98 47 = ((c + 1 : Nat) : Int) := by unfold lfY; rw [mup_ne (by omega), mup_ne (by omega), mup_ne (by omega), mup_ne (by omega), mup_ne (by omega), mup_ne (by omega), mup_ne (by omega), mup_eq rfl rfl]
  have y118 : ∀ i, KN (lfY Y s c Hs.length m v) 118 i = if i = s then m else KN Y 118 i := fun i => by
    unfold KN lfY
    by_cases hi : i = s
    · rw [mup_ne (by omega), mup_ne (by omega), mup_ne (by omega), mup_ne (by omega), mup_ne (by omega), mup_ne (by omega), mup_eq rfl (by omega), if_pos hi]
    · rw [mup_ne (by omega), mup_ne (by omega), mup_ne (by omega), mup_ne (by omega), mup_ne (by omega), mup_ne (by omega), mup_ne (by omega), mup_ne (by omega), if_neg hi]
  have y119 : ∀ i, KN (lfY Y s c Hs.length m v) 119 i = if i = s then v else KN Y 119 i := fun i => by
    unfold KN lfY
    by_cases hi : i = s
    · rw [mup_ne (by omega), mup_ne (by omega), mup_ne (by omega), mup_ne (by omega), mup_ne (by omega), mup_eq rfl (by omega), if_pos hi]
    · rw [mup_ne (by omega), mup_ne (by omega), mup_ne (by omega), mup_ne (by omega), mup_ne (by omega), mup_ne (by omega), mup_ne (by omega), mup_ne (by omega), if_neg hi]
  have y120 : ∀ i, i ≠ s → KN (lfY Y s c Hs.length m v) 120 i = KN Y 120 i := fun i hi => by
    unfold KN lfY
    rw [mup_ne (by omega), mup_ne (by omega), mup_ne (by omega), mup_ne (by omega), mup_ne (by omega), mup_ne (by omega), mup_ne (by omega), mup_ne (by omega)]
  have y122 : ∀ j, lfY Y s c Hs.length m v 122 j = if j = Hs.length then (s : Int) else Y 122 j := fun j => by
    unfold lfY
    by_cases hj : j = Hs.length
    · rw [mup_ne (by omega), mup_ne (by omega), mup_ne (by omega), mup_eq rfl hj, if_pos hj]
    · rw [mup_ne (by omega), mup_ne (by omega), mup_ne (by omega), mup_ne (by omega), mup_ne (by omega), mup_ne (by omega), mup_ne (by omega), mup_ne (by omega), if_neg hj]
  have yr : ∀ b i, b = 118 ∨ b = 119 ∨ b = 120 → i < 64 + s → lfY Y s c Hs.length m v b i = Y b i := fun b i b1 hi => by
    unfold lfY
    rw [mup_ne (by omega), mup_ne (by omega), mup_ne (by omega), mup_ne (by omega), mup_ne (by omega), mup_ne (by omega), mup_ne (by omega), mup_ne (by omega)]
  have hfr := hH.2.2.1
  have hH1 : HLD w (lfX w X s c k n) (lfY Y s c Hs.length m v) fr (s + 1) (s :: Hs) := by
    refine hH.push (fun i hi => ⟨by rw [xa, if_neg (by omega)], by rw [xb, if_neg (by omega)]⟩) (fun i hi => ⟨by rw [y118, if_neg (by omega)], by rw [y119, if_neg (by omega)], y120 i (by omega)⟩) ?_ (fun z => ?_) ?_ y45 ?_
    · unfold kRel
      rw [xa, if_pos rfl, xb, if_pos rfl, y118, if_pos rfl, y119, if_pos rfl]
      rcases hr with h | h
      · exact Or.inl ⟨h.1, h.2.1, h.2.2.1⟩
      · exact Or.inr (Or.inl ⟨h.1, h.2.1, h.2.2.1, h.2.2.2⟩)
    · rw [xa, if_pos rfl] at z
      rw [xb, if_pos rfl]
      rcases hr with h | h
      · exact h.2.2.2
      · omega
    · unfold hSt
      rw [y118, if_pos rfl]
      exact Or.inl ⟨by omega, rfl⟩
    · refine ⟨?_, stk_congr (fun j hj => ?_) hH.2.1⟩
      · rw [List.length_map, y122, if_pos rfl]
      · rw [List.length_map] at hj
        rw [y122, if_neg (by omega)]
  refine o_next (X1 := lfX w X s c k n) (Y1 := lfY Y s c Hs.length m v) (s' := s + 1) (c' := c + 1) (W' := W) (Hs' := s :: Hs) hw hT hF h0 cC mC (xo 3 (by omega) (by omega) (by omega) (by omega)) (xo 5 (by omega) (by omega) (by omega) (by omega)) (xo 6 (by omega) (by omega) (by omega) (by omega)) (xo 7 (by omega) (by omega) (by omega) (by omega)) (fun j j1 j2 => yk j (by omega) (by omega) (by omega) (by omega)) (yo 99 (by omega) (by omega) (by omega) (by omega) (by omega)) (yo 100 (by omega) (by omega) (by omega) (by omega) (by omega)) ⟨?_, ?_, ⟨xw5, y21, xw6, y47, by omega⟩, hH1, by omega⟩ (Or.inr ⟨x44, y48, by simp only [List.length_cons]; omega⟩) (by omega) ⟨fun b b1 _ _ b4 b5 b6 => xo b b1 b4 b5 b6, fun i hi => ⟨by rw [xa, if_neg (by omega)], by rw [xb, if_neg (by omega)]⟩⟩ ⟨fun b b1 b2 => yo b b1 (by omega) (by omega) (by omega) (by omega), fun j _ _ j3 _ j5 => yk j (by omega) (by omega) (by omega) (by omega), fun b i b1 b2 => yr b i b1 (by omega)⟩
  · unfold PI at *
    rw [x4 2 (by omega), xo 8 (by omega) (by omega) (by omega) (by omega), yk 44 (by omega) (by omega) (by omega) (by omega), yo 121 (by omega) (by omega) (by omega) (by omega) (by omega)]; exact hP
  · unfold OPN at *
    rw [x4 3 (by omega), yk 46 (by omega) (by omega) (by omega) (by omega)]; exact hO
set_option maxHeartbeats 4000000 in
theorem k_value {N a fr s c : Nat} {W : List (Int × Int)} {Hs : List Nat} (hw : w = 22 ∨ w = 81) (hS : LSt w X Y N a fr s c W Hs) (h44 : X 4 4 ≠ 0) : OUT Ls p pp L K w i_LawReader_takesValue i_M_leafRead X Y N a fr s := by
  obtain ⟨hT, hF, hL, hst⟩ := hS
  have hL' := hL
  obtain ⟨hP, ⟨o1, o2, o3⟩, ⟨c1, c2, c3, c4, c5⟩, hH, hsum⟩ := hL'
  obtain ⟨w1, w2, w3, w4⟩ : X 4 4 = 1 ∧ Y 98 48 = 1 ∧ Hs.length = nBi W ∧ (Y 98 49 ≠ 0 ↔ tl W ≤ 3) := by
    rcases hst with h | h
    · exact h
    · exact absurd h.1 h44
  have hop := nOp_le W
  have hpl := hT.2.2.2.2.2
  have hK := hT.2.2.2.2.1
  have p1 := hP.1
  have p2 := hP.2.1
  -- the reference up to a name or a number
  have m1 : ∀ Q, ¬ (Y 98 8 = 4 ∧ Y 98 9 = 40) → m_Call i_M_isKey [.inr (.inr 98), .inl 12] (mem Ls pp Y K) (fun v M' => m_Wp i_M_leafRead 56 0 0 [(0, .inr (.inr 98))] (v ++ []) M' Q) → m_Call i_M_leafRead [.inr (.inr 98)] (mem Ls pp Y K) Q := fun Q hn h =>
    E_M_leafRead (r_isSign (fun z => absurd z hn) (fun _ => T_M_leafRead_6 ⟨fun _ => h, fun z => absurd rfl z⟩))
  have m2 : ∀ Q, ¬ (Y 98 8 = 4 ∧ Y 98 9 = 40) → ¬ (Y 98 8 = 1 ∧ Y 98 9 = 12 ∧ Y 98 49 ≠ 0) → m_Call i_M_nameMet [.inr (.inr 98)] (mem Ls pp Y K) (fun v M' => m_Wp i_M_leafRead 90 0 0 [(0, .inr (.inr 98))] (v ++ []) M' Q) → m_Call i_M_leafRead [.inr (.inr 98)] (mem Ls pp Y K) Q := fun Q hn hn2 h =>
    m1 Q hn (r_isKey (fun z => T_M_leafRead_56 ⟨fun _ => h, fun _ => ⟨fun _ => h, fun z' => absurd ⟨z.1, z.2, z'⟩ hn2⟩⟩) (fun _ => T_M_leafRead_56 ⟨fun _ => h, fun z => absurd rfl z⟩))
  -- a fault 1 of the reference
  have m3 : ¬ (Y 98 8 = 4 ∧ Y 98 9 = 40) → ¬ (Y 98 8 = 1 ∧ Y 98 9 = 12 ∧ Y 98 49 ≠ 0) → ¬ Y 98 8 = 3 → ¬ (Y 98 8 = 1 ∧ 13 ≤ Y 98 9) → RN Ls pp K i_M_leafRead [.inr (.inr 98)] Y [.inl 0] (mup (mup Y 98 4 1) 98 5 (Y 98 10)) := fun hn hn2 hn3 hn4 Q h => by
    have f90 : m_Wp i_M_leafRead 90 0 0 [(0, .inr (.inr 98))] [.inl (-1)] (mem Ls pp Y K) Q := T_M_leafRead_90 ⟨fun z => by omega, fun _ => ⟨fun z => absurd z hn3, fun _ => E_M_wrong ⟨Or.inl rfl, T_M_leafRead_108 ⟨Or.inl rfl, h⟩⟩⟩⟩
    exact m2 Q hn hn2 (E_M_nameMet ⟨fun _ => f90, fun z => ⟨fun _ => f90, fun z' => absurd ⟨Classical.not_not.mp z, by omega⟩ hn4⟩⟩)
  by_cases k5 : X 5 4 = 5
  · -- '('
    have hy : Y 98 8 = 4 ∧ Y 98 9 = 40 := by unfold KR at hK; omega
    by_cases h8 : nOp W = 8
    · refine o_fault (f := 2) (X1 := X) (Y1 := Y) (by omega) (fun Q h => E_LawReader_takesValue hw ⟨fun z => absurd k5 z, fun _ => ⟨fun z => by omega, fun _ => h⟩⟩) (fun Q h => E_M_leafRead (r_isSign (fun _ => T_M_leafRead_6 ⟨fun z => by omega, fun _ => ⟨fun z => absurd (by omega) z, fun _ => E_M_wrong ⟨Or.inl rfl, T_M_leafRead_23 ⟨Or.inl rfl, h⟩⟩⟩⟩) (fun z => absurd hy z))) hpl.symm LX.rfl' LY.rfl'
    · have wn : wr ((nOp W : Int) + 1) = ((nOp W + 1 : Nat) : Int) := by rw [wr_of (by omega) (by omega)]; omega
      refine o_next (X1 := mup (mup (mup X 4 3 ((nOp W + 1 : Nat) : Int)) 8 W.length 5) 4 2 ((W.length + 1 : Nat) : Int)) (Y1 := mup (mup (mup (mup Y 98 46 ((nOp W + 1 : Nat) : Int)) 121 W.length 0) 98 44 ((W.length + 1 : Nat) : Int)) 98 49 1) (s' := s) (c' := c) (W' := (5, 0) :: W) (Hs' := Hs) hw hT hF (by omega) (fun Q h => ?_) (fun Y' r Q h => ?_) ?_ ?_ ?_ ?_ (fun k k1 k2 => ?_) ?_ ?_ ⟨hP.push (Or.inl ⟨rfl, rfl⟩) ?_ ?_ (fun j hj => ?_) ?_ (fun j hj => ?_) ?_, ⟨?_, ?_, ?_⟩, ⟨?_, ?_, ?_, ?_, c5⟩, hH.congr ?_ ?_ ?_ ?_ ?_ ?_ ?_, ?_⟩ (Or.inl ⟨?_, ?_, ?_, ?_⟩) (Nat.le_refl _) ⟨fun b b1 b2 b3 b4 b5 b6 => ?_, fun i _ => ⟨?_, ?_⟩⟩ ⟨fun b b1 b2 => ?_, fun k k1 k2 k3 k4 k5 => ?_, fun b i b1 b2 => ?_⟩
      · refine E_LawReader_takesValue hw ⟨fun z => absurd k5 z, fun _ => ⟨fun _ => ?_, fun z => by omega⟩⟩
        rw [o1, wn]
        exact q_pileUp (n := W.length) (by rw [mup_ne (by omega)]; exact p1) (by omega) (T_LawReader_takesValue_39 hw h)
      · refine E_M_leafRead (r_isSign (fun _ => T_M_leafRead_6 ⟨fun z => by omega, fun _ => ⟨fun _ => ?_, fun z => absurd (by omega) z⟩⟩) (fun z => absurd hy z))
        rw [o2, wn]
        exact r_waitsFor (n := W.length) (by rw [mup_ne (by omega)]; exact p2) (by omega) (T_M_leafRead_39 ⟨Or.inr rfl, r _ (T_M_leafRead_48 ⟨Or.inr rfl, h⟩)⟩)
      · rw [mup_other (by omega), mup_other (by omega), mup_other (by omega)]
      · rw [mup_other (by omega), mup_other (by omega), mup_other (by omega)]
      · rw [mup_other (by omega), mup_other (by omega), mup_other (by omega)]
      · rw [mup_other (by omega), mup_other (by omega), mup_other (by omega)]
      · rw [mup_ne (by omega), mup_ne (by omega), mup_ne (by omega), mup_ne (by omega)]
      · rw [mup_other (by omega), mup_other (by omega), mup_other (by omega), mup_other (by omega)]
      · rw [mup_other (by omega), mup_other (by omega), mup_other (by omega), mup_other (by omega)]
      · rw [mup_eq rfl rfl]
      · rw [mup_ne (by omega), mup_eq rfl rfl]
      · rw [mup_ne (by omega), mup_ne (by omega), mup_ne (by omega)]
      · rw [mup_ne (by omega), mup_eq rfl rfl]
      · rw [mup_ne (by omega), mup_ne (by omega), mup_ne (by omega), mup_ne (by omega)]
      · rw [mup_ne (by omega), mup_ne (by omega), mup_eq rfl rfl]
      · rw [mup_ne (by omega), mup_ne (by omega), mup_eq rfl rfl]; simp only [nOp, if_true]; omega
      · rw [mup_ne (by omega), mup_ne (by omega), mup_ne (by omega), mup_eq rfl rfl]; simp only [nOp, if_true]; omega
      · simp only [nOp, if_true]; omega
      · rw [mup_ne (by omega), mup_ne (by omega), mup_ne (by omega)]; exact c1
      · rw [mup_ne (by omega), mup_ne (by omega), mup_ne (by omega), mup_ne (by omega)]; exact c2
      · rw [mup_ne (by omega), mup_ne (by omega), mup_ne (by omega)]; exact c3
      · rw [mup_ne (by omega), mup_ne (by omega), mup_ne (by omega), mup_ne (by omega)]; exact c4
      · rw [mup_other (by omega), mup_other (by omega), mup_other (by omega)]
      · rw [mup_other (by omega), mup_other (by omega), mup_other (by omega)]
      · rw [mup_other (by omega), mup_other (by omega), mup_other (by omega), mup_other (by omega)]
      · rw [mup_other (by omega), mup_other (by omega), mup_other (by omega), mup_other (by omega)]
      · rw [mup_other (by omega), mup_other (by omega), mup_other (by omega), mup_other (by omega)]
      · rw [mup_other (by omega), mup_other (by omega), mup_other (by omega), mup_other (by omega)]
      · rw [mup_ne (by omega), mup_ne (by omega), mup_ne (by omega), mup_ne (by omega)]
      · simp only [nOp, List.length_cons, if_true]; omega
      · rw [mup_ne (by omega), mup_ne (by omega), mup_ne (by omega)]; exact w1
      · rw [mup_ne (by omega), mup_ne (by omega), mup_ne (by omega), mup_ne (by omega)]; exact w2
      · simp only [nBi, true_or, if_true]; omega
      · rw [mup_eq rfl rfl]; exact ⟨fun _ => (by show (0 : Int) ≤ 3; omega), fun _ => by omega⟩
      · rw [mup_other b1, mup_other b3, mup_other b1]
      · rw [mup_other (by omega), mup_other (by omega), mup_other (by omega)]
      · rw [mup_other (by omega), mup_other (by omega), mup_other (by omega)]
      · rw [mup_other b1, mup_other b1, mup_other (by omega), mup_other b1]
      · rw [mup_ne (by omega), mup_ne (by omega), mup_ne (by omega), mup_ne (by omega)]
      · rw [mup_ne (by omega), mup_ne (by omega), mup_ne (by omega), mup_ne (by omega)]
  have hn40 : ¬ (Y 98 8 = 4 ∧ Y 98 9 = 40) := by unfold KR at hK; omega
  by_cases k29 : X 5 4 = 29
  · -- not
    have hy : Y 98 8 = 1 ∧ Y 98 9 = 12 := by
      unfold KR at hK
      rw [k29] at hK
      simp at hK
      omega
    have cT : ∀ Q, m_Wp i_LawReader_takesValue 51 0 0 [(0, .inr (.inr 4)), (1, .inr (.inr w)), (2, .inl (X 5 4))] [.inl (tl W)] (mem Ls p X L) Q → m_Call i_LawReader_takesValue [.inr (.inr 4), .inr (.inr w)] (mem Ls p X L) Q := fun Q h => E_LawReader_takesValue hw ⟨fun _ => ⟨fun z => absurd k29 z, fun _ => q_topLevel hP (by omega) h⟩, fun z => absurd (Classical.not_not.mp z) k5⟩
    by_cases ht : tl W ≤ 3
    · have h49 := w4.mpr ht
      have mT : ∀ Q, m_Call i_M_isCounted [.inr (.inr 98)] (mem Ls pp Y K) (fun v M' => m_Wp i_M_leafRead 70 0 0 [(0, .inr (.inr 98))] (v ++ []) M' Q) → m_Call i_M_leafRead [.inr (.inr 98)] (mem Ls pp Y K) Q := fun Q h => m1 Q hn40 (r_isKey (fun _ => T_M_leafRead_56 ⟨fun z => by omega, fun _ => ⟨fun z => absurd z h49, fun _ => h⟩⟩) (fun z => absurd hy z))
      by_cases h64 : c = 64
      · subst h64
        exact o_fault (f := 2) (X1 := X) (Y1 := Y) (by omega) (fun Q h => cT Q (T_LawReader_takesValue_51 hw ⟨fun _ => q_pilesKnot2 hw c3 (T_LawReader_takesValue_66 hw h), fun z => absurd ht z⟩)) (fun Q h => mT Q (r_isCounted2 c4 (T_M_leafRead_70 ⟨fun z => absurd rfl z, fun _ => ⟨Or.inl rfl, h⟩⟩))) hpl.symm LX.rfl' LY.rfl'
      · refine o_next (X1 := mup (mup (mup X w 6 ((c + 1 : Nat) : Int)) 8 W.length 29) 4 2 ((W.length + 1 : Nat) : Int)) (Y1 := mup (mup (mup Y 98 47 ((c + 1 : Nat) : Int)) 121 W.length 2) 98 44 ((W.length + 1 : Nat) : Int)) (s' := s) (c' := c + 1) (W' := (29, 2) :: W) (Hs' := Hs) hw hT hF (by omega) (fun Q h => ?_) (fun Y' r Q h => ?_) ?_ ?_ ?_ ?_ (fun k k1 k2 => ?_) ?_ ?_ ⟨hP.push (Or.inr (Or.inl ⟨rfl, rfl⟩)) ?_ ?_ (fun j hj => ?_) ?_ (fun j hj => ?_) ?_, ⟨?_, ?_, ?_⟩, ⟨?_, ?_, ?_, ?_, by omega⟩, hH.congr ?_ ?_ ?_ ?_ ?_ ?_ ?_, ?_⟩ (Or.inl ⟨?_, ?_, ?_, ?_⟩) (Nat.le_refl _) ⟨fun b b1 b2 b3 b4 b5 b6 => ?_, fun i _ => ⟨?_, ?_⟩⟩ ⟨fun b b1 b2 => ?_, fun k k1 k2 k3 k4 k5 => ?_, fun b i b1 b2 => ?_⟩
        · exact cT Q (T_LawReader_takesValue_51 hw ⟨fun _ => q_pilesKnot hw p1 (by omega) c3 (by omega) (T_LawReader_takesValue_66 hw h), fun z => absurd ht z⟩)
        · exact mT Q (r_isCounted c4 (by omega) (T_M_leafRead_70 ⟨fun _ => r_waitsFor (n := W.length) (by rw [mup_ne (by omega)]; exact p2) (by omega) (T_M_leafRead_80 (r _ (T_M_leafRead_84 ⟨Or.inr rfl, h⟩))), fun z => absurd (by omega) z⟩))
        · rw [mup_other (by omega), mup_other (by omega), mup_other (by omega)]
        · rw [mup_other (by omega), mup_other (by omega), mup_other (by omega)]
        · rw [mup_other (by omega), mup_other (by omega), mup_other (by omega)]
        · rw [mup_other (by omega), mup_other (by omega), mup_other (by omega)]
        · rw [mup_ne (by omega), mup_ne (by omega), mup_ne (by omega)]
        · rw [mup_other (by omega), mup_other (by omega), mup_other (by omega)]
        · rw [mup_other (by omega), mup_other (by omega), mup_other (by omega)]
        · rw [mup_eq rfl rfl]
        · rw [mup_eq rfl rfl]
        · rw [mup_ne (by omega), mup_ne (by omega), mup_ne (by omega)]
        · rw [mup_ne (by omega), mup_eq rfl rfl]
        · rw [mup_ne (by omega), mup_ne (by omega), mup_ne (by omega)]
        · rw [mup_ne (by omega), mup_eq rfl rfl]
        · rw [mup_ne (by omega), mup_ne (by omega), mup_ne (by omega), o1]; simp [nOp]
        · rw [mup_ne (by omega), mup_ne (by omega), mup_ne (by omega), o2]; simp [nOp]
        · simp [nOp]; omega
        · rw [mup_ne (by omega), mup_ne (by omega), mup_ne (by omega)]; exact c1
        · rw [mup_ne (by omega), mup_ne (by omega), mup_ne (by omega)]; exact c2
        · rw [mup_ne (by omega), mup_ne (by omega), mup_eq rfl rfl]
        · rw [mup_ne (by omega), mup_ne (by omega), mup_eq rfl rfl]
        · rw [mup_other (by omega), mup_other (by omega), mup_other (by omega)]
        · rw [mup_other (by omega), mup_other (by omega), mup_other (by omega)]
        · rw [mup_other (by omega), mup_other (by omega), mup_other (by omega)]
        · rw [mup_other (by omega), mup_other (by omega), mup_other (by omega)]
        · rw [mup_other (by omega), mup_other (by omega), mup_other (by omega)]
        · rw [mup_other (by omega), mup_other (by omega), mup_other (by omega)]
        · rw [mup_ne (by omega), mup_ne (by omega), mup_ne (by omega)]
        · simp [nOp]; omega
        · rw [mup_ne (by omega), mup_ne (by omega), mup_ne (by omega)]; exact w1
        · rw [mup_ne (by omega), mup_ne (by omega), mup_ne (by omega)]; exact w2
        · simp [nBi]; omega
        · rw [mup_ne (by omega), mup_ne (by omega), mup_ne (by omega)]; exact ⟨fun _ => (by show lvl 29 ≤ 3; decide), fun _ => h49⟩
        · rw [mup_other b1, mup_other b3, mup_other b4]
        · rw [mup_other (by omega), mup_other (by omega), mup_other (by omega)]
        · rw [mup_other (by omega), mup_other (by omega), mup_other (by omega)]
        · rw [mup_other b1, mup_other (by omega), mup_other b1]
        · rw [mup_ne (by omega), mup_ne (by omega), mup_ne (by omega)]
        · rw [mup_ne (by omega), mup_ne (by omega), mup_ne (by omega)]
    · exact o_fault (f := 1) (X1 := X) (Y1 := Y) (by omega) (fun Q h => cT Q (T_LawReader_takesValue_51 hw ⟨fun z => absurd z ht, fun _ => h⟩)) (m3 hn40 (fun z => ht (w4.mp z.2.2)) (by omega) (by omega)) hpl.symm LX.rfl' LY.rfl'
  have hn12 : ¬ (Y 98 8 = 1 ∧ Y 98 9 = 12) := by
    unfold KR at hK
    rcases hK with h | h | h | h | h | h | ⟨h1, h2, h3, h4⟩
    · omega
    · omega
    · omega
    · omega
    · omega
    · omega
    · intro z
      rw [z.2] at h4
      split at h4
      · omega
      · split at h4 <;> omega
  have hn12' : ¬ (Y 98 8 = 1 ∧ Y 98 9 = 12 ∧ Y 98 49 ≠ 0) := fun z => hn12 ⟨z.1, z.2.1⟩
  have ws : wr ((c : Int) + 1) = ((c + 1 : Nat) : Int) := by rw [wr_of (by omega) (by omega)]; omega
  have hHl := hH.1
  by_cases k2 : X 5 4 = 2
  · -- a number
    have hy : Y 98 8 = 3 ∧ NR (X 5 6) (Y 98 9) := by
      unfold KR at hK
      rcases hK with h | h | h | h | h | h | h
      · omega
      · omega
      · exact ⟨h.2.1, h.2.2⟩
      · omega
      · omega
      · omega
      · omega
    have f90 : ∀ Q, (Y 98 9 ≤ 9999 → m_Call i_M_isCounted [.inr (.inr 98)] (mem Ls pp Y K) (fun v M' => m_Wp i_M_leafRead 133 0 0 [(0, .inr (.inr 98)), (1, .inl (-1))] (v ++ []) M' Q)) → (¬ Y 98 9 ≤ 9999 → Q [.inl 0] (mem Ls pp (mup (mup Y 98 4 2) 98 5 (Y 98 10)) K)) → m_Call i_M_leafRead [.inr (.inr 98)] (mem Ls pp Y K) Q := fun Q h1 h2 => by
      have : m_Wp i_M_leafRead 90 0 0 [(0, .inr (.inr 98))] [.inl (-1)] (mem Ls pp Y K) Q := T_M_leafRead_90 ⟨fun z => by omega, fun _ => ⟨fun _ => ⟨fun z => by omega, fun _ => ⟨h1, fun z => E_M_wrong ⟨Or.inl rfl, T_M_leafRead_128 ⟨Or.inl rfl, h2 z⟩⟩⟩⟩, fun z => absurd hy.1 z⟩⟩
      exact m2 Q hn40 hn12' (E_M_nameMet ⟨fun _ => this, fun z => absurd (Classical.not_not.mp z) (by omega)⟩)
    have hnr := hy.2
    unfold NR at hnr
    by_cases h64 : c = 64
    · subst h64
      exact o_fault (f := 2) (X1 := X) (Y1 := Y) (by omega) (fun Q h => E_LawReader_takesValue hw ⟨fun _ => ⟨fun _ => ⟨fun _ => ⟨fun _ => h, fun z => absurd (by omega) z⟩, fun z => absurd k2 z⟩, fun z => absurd (Classical.not_not.mp z) k29⟩, fun z => absurd (Classical.not_not.mp z) k5⟩) (fun Q h => f90 Q (fun _ => r_isCounted2 c4 (T_M_leafRead_133 ⟨fun z => absurd rfl z, fun _ => ⟨Or.inl rfl, h⟩⟩)) (fun _ => h)) hpl.symm LX.rfl' LY.rfl'
    · by_cases h9 : X 5 6 ≤ 9999
      · have hyw : Y 98 9 = X 5 6 := by omega
        refine k_leaf (k := 2) (n := X 5 6) (m := 0) (v := X 5 6) hw hT hF hL w3 (by omega) (by omega) (Or.inl ⟨rfl, rfl, rfl, by unfold big; omega⟩) (fun Q h => ?_) (fun Y' r Q h => ?_)
        · refine E_LawReader_takesValue hw ⟨fun _ => ⟨fun _ => ⟨fun _ => ⟨fun z => by omega, fun _ => ⟨fun z => absurd k2 z, fun _ => ⟨fun _ => ?_, fun z => absurd h9 z⟩⟩⟩, fun z => absurd k2 z⟩, fun z => absurd (Classical.not_not.mp z) k29⟩, fun z => absurd (Classical.not_not.mp z) k5⟩
          rw [c3, ws, k2]
          refine q_add (s := s) hw (by rw [mup_ne (by omega), c1]) (by omega) ?_
          exact T_LawReader_takesValue_131 hw ⟨Or.inl rfl, h⟩
        · refine f90 Q (fun _ => r_isCounted c4 (by omega) (T_M_leafRead_133 ⟨fun _ => ⟨fun _ => ⟨fun _ => ?_, fun z => absurd (by omega) z⟩, fun z => absurd (by omega) z⟩, fun z => absurd (by omega) z⟩)) (fun z => absurd (by omega) z)
          rw [mup_ne (by omega), hyw]
          exact r_grown (s := s) (n := Hs.length) (by rw [mup_ne (by omega), c2]) (by omega) (by rw [mup_ne (by omega)]; exact hHl) (by omega) (T_M_leafRead_164 ⟨Or.inl rfl, r _ (T_M_leafRead_173 ⟨Or.inr rfl, h⟩)⟩)
      · exact o_fault (f := 2) (X1 := X) (Y1 := Y) (by omega) (fun Q h => E_LawReader_takesValue hw ⟨fun _ => ⟨fun _ => ⟨fun _ => ⟨fun _ => h, fun _ => ⟨fun z => absurd k2 z, fun _ => ⟨fun z => absurd z h9, fun _ => h⟩⟩⟩, fun z => absurd k2 z⟩, fun z => absurd (Classical.not_not.mp z) k29⟩, fun z => absurd (Classical.not_not.mp z) k5⟩) (fun Q h => f90 Q (fun z => absurd z (by omega)) (fun _ => h)) hpl.symm LX.rfl' LY.rfl'
  have hn3 : ¬ Y 98 8 = 3 := by unfold KR at hK; omega
  by_cases k30 : 30 ≤ X 5 4
  · -- a name
    have hy : Y 98 8 = 1 ∧ Y 98 9 = X 5 4 - 17 ∧ X 5 4 ≤ 36 := by
      unfold KR at hK
      rcases hK with h | h | h | h | h | h | ⟨h1, h2, h3, h4⟩
      · omega
      · omega
      · omega
      · omega
      · omega
      · omega
      · rw [if_neg (by omega), if_neg (by omega)] at h4
        omega
    have wn : wr (Y 98 9 - 13) = X 5 4 - 30 := by rw [wr_of (by omega) (by omega)]; omega
    have f90 : ∀ Q, m_Call i_M_isCounted [.inr (.inr 98)] (mem Ls pp Y K) (fun v M' => m_Wp i_M_leafRead 133 0 0 [(0, .inr (.inr 98)), (1, .inl (X 5 4 - 30))] (v ++ []) M' Q) → m_Call i_M_leafRead [.inr (.inr 98)] (mem Ls pp Y K) Q := fun Q h1 => by
      refine m2 Q hn40 hn12' (E_M_nameMet ⟨fun z => absurd hy.1 z, fun _ => ⟨fun z => by omega, fun _ => ?_⟩⟩)
      rw [wn]
      exact T_M_leafRead_90 ⟨fun _ => ⟨fun _ => h1, fun z => absurd (by omega) z⟩, fun z => absurd (by omega) z⟩
    by_cases h64 : c = 64
    · subst h64
      exact o_fault (f := 2) (X1 := X) (Y1 := Y) (by omega) (fun Q h => E_LawReader_takesValue hw ⟨fun _ => ⟨fun _ => ⟨fun z => absurd z k2, fun _ => ⟨fun _ => ⟨fun _ => h, fun z => absurd (by omega) z⟩, fun z => absurd k30 z⟩⟩, fun z => absurd (Classical.not_not.mp z) k29⟩, fun z => absurd (Classical.not_not.mp z) k5⟩) (fun Q h => f90 Q (r_isCounted2 c4 (T_M_leafRead_133 ⟨fun z => absurd rfl z, fun _ => ⟨Or.inl rfl, h⟩⟩))) hpl.symm LX.rfl' LY.rfl'
    · refine k_leaf (k := X 5 4) (n := X 5 6) (m := 1) (v := X 5 4 - 30) hw hT hF hL w3 (by omega) (by omega) (Or.inr ⟨k30, by omega, rfl, rfl⟩) (fun Q h => ?_) (fun Y' r Q h => ?_)
      · refine E_LawReader_takesValue hw ⟨fun _ => ⟨fun _ => ⟨fun z => absurd z k2, fun _ => ⟨fun _ => ⟨fun z => by omega, fun _ => ⟨fun _ => ?_, fun z => absurd k2 z⟩⟩, fun z => absurd k30 z⟩⟩, fun z => absurd (Classical.not_not.mp z) k29⟩, fun z => absurd (Classical.not_not.mp z) k5⟩
        rw [c3, ws]
        refine q_add (s := s) hw (by rw [mup_ne (by omega), c1]) (by omega) ?_
        exact T_LawReader_takesValue_131 hw ⟨Or.inl rfl, h⟩
      · refine f90 Q (r_isCounted c4 (by omega) (T_M_leafRead_133 ⟨fun _ => ⟨fun z => absurd z (by omega), fun _ => ⟨fun z => absurd z (by omega), fun _ => ?_⟩⟩, fun z => absurd (by omega) z⟩))
        exact r_grown (s := s) (n := Hs.length) (by rw [mup_ne (by omega), c2]) (by omega) (by rw [mup_ne (by omega)]; exact hHl) (by omega) (T_M_leafRead_164 ⟨Or.inl rfl, r _ (T_M_leafRead_173 ⟨Or.inr rfl, h⟩)⟩)
  · -- none of them
    have hn13 : ¬ (Y 98 8 = 1 ∧ 13 ≤ Y 98 9) := by
      unfold KR at hK
      rcases hK with h | h | h | h | h | h | ⟨h1, h2, h3, h4⟩
      · omega
      · omega
      · omega
      · omega
      · omega
      · omega
      · intro z
        split at h4
        · omega
        · split at h4 <;> omega
    exact o_fault (f := 1) (X1 := X) (Y1 := Y) (by omega) (fun Q h => E_LawReader_takesValue hw ⟨fun _ => ⟨fun _ => ⟨fun z => absurd z k2, fun _ => ⟨fun z => absurd z k30, fun _ => h⟩⟩, fun z => absurd (Classical.not_not.mp z) k29⟩, fun z => absurd (Classical.not_not.mp z) k5⟩) (m3 hn40 hn12' hn3 hn13) hpl.symm LX.rfl' LY.rfl'
end K11
