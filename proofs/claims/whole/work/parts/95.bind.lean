/-! ===== phase 2: signs that are done: both in step ===== -/
section K8
variable {Ls p pp w : Nat} {K L : Nat → Nat → Int}
set_option maxHeartbeats 4000000 in
theorem k_unpile (hw : w = 22 ∨ w = 81) {lev : Int} (hlev : 1 ≤ lev) {c fr : Nat} : ∀ (W : List (Int × Int)) (X Y : Nat → Nat → Int) (s : Nat) (Hs : List Nat), LR w X Y fr s c W Hs → Hs.length = nBi W + 1 →
    ∃ (X' Y' : Nat → Nat → Int) (W' : List (Int × Int)) (s' : Nat) (Hs' : List Nat),
      (∀ (Q : List mV → mM → Prop) (kc ks : Nat), Q [] (mem Ls p X' L) → (((X 4 2) ≤ (0 : Int) → Q [] (mem Ls p X L)) ∧ (¬ ((X 4 2) ≤ (0 : Int)) → (0 ≤ (wr ((X 4 2) - 1)) ∧ (wr ((X 4 2) - 1)) < 72) ∧ m_Call i_LawReader_levelOf [.inl (X 8 (Int.toNat (wr ((X 4 2) - 1))))] (mem Ls p X L) (fun v M' => m_Wp i_LawReader_unpile 21 kc ks [(0, .inr (.inr 4)), (1, .inr (.inr w)), (2, .inl lev)] (v ++ []) M' Q)))) ∧
      (∀ (Q : List mV → mM → Prop) (kc ks : Nat), Q [] (mem Ls pp Y' K) → (((Y 98 44) ≤ (0 : Int) → Q [] (mem Ls pp Y K)) ∧ (¬ ((Y 98 44) ≤ (0 : Int)) → (0 ≤ (wr ((Y 98 44) - 1)) ∧ (wr ((Y 98 44) - 1)) < 96) ∧ m_Call i_M_rank [.inl (Y 121 (Int.toNat (wr ((Y 98 44) - 1))))] (mem Ls pp Y K) (fun v M' => m_Wp i_M_bind 21 kc ks [(0, .inr (.inr 98)), (1, .inl lev)] (v ++ []) M' Q)))) ∧
      LR w X' Y' fr s' c W' Hs' ∧ Hs'.length = nBi W' + 1 ∧ nOp W' = nOp W ∧ s ≤ s' ∧ tl W' < lev ∧ UX w fr X X' ∧ UY fr Y Y' := by
  intro W
  induction W with
  | nil =>
    intro X Y s Hs h hl
    have h1 := h.1.1
    have h2 := h.1.2.1
    simp only [List.length_nil] at h1 h2
    exact ⟨X, Y, [], s, Hs, fun Q kc ks q => ⟨fun _ => q, fun z => by omega⟩, fun Q kc ks q => ⟨fun _ => q, fun z => by omega⟩, h, hl, rfl, Nat.le_refl _, by show (0 : Int) < lev; omega, UX.rfl', UY.rfl'⟩
  | cons e W ih =>
    intro X Y s Hs h hl
    obtain ⟨⟨p1, p2, p3, p4, p5⟩, ⟨o1, o2, o3⟩, ⟨c1, c2, c3, c4, c5⟩, hH, hsum⟩ := h
    simp only [List.length_cons] at p1 p2 hsum
    have hpe := p5 e (by simp)
    have hlr := lvl_rnk hpe
    have x8 : X 8 W.length = e.1 := by have := p3.1; rw [List.length_map] at this; exact this
    have y8 : Y 121 W.length = e.2 := by have := p4.1; rw [List.length_map] at this; exact this
    have hop := nOp_le (e :: W)
    simp only [List.length_cons] at hop
    have hlen : W.length < 72 := by omega
    have wl : wr (((W.length + 1 : Nat) : Int) - 1) = (W.length : Int) := by rw [wr_of (by omega) (by omega)]; omega
    by_cases hst : lvl e.1 < lev
    · refine ⟨X, Y, e :: W, s, Hs, fun Q kc ks q => ?_, fun Q kc ks q => ?_, ⟨⟨by simp only [List.length_cons]; exact p1, by simp only [List.length_cons]; exact p2, p3, p4, p5⟩, ⟨o1, o2, o3⟩, ⟨c1, c2, c3, c4, c5⟩, hH, by simp only [List.length_cons]; exact hsum⟩, hl, rfl, Nat.le_refl _, hst, UX.rfl', UY.rfl'⟩
      · rw [p1, wl, Int.toNat_natCast, x8]
        exact ⟨fun z => by omega, fun _ => ⟨by omega, q_levelOf (T_LawReader_unpile_21 hw ⟨fun _ => q, fun z => absurd hst z⟩)⟩⟩
      · rw [p2, wl, Int.toNat_natCast, y8]
        exact ⟨fun z => by omega, fun _ => ⟨by omega, r_rank (T_M_bind_21 ⟨fun _ => q, fun z => absurd (by rw [hlr]; exact hst) z⟩)⟩⟩
    · have e5 : e.1 ≠ 5 := fun z => hst (by rw [z]; show (0 : Int) < lev; omega)
      have hop' : nOp (e :: W) = nOp W := by simp only [nOp, if_neg e5]; omega
      rw [hop'] at o1 o2 o3 hsum
      have hop2 := nOp_le W
      have hs64 : s < 64 := by omega
      -- the class behind one sign
      obtain ⟨X1, hX1⟩ : ∃ X1, X1 = mup (mup (mup (mup X 4 2 (W.length : Int)) (w + 1) s e.1) (w + 2) s 0) w 5 ((s + 1 : Nat) : Int) := ⟨_, rfl⟩
      have x1o : ∀ a, a ≠ 4 → a ≠ w → a ≠ w + 1 → a ≠ w + 2 → X1 a = X a := fun a a1 a2 a3 a4 => by rw [hX1, mup_other a2, mup_other a4, mup_other a3, mup_other a1]
      have x14 : ∀ k, k ≠ 2 → X1 4 k = X 4 k := fun k hk => by rw [hX1, mup_ne (by omega), mup_ne (by omega), mup_ne (by omega), mup_ne (by omega)]
      have x142 : X1 4 2 = (W.length : Int) := by rw [hX1, mup_ne (by omega), mup_ne (by omega), mup_ne (by omega), mup_eq rfl rfl]
      have x1w5 : X1 w 5 = ((s + 1 : Nat) : Int) := by rw [hX1, mup_eq rfl rfl]
      have x1w6 : X1 w 6 = X w 6 := by rw [hX1, mup_ne (by omega), mup_ne (by omega), mup_ne (by omega), mup_ne (by omega)]
      have x1a : ∀ i, X1 (w + 1) i = if i = s then e.1 else X (w + 1) i := fun i => by
        by_cases hi : i = s
        · rw [hX1, mup_ne (by omega), mup_ne (by omega), mup_eq rfl hi, if_pos hi]
        · rw [hX1, mup_ne (by omega), mup_ne (by omega), mup_ne (by omega), mup_ne (by omega), if_neg hi]
      have x1b : ∀ i, X1 (w + 2) i = if i = s then 0 else X (w + 2) i := fun i => by
        by_cases hi : i = s
        · rw [hX1, mup_ne (by omega), mup_eq rfl hi, if_pos hi]
        · rw [hX1, mup_ne (by omega), mup_ne (by omega), mup_ne (by omega), mup_ne (by omega), if_neg hi]
      have cS : ∀ (Q : List mV → mM → Prop) (kc ks : Nat), m_Wp i_LawReader_unpile 0 kc ks [(0, .inr (.inr 4)), (1, .inr (.inr w)), (2, .inl lev)] [] (mem Ls p X1 L) Q → (((X 4 2) ≤ (0 : Int) → Q [] (mem Ls p X L)) ∧ (¬ ((X 4 2) ≤ (0 : Int)) → (0 ≤ (wr ((X 4 2) - 1)) ∧ (wr ((X 4 2) - 1)) < 72) ∧ m_Call i_LawReader_levelOf [.inl (X 8 (Int.toNat (wr ((X 4 2) - 1))))] (mem Ls p X L) (fun v M' => m_Wp i_LawReader_unpile 21 kc ks [(0, .inr (.inr 4)), (1, .inr (.inr w)), (2, .inl lev)] (v ++ []) M' Q))) := fun Q kc ks q => by
        rw [p1, wl, Int.toNat_natCast, x8]
        refine ⟨fun z => by omega, fun _ => ⟨by omega, q_levelOf (T_LawReader_unpile_21 hw ?_)⟩⟩
        rw [p1, wl, Int.toNat_natCast, x8]
        refine ⟨fun z => absurd z hst, fun _ => ⟨by omega, q_add (s := s) hw (by rw [mup_ne (by omega), c1]) hs64 (T_LawReader_unpile_49 hw ?_)⟩⟩
        rw [hX1] at q
        exact q
      -- the reference: what is held
      have hHl := hH.1
      have hHs := hH.2.1
      -- the rest, once the reference's memory behind one sign is known
      have fin : ∀ (Y1 : Nat → Nat → Int) (t : List Nat), (∀ (Q : List mV → mM → Prop) (kc ks : Nat), m_Wp i_M_bind 0 kc ks [(0, .inr (.inr 98)), (1, .inl lev)] [] (mem Ls pp Y1 K) Q → m_Wp i_M_bind 21 kc ks [(0, .inr (.inr 98)), (1, .inl lev)] [.inl (lvl e.1)] (mem Ls pp Y K) Q) → (∀ a, a ≠ 98 → a ≠ 118 → a ≠ 119 → a ≠ 120 → a ≠ 122 → Y1 a = Y a) → (∀ k, k ≠ 21 → k ≠ 44 → k ≠ 45 → Y1 98 k = Y 98 k) → (∀ a i, a = 118 ∨ a = 119 ∨ a = 120 → i ≠ 64 + s → Y1 a i = Y a i) → Y1 98 44 = (W.length : Int) → Y1 98 21 = ((s + 1 : Nat) : Int) → HLD w X1 Y1 fr (s + 1) (s :: t) → (s :: t).length = nBi W + 1 →
          ∃ (X' Y' : Nat → Nat → Int) (W' : List (Int × Int)) (s' : Nat) (Hs' : List Nat),
            (∀ (Q : List mV → mM → Prop) (kc ks : Nat), Q [] (mem Ls p X' L) → (((X 4 2) ≤ (0 : Int) → Q [] (mem Ls p X L)) ∧ (¬ ((X 4 2) ≤ (0 : Int)) → (0 ≤ (wr ((X 4 2) - 1)) ∧ (wr ((X 4 2) - 1)) < 72) ∧ m_Call i_LawReader_levelOf [.inl (X 8 (Int.toNat (wr ((X 4 2) - 1))))] (mem Ls p X L) (fun v M' => m_Wp i_LawReader_unpile 21 kc ks [(0, .inr (.inr 4)), (1, .inr (.inr w)), (2, .inl lev)] (v ++ []) M' Q)))) ∧
            (∀ (Q : List mV → mM → Prop) (kc ks : Nat), Q [] (mem Ls pp Y' K) → (((Y 98 44) ≤ (0 : Int) → Q [] (mem Ls pp Y K)) ∧ (¬ ((Y 98 44) ≤ (0 : Int)) → (0 ≤ (wr ((Y 98 44) - 1)) ∧ (wr ((Y 98 44) - 1)) < 96) ∧ m_Call i_M_rank [.inl (Y 121 (Int.toNat (wr ((Y 98 44) - 1))))] (mem Ls pp Y K) (fun v M' => m_Wp i_M_bind 21 kc ks [(0, .inr (.inr 98)), (1, .inl lev)] (v ++ []) M' Q)))) ∧
            LR w X' Y' fr s' c W' Hs' ∧ Hs'.length = nBi W' + 1 ∧ nOp W' = nOp (e :: W) ∧ s ≤ s' ∧ tl W' < lev ∧ UX w fr X X' ∧ UY fr Y Y' := by
        intro Y1 t mS y1o y1k y1r y144 y121 hH1 hl1
        have hfr := hH.2.2.1
        have hL1 : LR w X1 Y1 fr (s + 1) c W (s :: t) := by
          refine ⟨⟨x142, y144, ?_, ?_, fun e' he' => p5 e' (by simp [he'])⟩, ⟨?_, ?_, o3⟩, ⟨x1w5, y121, by rw [x1w6, c3], by rw [y1k 47 (by omega) (by omega) (by omega), c4], c5⟩, hH1, by omega⟩
          · rw [x1o 8 (by omega) (by omega) (by omega) (by omega)]; exact p3.2
          · rw [y1o 121 (by omega) (by omega) (by omega) (by omega) (by omega)]; exact p4.2
          · rw [x14 3 (by omega), o1]
          · rw [y1k 46 (by omega) (by omega) (by omega), o2]
        obtain ⟨X', Y', W', s', Hs', i1, i2, i3, i4, i5, i6, i7, i8, i9⟩ := ih X1 Y1 (s + 1) (s :: t) hL1 hl1
        refine ⟨X', Y', W', s', Hs', fun Q kc ks q => cS Q kc ks (T_LawReader_unpile_0 hw (i1 Q kc ks q)), fun Q kc ks q => ?_, i3, i4, by rw [i5, hop'], by omega, i7, UX.tr ⟨x1o, x14, fun i hi => ⟨by rw [x1a, if_neg (by omega)], by rw [x1b, if_neg (by omega)]⟩⟩ i8, UY.tr ⟨y1o, y1k, fun a i a1 a2 => y1r a i a1 (by omega)⟩ i9⟩
        rw [p2, wl, Int.toNat_natCast, y8]
        refine ⟨fun z => by omega, fun _ => ⟨by omega, r_rank ?_⟩⟩
        rw [hlr]
        exact mS Q kc ks (T_M_bind_0 (i2 Q kc ks q))
      by_cases h2 : e.2 = 2
      · -- not
        have e29 : e.1 = 29 := by unfold pRel kMap at hpe; omega
        have hbi : nBi (e :: W) = nBi W := by simp only [nBi, if_pos (Or.inr e29 : e.1 = 5 ∨ e.1 = 29)]; omega
        rw [hbi] at hl
        match Hs, hl, hH, hHl, hHs with
        | a :: t, hl, hH, hHl, hHs =>
          simp only [List.length_cons] at hl hHl
          have hb := nOp_le W
          have y122 : Y 122 t.length = (a : Int) := by have := hHs.1; rw [List.length_map] at this; exact this
          refine fin (mup (mup (mup (mup (mup (mup (mup (mup Y 98 44 (W.length : Int)) 98 45 (t.length : Int)) 118 (64 + s) e.2) 119 (64 + s) (a : Int)) 120 (64 + s) (-1)) 122 t.length (s : Int)) 98 45 ((t.length + 1 : Nat) : Int)) 98 21 ((s + 1 : Nat) : Int)) t (fun Q kc ks q => ?_) (fun b b1 b2 b3 b4 b5 => ?_) (fun k k1 k2 k3 => ?_) (fun b i b1 b2 => ?_) ?_ ?_ ?_ ?_
          · refine T_M_bind_21 ?_
            rw [p2, wl, Int.toNat_natCast, y8]
            refine ⟨fun z => absurd z hst, fun _ => ⟨by omega, fun z => absurd h2 z, fun _ => ?_⟩⟩
            refine r_drop (n := t.length) (by rw [mup_ne (by omega)]; exact hHl) (by omega) (T_M_bind_63 ?_)
            rw [mup_other (by omega), y122]
            exact r_grown (s := s) (n := t.length) (by rw [mup_ne (by omega), mup_ne (by omega), c2]) hs64 (by rw [mup_eq rfl rfl]) (by omega) (T_M_bind_73 q)
          · rw [mup_other b1, mup_other b1, mup_other b5, mup_other b4, mup_other b3, mup_other b2, mup_other b1, mup_other b1]
          · rw [mup_ne (by omega), mup_ne (by omega), mup_ne (by omega), mup_ne (by omega), mup_ne (by omega), mup_ne (by omega), mup_ne (by omega), mup_ne (by omega)]
          · rw [mup_ne (by omega), mup_ne (by omega), mup_ne (by omega), mup_ne (by omega), mup_ne (by omega), mup_ne (by omega), mup_ne (by omega), mup_ne (by omega)]
          · rw [mup_ne (by omega), mup_ne (by omega), mup_ne (by omega), mup_ne (by omega), mup_ne (by omega), mup_ne (by omega), mup_ne (by omega), mup_eq rfl rfl]
          · rw [mup_eq rfl rfl]
          · have k118 : ∀ i, KN (mup (mup (mup (mup (mup (mup (mup (mup Y 98 44 (W.length : Int)) 98 45 (t.length : Int)) 118 (64 + s) e.2) 119 (64 + s) (a : Int)) 120 (64 + s) (-1)) 122 t.length (s : Int)) 98 45 ((t.length + 1 : Nat) : Int)) 98 21 ((s + 1 : Nat) : Int)) 118 i = if i = s then e.2 else KN Y 118 i := fun i => by
              unfold KN
              by_cases hi : i = s
              · rw [mup_ne (by omega), mup_ne (by omega), mup_ne (by omega), mup_ne (by omega), mup_ne (by omega), mup_eq rfl (by omega), if_pos hi]
              · rw [mup_ne (by omega), mup_ne (by omega), mup_ne (by omega), mup_ne (by omega), mup_ne (by omega), mup_ne (by omega), mup_ne (by omega), mup_ne (by omega), if_neg hi]
            have k119 : ∀ i, KN (mup (mup (mup (mup (mup (mup (mup (mup Y 98 44 (W.length : Int)) 98 45 (t.length : Int)) 118 (64 + s) e.2) 119 (64 + s) (a : Int)) 120 (64 + s) (-1)) 122 t.length (s : Int)) 98 45 ((t.length + 1 : Nat) : Int)) 98 21 ((s + 1 : Nat) : Int)) 119 i = if i = s then (a : Int) else KN Y 119 i := fun i => by
              unfold KN
              by_cases hi : i = s
              · rw [mup_ne (by omega), mup_ne (by omega), mup_ne (by omega), mup_ne (by omega), mup_eq rfl (by omega), if_pos hi]
              · rw [mup_ne (by omega), mup_ne (by omega), mup_ne (by omega), mup_ne (by omega), mup_ne (by omega), mup_ne (by omega), mup_ne (by omega), mup_ne (by omega), if_neg hi]
            have k120 : ∀ i, KN (mup (mup (mup (mup (mup (mup (mup (mup Y 98 44 (W.length : Int)) 98 45 (t.length : Int)) 118 (64 + s) e.2) 119 (64 + s) (a : Int)) 120 (64 + s) (-1)) 122 t.length (s : Int)) 98 45 ((t.length + 1 : Nat) : Int)) 98 21 ((s + 1 : Nat) : Int)) 120 i = if i = s then -1 else KN Y 120 i := fun i => by
              unfold KN
              by_cases hi : i = s
              · rw [mup_ne (by omega), mup_ne (by omega), mup_ne (by omega), mup_eq rfl (by omega), if_pos hi]
              · rw [mup_ne (by omega), mup_ne (by omega), mup_ne (by omega), mup_ne (by omega), mup_ne (by omega), mup_ne (by omega), mup_ne (by omega), mup_ne (by omega), if_neg hi]
            refine hH.push (fun i hi => ⟨by rw [x1a, if_neg (by omega)], by rw [x1b, if_neg (by omega)]⟩) (fun i hi => ⟨by rw [k118, if_neg (by omega)], by rw [k119, if_neg (by omega)], by rw [k120, if_neg (by omega)]⟩) ?_ (fun z => ?_) ?_ ?_ ?_
            · unfold kRel
              rw [x1a, if_pos rfl, k118, if_pos rfl]
              exact Or.inr (Or.inr (Or.inl ⟨e29, h2⟩))
            · rw [x1a, if_pos rfl] at z; omega
            · unfold hSt
              rw [k118, if_pos rfl, k119, if_pos rfl]
              exact Or.inr (Or.inl ⟨h2, a, t, rfl, rfl, rfl⟩)
            · rw [mup_ne (by omega), mup_eq rfl rfl]; rfl
            · refine ⟨?_, stk_congr (fun j hj => ?_) hHs.2⟩
              · rw [List.length_map, mup_ne (by omega), mup_ne (by omega), mup_eq rfl rfl]
              · rw [List.length_map] at hj
                rw [mup_ne (by omega), mup_ne (by omega), mup_ne (by omega), mup_ne (by omega), mup_ne (by omega), mup_ne (by omega), mup_ne (by omega), mup_ne (by omega)]
          · simp only [List.length_cons]; exact hl
      · -- a sign between two
        have hbi : nBi (e :: W) = nBi W + 1 := by
          have : ¬ (e.1 = 5 ∨ e.1 = 29) := by unfold pRel kMap at hpe; omega
          simp only [nBi, if_neg this]; omega
        have hkm : kMap e.1 e.2 ∧ 3 ≤ e.2 := by
          unfold pRel at hpe
          rcases hpe with z | z | z
          · exact absurd z.1 e5
          · exact absurd z.2 h2
          · exact ⟨z, by unfold kMap at z; omega⟩
        rw [hbi] at hl
        match Hs, hl, hH, hHl, hHs with
        | [b], hl, _, _, _ => simp at hl
        | b :: a :: t, hl, hH, hHl, hHs =>
          simp only [List.length_cons] at hl hHl
          have hb := nOp_le W
          have y122b : Y 122 (t.length + 1) = (b : Int) := by have := hHs.1; rw [List.length_map] at this; exact this
          have y122a : Y 122 t.length = (a : Int) := by have := hHs.2.1; rw [List.length_map] at this; exact this
          refine fin (mup (mup (mup (mup (mup (mup (mup (mup (mup Y 98 44 (W.length : Int)) 98 45 ((t.length + 1 : Nat) : Int)) 98 45 (t.length : Int)) 118 (64 + s) e.2) 119 (64 + s) (a : Int)) 120 (64 + s) (b : Int)) 122 t.length (s : Int)) 98 45 ((t.length + 1 : Nat) : Int)) 98 21 ((s + 1 : Nat) : Int)) t (fun Q kc ks q => ?_) (fun b' b1 b2 b3 b4 b5 => ?_) (fun k k1 k2 k3 => ?_) (fun b' i b1 b2 => ?_) ?_ ?_ ?_ ?_
          · refine T_M_bind_21 ?_
            rw [p2, wl, Int.toNat_natCast, y8]
            refine ⟨fun z => absurd z hst, fun _ => ⟨by omega, fun _ => ?_, fun z => absurd h2 z⟩⟩
            refine r_drop (n := t.length + 1) (by rw [mup_ne (by omega)]; exact hHl) (by omega) (T_M_bind_58 ?_)
            rw [mup_other (by omega), y122b]
            refine r_drop (n := t.length) (by rw [mup_eq rfl rfl]) (by omega) (T_M_bind_63 ?_)
            rw [mup_other (by omega), mup_other (by omega), y122a]
            exact r_grown (s := s) (n := t.length) (by rw [mup_ne (by omega), mup_ne (by omega), mup_ne (by omega), c2]) hs64 (by rw [mup_eq rfl rfl]) (by omega) (T_M_bind_73 q)
          · rw [mup_other b1, mup_other b1, mup_other b5, mup_other b4, mup_other b3, mup_other b2, mup_other b1, mup_other b1, mup_other b1]
          · rw [mup_ne (by omega), mup_ne (by omega), mup_ne (by omega), mup_ne (by omega), mup_ne (by omega), mup_ne (by omega), mup_ne (by omega), mup_ne (by omega), mup_ne (by omega)]
          · rw [mup_ne (by omega), mup_ne (by omega), mup_ne (by omega), mup_ne (by omega), mup_ne (by omega), mup_ne (by omega), mup_ne (by omega), mup_ne (by omega), mup_ne (by omega)]
          · rw [mup_ne (by omega), mup_ne (by omega), mup_ne (by omega), mup_ne (by omega), mup_ne (by omega), mup_ne (by omega), mup_ne (by omega), mup_ne (by omega), mup_eq rfl rfl]
          · rw [mup_eq rfl rfl]
          · have k118 : ∀ i, KN (mup (mup (mup (mup (mup (mup (mup (mup (mup Y 98 44 (W.length : Int)) 98 45 ((t.length + 1 : Nat) : Int)) 98 45 (t.length : Int)) 118 (64 + s) e.2) 119 (64 + s) (a : Int)) 120 (64 + s) (b : Int)) 122 t.length (s : Int)) 98 45 ((t.length + 1 : Nat) : Int)) 98 21 ((s + 1 : Nat) : Int)) 118 i = if i = s then e.2 else KN Y 118 i := fun i => by
              unfold KN
              by_cases hi : i = s
              · rw [mup_ne (by omega), mup_ne (by omega), mup_ne (by omega), mup_ne (by omega), mup_ne (by omega), mup_eq rfl (by omega), if_pos hi]
              · rw [mup_ne (by omega), mup_ne (by omega), mup_ne (by omega), mup_ne (by omega), mup_ne (by omega), mup_ne (by omega), mup_ne (by omega), mup_ne (by omega), mup_ne (by omega), if_neg hi]
            have k119 : ∀ i, KN (mup (mup (mup (mup (mup (mup (mup (mup (mup Y 98 44 (W.length : Int)) 98 45 ((t.length + 1 : Nat) : Int)) 98 45 (t.length : Int)) 118 (64 + s) e.2) 119 (64 + s) (a : Int)) 120 (64 + s) (b : Int)) 122 t.length (s : Int)) 98 45 ((t.length + 1 : Nat) : Int)) 98 21 ((s + 1 : Nat) : Int)) 119 i = if i = s then (a : Int) else KN Y 119 i := fun i => by
              unfold KN
              by_cases hi : i = s
              · rw [mup_ne (by omega), mup_ne (by omega), mup_ne (by omega), mup_ne (by omega), mup_eq rfl (by omega), if_pos hi]
              · rw [mup_ne (by omega), mup_ne (by omega), mup_ne (by omega), mup_ne (by omega), mup_ne (by omega), mup_ne (by omega), mup_ne (by omega), mup_ne (by omega), mup_ne (by omega), if_neg hi]
            have k120 : ∀ i, KN (mup (mup (mup (mup (mup (mup (mup (mup (mup Y 98 44 (W.length : Int)) 98 45 ((t.length + 1 : Nat) : Int)) 98 45 (t.length : Int)) 118 (64 + s) e.2) 119 (64 + s) (a : Int)) 120 (64 + s) (b : Int)) 122 t.length (s : Int)) 98 45 ((t.length + 1 : Nat) : Int)) 98 21 ((s + 1 : Nat) : Int)) 120 i = if i = s then (b : Int) else KN Y 120 i := fun i => by
              unfold KN
              by_cases hi : i = s
              · rw [mup_ne (by omega), mup_ne (by omega), mup_ne (by omega), mup_eq rfl (by omega), if_pos hi]
              · rw [mup_ne (by omega), mup_ne (by omega), mup_ne (by omega), mup_ne (by omega), mup_ne (by omega), mup_ne (by omega), mup_ne (by omega), mup_ne (by omega), mup_ne (by omega), if_neg hi]
            refine hH.push (fun i hi => ⟨by rw [x1a, if_neg (by omega)], by rw [x1b, if_neg (by omega)]⟩) (fun i hi => ⟨by rw [k118, if_neg (by omega)], by rw [k119, if_neg (by omega)], by rw [k120, if_neg (by omega)]⟩) ?_ (fun z => ?_) ?_ ?_ ?_
            · unfold kRel
              rw [x1a, if_pos rfl, k118, if_pos rfl]
              exact Or.inr (Or.inr (Or.inr hkm.1))
            · rw [x1a, if_pos rfl] at z
              have := hkm.1
              unfold kMap at this
              omega
            · unfold hSt
              rw [k118, if_pos rfl, k119, if_pos rfl, k120, if_pos rfl]
              exact Or.inr (Or.inr ⟨hkm.2, a, b, t, rfl, rfl, rfl, rfl⟩)
            · rw [mup_ne (by omega), mup_eq rfl rfl]; rfl
            · refine ⟨?_, stk_congr (fun j hj => ?_) hHs.2.2⟩
              · rw [List.length_map, mup_ne (by omega), mup_ne (by omega), mup_eq rfl rfl]
              · rw [List.length_map] at hj
                rw [mup_ne (by omega), mup_ne (by omega), mup_ne (by omega), mup_ne (by omega), mup_ne (by omega), mup_ne (by omega), mup_ne (by omega), mup_ne (by omega), mup_ne (by omega)]
          · simp only [List.length_cons]; omega
theorem k_unp (hw : w = 22 ∨ w = 81) {lev : Int} (hlev : 1 ≤ lev) {c fr s : Nat} {W : List (Int × Int)} {X Y : Nat → Nat → Int} {Hs : List Nat} (h : LR w X Y fr s c W Hs) (hl : Hs.length = nBi W + 1) :
    ∃ (X' Y' : Nat → Nat → Int) (W' : List (Int × Int)) (s' : Nat) (Hs' : List Nat), RN Ls p L i_LawReader_unpile [.inr (.inr 4), .inr (.inr w), .inl lev] X [] X' ∧ RN Ls pp K i_M_bind [.inr (.inr 98), .inl lev] Y [] Y' ∧ LR w X' Y' fr s' c W' Hs' ∧ Hs'.length = nBi W' + 1 ∧ nOp W' = nOp W ∧ s ≤ s' ∧ tl W' < lev ∧ UX w fr X X' ∧ UY fr Y Y' := by
  obtain ⟨X', Y', W', s', Hs', i1, i2, i3⟩ := k_unpile (Ls := Ls) (p := p) (pp := pp) (K := K) (L := L) hw hlev W X Y s Hs h hl
  exact ⟨X', Y', W', s', Hs', fun Q q => E_LawReader_unpile hw (i1 Q 0 0 q), fun Q q => E_M_bind (i2 Q 0 0 q), i3⟩
end K8
