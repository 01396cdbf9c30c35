/-! ===== phase 2: hangUp ===== -/
section W9
variable {Ls p kc ks : Nat} {P M : Int} {I I0 I1 I2 J K L L1 L2 K2 X X1 X2 Y Z d d' e : Nat → Nat → Int} {Q : List mV → mM → Prop} {x : Int}
theorem mPlace_loop {f : Nat → Int} {a : Int} {n : Nat} (hn : X 130 0 = (n : Int)) (h20 : n ≤ 20) (hf : ∀ j : Nat, j < n → X 129 j = en (f j)) (ha : 0 ≤ a ∧ a < 6) : ∀ (t k : Nat), k + t = n → Q [.inl (pOf f a k t)] (mem Ls p X L) → m_Wp i_M_placeOf 2 kc ks [(0, .inr (.inr 98)), (1, .inl a), (2, .inl (k : Int))] [] (mem Ls p X L) Q := by
  intro t
  induction t with
  | zero =>
    intro k hk hQ
    refine T_M_placeOf_2 ⟨by omega, fun _ => hQ, fun h => by omega⟩
  | succ t ih =>
    intro k hk hQ
    rw [pOf] at hQ
    refine T_M_placeOf_2 ⟨by omega, fun h => by omega, fun _ => ⟨by omega, ?_⟩⟩
    rw [Int.toNat_natCast, hf k (by omega), wr_of (z := (k : Int) + 1) (by omega) (by omega)]
    have he : en (f k) = a ↔ f k = a := by unfold en; split <;> omega
    refine ⟨fun h => ?_, fun h => ?_⟩
    · rw [if_neg (fun z => h (he.mpr z))] at hQ
      exact ih (k + 1) (by omega) hQ
    · rw [if_pos (he.mp (Classical.not_not.mp h))] at hQ
      exact hQ
theorem DR_hang {a : Nat} {q : Int} (hP : P ≤ 6) (hd : DOK P M d) (h : DR P M d e) (ha : (a : Int) < d 0 11) (hq : d 4 a = q) (hq0 : 0 ≤ q ∧ q < P) (h12 : d 0 12 ≠ q) : DR P M (dOut d a) (mup (eOut e a) 0 q.toNat 0) := by
  have hl := DR_leave hd h ha
  have e11 : dOut d a 0 11 = d 0 11 - 1 := by unfold dOut; exact mup_eq rfl rfl
  have e0 : ∀ k, k ≠ 11 → dOut d a 0 k = d 0 k := fun k hk => by unfold dOut; rw [mup_ne (Or.inr hk), rup_other (by omega)]
  have eR : ∀ j, j ≠ 0 → j ≠ 4 → dOut d a j = d j := fun j h1 h2 => by unfold dOut; rw [mup_other h1, rup_other h2]
  have f5 : ∀ r, r ≠ 4 → r ≠ 5 → eOut e a r = e r := fun r h1 h2 => by unfold eOut; rw [mup_other h2, rup_other h1]
  obtain ⟨a1, a2, a3, a4, a5, a6, a7, a8⟩ := h
  unfold DR
  rw [e11, e0 10 (by omega), e0 12 (by omega), e0 13 (by omega), e0 15 (by omega), eR 1 (by omega) (by omega), eR 2 (by omega) (by omega), eR 3 (by omega) (by omega), eR 5 (by omega) (by omega), eR 6 (by omega) (by omega), eR 7 (by omega) (by omega), eR 8 (by omega) (by omega), mup_other (i := 11) (by omega), mup_other (i := 5) (by omega), mup_other (i := 6) (by omega), mup_other (i := 7) (by omega), mup_other (i := 12) (by omega), mup_other (i := 1) (by omega), mup_other (i := 2) (by omega), mup_other (i := 3) (by omega), mup_other (i := 4) (by omega), mup_other (i := 8) (by omega), mup_other (i := 9) (by omega), mup_other (i := 10) (by omega), f5 11 (by omega) (by omega), f5 6 (by omega) (by omega), f5 7 (by omega) (by omega), f5 12 (by omega) (by omega), f5 1 (by omega) (by omega), f5 2 (by omega) (by omega), f5 3 (by omega) (by omega), f5 8 (by omega) (by omega), f5 9 (by omega) (by omega), f5 10 (by omega) (by omega)]
  refine ⟨a1, ?_, a3, a4, a5, fun r hr => ?_, hl.1, a8⟩
  · unfold eOut; rw [mup_eq rfl rfl, a2]
  · have b := a6 r hr
    refine ⟨b.1, b.2.1, b.2.2.1, ?_⟩
    by_cases hrq : (r : Int) = q
    · rw [mup_eq rfl (by omega), dMode_out hd ha (by omega) (by rw [hrq]; exact h12), if_pos (by rw [hrq, hq])]
    · rw [mup_ne (Or.inr (by omega)), f5 0 (by omega) (by omega), b.2.2.2]
      by_cases hrt : d 0 12 = (r : Int)
      · rw [(dMode_iff).1 hrt, (dMode_iff).1 (by rw [e0 12 (by omega)]; exact hrt)]
      · rw [dMode_out hd ha (by omega) hrt, if_neg (by rw [hq]; exact hrq)]
theorem und_out {a : Nat} {q : Int} (hd : DOK P M d) (ha : (a : Int) < d 0 11) (hq : d 4 a = q) : agw d (und (dOut d a) 1 q (a : Int)) := by
  have hn := hd.2.2.1
  obtain ⟨n, hn'⟩ : ∃ n : Nat, d 0 11 = (n : Int) := ⟨(d 0 11).toNat, by omega⟩
  have e11 : dOut d a 0 11 = (n : Int) - 1 := by unfold dOut; rw [mup_eq rfl rfl, hn']
  have e0 : ∀ k, k ≠ 11 → dOut d a 0 k = d 0 k := fun k hk => by unfold dOut; rw [mup_ne (Or.inr hk), rup_other (by omega)]
  have eR : ∀ j, j ≠ 0 → j ≠ 4 → dOut d a j = d j := fun j h1 h2 => by unfold dOut; rw [mup_other h1, rup_other h2]
  have e4 : ∀ j, dOut d a 4 j = if a ≤ j ∧ j + 1 < n then d 4 (j + 1) else d 4 j := fun j => by unfold dOut rowOut; rw [mup_other (by omega), rup_self, hn', Int.toNat_natCast]
  unfold und
  rw [if_neg (by omega), if_pos rfl, Int.toNat_natCast]
  unfold dPut
  rw [e11]
  refine ⟨fun k h1 h2 => ?_, fun j k h1 h2 h3 h4 => ?_, fun k hk => ?_⟩
  · by_cases hk : k = 11
    · subst hk; rw [mup_eq rfl rfl, hn']; omega
    · rw [mup_ne (Or.inr hk), rup_other (by omega), e0 k hk]
  · rw [mup_other (by omega), rup_other h3, eR j (by omega) h3]
  · rw [mup_other (by omega), rup_self]
    unfold rowIn
    by_cases h1 : k = a
    · rw [if_pos h1, h1, hq]
    · rw [if_neg h1]
      by_cases h2 : a < k ∧ k ≤ ((n : Int) - 1).toNat
      · rw [if_pos h2, e4, if_pos (by omega), show k - 1 + 1 = k by omega]
      · rw [if_neg h2, e4, if_neg (by omega)]
theorem DOK_quit (h : DOK P M d) : DOK P M (mup (mup d 0 12 (-1)) 0 13 0) := by
  obtain ⟨a1, a2, a3, a4, a5, a6, a7, a8, a9, a10, a11⟩ := h
  have e0 : ∀ k, k ≠ 12 → k ≠ 13 → mup (mup d 0 12 (-1)) 0 13 0 0 k = d 0 k := fun k h1 h2 => by rw [mup_ne (Or.inr h2), mup_ne (Or.inr h1)]
  have eR : ∀ j, j ≠ 0 → mup (mup d 0 12 (-1)) 0 13 0 j = d j := fun j h1 => by rw [mup_other h1, mup_other h1]
  have e12 : mup (mup d 0 12 (-1)) 0 13 0 0 12 = -1 := by rw [mup_ne (by omega), mup_eq rfl rfl]
  have e13 : mup (mup d 0 12 (-1)) 0 13 0 0 13 = 0 := mup_eq rfl rfl
  unfold DOK
  rw [e12, e13, e0 8 (by omega) (by omega), e0 9 (by omega) (by omega), e0 10 (by omega) (by omega), e0 11 (by omega) (by omega), e0 14 (by omega) (by omega), eR 1 (by omega), eR 2 (by omega), eR 3 (by omega), eR 4 (by omega), eR 6 (by omega), eR 7 (by omega), eR 8 (by omega)]
  exact ⟨a1, a2, a3, Or.inl rfl, by omega, a6, a7, a8, a9, fun k hk h => by have := a8 k hk; omega, a11⟩
theorem und_quit {a : Int} (h12 : d 0 12 = a) : und (mup (mup d 0 12 (-1)) 0 13 0) 2 a (d 0 13) = d := by
  unfold und
  rw [if_neg (by omega), if_neg (by omega), if_pos rfl]
  funext j k
  simp only [mup_app]
  by_cases hj : j = 0
  · subst hj
    by_cases h13 : k = 13
    · subst h13; simp
    · by_cases h2 : k = 12
      · subst h2; simp [h12]
      · simp [h13, h2]
  · simp [hj]
theorem DR_quit {a : Int} (hP : P ≤ 6) (hd : DOK P M d) (h : DR P M d e) (h12 : d 0 12 = a) (ha : 0 ≤ a ∧ a < P) : DR P M (mup (mup d 0 12 (-1)) 0 13 0) (mup (mup e 6 0 (-1)) 0 a.toNat 0) := by
  obtain ⟨a1, a2, a3, a4, a5, a6, a7, a8⟩ := h
  have e0 : ∀ k, k ≠ 12 → k ≠ 13 → mup (mup d 0 12 (-1)) 0 13 0 0 k = d 0 k := fun k h1 h2 => by rw [mup_ne (Or.inr h2), mup_ne (Or.inr h1)]
  have eR : ∀ j, j ≠ 0 → mup (mup d 0 12 (-1)) 0 13 0 j = d j := fun j h1 => by rw [mup_other h1, mup_other h1]
  have e12 : mup (mup d 0 12 (-1)) 0 13 0 0 12 = -1 := by rw [mup_ne (by omega), mup_eq rfl rfl]
  have f5 : ∀ r, r ≠ 0 → r ≠ 6 → mup (mup e 6 0 (-1)) 0 a.toNat 0 r = e r := fun r h1 h2 => by rw [mup_other h1, mup_other h2]
  unfold DR
  rw [e12, e0 10 (by omega) (by omega), e0 11 (by omega) (by omega), e0 15 (by omega) (by omega), eR 1 (by omega), eR 2 (by omega), eR 3 (by omega), eR 4 (by omega), eR 5 (by omega), eR 6 (by omega), eR 7 (by omega), eR 8 (by omega), f5 1 (by omega) (by omega), f5 2 (by omega) (by omega), f5 3 (by omega) (by omega), f5 4 (by omega) (by omega), f5 5 (by omega) (by omega), f5 7 (by omega) (by omega), f5 8 (by omega) (by omega), f5 9 (by omega) (by omega), f5 10 (by omega) (by omega), f5 11 (by omega) (by omega), f5 12 (by omega) (by omega)]
  refine ⟨a1, a2, ?_, fun z => absurd rfl z, a5, fun r hr => ?_, a7, a8⟩
  · rw [mup_ne (by omega), mup_eq rfl rfl]; rfl
  · have b := a6 r hr
    refine ⟨b.1, b.2.1, b.2.2.1, ?_⟩
    have h10 := hd.2.2.2.2.2.2.2.2.2.1
    by_cases hra : (r : Int) = a
    · rw [mup_eq rfl (by omega), (dMode_iff).2.2 (by rw [e12]; omega) (fun k hk => ?_)]
      rw [e0 11 (by omega) (by omega)] at hk
      rw [eR 4 (by omega)]
      intro z
      have := h10 k hk (by rw [z, h12, hra])
      omega
    · rw [mup_ne (Or.inr (by omega)), mup_ne (by omega), b.2.2.2]
      refine (dMode_same ?_ ?_).symm
      · rw [e12, h12]; omega
      · rw [e0 11 (by omega) (by omega), eR 4 (by omega)]
theorem pair_hangUp {a : Int} (hI : INV p I L) : PAIR Ls i_C_hangUp i_M_hangUp [.inl a] (mem Ls p I L) := by
  have hpl := hI.2.1
  have hP := hpl.1
  have hM : I p 15 ≤ 6 := hpl.2.2.1.2
  have h12 : I 98 12 = I p 13 := hI.2.2.1.1.1
  have hnow := now_eq hI
  have hd := hI.2.2.2.1.1
  have hDR := hI.2.2.2.1.2.1
  have hn := hd.2.2.1
  have e11 : dat I 28 0 11 = I 28 11 := rfl
  have e12 : dat I 28 0 12 = I 28 12 := rfl
  obtain ⟨n, hn', h20, h79⟩ := log_n hI
  refine E_C_hangUp (q_isPerson hI.1 (T_C_hangUp_5 ⟨fun h => ?_, fun h => ?_⟩))
  · rw [b01_zero] at h
    have ha : 0 ≤ a ∧ a < I p 13 := by omega
    have hmode := (hnow.2.2.2.2.1 a.toNat (by omega)).2.2.2
    rw [show ((a.toNat : Nat) : Int) = a by omega] at hmode
    refine ⟨fun ht => ?_, fun ht => ?_⟩
    · -- in the row, or nowhere
      have hq : ∀ (Q' : List mV → mM → Prop), Q' [.inl (dPl (dat I 28) a)] (mem Ls p I L) → m_Call i_Day_placeOf [.inr (.inr 28), .inl a] (mem Ls p I L) Q' := fun Q' hQ' => by
        have := q_placeOf (Ls := Ls) (p := p) (L := L) (c := 28) (I := I) (d := dat I 28) (x := a) (Or.inl rfl) hn (by rw [dput_dat]; exact hQ')
        rw [dput_dat] at this; exact this
      refine hq _ (T_C_hangUp_63 ⟨fun hr => ?_, fun hr => ?_⟩)
      · obtain ⟨k, hk, _, hk2, hk3⟩ := pOf_some (r := dPl (dat I 28) a) rfl hr
        have hk11 : (k : Int) < dat I 28 0 11 := by omega
        have hm1 : dMode (dat I 28) a = 1 := (dMode_iff).2.1 (by rw [e12]; exact ht) ⟨k, hk11, hk3⟩
        rw [hk]
        refine q_note hn' h20 (fun X2 n1 s hN s1 s2 => T_C_hangUp_81 ?_)
        obtain ⟨g1, g2, g3, g4, g5, g6⟩ := hN
        have hx : dat X2 28 = dat I 28 := dat_congr (fun j hj => g1 _ (by omega) (by omega) (by omega) (by omega))
        have hq2 : ∀ (Q' : List mV → mM → Prop), Q' [] (mem Ls p (dput X2 28 (dOut (dat I 28) k)) L) → m_Call i_Day_takeOut [.inr (.inr 28), .inl (k : Int)] (mem Ls p X2 L) Q' := fun Q' hQ' => by
          have := q_takeOut (Ls := Ls) (p := p) (L := L) (c := 28) (I := X2) (d := dat X2 28) (x := (k : Int)) (Q := Q') (Or.inl rfl) (by rw [hx]; exact hn) (by rw [hx]; omega) (by rw [hx, Int.toNat_natCast]; exact hQ')
          rw [dput_dat] at this; exact this
        refine hq2 _ (T_C_hangUp_89 ⟨by omega, ?_⟩)
        have gI : ∀ b, b < 28 ∨ 37 ≤ b → b ≠ 94 → b ≠ 95 → b ≠ 96 → b ≠ 97 → dput X2 28 (dOut (dat I 28) k) b = I b := fun b b1 b2 b3 b4 b5 => by rw [dput_out (by omega), g1 b b2 b3 b4 b5]
        refine E_M_hangUp (r_isMan ?_)
        rw [mup_ne (by omega), gI 98 (by omega) (by omega) (by omega) (by omega) (by omega), h12, b01_one.mpr ha]
        refine T_M_hangUp_10 ⟨fun z => by omega, fun _ => ⟨by omega, ?_⟩⟩
        rw [mup_ne (by omega), gI 125 (by omega) (by omega) (by omega) (by omega) (by omega), hmode, hm1]
        refine ⟨fun _ => ?_, fun z => absurd (show ¬ (1 : Int) = 0 by omega) z⟩
        refine r_remember (n := n) (n1 := n1) (s := s) (by rw [mup_ne (by omega), gI 98 (by omega) (by omega) (by omega) (by omega) (by omega), h79]) h20 g3 s1 s2 g4 (fun Y hY => T_M_hangUp_28 ⟨by omega, ?_⟩)
        have yX : ∀ b, b ≠ 98 → b ≠ 140 → Y b = dput X2 28 (dOut (dat I 28) k) b := fun b b1 b2 => by rw [hY.1 b b1 b2, mup_other b1]
        have yI : ∀ b, 99 ≤ b → b ≠ 140 → Y b = I b := fun b b1 b2 => by rw [yX b (by omega) b2, gI b (by omega) (by omega) (by omega) (by omega) (by omega)]
        rw [yI 125 (by omega) (by omega), hmode, hm1]
        refine ⟨fun z => absurd rfl z, fun _ => E_M_placeOf ?_⟩
        refine mPlace_loop (n := (I 28 11).toNat) (f := dat I 28 4) (by rw [yI 130 (by omega) (by omega), hnow.2.1]; omega) (by omega) (fun j hj => by rw [yI 129 (by omega) (by omega)]; exact hnow.2.2.2.2.2.1 j (by omega)) (by omega) (I 28 11).toNat 0 (by omega) ?_
        rw [show pOf (dat I 28 4) a 0 (I 28 11).toNat = (k : Int) from hk]
        refine T_M_hangUp_45 ?_
        have hj0 : jat Y 0 = jat I 0 := jat_congr (fun r k h1 h2 => by rw [yI _ (by omega) (by omega)])
        have e5 : jat I 0 5 0 = dat I 28 0 11 := hDR.2.1
        rw [now_jm (Y := Y), hj0]
        refine r_leaves (b := 0) (by omega) (by rw [e5]; exact hn) (by rw [e5]; exact hk11) (T_M_hangUp_48 ⟨by omega, by omega, rfl, p, _, _, rfl, ?_⟩)
        have hw : mup (jm Y 0 (eOut (jat I 0) k) (Y 98 52)) 125 a.toNat 0 = jm Y 0 (mup (eOut (jat I 0) k) 0 a.toNat 0) (Y 98 52) := by
          have := (jW (b := 0) (mup Y 98 52 (Y 98 52))).1 (eOut (jat I 0) k) a.toNat 0 (by omega)
          rw [show 6 * 0 + a.toNat = a.toNat by omega] at this
          exact this
        rw [hw]
        have hdat : dat (jm Y 0 (mup (eOut (jat I 0) k) 0 a.toNat 0) (Y 98 52)) 28 = dOut (dat I 28) k := by
          funext j
          unfold dat
          split
          · next hj => rw [jm_lo (by omega) (by omega), yX _ (by omega) (by omega), dput_at hj]; rfl
          · next hj =>
            unfold dOut; rw [mup_other (by omega), rup_other (by omega), if_neg hj]
        have hz28 : jm Y 0 (mup (eOut (jat I 0) k) 0 a.toNat 0) (Y 98 52) 28 = dOut (dat I 28) k 0 := by rw [← hdat]; rfl
        have hDO := DOK_out hd hk11
        refine deed_end (X1 := dput X2 28 (dOut (dat I 28) k)) (Y := Y) (a := 1) (w := a) (o := (k : Int)) hI hn' gI (by rw [dput_out (by omega)]; exact g2) g3 g4 (fun j hj => by rw [dput_out (by omega), dput_out (by omega), dput_out (by omega)]; exact g5 j hj) (by rw [dput_out (by omega), dput_out (by omega), dput_out (by omega)]; exact g6) hY (fun b b1 b2 => ?_) (fun k hk => jm_98 hk) ?_ ?_ ?_ ?_ ?_ ?_
        · by_cases hb : b < 125
          · exact jm_lo hb b2
          · exact jm_hi (by omega)
        · rw [hdat]; exact hDO
        · rw [hdat]; exact DR_jm hP.2 hM hDO.2.2.1 (DR_hang hP.2 hd hDR hk11 hk3 ha (by rw [e12]; exact ht))
        · rw [hz28]; unfold dOut; rw [mup_ne (by omega), rup_other (by omega)]; rfl
        · rw [hz28]; unfold dOut; rw [mup_ne (by omega), rup_other (by omega)]; rfl
        · rw [hdat]
          have e11' : dOut (dat I 28) k 0 11 = dat I 28 0 11 - 1 := by unfold dOut; exact mup_eq rfl rfl
          exact Or.inr (Or.inl ⟨rfl, ha, by rw [e11']; omega, by rw [e11']; omega⟩)
        · rw [hdat]; exact und_out hd hk11 hk3
      · refine ⟨by omega, E_M_hangUp (r_isMan ?_)⟩
        have hm0 : dMode (dat I 28) a = 0 := by unfold dMode; rw [if_neg (by rw [e12]; exact ht), if_pos (Classical.not_not.mp hr)]
        rw [mup_ne (by omega), h12, b01_one.mpr ha]
        refine T_M_hangUp_10 ⟨fun z => by omega, fun _ => ⟨by omega, ?_⟩⟩
        rw [mup_ne (by omega), hmode, hm0]
        exact ⟨fun z => absurd rfl z, fun _ => ⟨by omega, rfl, okT hI⟩⟩
    · -- she talks to him
      have ht' : dat I 28 0 12 = a := Classical.not_not.mp ht
      have hm2 : dMode (dat I 28) a = 2 := (dMode_iff).1 ht'
      refine q_note hn' h20 (fun X2 n1 s hN s1 s2 => T_C_hangUp_37 ⟨by omega, ?_⟩)
      obtain ⟨g1, g2, g3, g4, g5, g6⟩ := hN
      have gI : ∀ b, b ≠ 28 → b ≠ 94 → b ≠ 95 → b ≠ 96 → b ≠ 97 → mup (mup X2 28 12 (-1)) 28 13 0 b = I b := fun b b1 b2 b3 b4 b5 => by rw [mup_other b1, mup_other b1, g1 b b2 b3 b4 b5]
      refine E_M_hangUp (r_isMan ?_)
      rw [mup_ne (show ¬ (98 : Nat) = 98 ∨ ¬ 12 = 2 by omega), gI 98 (by omega) (by omega) (by omega) (by omega) (by omega), h12, b01_one.mpr ha]
      refine T_M_hangUp_10 ⟨fun z => by omega, fun _ => ⟨by omega, ?_⟩⟩
      rw [mup_ne (show ¬ (125 : Nat) = 98 ∨ ¬ a.toNat = 2 by omega), gI 125 (by omega) (by omega) (by omega) (by omega) (by omega), hmode, hm2]
      refine ⟨fun _ => ?_, fun z => absurd (show ¬ (2 : Int) = 0 by omega) z⟩
      refine r_remember (n := n) (n1 := n1) (s := s) (by rw [mup_ne (by omega), gI 98 (by omega) (by omega) (by omega) (by omega) (by omega), h79]) h20 g3 s1 s2 g4 (fun Y hY => T_M_hangUp_28 ⟨by omega, ?_⟩)
      have yX : ∀ b, b ≠ 98 → b ≠ 140 → Y b = mup (mup X2 28 12 (-1)) 28 13 0 b := fun b b1 b2 => by rw [hY.1 b b1 b2, mup_other b1]
      have yI : ∀ b, 99 ≤ b → b ≠ 140 → Y b = I b := fun b b1 b2 => by rw [yX b (by omega) b2, gI b (by omega) (by omega) (by omega) (by omega) (by omega)]
      rw [yI 125 (by omega) (by omega), hmode, hm2]
      refine ⟨fun _ => ⟨by omega, by omega, by omega, rfl, p, _, _, rfl, ?_⟩, fun z => absurd (show ¬ (2 : Int) = 1 by omega) z⟩
      have hj0 : jat Y 0 = jat I 0 := jat_congr (fun r k h1 h2 => by rw [yI _ (by omega) (by omega)])
      have hw : mup (mup Y 131 0 (-1)) 125 a.toNat 0 = jm Y 0 (mup (mup (jat I 0) 6 0 (-1)) 0 a.toNat 0) (Y 98 52) := by
        have h0 := now_jm (Y := Y)
        rw [hj0] at h0
        have w := jW (b := 0) (mup Y 98 52 (Y 98 52))
        have w1 := w.2.2.2.2.2.2.1 (jat I 0) (-1)
        have w2 := w.1 (mup (jat I 0) 6 0 (-1)) a.toNat 0 (by omega)
        rw [show 6 * 0 + a.toNat = a.toNat by omega] at w2
        have h1 : mup Y 131 0 (-1) = jput (mup Y 98 52 (Y 98 52)) 0 (mup (jat I 0) 6 0 (-1)) := by rw [← w1]; congr 1
        rw [h1, w2]; rfl
      rw [hw]
      have hdat : dat (jm Y 0 (mup (mup (jat I 0) 6 0 (-1)) 0 a.toNat 0) (Y 98 52)) 28 = mup (mup (dat I 28) 0 12 (-1)) 0 13 0 := by
        funext j
        by_cases hj : j < 9
        · rw [dat_at hj, jm_lo (by omega) (by omega), yX _ (by omega) (by omega)]
          by_cases h0 : j = 0
          · subst h0
            funext k
            rw [show 28 + 0 = 28 from rfl, mup_app, mup_app, mup_app, mup_app, g1 28 (by omega) (by omega) (by omega) (by omega)]
            simp only [true_and]
            rfl
          · rw [mup_other (by omega), mup_other (by omega), mup_other (by omega), mup_other (by omega), g1 _ (by omega) (by omega) (by omega) (by omega), dat_at hj]
        · rw [mup_other (by omega), mup_other (by omega)]
          unfold dat
          rw [if_neg hj, if_neg hj]
      have hz28 : jm Y 0 (mup (mup (jat I 0) 6 0 (-1)) 0 a.toNat 0) (Y 98 52) 28 = mup (mup (dat I 28) 0 12 (-1)) 0 13 0 0 := by rw [← hdat]; rfl
      have hDO := DOK_quit hd
      refine deed_end (X1 := mup (mup X2 28 12 (-1)) 28 13 0) (Y := Y) (a := 2) (w := a) (o := I 28 13) hI hn' (fun b b1 b2 b3 b4 b5 => gI b (by omega) b2 b3 b4 b5) (by rw [mup_ne (by omega), mup_ne (by omega)]; exact g2) g3 g4 (fun j hj => by rw [mup_other (by omega), mup_other (by omega), mup_other (by omega), mup_other (by omega), mup_other (by omega), mup_other (by omega)]; exact g5 j hj) (by rw [mup_other (by omega), mup_other (by omega), mup_other (by omega), mup_other (by omega), mup_other (by omega), mup_other (by omega)]; exact g6) hY (fun b b1 b2 => ?_) (fun k hk => jm_98 hk) ?_ ?_ ?_ ?_ ?_ ?_
      · by_cases hb : b < 125
        · exact jm_lo hb b2
        · exact jm_hi (by omega)
      · rw [hdat]; exact hDO
      · rw [hdat]; exact DR_jm hP.2 hM hDO.2.2.1 (DR_quit hP.2 hd hDR ht' ha)
      · rw [hz28, mup_ne (by omega), mup_ne (by omega)]; rfl
      · rw [hz28, mup_ne (by omega), mup_ne (by omega)]; rfl
      · exact Or.inr (Or.inr (Or.inl ⟨rfl, ha.1, ha.2⟩))
      · rw [hdat, show I 28 13 = dat I 28 0 13 from rfl, und_quit ht']; exact agw.rfl'
  · have h' := b01_zero.mp (Classical.not_not.mp h)
    refine ⟨by omega, E_M_hangUp (r_isMan ?_)⟩
    rw [mup_ne (by omega), h12, b01_zero.mpr h']
    exact T_M_hangUp_10 ⟨fun _ => ⟨by omega, rfl, okT hI⟩, fun z => absurd rfl z⟩
end W9
