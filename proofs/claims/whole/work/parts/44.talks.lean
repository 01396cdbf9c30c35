section R4
variable {Ls pp p b kc ks : Nat} {M : Int} {I J K d e : Nat → Nat → Int} {Q : List mV → mM → Prop} {x : Int}
theorem r_begins (hb : b ≤ 1) (hR : PR I p J) (hW : WR I p J) (hpl : planOK I p) (hwy : wayOK I (I p 13)) (hd : DOK (I p 13) M d) (h : DR (I p 13) M d e) (hm : d 0 10 ≤ 20000) (h12 : d 0 12 = -1) (h0 : 0 < d 0 11)
    (hQ : ∀ e' x' K', DR (I p 13) M (fStart I p d) e' → KF K K' → Q [] (mem Ls pp (jm J b e' x') K')) : m_Call i_M_begins [.inr (.inr 98), .inl (b : Int)] (mem Ls pp (jm J b e x) K) Q := by
  obtain ⟨j0, j1, j2, j3, j4, j5, j6, j7, j8, j9, j10, j11, j12⟩ := jS (b := b) (mup J 98 52 x) e
  obtain ⟨w0, w1, w2, w3, w4, w5, w6, w7, w8, w9, w10, w11, w12⟩ := jW (b := b) (mup J 98 52 x)
  have hP := hpl.1
  have hn := hd.2.2.1
  have hrow := hd.2.2.2.2.2.2.2.1 0 (by omega)
  have he4 := h.2.2.2.2.2.2.1 0 (by omega)
  have hmr := fMins_range (d := dOut d 0) (w := d 4 0) hpl (by omega)
  have t10 : dOut d 0 0 10 = d 0 10 := by unfold dOut; simp [mup_app, rup_app]
  -- the end: minutes n are known
  have fin : ∀ (n : Int) (x' : Int) (K' : Nat → Nat → Int), n = fMins I p (dOut d 0) (d 4 0) → KF K K' → m_Call i_M_isCold [.inr (.inr 98), .inl (d 0 10)] (mem Ls pp (jm J b (if d 4 0 = -2 then mup (eOut e 0) 6 0 6 else mup (mup (eOut e 0) 6 0 (d 4 0)) 0 (d 4 0).toNat 2) x') K') (fun v M' => m_Wp i_M_begins 80 0 0 [(0, .inr (.inr 98)), (1, .inl (b : Int)), (3, .inl n)] (v ++ []) M' Q) := by
    intro n x' K' hn' hK
    obtain ⟨v0, v1, v2, v3, v4, v5, v6, v7, v8, v9, v10, v11, v12⟩ := jW (b := b) (mup J 98 52 x')
    rw [← hn'] at hmr
    refine r_isCold hR hW hpl (T_M_begins_80 ?_)
    rw [Int.toNat_natCast, wr_of (z := 2 * n) (by omega) (by omega)]
    have hq2 := hQ _ x' K' (DR_start (v := if coldF I p (d 0 10) 0 (I 64 5).toNat = 0 then n else (if 20 < 2 * n then 20 else 2 * n)) hP hd h h12 h0 rfl |> (fun z => by unfold fStart; rw [← hn']; exact z)) hK
    unfold jm at *
    refine ⟨fun h1 => ⟨fun h2 => ⟨by omega, ?_⟩, fun h2 => by omega⟩, fun h1 => ⟨fun h2 => ⟨by omega, ?_⟩, fun h2 => ⟨by omega, ?_⟩⟩⟩
    · rw [if_pos h1] at hq2; rw [v7]; exact hq2
    · rw [if_neg h1, if_neg (show ¬ 20 < 2 * n by omega)] at hq2; rw [v7]; exact hq2
    · rw [if_neg h1, if_pos (show 20 < 2 * n by omega)] at hq2; rw [v7]; exact hq2
  refine E_M_begins ?_
  rw [ix20' hb, Int.toNat_natCast]
  have e129 : jm J b e x 129 (20 * b) = en (d 4 0) := by rw [← he4]; exact j4 0 (by omega)
  refine ⟨by omega, r_leaves (a := 0) hb (by rw [h.2.1]; exact hn) (by rw [h.2.1]; omega) (T_M_begins_16 ?_)⟩
  rw [e129]
  obtain ⟨l0, l1, l2, l3, l4, l5, l6, l7, l8, l9, l10, l11, l12⟩ := jS (b := b) (mup J 98 52 x) (eOut e 0)
  have g : ∀ a k, a ≠ 4 → a ≠ 5 → eOut e 0 a k = e a k := fun a k h1 h2 => by unfold eOut; rw [mup_ne (Or.inl h2), rup_other h1]
  have f : ∀ a k, a ≠ 4 → ¬ (a = 0 ∧ k = 11) → dOut d 0 a k = d a k := fun a k h1 h2 => by unfold dOut; rw [mup_ne (by omega), rup_other h1]
  have g5 : eOut e 0 5 0 = dOut d 0 0 11 := by unfold eOut dOut; rw [mup_eq rfl rfl, mup_eq rfl rfl, h.2.1]
  have e136 : jm J b (eOut e 0) x 136 b = d 0 10 := by unfold jm; rw [l11, g 11 0 (by omega) (by omega), h.1]
  have e130 : jm J b (eOut e 0) x 130 b = dOut d 0 0 11 := by unfold jm; rw [l5, g5]
  rw [Int.toNat_natCast, e136, e130]
  have hd1 : DOK (I p 13) M (dOut d 0) := DOK_out hd (by omega)
  refine ⟨by omega, fun h1 => ⟨by omega, ?_⟩, fun h1 => ?_⟩
  · have h2 : d 4 0 = -2 := by unfold en at h1; split at h1 <;> omega
    have hf := fin 2 x K (by unfold fMins; rw [if_pos h2]) KF.rfl'
    rw [if_pos h2] at hf
    unfold jm at *
    rw [w6, h1]; exact hf
  · have h2 : d 4 0 ≠ -2 := fun h3 => h1 (by rw [h3]; rfl)
    have h3 : en (d 4 0) = d 4 0 := en_ne h2
    rw [if_neg h2] at fin
    rw [h3, ix6 hb (by omega), Int.toNat_natCast]
    have hmem : mup (mup (jm J b (eOut e 0) x) 131 b (d 4 0)) 125 (6 * b + (d 4 0).toNat) 2 = jm J b (mup (mup (eOut e 0) 6 0 (d 4 0)) 0 (d 4 0).toNat 2) x := by
      unfold jm; rw [w6, w0 _ _ _ (by omega)]
    rw [hmem]
    have hp6 := h.2.2.2.2.2.1 (d 4 0).toNat (by omega)
    refine ⟨by omega, by omega, r_layNames (d := dOut d 0) hb hR hW hpl (by omega) ?_ ?_ ?_ (fun K2 hK2 hnm => T_M_begins_55 ⟨by omega, ?_⟩)⟩
    · rw [mup_ne (by omega), mup_ne (by omega), g _ _ (by omega) (by omega), f _ _ (by omega) (by omega)]; exact hp6.1
    · rw [mup_ne (by omega), mup_ne (by omega), g _ _ (by omega) (by omega), f _ _ (by omega) (by omega)]; exact hp6.2.2.1
    · rw [mup_ne (by omega), mup_ne (by omega), g _ _ (by omega) (by omega), t10]; exact h.1
    · have htk := (hR.2.1 (d 4 0).toNat (by omega)).2.1
      rw [jm_lo (by omega) (by omega), htk]
      refine r_boundLaw (law := 0) (nm := nmv I p (dOut d 0) (d 4 0) (dOut d 0 0 11)) (by omega) hR hpl (by omega) (by omega) (by omega) (fun j hj => ⟨hnm j hj, nmv_big (P := 0) hpl hwy hd1 (by omega) (by omega) hd1.2.2.1 j hj⟩) (fun x2 K3 hK3 => T_M_begins_69 ⟨by omega, ?_⟩)
      have e136' : jm J b (mup (mup (eOut e 0) 6 0 (d 4 0)) 0 (d 4 0).toNat 2) x2 136 b = d 0 10 := by
        unfold jm
        rw [(jS (b := b) (mup J 98 52 x2) _).2.2.2.2.2.2.2.2.2.2.2.1, mup_ne (by omega), mup_ne (by omega), g _ _ (by omega) (by omega)]; exact h.1
      rw [Int.toNat_natCast, e136']
      exact fin _ x2 K3 (by unfold fMins bl; rw [if_neg h2]) (fun a ha1 ha2 => by rw [hK3 a ha2, hK2 a ha1])
/-- a talk goes on: nobody is told yet -/
theorem DR_left {P v : Int} (h : DR P M d e) : DR P M (mup d 0 13 v) (mup e 7 0 v) := by
  have hm : ∀ r : Int, dMode (mup d 0 13 v) r = dMode d r := fun r => dMode_congr (by simp [mup_app]) (by simp [mup_app]) (by rw [mup_other (by omega)])
  unfold DR at *
  simp only [hm]
  simp only [mup_app]
  grind
/-- she talks to nobody -/
theorem DR_none {P v u : Int} (hd : DOK P M d) (h : DR P M d e) (h2 : d 0 12 = -2) : DR P M (mup (mup d 0 13 v) 0 12 (-1)) (mup (mup e 7 0 u) 6 0 (-1)) := by
  have hm : ∀ r : Nat, dMode (mup (mup d 0 13 v) 0 12 (-1)) (r : Int) = dMode d r := fun r => dMode_same (by simp only [mup_app]; simp; omega) (by simp [mup_app])
  have he : en (-1) = -1 := rfl
  unfold DR at *
  simp only [hm]
  simp only [mup_app]
  grind
theorem dMode_none {P v r : Int} (hd : DOK P M d) (h0 : 0 ≤ d 0 12) (hr : r ≠ -1) : dMode (mup (mup d 0 13 v) 0 12 (-1)) r = if r = d 0 12 then 0 else dMode d r := by
  have hds := hd.2.2.2.2.2.2.2.2.2.1
  by_cases h : r = d 0 12
  · rw [if_pos h]
    refine dMode_iff.2.2 ?_ ?_
    · simp [mup_app]; omega
    · intro k hk
      have hk' : (k : Int) < d 0 11 := by simpa [mup_app] using hk
      have := hds k hk'
      simp [mup_app]
      omega
  · rw [if_neg h]
    refine dMode_same ?_ (by simp [mup_app])
    simp [mup_app]
    omega
/-- one is told the time -/
theorem DR_told {P v u l t : Int} (hP : 0 ≤ P ∧ P ≤ 6) (hd : DOK P M d) (h : DR P M d e) (h0 : 0 ≤ d 0 12) : DR P M (mup (mup (mup (mup d 0 13 v) 0 12 (-1)) 1 (d 0 12).toNat l) 3 (d 0 12).toNat t) (mup (mup (mup (mup (mup e 7 0 u) 6 0 (-1)) 2 (d 0 12).toNat l) 3 (d 0 12).toNat t) 0 (d 0 12).toNat 0) := by
  have hm : ∀ r : Nat, dMode (mup (mup (mup (mup d 0 13 v) 0 12 (-1)) 1 (d 0 12).toNat l) 3 (d 0 12).toNat t) (r : Int) = if (r : Int) = d 0 12 then 0 else dMode d r := fun r => by
    rw [← dMode_none (v := v) hd h0 (by omega)]
    exact dMode_congr (by simp [mup_app]) (by simp [mup_app]) (by rw [mup_other (by omega), mup_other (by omega)])
  have he : en (-1) = -1 := rfl
  unfold DR at *
  refine ⟨?_, ?_, ?_, ?_, ?_, ?_, ?_, ?_⟩
  · simp [mup_app, h.1]
  · simp [mup_app, h.2.1]
  · simp [mup_app, he]
  · simp [mup_app]
  · simp [mup_app, h.2.2.2.2.1]
  · intro r hr
    have h6 := h.2.2.2.2.2.1 r hr
    rw [hm]
    by_cases h3 : (r : Int) = d 0 12
    · have h4 : r = (d 0 12).toNat := by omega
      rw [if_pos h3, ← h4]
      simp [mup_app, h6]
    · have h4 : r ≠ (d 0 12).toNat := by omega
      rw [if_neg h3]
      simp [mup_app, h6, h4]
  · intro k hk
    have hk' : (k : Int) < d 0 11 := by simpa [mup_app] using hk
    simp [mup_app, h.2.2.2.2.2.2.1 k hk']
  · intro m hm
    simp [mup_app, h.2.2.2.2.2.2.2 m hm]
/-- her talk is at its end -/
theorem r_isTold (hb : b ≤ 1) (hR : PR I p J) (hW : WR I p J) (hpl : planOK I p) (hwy : wayOK I (I p 13)) (hd : DOK (I p 13) M d) (h : DR (I p 13) M d e) (hm : d 0 10 ≤ 20000) (h12 : d 0 12 ≠ -1) (h1 : d 0 13 ≤ 1)
    (hQ : ∀ e' x' K', DR (I p 13) M (fGoOn I p d) e' → KF K K' → Q [] (mem Ls pp (jm J b e' x') K')) {u : Int} : m_Call i_M_isTold [.inr (.inr 98), .inl (b : Int)] (mem Ls pp (jm J b (mup e 7 0 u) x) K) Q := by
  obtain ⟨j0, j1, j2, j3, j4, j5, j6, j7, j8, j9, j10, j11, j12⟩ := jS (b := b) (mup J 98 52 x) (mup e 7 0 u)
  obtain ⟨w0, w1, w2, w3, w4, w5, w6, w7, w8, w9, w10, w11, w12⟩ := jW (b := b) (mup J 98 52 x)
  have hP := hpl.1
  have htk := hd.2.2.2.1
  have e131 : jm J b (mup e 7 0 u) x 131 b = en (d 0 12) := by unfold jm; rw [j6, mup_ne (by omega)]; exact h.2.2.1
  unfold fGoOn at hQ
  rw [if_neg (by omega)] at hQ
  refine E_M_isTold ?_
  rw [Int.toNat_natCast, e131]
  have hm6 : mup (jm J b (mup e 7 0 u) x) 131 b (-1) = jm J b (mup (mup e 7 0 u) 6 0 (-1)) x := by unfold jm; rw [w6]
  rw [hm6]
  refine ⟨by omega, by omega, fun h2 => ?_, fun h2 => ?_⟩
  · have h3 : d 0 12 ≠ -2 := fun h4 => h2 (by rw [h4]; rfl)
    have h4 : en (d 0 12) = d 0 12 := en_ne h3
    have hp6 := h.2.2.2.2.2.1 (d 0 12).toNat (by omega)
    have hah := hd.2.2.2.2.2.2.1 (d 0 12).toNat (by omega)
    rw [if_neg h3] at hQ
    rw [h4, ix6 hb (by omega), Int.toNat_natCast]
    have e126 : jm J b (mup e 7 0 u) x 126 (6 * b + (d 0 12).toNat) = d 2 (d 0 12).toNat := by unfold jm; rw [j1 _ (by omega), mup_ne (by omega)]; exact hp6.2.1
    rw [e126]
    have hd1 : DOK (I p 13) M (mup (mup d 0 13 (d 0 13 - 1)) 0 12 (-1)) := by
      have hl := hd.2.2.2.2.1
      clear hQ hm6 e126 e131 j0 j1 j2 j3 j4 j5 j6 j7 j8 j9 j10 j11 j12 w0 w1 w2 w3 w4 w5 w6 w7 w8 w9 w10 w11 w12 hwy hW hR h hp6
      unfold DOK at *; simp only [mup_app]; grind
    unfold fTold fLate at hQ
    have g : ∀ a k, a ≠ 0 → mup (mup d 0 13 (d 0 13 - 1)) 0 12 (-1) a k = d a k := fun a k h1 => by rw [mup_ne (Or.inl h1), mup_ne (Or.inl h1)]
    rw [g 2 _ (by omega), g 3 _ (by omega)] at hQ
    have t10 : mup (mup d 0 13 (d 0 13 - 1)) 0 12 (-1) 0 10 = d 0 10 := by simp [mup_app]
    refine ⟨by omega, r_layNames (d := mup (mup d 0 13 (d 0 13 - 1)) 0 12 (-1)) hb hR hW hpl (by omega) ?_ ?_ ?_ (fun K2 hK2 hnm => T_M_isTold_40 ?_)⟩
    · rw [mup_ne (by omega), mup_ne (by omega), g _ _ (by omega)]; exact hp6.1
    · rw [mup_ne (by omega), mup_ne (by omega), g _ _ (by omega)]; exact hp6.2.2.1
    · rw [mup_ne (by omega), mup_ne (by omega), t10]; exact h.1
    · have e126' : jm J b (mup (mup e 7 0 u) 6 0 (-1)) x 126 (6 * b + (d 0 12).toNat) = d 2 (d 0 12).toNat := by
        unfold jm; rw [(jS (b := b) (mup J 98 52 x) _).2.1 _ (by omega), mup_ne (by omega), mup_ne (by omega)]; exact hp6.2.1
      rw [Int.toNat_natCast, e126', wr_of (z := -d 2 (d 0 12).toNat) (by omega) (by omega)]
      refine ⟨by omega, fun h5 => ⟨by omega, ?_⟩, fun h5 => by omega⟩
      refine r_boundLaw (law := 1) (nm := nmv I p (mup (mup d 0 13 (d 0 13 - 1)) 0 12 (-1)) (d 0 12) (d 2 (d 0 12).toNat)) (by omega) hR hpl (by omega) (by omega) (by omega) (fun j hj => ⟨hnm j hj, nmv_big (P := 0) hpl hwy hd1 (by omega) (by omega) (by omega) j hj⟩) (fun x2 K3 hK3 => T_M_isTold_77 ?_)
      have e128 : jm J b (mup (mup e 7 0 u) 6 0 (-1)) x2 128 (6 * b + (d 0 12).toNat) = d 3 (d 0 12).toNat := by
        unfold jm; rw [(jS (b := b) (mup J 98 52 x2) _).2.2.2.1 _ (by omega), mup_ne (by omega), mup_ne (by omega)]; exact hp6.2.2.1
      rw [Int.toNat_natCast, e128]
      refine ⟨by omega, by omega, by omega, by omega, ?_⟩
      have hww : wth (-d 2 (d 0 12).toNat) (-30) 30 = -d 2 (d 0 12).toNat := by unfold wth; rw [if_neg (by omega), if_neg (by omega)]
      rw [hww] at hQ
      have := hQ _ x2 K3 (DR_told (v := d 0 13 - 1) (u := u) hP hd h (by omega)) (fun a ha1 ha2 => by rw [hK3 a ha2, hK2 a ha1])
      unfold jm
      obtain ⟨v0, v1, v2, v3, v4, v5, v6, v7, v8, v9, v10, v11, v12⟩ := jW (b := b) (mup J 98 52 x2)
      rw [v2 _ _ _ (by omega), v3 _ _ _ (by omega), v0 _ _ _ (by omega)]
      exact this
  · have h3 : d 0 12 = -2 := by unfold en at h2; split at h2 <;> omega
    rw [if_pos h3] at hQ
    exact hQ _ x K (DR_none hd h h3) KF.rfl'
end R4
