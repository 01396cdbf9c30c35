section R5
variable {Ls pp p b kc ks : Nat} {M : Int} {I J K d e : Nat → Nat → Int} {Q : List mV → mM → Prop} {x : Int}
theorem DR_off {P v : Int} {q : Nat} (h : DR P M d e) : DR P M (mup d 1 q v) (mup e 2 q v) := by
  have hm : ∀ r : Int, dMode (mup d 1 q v) r = dMode d r := fun r => dMode_congr (by simp [mup_app]) (by simp [mup_app]) (by rw [mup_other (by omega)])
  unfold DR at *
  simp only [hm]
  simp only [mup_app]
  grind
theorem DR_came0 {P v : Int} {m : Nat} (h : DR P M d e) : DR P M (mup d 6 m v) (mup e 9 (2 * m) v) := by
  have hm : ∀ r : Int, dMode (mup d 6 m v) r = dMode d r := fun r => dMode_congr (by simp [mup_app]) (by simp [mup_app]) (by rw [mup_other (by omega)])
  unfold DR at *
  refine ⟨by simp [mup_app, h.1], by simp [mup_app, h.2.1], by simp [mup_app, h.2.2.1], by simpa [mup_app] using h.2.2.2.1, by simp [mup_app, h.2.2.2.2.1], fun q hq => ?_, fun k hk => ?_, fun n hn => ?_⟩
  · rw [hm]; simp [mup_app, h.2.2.2.2.2.1 q hq]
  · have hk' : (k : Int) < d 0 11 := by simpa [mup_app] using hk
    simp [mup_app, h.2.2.2.2.2.2.1 k hk']
  · have h8 := h.2.2.2.2.2.2.2 n hn
    by_cases hnm : n = m
    · subst hnm; simp [mup_app, h8]
    · have a1 : ¬ 2 * n = 2 * m := by omega
      have a2 : ¬ 2 * n + 1 = 2 * m + 1 := by omega
      have a3 : ¬ 2 * n + 1 = 2 * m := by omega
      have a4 : ¬ 2 * n = 2 * m + 1 := by omega
      simp [mup_app, h8, hnm, a1, a2, a3, a4]
theorem DR_came1 {P v : Int} {m : Nat} (h : DR P M d e) : DR P M (mup d 7 m v) (mup e 9 (2 * m + 1) v) := by
  have hm : ∀ r : Int, dMode (mup d 7 m v) r = dMode d r := fun r => dMode_congr (by simp [mup_app]) (by simp [mup_app]) (by rw [mup_other (by omega)])
  unfold DR at *
  refine ⟨by simp [mup_app, h.1], by simp [mup_app, h.2.1], by simp [mup_app, h.2.2.1], by simpa [mup_app] using h.2.2.2.1, by simp [mup_app, h.2.2.2.2.1], fun q hq => ?_, fun k hk => ?_, fun n hn => ?_⟩
  · rw [hm]; simp [mup_app, h.2.2.2.2.2.1 q hq]
  · have hk' : (k : Int) < d 0 11 := by simpa [mup_app] using hk
    simp [mup_app, h.2.2.2.2.2.2.1 k hk']
  · have h8 := h.2.2.2.2.2.2.2 n hn
    by_cases hnm : n = m
    · subst hnm; simp [mup_app, h8]
    · have a1 : ¬ 2 * n = 2 * m := by omega
      have a2 : ¬ 2 * n + 1 = 2 * m + 1 := by omega
      have a3 : ¬ 2 * n + 1 = 2 * m := by omega
      have a4 : ¬ 2 * n = 2 * m + 1 := by omega
      simp [mup_app, h8, hnm, a1, a2, a3, a4]
theorem DR_verdict {P v : Int} {m : Nat} (h : DR P M d e) : DR P M (mup d 8 m v) (mup e 10 m v) := by
  have hm : ∀ r : Int, dMode (mup d 8 m v) r = dMode d r := fun r => dMode_congr (by simp [mup_app]) (by simp [mup_app]) (by rw [mup_other (by omega)])
  unfold DR at *
  refine ⟨by simp [mup_app, h.1], by simp [mup_app, h.2.1], by simp [mup_app, h.2.2.1], by simpa [mup_app] using h.2.2.2.1, by simp [mup_app, h.2.2.2.2.1], fun q hq => ?_, fun k hk => ?_, fun n hn => ?_⟩
  · rw [hm]; simp [mup_app, h.2.2.2.2.2.1 q hq]
  · have hk' : (k : Int) < d 0 11 := by simpa [mup_app] using hk
    simp [mup_app, h.2.2.2.2.2.2.1 k hk']
  · have h8 := h.2.2.2.2.2.2.2 n hn
    by_cases hnm : n = m
    · subst hnm; simp [mup_app, h8]
    · have a1 : ¬ 2 * n = 2 * m := by omega
      have a2 : ¬ 2 * n + 1 = 2 * m + 1 := by omega
      have a3 : ¬ 2 * n + 1 = 2 * m := by omega
      have a4 : ¬ 2 * n = 2 * m + 1 := by omega
      simp [mup_app, h8, hnm, a1, a2, a3, a4]
theorem DR_minute {P v : Int} (h : DR P M d e) : DR P M (mup d 0 10 v) (mup e 11 0 v) := by
  have hm : ∀ r : Int, dMode (mup d 0 10 v) r = dMode d r := fun r => dMode_congr (by simp [mup_app]) (by simp [mup_app]) (by rw [mup_other (by omega)])
  unfold DR at *
  simp only [hm]
  simp only [mup_app]
  grind
theorem r_drifts_loop (hb : b ≤ 1) (hR : PR I p J) (hW : WR I p J) (hpl : planOK I p) (hwy : wayOK I (I p 13)) : ∀ (n k : Nat) (d e K' : Nat → Nat → Int) (x : Int), (k : Int) + n = I p 13 → DOK (I p 13) M d → DR (I p 13) M d e → d 0 10 ≤ 20000 → KF K K' →
    (∀ e' x' K', DR (I p 13) M (lp (fDrift1 I p) k n d) e' → KF K K' → Q [] (mem Ls pp (jm J b e' x') K')) → m_Wp i_M_drifts 2 kc ks [(0, .inr (.inr 98)), (1, .inl (b : Int)), (2, .inl (k : Int))] [] (mem Ls pp (jm J b e x) K') Q := by
  have hP := hpl.1
  intro n
  induction n with
  | zero =>
    intro k d e K' x hk hd h hm hK hQ
    refine T_M_drifts_2 ?_
    rw [jm_98 (by omega), hR.1.1]
    exact ⟨fun _ => hQ e x K' h hK, fun h2 => absurd (show I p 13 ≤ (k : Int) by omega) h2⟩
  | succ n ih =>
    intro k d e K' x hk hd h hm hK hQ
    have hw : wr ((k : Int) + 1) = ((k + 1 : Nat) : Int) := by rw [wr_of] <;> omega
    have hkt : (k : Int).toNat = k := Int.toNat_natCast k
    have hp6 := h.2.2.2.2.2.1 k (by omega)
    have hof := hd.2.2.2.2.2.2.1 k (by omega)
    have hra := hwy.2 k (by omega)
    have e130 : jm J b e x 130 b = d 0 11 := by unfold jm; rw [(jS (b := b) (mup J 98 52 x) e).2.2.2.2.2.1]; exact h.2.1
    have e127 : jm J b e x 127 (6 * b + k) = d 1 k := by unfold jm; rw [(jS (b := b) (mup J 98 52 x) e).2.2.1 _ (by omega)]; exact hp6.1
    refine T_M_drifts_2 ?_
    rw [jm_98 (by omega), hR.1.1, Int.toNat_natCast, e130]
    refine ⟨fun h2 => by omega, fun _ => ⟨by omega, r_layNames (d := d) hb hR hW hpl (by omega) (by rw [hkt]; exact hp6.1) (by rw [hkt]; exact hp6.2.2.1) h.1 (fun K2 hK2 hnm => T_M_drifts_22 ?_)⟩⟩
    rw [ix6 hb (by omega), hkt, Int.toNat_natCast, e127]
    refine ⟨by omega, r_rateIn hR hW hpl (by omega) (T_M_drifts_40 ?_)⟩
    rw [hkt]
    refine r_boundLaw (law := 2) (nm := nmv I p d (k : Int) (d 0 11)) (by omega) hR hpl (by omega) (by omega) (by omega) (fun j hj => ⟨hnm j hj, nmv_big (P := 0) hpl hwy hd (by omega) hm hd.2.2.1 j hj⟩) (fun x2 K3 hK3 => T_M_drifts_47 ?_)
    have hbl : bl (lv I (p + 13) 2 (nmv I p d (k : Int) (d 0 11))) (I 66 k) (-9) 9 = fMore I p d k := rfl
    have hfr : -9 ≤ fMore I p d k ∧ fMore I p d k ≤ 9 := by
      unfold fMore; split
      · omega
      · exact wth_range (by omega)
    rw [hbl, wr_of (z := d 1 k + fMore I p d k) (by omega) (by omega), ix6 hb (by omega), hkt]
    have go : m_Wp i_M_drifts 67 kc ks [(0, .inr (.inr 98)), (1, .inl (b : Int)), (2, .inl (k : Int)), (3, .inl (d 1 k + fMore I p d k))] [.inl (wth (d 1 k + fMore I p d k) (-99) 99), .inl ((6 * b + k : Nat) : Int), .inr (.inr 127)] (mem Ls pp (jm J b e x2) K3) Q := by
      refine T_M_drifts_67 ⟨by omega, ?_⟩
      rw [hw, Int.toNat_natCast]
      have hm2 : mup (jm J b e x2) 127 (6 * b + k) (wth (d 1 k + fMore I p d k) (-99) 99) = jm J b (mup e 2 k (wth (d 1 k + fMore I p d k) (-99) 99)) x2 := by
        unfold jm; rw [(jW (b := b) (mup J 98 52 x2)).2.2.1 _ _ _ (by omega)]
      rw [hm2]
      refine ih (k + 1) (fDrift1 I p k d) _ K3 x2 (by omega) (DOK_drift1 hd) (by unfold fDrift1; exact DR_off h) (by rw [fDrift1_minute]; exact hm) (fun a h1 h2 => by rw [hK3 a h2, hK2 a h1, hK a h1 h2]) hQ
    refine E_M_within ⟨fun h2 => ⟨fun h3 => ?_, fun h3 => ?_⟩, fun h2 => ?_⟩
    · have : wth (d 1 k + fMore I p d k) (-99) 99 = d 1 k + fMore I p d k := by unfold wth; rw [if_neg (by omega), if_neg (by omega)]
      rw [this] at go; exact go
    · have : wth (d 1 k + fMore I p d k) (-99) 99 = 99 := by unfold wth; rw [if_neg (by omega), if_pos (by omega)]
      rw [this] at go; exact go
    · have : wth (d 1 k + fMore I p d k) (-99) 99 = -99 := by unfold wth; rw [if_pos (by omega)]
      rw [this] at go; exact go
theorem r_drifts (hb : b ≤ 1) (hR : PR I p J) (hW : WR I p J) (hpl : planOK I p) (hwy : wayOK I (I p 13)) (hd : DOK (I p 13) M d) (h : DR (I p 13) M d e) (hm : d 0 10 ≤ 20000) (hQ : ∀ e' x' K', DR (I p 13) M (fDrift I p d) e' → KF K K' → Q [] (mem Ls pp (jm J b e' x') K')) : m_Call i_M_drifts [.inr (.inr 98), .inl (b : Int)] (mem Ls pp (jm J b e x) K) Q :=
  E_M_drifts (r_drifts_loop hb hR hW hpl hwy (I p 13).toNat 0 d e K x (by have := hpl.1; omega) hd h hm KF.rfl' hQ)
theorem r_comes {m s : Nat} (hb : b ≤ 1) (hR : PR I p J) (hpl : planOK I p) (hM : I p 15 = M) (hd : DOK (I p 13) M d) (h : DR (I p 13) M d e) (hmm : (m : Int) < I p 15) (hs : s = 0 ∨ s = 1) (hQ : ∀ e', DR (I p 13) M (fCome I p m s d) e' → Q [] (mem Ls pp (jm J b e' x) K)) : m_Call i_M_comes [.inr (.inr 98), .inl (b : Int), .inl (m : Int), .inl (s : Int)] (mem Ls pp (jm J b e x) K) Q := by
  obtain ⟨j0, j1, j2, j3, j4, j5, j6, j7, j8, j9, j10, j11, j12⟩ := jS (b := b) (mup J 98 52 x) e
  obtain ⟨w0, w1, w2, w3, w4, w5, w6, w7, w8, w9, w10, w11, w12⟩ := jW (b := b) (mup J 98 52 x)
  have hP := hpl.1
  have h15 := hpl.2.2.1
  have hme := hpl.2.2.2.2.2.2.2.1 m (by omega)
  have hpm := hR.2.2.2.1 m (by omega)
  have hdm := h.2.2.2.2.2.2.2 m (by omega)
  have hdo := hd.2.2.2.2.2.2.2.2.2.2 m (by omega)
  have h1 := (h.2.2.2.2.2.1 (I (p + 8) m).toNat (by omega)).1
  have h2 := (h.2.2.2.2.2.1 (I (p + 9) m).toNat (by omega)).1
  have hmt : (m : Int).toNat = m := Int.toNat_natCast m
  have hi : 12 * b + 2 * m + 1 = 12 * b + (2 * m + 1) := by omega
  refine E_M_comes ?_
  have e110 : jm J b e x 110 = J 110 := jm_lo (by omega) (by omega)
  have e111 : jm J b e x 111 = J 111 := jm_lo (by omega) (by omega)
  rw [ix12' hb (by omega) (by omega), ix6 (x := (m : Int)) hb (by omega), e110, e111]
  simp only [Int.toNat_natCast]
  rw [hpm.1, hpm.2.1, ix6 (x := I (p + 8) m) hb (by omega), ix6 (x := I (p + 9) m) hb (by omega)]
  simp only [Int.toNat_natCast]
  unfold jm at *
  rw [j11, h.1, j2 _ (by omega), j2 _ (by omega), h1, h2, j8 _ (by omega), hdm.1]
  rcases hs with rfl | rfl
  · rw [fCome_0] at hQ
    rw [Nat.add_zero, j9 _ (by omega), hdm.2.1, w9 _ _ _ (by omega)]
    refine ⟨fun h3 => absurd rfl h3, fun _ => ⟨by omega, by omega, fun h3 => ?_, fun h3 => ⟨by omega, by omega, by omega, fun h4 => ?_, fun h4 => ⟨by omega, by omega, ?_⟩⟩⟩⟩
    · rw [if_neg (by omega)] at hQ; exact hQ e h
    · rw [if_neg (by omega)] at hQ; exact hQ e h
    · rw [if_pos (by omega)] at hQ; exact hQ _ (DR_came0 h)
  · rw [fCome_1] at hQ
    rw [hi, j9 _ (by omega), hdm.2.2.1, w9 _ _ _ (by omega)]
    refine ⟨fun _ => ⟨by omega, by omega, fun h3 => ?_, fun h3 => ⟨by omega, by omega, by omega, fun h4 => ?_, fun h4 => ⟨by omega, by omega, ?_⟩⟩⟩, fun h3 => by omega⟩
    · rw [if_neg (by omega)] at hQ; exact hQ e h
    · rw [if_neg (by omega)] at hQ; exact hQ e h
    · rw [if_pos (by omega)] at hQ; exact hQ _ (DR_came1 h)
theorem r_meets {m : Nat} (hb : b ≤ 1) (hR : PR I p J) (hW : WR I p J) (hpl : planOK I p) (hM : I p 15 = M) (hd : DOK (I p 13) M d) (h : DR (I p 13) M d e) (hm : d 0 10 ≤ 20000) (hmm : (m : Int) < I p 15) (hQ : ∀ e', DR (I p 13) M (fKept I p m (fCome I p m 1 (fCome I p m 0 d))) e' → Q [] (mem Ls pp (jm J b e' x) K)) : m_Call i_M_meets [.inr (.inr 98), .inl (b : Int), .inl (m : Int)] (mem Ls pp (jm J b e x) K) Q := by
  have hP := hpl.1
  have h15 := hpl.2.2.1
  have hme := hpl.2.2.2.2.2.2.2.1 m (by omega)
  have hpm := hR.2.2.2.1 m (by omega)
  have hd1 : DOK (I p 13) M (fCome I p m 0 d) := DOK_come (Or.inl rfl) hd
  have hd2 : DOK (I p 13) M (fCome I p m 1 (fCome I p m 0 d)) := DOK_come (Or.inr rfl) hd1
  have t0 : ∀ (e : Nat → Nat → Int) (s : Nat), fCome I p m s e 0 10 = e 0 10 := fun e s => by unfold fCome; split <;> simp [mup_app]
  have t20 : fCome I p m 1 (fCome I p m 0 d) 0 10 = d 0 10 := by rw [t0, t0]
  refine E_M_meets (r_comes (s := 0) hb hR hpl hM hd h hmm (Or.inl rfl) (fun e1 h1 => T_M_meets_7 (r_comes (s := 1) hb hR hpl hM hd1 h1 hmm (Or.inr rfl) (fun e2 h2 => T_M_meets_14 ?_))))
  unfold fKept at hQ
  generalize fCome I p m 1 (fCome I p m 0 d) = d2 at *
  obtain ⟨j0, j1, j2, j3, j4, j5, j6, j7, j8, j9, j10, j11, j12⟩ := jS (b := b) (mup J 98 52 x) e2
  have hdm := h2.2.2.2.2.2.2.2 m (by omega)
  have hdo := hd2.2.2.2.2.2.2.2.2.2.2 m (by omega)
  have hmt : (m : Int).toNat = m := Int.toNat_natCast m
  have hi : (((12 * b + 2 * m : Nat) : Int) + 1) = ((12 * b + (2 * m + 1) : Nat) : Int) := by omega
  have c0 : jm J b e2 x 134 (12 * b + 2 * m) = d2 6 m := by unfold jm; rw [j9 _ (by omega)]; exact hdm.2.1
  have c1 : jm J b e2 x 134 (12 * b + (2 * m + 1)) = d2 7 m := by unfold jm; rw [j9 _ (by omega)]; exact hdm.2.2.1
  rw [ix12 hb (by omega), hmt, hi, wr_of (z := ((12 * b + (2 * m + 1) : Nat) : Int)) (by omega) (by omega), Int.toNat_natCast, Int.toNat_natCast, c0, c1, jm_lo (by omega) (by omega), hpm.1, wr_of (z := d2 7 m - d2 6 m) (by omega) (by omega), wr_of (z := d2 6 m - d2 7 m) (by omega) (by omega)]
  have fin : ∀ f : Int, d2 6 m ≠ -1 → d2 7 m ≠ -1 → f = ((d2 6 m - d2 7 m).natAbs : Int) → m_Call i_M_waitsOf [.inr (.inr 98), .inl (I (p + 8) m)] (mem Ls pp (jm J b e2 x) K) (fun v M' => m_Wp i_M_meets 84 0 0 [(0, .inr (.inr 98)), (1, .inl (b : Int)), (2, .inl (m : Int)), (5, .inl f)] (v ++ []) M' Q) := by
    intro f hf6 hf7 hf
    rw [if_neg (by omega)] at hQ
    refine r_waitsOf hR hW hpl (by omega) (T_M_meets_84 ⟨by omega, ?_⟩)
    rw [jm_lo (by omega) (by omega), hmt, hpm.2.1]
    refine r_waitsOf hR hW hpl (by omega) (T_M_meets_96 ?_)
    have hmem : ∀ v, mup (jm J b e2 x) 135 (6 * b + m) v = jm J b (mup e2 10 m v) x := fun v => by unfold jm; rw [(jW (b := b) (mup J 98 52 x)).2.2.2.2.2.2.2.2.2.2.1 _ _ _ (by omega)]
    rw [ix6 hb (by omega), hmt, Int.toNat_natCast, hmem, hmem]
    have hq := hQ _ (DR_verdict h2)
    rw [← hf] at hq
    unfold m_min at hq
    refine ⟨fun h3 => ⟨fun h4 => ⟨by omega, ?_⟩, fun h4 => ⟨by omega, ?_⟩⟩, fun h3 => ⟨fun h4 => ⟨by omega, ?_⟩, fun h4 => ⟨by omega, ?_⟩⟩⟩
    · rw [if_neg (by split <;> omega)] at hq; exact hq
    · rw [if_pos (by split <;> omega)] at hq; exact hq
    · rw [if_neg (by split <;> omega)] at hq; exact hq
    · rw [if_pos (by split <;> omega)] at hq; exact hq
  refine ⟨by omega, by omega, fun h3 => ?_, fun h3 => ⟨fun h4 => ⟨fun h5 => ⟨by omega, fin _ (by omega) (by omega) (by omega)⟩, fun h5 => ⟨by omega, fin _ (by omega) (by omega) (by omega)⟩⟩, fun h4 => ?_⟩⟩
  · rw [if_pos (by omega)] at hQ; exact hQ _ h2
  · rw [if_pos (by omega)] at hQ; exact hQ _ h2
end R5
