/-! ===== phase 2: chance ===== -/
section Q12
variable {Ls p kc ks : Nat} {P M : Int} {I I0 I1 I2 J K L L1 L2 K2 Z d d' e : Nat → Nat → Int} {Q : List mV → mM → Prop} {x : Int}
def mD (p : Nat) (I I0 J : Nat → Nat → Int) (M : Int) (d e : Nat → Nat → Int) : Prop := cIn p I I0 M d ∧ PR I0 p J ∧ WR I0 p J ∧ DR (I0 p 13) M d e
theorem eqvD_min (h : mD p I I0 J M d e) (h' : mD p I I0 J M d' e) (h67 : J 98 67 ≠ 0) (hn : d 0 14 = d' 0 14) (hm : d 0 10 ≤ 20000) (hP : I0 p 13 ≤ 6) (hM : M ≤ 6) : ∃ e1, mD p I I0 J M (fMin I0 p d) e1 ∧ mD p I I0 J M (fMin I0 p d') e1 ∧ fMin I0 p d 0 14 = fMin I0 p d' 0 14 := by
  have hm' : d' 0 10 ≤ 20000 := by have a := h.2.2.2.1; have b := h'.2.2.2.1; omega
  obtain ⟨⟨h1, h2, h3, h4, h5, h6⟩, a1, a2, a3⟩ := h
  obtain ⟨⟨_, _, _, _, _, h6'⟩, _, _, a3'⟩ := h'
  have r1 := r_minuteGoes (Ls := 0) (pp := p) (b := 1) (K := fun _ _ => d 0 14) (x := 0) (by omega) a1 a2 h2 h3 h4 h6 a3 hm (fun _ => rfl) (Q := fun _ M1 => ∃ e' x' K', M1 = mem 0 p (jm J 1 e' x') K' ∧ DR (I0 p 13) M (fMin I0 p d) e' ∧ K' 98 66 = fMin I0 p d 0 14) (fun e' x' K' h1 hK => ⟨e', x', K', rfl, h1, hK.2.2.2 h67⟩)
  have r2 := r_minuteGoes (Ls := 0) (pp := p) (b := 1) (K := fun _ _ => d 0 14) (x := 0) (by omega) a1 a2 h2 h3 h4 h6' a3' hm' (fun _ => hn) (Q := fun _ M1 => ∃ e' x' K', M1 = mem 0 p (jm J 1 e' x') K' ∧ DR (I0 p 13) M (fMin I0 p d') e' ∧ K' 98 66 = fMin I0 p d' 0 14) (fun e' x' K' h1 hK => ⟨e', x', K', rfl, h1, hK.2.2.2 h67⟩)
  obtain ⟨v, M1, ⟨e1, x1, K1, hM1, b1, c1⟩, ⟨e2, x2, K2, hM2, b2, c2⟩⟩ := m_Call_det r1 r2
  have hi := mem_inj (hM1.symm.trans hM2)
  have hj := jm_inj hi.1
  refine ⟨e1, ⟨⟨h1, h2, h3, h4, h5, DOK_fMin h2 h6⟩, a1, a2, b1⟩, ⟨⟨h1, h2, h3, h4, h5, DOK_fMin h2 h6'⟩, a1, a2, DR_agrE hP hM (DOK_fMin h2 h6').2.2.1 (fun r k hr hk => (hj r k hr hk).symm) b2⟩, ?_⟩
  rw [← c1, ← c2, hi.2]
theorem eqvD_mins (h67 : J 98 67 ≠ 0) (hP : I0 p 13 ≤ 6) (hM : M ≤ 6) : ∀ (n : Nat) {d d' e : Nat → Nat → Int}, mD p I I0 J M d e → mD p I I0 J M d' e → d 0 14 = d' 0 14 → d 0 10 + n ≤ 20000 → ∃ e1, mD p I I0 J M (mins I0 p n d) e1 ∧ mD p I I0 J M (mins I0 p n d') e1 ∧ mins I0 p n d 0 14 = mins I0 p n d' 0 14
  | 0, _, _, e, h, h', hn, _ => ⟨e, h, h', hn⟩
  | n + 1, d, d', e, h, h', hn, hm => by
    obtain ⟨e1, a1, a2, a3⟩ := eqvD_min h h' h67 hn (by omega) hP hM
    exact eqvD_mins h67 hP hM n a1 a2 a3 (by rw [fMin_minute]; omega)
theorem cIn_num {y : Int} (h : cIn p I I0 M d) (hy : 0 ≤ y ∧ y ≤ 2147483647) : cIn p I I0 M (mup d 0 14 y) := by
  obtain ⟨h1, h2, h3, h4, h5, h6⟩ := h
  refine ⟨h1, h2, h3, h4, h5, ?_⟩
  unfold DOK at *; simp only [mup_app]; grind
theorem DR_num {y : Int} (h : DR P M d e) : DR P M (mup d 0 14 y) e := by
  have hm : ∀ r : Int, dMode (mup d 0 14 y) r = dMode d r := fun r => dMode_congr (by simp [mup_app]) (by simp [mup_app]) (by rw [mup_other (by omega)])
  unfold DR at *
  simp only [hm]
  simp only [mup_app]
  grind
/-- t trials more: the number drawn last, how often the meeting m was kept -/
def chS (I0 : Nat → Nat → Int) (p n m : Nat) (d0 : Nat → Nat → Int) : Nat → Int → Int → Int
  | 0, _, c => c
  | t + 1, y, c => chS I0 p n m d0 t (mins I0 p n (mup d0 0 14 y) 0 14) (if mins I0 p n (mup d0 0 14 y) 8 m = 1 then c + 1 else c)
theorem ch_same {n m : Nat} {y : Int} (hI : INV p I L) (hy : 0 ≤ y ∧ y ≤ 2147483647) (hn : n ≤ 200) (hmm : (m : Int) < I p 15) (hd : agr (dat I 28) d) (hc : cIn p I (flw I p 1) (I p 15) d) (hd' : agr (dat I 28) d') (hc' : cIn p I (flw I p 1) (I p 15) d') : mins (flw I p 1) p n (mup d 0 14 y) 0 14 = mins (flw I p 1) p n (mup d' 0 14 y) 0 14 ∧ mins (flw I p 1) p n (mup d 0 14 y) 8 m = mins (flw I p 1) p n (mup d' 0 14 y) 8 m := by
  have h6 := hc.2.1.1
  have h15 := hI.2.1.2.2.1
  have hpl := hI.2.1
  have hD := hI.2.2.2.1
  have hm9 : d 0 10 ≤ 9000 := by rw [hd.1 10 (by omega) (by omega), dat_at (by omega)]; exact hD.2.2.2
  have hPR : PR (flw I p 1) p (mup (J2 I) 98 67 1) := by
    have := m_rel (I1 := I) (v := 1) hI (fun _ _ => rfl)
    exact PR_congr (fun _ _ => rfl) (fun k a1 a2 => mup_ne (by omega)) (fun a a1 a2 => mup_other (by omega)) this
  have lay : ∀ d, agr (dat I 28) d → cIn p I (flw I p 1) (I p 15) d → mD p I (flw I p 1) (mup (J2 I) 98 67 1) (I p 15) (mup d 0 14 y) (jat I 0) := fun d hd hc => by
    refine ⟨cIn_num hc hy, hPR, WR_draw hI.1 hI.2.1, DR_num ?_⟩
    rw [hc.2.2.2.2.1]
    exact DR_agr hpl.1.2 hpl.2.2.1.2 hd hD.1.2.2.1 hD.2.1
  obtain ⟨e1, a1, a2, a3⟩ := eqvD_mins (by rw [mup_eq rfl rfl]; omega) h6.2 h15.2 n (lay d hd hc) (lay d' hd' hc') (by rw [mup_eq rfl rfl, mup_eq rfl rfl]) (by rw [mup_ne (by omega)]; omega)
  refine ⟨a3, ?_⟩
  rw [← (a1.2.2.2.2.2.2.2.2.2.2 m hmm).2.2.2, (a2.2.2.2.2.2.2.2.2.2.2 m hmm).2.2.2]
theorem ch_c {m : Nat} {N : Int} (hI : INV p I L) (hN : 1 ≤ N ∧ N ≤ 200) (hmm : (m : Int) < I p 15) : ∀ (t k : Nat) (X L' : Nat → Nat → Int) (y c : Int), k + t = 10 → (∃ d, X = dput (flw I p 1) 46 d) → lkeep L L' → (0 ≤ y ∧ y ≤ 2147483647) → (0 ≤ c ∧ c ≤ k) → (∀ d L2, lkeep L L2 → Q [.inl (chS (flw I p 1) p N.toNat m (dat I 28) t y c)] (mem Ls p (dput (flw I p 1) 46 d) L2)) → m_Wp i_C_chance 43 kc ks [(0, .inr (.inr 2)), (2, .inl N), (3, .inl (m : Int)), (4, .inl y), (5, .inl c), (6, .inl (k : Int))] [] (mem Ls p X L') Q := by
  have h15 := hI.2.1.2.2.1
  have h6 := hI.2.1.1
  have tt := tf (v := 1) hI.1 hI.2.1
  have hc0 : cIn p I (flw I p 1) (I p 15) (dat I 28) := ⟨hI.1, tt.1, tt.2.1, by rw [tt.2.2], tt.2.2, by rw [tt.2.2]; exact hI.2.2.2.1.1⟩
  intro t
  induction t with
  | zero =>
    intro k X L' y c hk hX hL hy hcc hQ
    obtain ⟨d, rfl⟩ := hX
    exact T_C_chance_43 ⟨fun _ => hQ d L' hL, fun h => by omega⟩
  | succ t ih =>
    intro k X L' y c hk hX hL hy hcc hQ
    obtain ⟨d0, rfl⟩ := hX
    refine T_C_chance_43 ⟨fun h => by omega, fun _ => q_copy (c := 46) (s := 28) (Or.inl ⟨rfl, rfl⟩) (fun d hd => T_C_chance_61 ?_)⟩
    rw [show dat (dput (flw I p 1) 46 d0) 28 = dat I 28 from dat_congr (fun j hj => by rw [dput_out (by omega), flw_out (by omega)])] at hd
    have hcd : cIn p I (flw I p 1) (I p 15) d := ⟨hI.1, tt.1, tt.2.1, by rw [tt.2.2], tt.2.2, by rw [tt.2.2]; exact DOK_agr h6.2 h15.2 hd hI.2.2.2.1.1⟩
    have hm9 : d 0 10 ≤ 9000 := by rw [hd.1 10 (by omega) (by omega), dat_at (by omega)]; exact hI.2.2.2.1.2.2.2
    have hs := ch_same (n := N.toNat) (m := m) (y := y) hI hy (by omega) hmm hd hcd agr.rfl' hc0
    rw [dput_dput, mup_dput0]
    have hcn := cIn_num hcd hy
    have hcm := cIn_mins hcn N.toNat
    refine q_passT (N := N) hcn (by omega) (by rw [mup_ne (by omega)]; omega) (fun L2 hL2 => T_C_chance_75 ?_)
    have e54 : ∀ d, dput (flw I p 1) 46 d 54 = d 8 := fun d => dput_at (c := 46) (j := 8) (by omega)
    rw [e54, Int.toNat_natCast, dput_c, hs.1, hs.2, show wr ((k : Int) + 1) = ((k + 1 : Nat) : Int) by rw [wr_of] <;> omega, wr_of (z := c + 1) (by omega) (by omega)]
    have hLL : lkeep L L2 := fun a ha => by rw [hL2 a ha, hL a ha]
    have hy2 : 0 ≤ mins (flw I p 1) p N.toNat (mup (dat I 28) 0 14 y) 0 14 ∧ mins (flw I p 1) p N.toNat (mup (dat I 28) 0 14 y) 0 14 ≤ 2147483647 := by
      rw [← hs.1]; exact hcm.2.2.2.2.2.2.2.2.2.2.1
    rw [chS] at hQ
    refine ⟨by omega, fun h => ?_, fun h => ?_⟩
    · rw [if_neg h] at hQ; exact ih (k + 1) _ L2 _ c (by omega) ⟨_, rfl⟩ hLL hy2 (by omega) hQ
    · rw [if_pos (Classical.not_not.mp h)] at hQ; exact ih (k + 1) _ L2 _ _ (by omega) ⟨_, rfl⟩ hLL hy2 (by omega) hQ
def stD (I1 X : Nat → Nat → Int) : Prop := X = mup I1 98 2 0 ∨ ∃ e x, X = jm (mup (J2 I1) 98 67 1) 1 e x
theorem draw_plain {Y : Nat → Nat → Int} : plainJ (jm (mup (J2 Y) 98 67 1) 1 e x) = jm (J2 Y) 1 e x := by
  unfold jm
  rw [plain_jput]
  have h1 : plainJ (mup (mup (J2 Y) 98 67 1) 98 52 x) = plainJ (mup (J2 Y) 98 52 x) := plainJ_ext (fun a' k hk => by
    by_cases h1 : a' = 98 ∧ k = 52
    · rw [mup_eq h1.1 h1.2, mup_eq h1.1 h1.2]
    · rw [mup_ne (by omega), mup_ne (by omega), mup_ne (by omega)])
  rw [h1]
  rw [plain_plain (Y := mup (J2 Y) 98 52 x) (by
    rw [mup_ne (by omega), mup_ne (by omega), mup_ne (by omega), mup_ne (by omega), mup_ne (by omega), mup_ne (by omega), mup_ne (by omega), mup_ne (by omega)]
    exact plainJ_fl)]
theorem d_start {X : Nat → Nat → Int} (hI : INV p I L) (hk : ∀ a, a < 46 ∨ 67 ≤ a → I1 a = I a) (hX : stD I1 X) (h : ∀ e x, DR (I p 13) (I p 15) (dat I 28) e → Q [] (mem Ls p (jm (J2 I1) 1 e x) K)) : m_Call i_M_layTried [.inr (.inr 98)] (mem Ls p X K) Q := by
  rcases hX with rfl | ⟨e0, x0, rfl⟩
  · exact m_start hI hk agr.rfl' (fun e he => h e _ he)
  · refine r_layTried (fun e he => ?_)
    have hpl := hI.2.1
    have hD := hI.2.2.2.1
    rw [draw_plain]
    unfold jm
    rw [jput_jput]
    refine h e x0 (DR_agrE hpl.1.2 hpl.2.2.1.2 hD.1.2.2.1 (fun r k hr hk' => ?_) hD.2.1)
    rw [he r k hr hk']
    unfold jm J2
    rw [jput1_lo hk', mup_other (by omega), mup_other (by omega), plainJ_out (by omega), mup_other (by omega), hk _ (by omega), jat_at hr hk', Nat.zero_mul, Nat.zero_add]
/-- longs behind draws -/
def KD (K K2 : Nat → Nat → Int) : Prop := (∀ a, a ≠ 98 → a ≠ 123 → a ≠ 124 → K2 a = K a) ∧ (∀ k, k ≠ 66 → K2 98 k = K 98 k)
theorem ch_m {m : Nat} {N w : Int} (hI : INV p I L) (hk1 : ∀ a, a < 46 ∨ 67 ≤ a → I1 a = I a) (hN : 1 ≤ N ∧ N ≤ 200) (hmm : (m : Int) < I p 15) : ∀ (t k : Nat) (X K' : Nat → Nat → Int) (y c : Int), k + t = 10 → stD I1 X → KD K K' → K' 98 66 = y → (0 ≤ y ∧ y ≤ 2147483647) → (0 ≤ c ∧ c ≤ k) → (∀ X K2, stD I1 X → KD K K2 → Q [.inl (chS (flw I p 1) p N.toNat m (dat I 28) t y c)] (mem Ls p (mup X 98 67 0) (mup K2 98 66 w))) → m_Wp i_M_chance 48 kc ks [(0, .inr (.inr 98)), (2, .inl N), (3, .inl (m : Int)), (4, .inr (.inl w)), (6, .inl c), (7, .inl (k : Int))] [] (mem Ls p X K') Q := by
  have h15 := hI.2.1.2.2.1
  have h6 := hI.2.1.1
  have tt := tf (v := 1) hI.1 hI.2.1
  have hc0 : cIn p I (flw I p 1) (I p 15) (dat I 28) := ⟨hI.1, tt.1, tt.2.1, by rw [tt.2.2], tt.2.2, by rw [tt.2.2]; exact hI.2.2.2.1.1⟩
  have hm9 : dat I 28 0 10 ≤ 9000 := by rw [dat_at (by omega)]; exact hI.2.2.2.1.2.2.2
  have hPR : PR (flw I p 1) p (mup (J2 I1) 98 67 1) := by
    have := m_rel (I1 := I1) (v := 1) hI hk1
    exact PR_congr (fun _ _ => rfl) (fun k a1 a2 => mup_ne (by omega)) (fun a a1 a2 => mup_other (by omega)) this
  intro t
  induction t with
  | zero =>
    intro k X K' y c hk hX hK hKy hy hcc hQ
    exact T_M_chance_48 ⟨fun _ => ⟨by omega, hQ X K' hX hK⟩, fun h => by omega⟩
  | succ t ih =>
    intro k X K' y c hk hX hK hKy hy hcc hQ
    refine T_M_chance_48 ⟨fun h => by omega, fun _ => d_start hI hk1 hX (fun e x he => T_M_chance_59 ⟨by omega, ?_⟩)⟩
    rw [jm_mup (by omega)]
    have hcn := cIn_num hc0 hy
    have hcm := cIn_mins hcn N.toNat
    have hDR : DR (flw I p 1 p 13) (I p 15) (mup (dat I 28) 0 14 y) e := by rw [tt.2.2]; exact DR_num he
    refine r_goMany (N := N) hPR (WR_draw hI.1 hI.2.1) hcn.2.1 hcn.2.2.1 hcn.2.2.2.1 (by omega) hcn.2.2.2.2.2 hDR (by rw [mup_ne (by omega)]; omega) (fun _ => by rw [mup_eq rfl rfl]; exact hKy) (fun e' x' K2 he' hK2 => T_M_chance_69 ?_)
    have e135 : jm (mup (J2 I1) 98 67 1) 1 e' x' 135 (6 + m) = mins (flw I p 1) p N.toNat (mup (dat I 28) 0 14 y) 8 m := by
      unfold jm; rw [show 6 + m = 6 * 1 + m by omega, (jS (b := 1) _ e').2.2.2.2.2.2.2.2.2.2.1 m (by omega)]
      exact (he'.2.2.2.2.2.2.2 m hmm).2.2.2
    rw [wr_of (z := 6 + (m : Int)) (by omega) (by omega), show (6 + (m : Int)).toNat = 6 + m by omega, e135, show wr ((k : Int) + 1) = ((k + 1 : Nat) : Int) by rw [wr_of] <;> omega, wr_of (z := c + 1) (by omega) (by omega), wr_of (z := c + 0) (by omega) (by omega)]
    have hK3 : KD K K2 := ⟨fun a a1 a2 a3 => by rw [hK2.1 a a1 a2 a3, hK.1 a a1 a2 a3], fun k hk => by rw [hK2.2.1 k hk, hK.2 k hk]⟩
    have hy2 := hcm.2.2.2.2.2.2.2.2.2.2.1
    have hKy2 := hK2.2.2.2 (by rw [mup_eq rfl rfl]; omega)
    rw [chS] at hQ
    refine ⟨by omega, fun h => ?_, fun h => ?_⟩
    · rw [if_neg h] at hQ; rw [Int.add_zero]; exact ih (k + 1) _ K2 _ c (by omega) (Or.inr ⟨_, _, rfl⟩) hK3 hKy2 hy2 (by omega) hQ
    · rw [if_pos (Classical.not_not.mp h)] at hQ; exact ih (k + 1) _ K2 _ _ (by omega) (Or.inr ⟨_, _, rfl⟩) hK3 hKy2 hy2 (by omega) hQ
theorem pair_chance {a b c : Int} (hI : INV p I L) (hwa : wr a = a) : PAIR Ls i_C_chance i_M_chance [.inl a, .inl b, .inl c] (mem Ls p I L) := by
  have hp := hI.1
  have h15 := hI.2.1.2.2.1
  have h14 : I 98 14 = I p 15 := hI.2.2.1.1.2.2.1
  have hab := wr_bounds hwa
  have ref : a < 0 ∨ ¬ (1 ≤ b ∧ b ≤ 200) ∨ ¬ (0 ≤ c ∧ c < I p 15) → m_Call i_M_chance [.inr (.inr 98), .inl a, .inl b, .inl c] (mem Ls p I L) (fun w M2 => w = [.inl (-1)] ∧ OKM Ls M2) := fun h => by
    refine E_M_chance ⟨fun _ => ⟨rfl, p, _, _, rfl, INV_thrown hI⟩, fun h1 => r_isIn (T_M_chance_17 ⟨fun _ => ⟨rfl, p, _, _, rfl, INV_thrown hI⟩, fun h2 => r_isMeeting ?_⟩)⟩
    rw [mup_ne (by omega), h14]
    refine T_M_chance_25 ⟨fun h3 => ?_, fun _ => ⟨rfl, p, _, _, rfl, INV_thrown hI⟩⟩
    rw [b01_zero] at h2 h3; omega
  refine E_C_chance ⟨fun h => ref (by omega), fun h => ⟨fun h2 => ref (by omega), fun h2 => ⟨fun h3 => ref (by omega), fun h3 => q_isMeeting hp (T_C_chance_21 ⟨fun h4 => q_follow hp (Or.inr rfl) (T_C_chance_34 ?_), fun h4 => ref (Or.inr (Or.inr (b01_zero.mp (Classical.not_not.mp h4))))⟩)⟩⟩⟩
  rw [b01_zero] at h4
  have hmem : flw I p 1 = dput (flw I p 1) 46 (dat (flw I p 1) 46) := by rw [dput_dat]
  rw [show c = ((c.toNat : Nat) : Int) by omega]
  refine ch_c hI (by omega) (by omega) 10 0 _ L a 0 (by omega) ⟨_, hmem⟩ (fun _ _ => rfl) (by omega) (by omega) (fun d L2 hL2 => ?_)
  have hkC : ∀ a', a' < 46 ∨ 67 ≤ a' → dput (flw I p 1) 46 d a' = I a' := kC_trial
  refine E_M_chance ⟨fun z => by omega, fun _ => r_isIn (T_M_chance_17 ⟨fun z => absurd (b01_zero.mp z) (fun y => y (by omega)), fun _ => r_isMeeting ?_⟩)⟩
  rw [mup_ne (by omega), hkC 98 (by omega), h14]
  refine T_M_chance_25 ⟨fun _ => ?_, fun z => absurd (b01_zero.mp (Classical.not_not.mp z)) (fun y => y (by omega))⟩
  refine ch_m (K := mup L2 98 66 a) hI hkC (by omega) (by omega) 10 0 _ _ a 0 (by omega) (Or.inl rfl) ⟨fun _ _ _ _ => rfl, fun _ _ => rfl⟩ (mup_eq rfl rfl) (by omega) (by omega) (fun X K2 hX hK2 => ⟨rfl, ?_⟩)
  -- the invariant: the number is as it was
  have hk66 : mup K2 98 66 (L2 98 66) 98 66 = L 98 66 := by rw [mup_eq rfl rfl, hL2 98 (by omega)]
  have hk84 : mup K2 98 66 (L2 98 66) 98 84 = L 98 84 := by rw [mup_ne (by omega), hK2.2 84 (by omega), mup_ne (by omega), hL2 98 (by omega)]
  refine ⟨p, _, _, rfl, INV_keeps hI ?_⟩
  rcases hX with rfl | ⟨e, x, rfl⟩
  · exact ⟨fun a' ha' => by rw [mup_other (by omega), mup_other (by omega), hkC _ (by omega)], fun k b1 b2 b3 => by rw [mup_ne (by omega), mup_ne (by omega), hkC 98 (by omega)], fun a' b1 b2 => by rw [mup_other (by omega), mup_other (by omega), hkC _ (by omega)], fun r k b1 b2 => by rw [mup_ne (by omega), mup_ne (by omega), hkC _ (by omega)], fun a' b1 b2 => by rw [mup_other (by omega), mup_other (by omega), hkC _ (by omega)], hk66, hk84⟩
  · have o : ∀ a', a' < 46 ∨ 67 ≤ a' → a' < 125 ∨ 137 < a' → a' ≠ 98 → mup (jm (mup (J2 (dput (flw I p 1) 46 d)) 98 67 1) 1 e x) 98 67 0 a' = I a' := fun a' h46 b1 b2 => by
      rw [mup_other b2]; unfold jm J2; rw [jput_out b1, mup_other b2, mup_other b2, plainJ_out b2, mup_other b2, hkC a' h46]
    refine ⟨fun a' ha' => o a' (by omega) (by omega) (by omega), fun k b1 b2 b3 => ?_, fun a' b1 b2 => o a' (by omega) (by omega) (by omega), fun r k b1 b2 => ?_, fun a' b1 b2 => o a' (by omega) (by omega) (by omega), hk66, hk84⟩
    · rw [mup_ne (by omega), jm_98 b2, mup_ne (by omega)]; unfold J2; rw [plainJ_98 b3, mup_ne (by omega), hkC 98 (by omega)]
    · rw [mup_other (by omega)]; unfold jm J2; rw [jput1_lo b2, mup_other (by omega), mup_other (by omega), plainJ_out (by omega), mup_other (by omega), hkC _ (by omega)]
end Q12
