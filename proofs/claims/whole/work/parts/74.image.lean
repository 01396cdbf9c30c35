/-! ===== phase 2: keep, back ===== -/
section W11
variable {Ls p kc ks : Nat} {P M : Int} {I I0 I1 I2 J K L L1 L2 K2 X X1 X2 Y Z d d' e : Nat → Nat → Int} {Q : List mV → mM → Prop} {x : Int}
theorem INV_img (hI : INV p I L) (h1 : ∀ a, a < 46 ∨ (67 ≤ a ∧ a < 98) → a ≠ 2 → ¬ (37 ≤ a ∧ a < 46) → Z a = I a) (h2 : ∀ k, k ≠ 13 → Z 2 k = I 2 k) (h98 : ∀ k, k ≠ 2 → k ≠ 52 → k ≠ 81 → k < 67 ∨ 74 < k → Z 98 k = I 98 k) (h3 : ∀ a, 99 ≤ a → a < 125 → Z a = I a) (h4 : ∀ r k, r ≤ 12 → k < jlen r → Z (125 + r) k = I (125 + r) k) (h5 : Z 138 = I 138 ∧ Z 140 = I 140) (hM : IMG Z K (I p 13) (I p 15)) (hL : K 98 66 = L 98 66) : INV p Z K := by
  obtain ⟨hp, hpl, hR, hD, hT, hF, hW, hS, hLg, hIm⟩ := hI
  have hp' := hp
  unfold isPlan at hp'
  have gp : ∀ k, k < 19 → Z (p + k) = I (p + k) := fun k hk => h1 _ (by omega) (by omega) (by omega)
  have gp0 : Z p = I p := gp 0 (by omega)
  have d28 : dat Z 28 = dat I 28 := dat_congr (fun j hj => h1 _ (by omega) (by omega) (by omega))
  have j0 : jat Z 0 = jat I 0 := jat_congr (fun r k h1 h2 => by rw [Nat.zero_mul, Nat.zero_add]; exact h4 r k h1 h2)
  unfold INV
  rw [gp0]
  refine ⟨hp, planOK_congr hp gp hpl, PR_congr gp (fun k a b => h98 k (by omega) (by omega) (by omega) (by omega)) (fun a b c => h3 a (by omega) (by omega)) hR, ?_, ?_, ?_, ?_, ?_, ?_, hM⟩
  · unfold DAY at *
    rw [d28, j0, hL, h1 28 (by omega) (by omega) (by omega)]; exact hD
  · unfold TPE at *
    rw [h2 10 (by omega), h98 1 (by omega) (by omega) (by omega) (by omega), h3 99 (by omega) (by omega), h1 6 (by omega) (by omega) (by omega)]; exact hT
  · rw [h2 11 (by omega), h2 12 (by omega), h98 4 (by omega) (by omega) (by omega) (by omega), h98 5 (by omega) (by omega) (by omega) (by omega)]; exact hF
  · unfold WDS at *
    rw [h1 7 (by omega) (by omega) (by omega), h3 100 (by omega) (by omega)]; exact hW
  · unfold SEE at *
    rw [h1 87 (by omega) (by omega) (by omega), h1 88 (by omega) (by omega) (by omega), h1 89 (by omega) (by omega) (by omega), h1 90 (by omega) (by omega) (by omega), h1 91 (by omega) (by omega) (by omega), h1 92 (by omega) (by omega) (by omega), h98 75 (by omega) (by omega) (by omega) (by omega), h98 76 (by omega) (by omega) (by omega) (by omega), h5.1]; exact hS
  · unfold LOG at *
    rw [h1 94 (by omega) (by omega) (by omega), h1 95 (by omega) (by omega) (by omega), h1 96 (by omega) (by omega) (by omega), h1 97 (by omega) (by omega) (by omega), h98 79 (by omega) (by omega) (by omega) (by omega), h5.2, d28]; exact hLg
def RST (X Y : Nat → Nat → Int) (k : Nat) : Prop := ∀ j, j < k → Y 142 j = X 128 j ∧ Y 142 (6 + j) = X 135 j ∧ Y 142 (12 + 2 * j) = X 134 (2 * j) ∧ Y 142 (12 + 2 * j + 1) = X 134 (2 * j + 1)
theorem keep_loop (hQ : ∀ Y, (∀ b, b ≠ 142 → Y b = X b) → RST X Y 6 → Q [.inl (X 136 0)] (mem Ls p (mup (mup Y 142 24 (X 136 0)) 142 25 (X 137 0)) (mup L 98 84 (L 98 66)))) : ∀ (t k : Nat) (Y : Nat → Nat → Int), k + t = 6 → (∀ b, b ≠ 142 → Y b = X b) → RST X Y k → m_Wp i_M_keep 21 kc ks [(0, .inr (.inr 98)), (1, .inl (k : Int))] [] (mem Ls p Y L) Q := by
  intro t
  induction t with
  | zero =>
    intro k Y hk h1 h2
    have : k = 6 := by omega
    subst this
    refine T_M_keep_21 ⟨fun _ => ?_, fun h => by omega⟩
    rw [h1 136 (by omega), h1 137 (by omega)]
    exact ⟨by omega, by omega, by omega, by omega, by omega, hQ Y h1 h2⟩
  | succ t ih =>
    intro k Y hk h1 h2
    refine T_M_keep_21 ⟨fun h => by omega, fun _ => ?_⟩
    rw [wr_of (z := (k : Int) + 1) (by omega) (by omega), wr_of (z := 6 + (k : Int)) (by omega) (by omega), wr_of (z := 2 * (k : Int)) (by omega) (by omega), wr_of (z := 12 + 2 * (k : Int)) (by omega) (by omega), wr_of (z := 2 * (k : Int) + 1) (by omega) (by omega), wr_of (z := 12 + 2 * (k : Int) + 1) (by omega) (by omega), Int.toNat_natCast, show (6 + (k : Int)).toNat = 6 + k by omega, show (2 * (k : Int)).toNat = 2 * k by omega, show (12 + 2 * (k : Int)).toNat = 12 + 2 * k by omega, show (2 * (k : Int) + 1).toNat = 2 * k + 1 by omega, show (12 + 2 * (k : Int) + 1).toNat = 12 + 2 * k + 1 by omega, h1 128 (by omega), h1 135 (by omega), h1 134 (by omega)]
    refine ⟨by omega, by omega, by omega, by omega, by omega, by omega, by omega, by omega, ih (k + 1) _ (by omega) (fun b b1 => by rw [mup_other b1, mup_other b1, mup_other b1, mup_other b1]; exact h1 b b1) (fun j hj => ?_)⟩
    simp only [mup_app, true_and]
    by_cases hjk : j = k
    · subst hjk
      rw [if_neg (show ¬ j = 12 + 2 * j + 1 by omega), if_neg (show ¬ j = 12 + 2 * j by omega), if_neg (show ¬ j = 6 + j by omega), if_pos rfl, if_neg (show ¬ 6 + j = 12 + 2 * j + 1 by omega), if_neg (show ¬ 6 + j = 12 + 2 * j by omega), if_pos rfl, if_neg (show ¬ 12 + 2 * j = 12 + 2 * j + 1 by omega), if_pos rfl, if_pos rfl]
      exact ⟨rfl, rfl, rfl, rfl⟩
    · have := h2 j (by omega)
      rw [if_neg (show ¬ j = 12 + 2 * k + 1 by omega), if_neg (show ¬ j = 12 + 2 * k by omega), if_neg (show ¬ j = 6 + k by omega), if_neg hjk, if_neg (show ¬ 6 + j = 12 + 2 * k + 1 by omega), if_neg (show ¬ 6 + j = 12 + 2 * k by omega), if_neg (show ¬ 6 + j = 6 + k by omega), if_neg (show ¬ 6 + j = k by omega), if_neg (show ¬ 12 + 2 * j = 12 + 2 * k + 1 by omega), if_neg (show ¬ 12 + 2 * j = 12 + 2 * k by omega), if_neg (show ¬ 12 + 2 * j = 6 + k by omega), if_neg (show ¬ 12 + 2 * j = k by omega), if_neg (show ¬ 12 + 2 * j + 1 = 12 + 2 * k + 1 by omega), if_neg (show ¬ 12 + 2 * j + 1 = 12 + 2 * k by omega), if_neg (show ¬ 12 + 2 * j + 1 = 6 + k by omega), if_neg (show ¬ 12 + 2 * j + 1 = k by omega)]
      exact this
theorem pair_keep (hI : INV p I L) : PAIR Ls i_C_keep i_M_keep [] (mem Ls p I L) := by
  have hpl := hI.2.1
  have hP := hpl.1
  have hM : I p 15 ≤ 6 := hpl.2.2.1.2
  have hnow := now_eq hI
  have hD := hI.2.2.2.1
  have hd := hD.1
  refine E_C_keep (q_copy (by omega) (fun d hag => T_C_keep_11 ⟨by omega, ?_⟩))
  have g1 : ∀ b, b ≠ 2 → ¬ (37 ≤ b ∧ b < 46) → mup (dput I 37 d) 2 13 1 b = I b := fun b b1 b2 => by rw [mup_other b1, dput_out (by omega)]
  have g37 : ∀ j, j < 9 → mup (dput I 37 d) 2 13 1 (37 + j) = d j := fun j hj => by rw [mup_other (by omega), dput_at hj]
  rw [show dput I 37 d 28 = I 28 from dput_out (by omega)]
  refine E_M_keep ⟨by omega, r_put_141 (i := 0) (by omega) (T_M_keep_19 ?_)⟩
  generalize hX : mup (mup (mup (dput I 37 d) 2 13 1) 98 2 0) 98 81 1 = X
  have xI : ∀ b, b ≠ 2 → ¬ (37 ≤ b ∧ b < 46) → b ≠ 98 → X b = I b := fun b b1 b2 b3 => by rw [← hX, mup_other b3, mup_other b3]; exact g1 b b1 b2
  have x37 : ∀ j, j < 9 → X (37 + j) = d j := fun j hj => by rw [← hX, mup_other (by omega), mup_other (by omega)]; exact g37 j hj
  have x98 : ∀ k, k ≠ 2 → k ≠ 81 → X 98 k = I 98 k := fun k b1 b2 => by rw [← hX, mup_ne (Or.inr b2), mup_ne (Or.inr b1), g1 98 (by omega) (by omega)]
  have x81 : X 98 81 = 1 := by rw [← hX, mup_eq rfl rfl]
  have x2 : ∀ k, k ≠ 13 → X 2 k = I 2 k := fun k hk => by rw [← hX, mup_other (by omega), mup_other (by omega), mup_ne (Or.inr hk), dput_out (by omega)]
  have x213 : X 2 13 = 1 := by rw [← hX, mup_other (by omega), mup_other (by omega), mup_eq rfl rfl]
  refine keep_loop (X := rup X 141 (putB X (X 141) 0 23)) (fun Y hY hR => ?_) 6 0 _ (by omega) (fun _ _ => rfl) (fun j hj => by omega)
  have yX : ∀ b, b ≠ 141 → b ≠ 142 → Y b = X b := fun b b1 b2 => by rw [hY b b2, rup_other b1]
  have y141 : ∀ j, j < 47 → Y 141 j = snp X j := fun j hj => by
    rw [hY 141 (by omega), rup_self]; unfold putB; rw [if_pos (by omega), show j - 0 = j by omega]
  have zX : ∀ b, b ≠ 141 → b ≠ 142 → mup (mup Y 142 24 (rup X 141 (putB X (X 141) 0 23) 136 0)) 142 25 (rup X 141 (putB X (X 141) 0 23) 137 0) b = X b := fun b b1 b2 => by rw [mup_other b2, mup_other b2]; exact yX b b1 b2
  have z141 : mup (mup Y 142 24 (rup X 141 (putB X (X 141) 0 23) 136 0)) 142 25 (rup X 141 (putB X (X 141) 0 23) 137 0) 141 = Y 141 := by rw [mup_other (by omega), mup_other (by omega)]
  have z142 : ∀ j, j < 24 → mup (mup Y 142 24 (rup X 141 (putB X (X 141) 0 23) 136 0)) 142 25 (rup X 141 (putB X (X 141) 0 23) 137 0) 142 j = Y 142 j := fun j hj => by rw [mup_ne (by omega), mup_ne (by omega)]
  refine ⟨by rw [rup_other (by omega), xI 136 (by omega) (by omega) (by omega), hnow.1], p, _, _, rfl, ?_⟩
  have a8 : ∀ k, 8 ≤ k → k ≤ 15 → d 0 k = I 28 k := fun k h1 h2 => hag.1 k h1 h2
  have aR : ∀ j k, 1 ≤ j → j ≤ 8 → k < 6 → d j k = I (28 + j) k := fun j k h1 h2 h3 => by rw [hag.row h1 h2 h3, dat_at (by omega)]
  refine INV_img hI (fun b b1 b2 b3 => by rw [zX b (by omega) (by omega), xI b b2 b3 (by omega)]) (fun k hk => by rw [zX 2 (by omega) (by omega), x2 k hk]) (fun k b1 b2 b3 _ => by rw [zX 98 (by omega) (by omega), x98 k b1 b3]) (fun b b1 b2 => by rw [zX b (by omega) (by omega), xI b (by omega) (by omega) (by omega)]) (fun r k b1 b2 => by rw [zX _ (by omega) (by omega), xI _ (by omega) (by omega) (by omega)]) ⟨by rw [zX 138 (by omega) (by omega), xI 138 (by omega) (by omega) (by omega)], by rw [zX 140 (by omega) (by omega), xI 140 (by omega) (by omega) (by omega)]⟩ ?_ (mup_ne (by omega))
  unfold IMG
  have hagD : agr (dat I 28) (dat (mup (mup Y 142 24 (rup X 141 (putB X (X 141) 0 23) 136 0)) 142 25 (rup X 141 (putB X (X 141) 0 23) 137 0)) 37) := hag.tr (dat_dput_agr (fun j hj => by rw [zX _ (by omega) (by omega)]; exact x37 j hj))
  rw [zX 2 (by omega) (by omega), zX 98 (by omega) (by omega), x213, x81, z141, zX 40 (by omega) (by omega), zX 45 (by omega) (by omega), zX 43 (by omega) (by omega), zX 44 (by omega) (by omega), zX 37 (by omega) (by omega), show X 40 = d 3 from x37 3 (by omega), show X 45 = d 8 from x37 8 (by omega), show X 43 = d 6 from x37 6 (by omega), show X 44 = d 7 from x37 7 (by omega), show X 37 = d 0 from x37 0 (by omega), a8 10 (by omega) (by omega), a8 14 (by omega) (by omega), a8 15 (by omega) (by omega)]
  refine ⟨Or.inr rfl, rfl, fun _ => ⟨DOK_agr hP.2 hM hagD hd, hD.2.2.2, ?_, fun q hq => ?_, fun m hm => ?_, ?_, ?_, ?_⟩⟩
  · refine SNP_agw hP.2 hM (agw.of hagD hd.2.2.1.2) ?_
    have hjX : jat X 0 = jat I 0 := jat_congr (fun r k h1 h2 => by rw [xI _ (by omega) (by omega) (by omega)])
    exact SNP_snp (X := X) hP.2 hM hd.2.2.1.2 (by rw [hjX]; exact hD.2.1) (fun j hj => by rw [Nat.zero_add]; exact y141 j hj)
  · rw [z142 q (by omega), (hR q (by omega)).1, rup_other (by omega), xI 128 (by omega) (by omega) (by omega), aR 3 q (by omega) (by omega) (by omega), (hnow.2.2.2.2.1 q hq).2.2.1]
  · have b := hR m (by omega)
    have b2 := hnow.2.2.2.2.2.2 m hm
    rw [z142 (6 + m) (by omega), z142 (12 + 2 * m) (by omega), z142 (12 + 2 * m + 1) (by omega), b.2.1, b.2.2.1, b.2.2.2, rup_other (by omega), rup_other (by omega), xI 135 (by omega) (by omega) (by omega), xI 134 (by omega) (by omega) (by omega), aR 8 m (by omega) (by omega) (by omega), aR 6 m (by omega) (by omega) (by omega), aR 7 m (by omega) (by omega) (by omega), b2.2.1, b2.2.2.1, b2.2.2.2]
    exact ⟨rfl, rfl, rfl⟩
  · rw [mup_ne (by omega), mup_eq rfl rfl, rup_other (by omega), xI 136 (by omega) (by omega) (by omega), hnow.1]
  · rw [mup_eq rfl rfl, rup_other (by omega), xI 137 (by omega) (by omega) (by omega), hnow.2.2.2.1]
  · rw [mup_eq rfl rfl]; exact hD.2.2.1
def RSB (X Y : Nat → Nat → Int) (k : Nat) : Prop := ∀ j, j < k → Y 128 j = X 142 j ∧ Y 135 j = X 142 (6 + j) ∧ Y 134 (2 * j) = X 142 (12 + 2 * j) ∧ Y 134 (2 * j + 1) = X 142 (12 + 2 * j + 1)
theorem back_loop (hQ : ∀ Y, (∀ b, b ≠ 128 → b ≠ 135 → b ≠ 134 → Y b = X b) → RSB X Y 6 → Q [.inl (X 142 24)] (mem Ls p (mup (mup (mup Y 136 0 (X 142 24)) 137 0 (X 142 25)) 98 79 0) (mup L 98 66 (L 98 84)))) : ∀ (t k : Nat) (Y : Nat → Nat → Int), k + t = 6 → (∀ b, b ≠ 128 → b ≠ 135 → b ≠ 134 → Y b = X b) → RSB X Y k → m_Wp i_M_back 25 kc ks [(0, .inr (.inr 98)), (1, .inl (k : Int))] [] (mem Ls p Y L) Q := by
  intro t
  induction t with
  | zero =>
    intro k Y hk h1 h2
    have : k = 6 := by omega
    subst this
    refine T_M_back_25 ⟨fun _ => ?_, fun h => by omega⟩
    rw [h1 142 (by omega) (by omega) (by omega)]
    exact ⟨by omega, by omega, by omega, by omega, by omega, hQ Y h1 h2⟩
  | succ t ih =>
    intro k Y hk h1 h2
    refine T_M_back_25 ⟨fun h => by omega, fun _ => ?_⟩
    rw [wr_of (z := (k : Int) + 1) (by omega) (by omega), wr_of (z := 6 + (k : Int)) (by omega) (by omega), wr_of (z := 2 * (k : Int)) (by omega) (by omega), wr_of (z := 12 + 2 * (k : Int)) (by omega) (by omega), wr_of (z := 2 * (k : Int) + 1) (by omega) (by omega), wr_of (z := 12 + 2 * (k : Int) + 1) (by omega) (by omega), Int.toNat_natCast, show (6 + (k : Int)).toNat = 6 + k by omega, show (2 * (k : Int)).toNat = 2 * k by omega, show (12 + 2 * (k : Int)).toNat = 12 + 2 * k by omega, show (2 * (k : Int) + 1).toNat = 2 * k + 1 by omega, show (12 + 2 * (k : Int) + 1).toNat = 12 + 2 * k + 1 by omega, h1 142 (by omega) (by omega) (by omega)]
    refine ⟨by omega, by omega, by omega, by omega, by omega, by omega, by omega, by omega, ih (k + 1) _ (by omega) (fun b b1 b2 b3 => by rw [mup_other b3, mup_other b3, mup_other b2, mup_other b1]; exact h1 b b1 b2 b3) (fun j hj => ?_)⟩
    by_cases hjk : j = k
    · subst hjk
      refine ⟨?_, ?_, ?_, ?_⟩
      · rw [mup_ne (by omega), mup_ne (by omega), mup_ne (by omega), mup_eq rfl rfl]
      · rw [mup_ne (by omega), mup_ne (by omega), mup_eq rfl rfl]
      · rw [mup_ne (by omega), mup_eq rfl rfl]
      · rw [mup_eq rfl rfl]
    · have b := h2 j (by omega)
      refine ⟨?_, ?_, ?_, ?_⟩
      · rw [mup_ne (by omega), mup_ne (by omega), mup_ne (by omega), mup_ne (by omega)]; exact b.1
      · rw [mup_ne (by omega), mup_ne (by omega), mup_ne (by omega), mup_ne (by omega)]; exact b.2.1
      · rw [mup_ne (by omega), mup_ne (by omega), mup_ne (by omega), mup_ne (by omega)]; exact b.2.2.1
      · rw [mup_ne (by omega), mup_ne (by omega), mup_ne (by omega), mup_ne (by omega)]; exact b.2.2.2
theorem pair_back (hI : INV p I L) : PAIR Ls i_C_back i_M_back [] (mem Ls p I L) := by
  have hpl := hI.2.1
  have hP := hpl.1
  have hM : I p 15 ≤ 6 := hpl.2.2.1.2
  have hG := hI.2.2.2.2.2.2.2.2.2
  refine E_C_back ⟨fun h => ?_, fun h => E_M_back ?_⟩
  · obtain ⟨i1, i2, i3, i4, i5, i6, i7, i8⟩ := hG.2.2 h
    refine q_copy (by omega) (fun d hag => T_C_back_20 (E_M_back ?_))
    have g1 : ∀ b, b ≠ 94 → b < 28 ∨ 37 ≤ b → mup (dput I 28 d) 94 3 0 b = I b := fun b b1 b2 => by rw [mup_other b1, dput_out (by omega)]
    have g28 : ∀ j, j < 9 → mup (dput I 28 d) 94 3 0 (28 + j) = d j := fun j hj => by rw [mup_other (by omega), dput_at hj]
    rw [show dput I 28 d 28 = d 0 from dput_c, g1 98 (by omega) (by omega), hG.2.1]
    refine ⟨fun _ => r_take_141 (i := 0) (by omega) (fun X hX => T_M_back_23 ?_), fun z => absurd h z⟩
    obtain ⟨t1, t2, t3, t4, t5, t6⟩ := hX
    rw [show mup (mup (dput I 28 d) 94 3 0) 98 2 0 141 = I 141 by rw [mup_other (by omega), g1 141 (by omega) (by omega)]] at t2 t3 t4 t5 t6
    have xI : ∀ b, b < 28 ∨ (37 ≤ b ∧ b < 125) ∨ b = 128 ∨ 133 < b → b ≠ 94 → b ≠ 98 → X b = I b := fun b b1 b2 b3 => by rw [t1 b (by omega) (by omega) (by omega) (by omega) (by omega) (by omega) (by omega) (by omega), mup_other b3, g1 b b2 (by omega)]
    have x98 : ∀ k, k ≠ 2 → X 98 k = I 98 k := fun k b1 => by rw [t1 98 (by omega) (by omega) (by omega) (by omega) (by omega) (by omega) (by omega) (by omega), mup_ne (Or.inr b1), g1 98 (by omega) (by omega)]
    have x28 : ∀ j, j < 9 → X (28 + j) = d j := fun j hj => by rw [t1 _ (by omega) (by omega) (by omega) (by omega) (by omega) (by omega) (by omega) (by omega), mup_other (by omega)]; exact g28 j hj
    have x94 : X 94 3 = 0 := by rw [t1 94 (by omega) (by omega) (by omega) (by omega) (by omega) (by omega) (by omega) (by omega), mup_other (by omega), mup_eq rfl rfl]
    refine back_loop (X := X) (fun Y hY hR => ?_) 6 0 X (by omega) (fun _ _ _ _ => rfl) (fun j hj => by omega)
    have x142 : X 142 = I 142 := xI 142 (by omega) (by omega) (by omega)
    rw [x142]
    have a8 : ∀ k, 8 ≤ k → k ≤ 15 → d 0 k = I 37 k := fun k h1 h2 => hag.1 k h1 h2
    have aR : ∀ j k, 1 ≤ j → j ≤ 8 → k < 6 → d j k = I (37 + j) k := fun j k h1 h2 h3 => by rw [hag.row h1 h2 h3, dat_at (by omega)]
    refine ⟨by rw [i6, a8 10 (by omega) (by omega)], p, _, _, rfl, ?_⟩
    have zY : ∀ b, b ≠ 136 → b ≠ 137 → b ≠ 98 → mup (mup (mup Y 136 0 (I 142 24)) 137 0 (I 142 25)) 98 79 0 b = Y b := fun b b1 b2 b3 => by rw [mup_other b3, mup_other b2, mup_other b1]
    have z98 : ∀ k, k ≠ 79 → mup (mup (mup Y 136 0 (I 142 24)) 137 0 (I 142 25)) 98 79 0 98 k = X 98 k := fun k hk => by rw [mup_ne (Or.inr hk), mup_other (by omega), mup_other (by omega), hY 98 (by omega) (by omega) (by omega)]
    have zX : ∀ b, b ≠ 136 → b ≠ 137 → b ≠ 98 → b ≠ 128 → b ≠ 135 → b ≠ 134 → mup (mup (mup Y 136 0 (I 142 24)) 137 0 (I 142 25)) 98 79 0 b = X b := fun b b1 b2 b3 b4 b5 b6 => by rw [zY b b1 b2 b3, hY b b4 b5 b6]
    have z28 : ∀ j, j < 9 → mup (mup (mup Y 136 0 (I 142 24)) 137 0 (I 142 25)) 98 79 0 (28 + j) = d j := fun j hj => by rw [zX _ (by omega) (by omega) (by omega) (by omega) (by omega) (by omega)]; exact x28 j hj
    have zI : ∀ b, b < 28 ∨ (37 ≤ b ∧ b < 125) ∨ 137 < b → b ≠ 94 → b ≠ 98 → mup (mup (mup Y 136 0 (I 142 24)) 137 0 (I 142 25)) 98 79 0 b = I b := fun b b1 b2 b3 => by rw [zX b (by omega) (by omega) b3 (by omega) (by omega) (by omega), xI b (by omega) b2 b3]
    have hagD : agr (dat I 37) (dat (mup (mup (mup Y 136 0 (I 142 24)) 137 0 (I 142 25)) 98 79 0) 28) := hag.tr (dat_dput_agr z28)
    have z280 : mup (mup (mup Y 136 0 (I 142 24)) 137 0 (I 142 25)) 98 79 0 28 = d 0 := z28 0 (by omega)
    refine INV_day hI (fun b hb => zI b (by omega) (by omega) (by omega)) ?_ (fun k b1 b2 b3 _ => by rw [z98 k b3, x98 k b1]) (fun b b1 b2 => zI b (by omega) (by omega) (by omega)) (fun b b1 b2 => zI b (by omega) (by omega) (by omega)) ?_ (mup_ne (by omega))
    · refine ⟨?_, ?_, ?_⟩
      · rw [zX 94 (by omega) (by omega) (by omega) (by omega) (by omega) (by omega), x94]; omega
      · rw [mup_eq rfl rfl, zX 94 (by omega) (by omega) (by omega) (by omega) (by omega) (by omega), x94]
      · rw [zX 94 (by omega) (by omega) (by omega) (by omega) (by omega) (by omega), x94]; exact True.intro
    · have hSN := SNP_agw hP.2 hM (agw.of hagD i1.2.2.1.2) i3
      have hDK := DOK_agr hP.2 hM hagD i1
      refine ⟨hDK, ?_, ?_, ?_⟩
      · generalize hZ : mup (mup (mup Y 136 0 (I 142 24)) 137 0 (I 142 25)) 98 79 0 = Z at *
        obtain ⟨s1, s2, s3, s4, s5, s6⟩ := hSN
        have hZ11 : Z 28 11 ≤ 20 := hDK.2.2.1.2
        have z136 : Z 136 0 = I 142 24 := by rw [← hZ, mup_ne (by omega), mup_ne (by omega), mup_eq rfl rfl]
        have z137 : Z 137 0 = I 142 25 := by rw [← hZ, mup_ne (by omega), mup_eq rfl rfl]
        have zT : ∀ b, b = 125 ∨ b = 126 ∨ b = 127 ∨ b = 133 ∨ b = 129 ∨ b = 130 ∨ b = 131 ∨ b = 132 → Z b = X b := fun b hb => zX b (by omega) (by omega) (by omega) (by omega) (by omega) (by omega)
        have e28 : Z 28 = d 0 := z280
        have e0 : ∀ j, j < 9 → Z (28 + j) = d j := z28
        refine DR_cells hP.2 hM hZ11 ?_
        rw [z136, z137, zT 130 (by omega), zT 131 (by omega), zT 132 (by omega), zT 129 (by omega), zT 125 (by omega), zT 126 (by omega), zT 127 (by omega), zT 133 (by omega), t4, t5, t6, i6, i7, zY 128 (by omega) (by omega) (by omega), zY 134 (by omega) (by omega) (by omega), zY 135 (by omega) (by omega) (by omega)]
        refine ⟨by rw [e28, a8 10 (by omega) (by omega)], s4, s5, s6, by rw [e28, a8 15 (by omega) (by omega)], fun q hq => ?_, fun k hk => ?_, fun m hm => ?_⟩
        · have b := t2 q (by omega)
          have b2 := s1 q hq
          rw [b.1, b.2.1, b.2.2.1, (hR q (by omega)).1, x142, i4 q hq, show Z 31 = d 3 from e0 3 (by omega), aR 3 q (by omega) (by omega) (by omega)]
          exact ⟨b2.2.2, b2.2.1, rfl, b2.1⟩
        · rw [t3 k (by omega)]; exact s3 k hk
        · have b := hR m (by omega)
          have b2 := i5 m hm
          rw [(t2 m (by omega)).2.2.2, b.2.1, b.2.2.1, b.2.2.2, x142, b2.1, b2.2.1, b2.2.2, show Z 34 = d 6 from e0 6 (by omega), show Z 35 = d 7 from e0 7 (by omega), show Z 36 = d 8 from e0 8 (by omega), aR 6 m (by omega) (by omega) (by omega), aR 7 m (by omega) (by omega) (by omega), aR 8 m (by omega) (by omega) (by omega)]
          exact ⟨s2 m hm, rfl, rfl, rfl⟩
      · rw [mup_eq rfl rfl, z280, a8 14 (by omega) (by omega)]; exact i8
      · rw [z280, a8 10 (by omega) (by omega)]; exact i2
  · rw [hG.2.1]
    exact ⟨fun z => absurd z h, fun _ => ⟨rfl, okT hI⟩⟩
end W11
