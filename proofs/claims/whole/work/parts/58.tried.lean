section Q9
variable {Ls p kc ks : Nat} {P M : Int} {I I0 I1 J K L L1 K2 d d' e : Nat → Nat → Int} {Q : List mV → mM → Prop} {x : Int}
theorem mup_comm {k k' : Nat} {v w : Int} {a : Nat} (h : k ≠ k') : mup (mup J a k v) a k' w = mup (mup J a k' w) a k v := by
  funext b c
  simp only [mup_app]
  by_cases h1 : b = a ∧ c = k'
  · rw [if_pos h1, if_neg (by omega), if_pos h1]
  · rw [if_neg h1, if_neg h1]
theorem jm_mup {b k : Nat} {v : Int} (h : k ≠ 52) : mup (jm J b e x) 98 k v = jm (mup J 98 k v) b e x := by
  unfold jm; rw [mup_jput_out (by omega), mup_comm (by omega)]
/-- a way tried otherwise -/
def CHG (I0 I2 : Nat → Nat → Int) (w i : Int) : Prop := (∀ a, a ≠ 64 → a ≠ 65 → I2 a = I0 a) ∧ I2 64 4 = (if w = 0 then 0 else I0 64 4) ∧ I2 64 5 = (if w = 1 then 0 else I0 64 5) ∧ I2 64 6 = (if w = 2 then i else I0 64 6) ∧ I2 64 7 = (if w = 3 then 0 else I0 64 7) ∧ I2 64 8 = I0 64 8 ∧ ∀ q, q < 6 → I2 65 q = if w = 4 then 30 else I0 65 q
theorem q_change {w i : Int} (hw : 0 ≤ w ∧ w ≤ 4) (hQ : ∀ I2, CHG I0 I2 w i → Q [] (mem Ls p (dput I2 46 d) L)) : m_Call i_Way_change [.inr (.inr 64), .inl w, .inl i] (mem Ls p (dput I0 46 d) L) Q := by
  have md : ∀ (I : Nat → Nat → Int) (a k : Nat) (v : Int), a = 64 ∨ a = 65 → mup (dput I 46 d) a k v = dput (mup I a k v) 46 d := fun I a k v ha => by
    funext b
    by_cases hb : b = a
    · subst hb
      rw [mup_self, dput_out (by omega), dput_out (by omega), mup_self]
    · rw [mup_other hb]
      unfold dput
      split
      · rfl
      · rw [mup_other hb]
  have lp65 : ∀ (n k : Nat) (I2 : Nat → Nat → Int), k + n = 6 → w = 4 → (∀ a, a ≠ 65 → I2 a = I0 a) → (∀ q, q < k → I2 65 q = 30) → m_Wp i_Way_change 66 0 0 [(0, .inr (.inr 64)), (3, .inl (k : Int))] [] (mem Ls p (dput I2 46 d) L) Q := by
    intro n
    induction n with
    | zero =>
      intro k I2 hk hw4 h1 h2
      refine T_Way_change_66 ⟨fun _ => hQ I2 ⟨fun a _ h3 => h1 a h3, ?_, ?_, ?_, ?_, ?_, fun q hq => ?_⟩, fun h => by omega⟩
      · rw [if_neg (by omega), h1 64 (by omega)]
      · rw [if_neg (by omega), h1 64 (by omega)]
      · rw [if_neg (by omega), h1 64 (by omega)]
      · rw [if_neg (by omega), h1 64 (by omega)]
      · rw [h1 64 (by omega)]
      · rw [if_pos hw4]; exact h2 q (by omega)
    | succ n ih =>
      intro k I2 hk hw4 h1 h2
      refine T_Way_change_66 ⟨fun h => by omega, fun _ => ⟨by omega, ?_⟩⟩
      rw [show wr ((k : Int) + 1) = ((k + 1 : Nat) : Int) by rw [wr_of] <;> omega, Int.toNat_natCast, md _ _ _ _ (Or.inr rfl)]
      refine ih (k + 1) _ (by omega) hw4 (fun a ha => by rw [mup_other ha]; exact h1 a ha) (fun q hq => ?_)
      by_cases hqk : q = k
      · rw [mup_eq rfl hqk]
      · rw [mup_ne (Or.inr hqk)]; exact h2 q (by omega)
  refine E_Way_change ⟨fun h => ?_, fun h0 => ⟨fun h => ?_, fun h1 => ⟨fun h => ?_, fun h2 => ⟨fun h => ⟨by omega, ?_⟩, fun h3 => ?_⟩⟩⟩⟩
  · rw [md _ _ _ _ (Or.inl rfl)]; subst h; exact hQ _ ⟨fun a h1 _ => mup_other h1, by simp [mup_app], by simp [mup_app], by simp [mup_app], by simp [mup_app], by simp [mup_app], fun q _ => by rw [mup_ne (by omega)]; rfl⟩
  · rw [md _ _ _ _ (Or.inl rfl)]; subst h; exact hQ _ ⟨fun a h1 _ => mup_other h1, by simp [mup_app], by simp [mup_app], by simp [mup_app], by simp [mup_app], by simp [mup_app], fun q _ => by rw [mup_ne (by omega)]; rfl⟩
  · rw [md _ _ _ _ (Or.inl rfl)]; subst h; exact hQ _ ⟨fun a h1 _ => mup_other h1, by simp [mup_app], by simp [mup_app], by simp [mup_app], by simp [mup_app], by simp [mup_app], fun q _ => by rw [mup_ne (by omega)]; rfl⟩
  · rw [md _ _ _ _ (Or.inl rfl)]; subst h; exact hQ _ ⟨fun a h1 _ => mup_other h1, by simp [mup_app], by simp [mup_app], by simp [mup_app], by simp [mup_app], by simp [mup_app], fun q _ => by rw [mup_ne (by omega)]; rfl⟩
  · exact lp65 6 0 I0 (by omega) (by omega) (fun _ _ => rfl) (fun q hq => by omega)
theorem plainJ_ext {Y Z : Nat → Nat → Int} (h : ∀ a k, ¬ (a = 98 ∧ 67 ≤ k ∧ k ≤ 74) → Y a k = Z a k) : plainJ Y = plainJ Z := by
  funext a k
  by_cases h1 : a = 98 ∧ 67 ≤ k ∧ k ≤ 74
  · obtain ⟨rfl, h2, h3⟩ := h1
    obtain ⟨a1, a2, a3, a4, a5, a6, a7, a8⟩ := plainJ_fl (J := Y)
    obtain ⟨b1, b2, b3, b4, b5, b6, b7, b8⟩ := plainJ_fl (J := Z)
    have hk : k = 67 ∨ k = 68 ∨ k = 69 ∨ k = 70 ∨ k = 71 ∨ k = 72 ∨ k = 73 ∨ k = 74 := by omega
    rcases hk with rfl | rfl | rfl | rfl | rfl | rfl | rfl | rfl
    · rw [a1, b1]
    · rw [a2, b2]
    · rw [a3, b3]
    · rw [a4, b4]
    · rw [a5, b5]
    · rw [a6, b6]
    · rw [a7, b7]
    · rw [a8, b8]
  · by_cases h2 : a = 98
    · subst h2
      rw [plainJ_98 (by omega), plainJ_98 (by omega)]; exact h 98 k h1
    · rw [plainJ_out h2, plainJ_out h2]; exact h a k h1
/-- the reference's flags, tried otherwise -/
def J3 (Y : Nat → Nat → Int) (a b c f g : Int) : Nat → Nat → Int := mup (mup (mup (mup (mup Y 98 68 a) 98 69 b) 98 72 c) 98 70 f) 98 71 g
theorem J3_98 {Y : Nat → Nat → Int} {a b c f g : Int} {k : Nat} (h : k < 68 ∨ 72 < k) : J3 Y a b c f g 98 k = Y 98 k := by
  unfold J3; rw [mup_ne (by omega), mup_ne (by omega), mup_ne (by omega), mup_ne (by omega), mup_ne (by omega)]
theorem J3_out {Y : Nat → Nat → Int} {a b c f g : Int} {k : Nat} (h : k ≠ 98) : J3 Y a b c f g k = Y k := by
  unfold J3; rw [mup_other h, mup_other h, mup_other h, mup_other h, mup_other h]
theorem J3_fl {Y : Nat → Nat → Int} {a b c f g : Int} : J3 Y a b c f g 98 68 = a ∧ J3 Y a b c f g 98 69 = b ∧ J3 Y a b c f g 98 72 = c ∧ J3 Y a b c f g 98 70 = f ∧ J3 Y a b c f g 98 71 = g := by
  unfold J3; simp [mup_app]
theorem tried_end {Y : Nat → Nat → Int} {a b c f g : Int} : plainJ (jm (J3 (J2 Y) a b c f g) 1 e x) = jm (J2 Y) 1 e x := by
  unfold jm
  rw [plain_jput]
  have h1 : plainJ (mup (J3 (J2 Y) a b c f g) 98 52 x) = plainJ (mup (J2 Y) 98 52 x) := plainJ_ext (fun a' k hk => by
    rw [mup_app, mup_app]
    split
    · rfl
    · by_cases h2 : a' = 98
      · subst h2; exact J3_98 (by omega)
      · rw [J3_out h2])
  rw [h1]
  rw [plain_plain (Y := mup (J2 Y) 98 52 x) (by
    rw [mup_ne (by omega), mup_ne (by omega), mup_ne (by omega), mup_ne (by omega), mup_ne (by omega), mup_ne (by omega), mup_ne (by omega), mup_ne (by omega)]
    exact plainJ_fl)]
theorem pair_tried {a b c : Int} (hI : INV p I L) : PAIR Ls i_C_tried i_M_tried [.inl a, .inl b, .inl c] (mem Ls p I L) := by
  have hp := hI.1
  have h6 := hI.2.1.1
  have h15 := hI.2.1.2.2.1
  have h12 : I 98 12 = I p 13 := hI.2.2.1.1.1
  have h14 : I 98 14 = I p 15 := hI.2.2.1.1.2.2.1
  have ref : ¬ (0 ≤ a ∧ a ≤ 4) ∨ ¬ (0 ≤ c ∧ c ≤ 200) ∨ (a = 2 ∧ ¬ (0 ≤ b ∧ b < I p 13)) ∨ (a ≠ 2 ∧ b ≠ 0) → m_Call i_M_tried [.inr (.inr 98), .inl a, .inl b, .inl c] (mem Ls p I L) (fun w M2 => w = [.inl (-1)] ∧ OKM Ls M2) := fun h => by
    have fin : ∀ kc ks, m_Wp i_M_tried 45 kc ks [] [] (mem Ls p (mup I 98 2 0) L) (fun w M2 => w = [.inl (-1)] ∧ OKM Ls M2) := fun _ _ => T_M_tried_45 ⟨rfl, p, _, _, rfl, INV_thrown hI⟩
    refine E_M_tried (r_isIn (T_M_tried_11 ⟨fun _ => fin _ _, fun h1 => r_isIn (T_M_tried_22 ⟨fun _ => fin _ _, fun h2 => ⟨fun h3 => ⟨fun h4 => ?_, fun _ => fin _ _⟩, fun h3 => r_isMan ?_⟩⟩)⟩))
    · rw [b01_zero] at h1 h2; omega
    · rw [mup_ne (by omega), h12]
      rw [b01_zero] at h1 h2
      exact T_M_tried_35 ⟨fun h4 => absurd (b01_zero.mpr (by omega)) h4, fun _ => fin _ _⟩
  have main : (0 ≤ a ∧ a ≤ 4) → (0 ≤ c ∧ c ≤ 200) → (a = 2 → 0 ≤ b ∧ b < I p 13) → (a ≠ 2 → b = 0) → ∀ kc ks, m_Call i_C_startTrial [.inr (.inr 2)] (mem Ls p I L) (fun v M' => m_Wp i_C_tried 48 kc ks [(0, .inr (.inr 2)), (1, .inl a), (2, .inl b), (3, .inl c)] (v ++ []) M' (fun v M1 => m_Call i_M_tried [.inr (.inr 98), .inl a, .inl b, .inl c] M1 (fun w M2 => w = v ∧ OKM Ls M2))) := fun ha hc' hb2 hb0 kc ks => by
    refine c_start2 hI (fun d hd hc hm => T_C_tried_48 (q_change ha (fun I2 h2 => T_C_tried_57 ?_)))
    have hp' := hp
    unfold isPlan at hp'
    obtain ⟨g1, g2, g3, g4, g5, g6, g7⟩ := h2
    have gp : ∀ k, k < 19 → I2 (p + k) = flw I p 0 (p + k) := fun k hk => g1 _ (by omega) (by omega)
    have gp0 : I2 p = flw I p 0 p := gp 0 (by omega)
    obtain ⟨f1, f2, f3, f4, f5⟩ := flw_64 (I := I) (v := 0) hp
    have hwy2 : wayOK I2 (I2 p 13) := by
      rw [gp0]
      refine ⟨?_, fun q hq => ?_⟩
      · rw [g3]; split
        · omega
        · exact hc.2.2.1.1
      · have hq6 : q < 6 := by rw [hc.2.2.2.2.1] at hq; omega
        have := hc.2.2.1.2 q hq
        rw [g7 q hq6, g1 66 (by omega) (by omega)]
        split <;> omega
    have hc2 : cIn p I I2 (I p 15) d := ⟨hp, planOK_congr hp gp hc.2.1, hwy2, by rw [gp0]; exact hc.2.2.2.1, by rw [gp0]; exact hc.2.2.2.2.1, by rw [gp0]; exact hc.2.2.2.2.2⟩
    have hkC : ∀ d a', a' < 46 ∨ 67 ≤ a' → dput I2 46 d a' = I a' := fun d a' ha' => by rw [dput_out (by omega), g1 a' (by omega) (by omega), flw_out (by omega)]
    refine q_passT (N := c) hc2 (by omega) (by omega) (fun L2 hL => T_C_tried_62 ?_)
    have hcm := cIn_mins hc2 c.toNat
    refine q_howMany (c := 46) (Or.inr (Or.inr (Or.inl rfl))) h15 hcm.2.2.2.2.2 (T_C_tried_70 ?_)
    have hnow : dput I2 46 (mins I2 p c.toNat d) = dput (dput I2 46 (mins I2 p c.toNat d)) 28 (dat I 28) := by
      have : dat (dput I2 46 (mins I2 p c.toNat d)) 28 = dat I 28 := dat_congr (fun j hj => hkC _ _ (by omega))
      rw [← this, dput_dat]
    have hq28 : ∀ Q2 : List mV → mM → Prop, Q2 [.inl (hmF (I 36) 1 0 (I p 15).toNat 0)] (mem Ls p (dput I2 46 (mins I2 p c.toNat d)) L2) → m_Call i_Day_howMany [.inr (.inr 28), .inl 1] (mem Ls p (dput I2 46 (mins I2 p c.toNat d)) L2) Q2 := fun Q2 hq => by
      rw [hnow] at hq ⊢
      exact q_howMany (c := 28) (Or.inl rfl) h15 hI.2.2.2.1.1 (by rw [dat_at (by omega)]; exact hq)
    refine hq28 _ (T_C_tried_78 ?_)
    -- the reference
    have go : ∀ kc ks, m_Wp i_M_tried 47 kc ks [(0, .inr (.inr 98)), (1, .inl a), (2, .inl b), (3, .inl c)] [] (mem Ls p (mup (dput I2 46 (mins I2 p c.toNat d)) 98 2 0) L2) (fun w M2 => w = [.inl (wr (hmF (mins I2 p c.toNat d 8) 1 0 (I p 15).toNat 0 - hmF (I 36) 1 0 (I p 15).toNat 0))] ∧ OKM Ls M2) := fun kc ks => by
      refine T_M_tried_47 (m_start2 hI (hkC _) hd hc (fun e he => ?_))
      have run : ∀ y0 y1 y2 y3 y4 : Int, (y0 = if a = 0 then 1 else 0) → (y1 = if a = 1 then 1 else 0) → (y2 = if a = 2 then b else -1) → (y3 = if a = 3 then 1 else 0) → (y4 = if a = 4 then 1 else 0) → ∀ x, m_Call i_M_goMany [.inr (.inr 98), .inl c] (mem Ls p (jm (J3 (J2 (dput I2 46 (mins I2 p c.toNat d))) y0 y1 y2 y3 y4) 1 e x) L2) (fun v M' => m_Wp i_M_tried 125 kc ks [(0, .inr (.inr 98)), (3, .inl c)] (v ++ []) M' (fun w M2 => w = [.inl (wr (hmF (mins I2 p c.toNat d 8) 1 0 (I p 15).toNat 0 - hmF (I 36) 1 0 (I p 15).toNat 0))] ∧ OKM Ls M2)) := by
        intro y0 y1 y2 y3 y4 e0 e1 e2 e3 e4 x
        obtain ⟨k1, k2, k3, k4, k5⟩ := J3_fl (Y := J2 (dput I2 46 (mins I2 p c.toNat d))) (a := y0) (b := y1) (c := y2) (f := y3) (g := y4)
        have hPR : PR I2 p (J3 (J2 (dput I2 46 (mins I2 p c.toNat d))) y0 y1 y2 y3 y4) := PR_congr gp (fun k h1 h2 => J3_98 (by omega)) (fun a' h1 h2 => J3_out (by omega)) he.2.1
        have hWR : WR I2 p (J3 (J2 (dput I2 46 (mins I2 p c.toNat d))) y0 y1 y2 y3 y4) := by
          unfold WR
          rw [k1, k2, k3, k4, k5, J3_98 (by omega : 67 < 68 ∨ 72 < 67), J3_98 (by omega : 73 < 68 ∨ 72 < 73), J3_98 (by omega : 74 < 68 ∨ 72 < 74), g2, g3, g4, g5, g6, gp0, gp 3 (by omega), gp 5 (by omega), g1 66 (by omega) (by omega), f1, f2, f3, f4, f5, hc.2.2.2.2.1]
          have hJ2 := plainJ_fl (J := mup (dput I2 46 (mins I2 p c.toNat d)) 98 2 0)
          have j67 : J2 (dput I2 46 (mins I2 p c.toNat d)) 98 67 = 0 := hJ2.1
          have j73 : J2 (dput I2 46 (mins I2 p c.toNat d)) 98 73 = -1 := hJ2.2.2.2.2.2.2.1
          rw [j67, j73]
          refine ⟨?_, ?_, ?_, ?_, rfl, fun q hq => ?_, fun q hq => ?_⟩
          · rw [e0]; by_cases h : a = 0
            · rw [if_pos h, if_pos h]; right; exact ⟨by omega, rfl⟩
            · rw [if_neg h, if_neg h]; left; exact ⟨rfl, rfl⟩
          · rw [e1]; by_cases h : a = 1
            · rw [if_pos h, if_pos h]; right; exact ⟨by omega, rfl⟩
            · rw [if_neg h, if_neg h]; left; exact ⟨rfl, rfl⟩
          · rw [e3]; by_cases h : a = 3
            · rw [if_pos h, if_pos h]; omega
            · rw [if_neg h, if_neg h]; omega
          · rw [e2]
          · rw [g7 q (by omega), e4]
            by_cases h : a = 4
            · rw [if_pos h, if_pos h, if_neg (by omega)]
            · rw [if_neg h, if_neg h, if_pos rfl, (flw_65 hp (by omega)).1, flw_out (by omega)]
          · rw [if_neg (by omega), (flw_65 hp (by omega)).2, flw_out (by omega)]
        have h67 : J3 (J2 (dput I2 46 (mins I2 p c.toNat d))) y0 y1 y2 y3 y4 98 67 = 0 := by rw [J3_98 (by omega)]; exact J2_67
        have hDR : DR (I2 p 13) (I p 15) d e := by rw [gp0]; exact he.2.2.2.2
        refine r_goT (N := c) ⟨hc2, hPR, hWR, h67, hDR⟩ (by omega) (by omega) (fun e' x' K' he' hK => T_M_tried_125 (r_plainTried (T_M_tried_129 ?_)))
        rw [tried_end]
        have j14 : jm (J2 (dput I2 46 (mins I2 p c.toNat d))) 1 e' x' 98 14 = I p 15 := by rw [jm_98 (by omega)]; unfold J2; rw [plainJ_98 (by omega), mup_ne (by omega), hkC _ 98 (by omega), h14]
        refine r_are (b := 1) (f := mins I2 p c.toNat d 8) (by omega) h15 j14 (fun m hm2 => ?_) (T_M_tried_135 (r_are (b := 0) (f := I 36) (by omega) h15 j14 (fun m hm2 => verdict_now hI (hkC _) hm2) (T_M_tried_141 ⟨rfl, mT_end hI (hkC _) hL hK⟩)))
        unfold jm
        rw [(jS (b := 1) _ e').2.2.2.2.2.2.2.2.2.2.1 m (by omega)]
        exact (he'.2.2.2.2.2.2.2.2.2.2.2 m hm2).2.2.2
      have s5 : ∀ y0 y1 y2 y3 y4 : Int, (y0 = if a = 0 then 1 else 0) → (y1 = if a = 1 then 1 else 0) → (y2 = if a = 2 then b else -1) → (y3 = if a = 3 then 1 else 0) → (y4 = if a = 4 then 1 else 0) → ∀ x, m_Wp i_M_tried 117 kc ks [(0, .inr (.inr 98)), (3, .inl c)] [.inl y4, .inr (.inr 98)] (mem Ls p (mup (mup (mup (mup (jm (J2 (dput I2 46 (mins I2 p c.toNat d))) 1 e x) 98 68 y0) 98 69 y1) 98 72 y2) 98 70 y3) L2) (fun w M2 => w = [.inl (wr (hmF (mins I2 p c.toNat d 8) 1 0 (I p 15).toNat 0 - hmF (I 36) 1 0 (I p 15).toNat 0))] ∧ OKM Ls M2) := by
        intro y0 y1 y2 y3 y4 e0 e1 e2 e3 e4 x
        refine T_M_tried_117 ⟨by rw [e4]; split <;> omega, ?_⟩
        rw [jm_mup (by omega), jm_mup (by omega), jm_mup (by omega), jm_mup (by omega), jm_mup (by omega)]
        exact run y0 y1 y2 y3 y4 e0 e1 e2 e3 e4 x
      have s4 : ∀ y0 y1 y2 y3 : Int, (y0 = if a = 0 then 1 else 0) → (y1 = if a = 1 then 1 else 0) → (y2 = if a = 2 then b else -1) → (y3 = if a = 3 then 1 else 0) → ∀ x, m_Wp i_M_tried 103 kc ks [(0, .inr (.inr 98)), (1, .inl a), (3, .inl c)] [.inl y3, .inr (.inr 98)] (mem Ls p (mup (mup (mup (jm (J2 (dput I2 46 (mins I2 p c.toNat d))) 1 e x) 98 68 y0) 98 69 y1) 98 72 y2) L2) (fun w M2 => w = [.inl (wr (hmF (mins I2 p c.toNat d 8) 1 0 (I p 15).toNat 0 - hmF (I 36) 1 0 (I p 15).toNat 0))] ∧ OKM Ls M2) := by
        intro y0 y1 y2 y3 e0 e1 e2 e3 x
        exact T_M_tried_103 ⟨by rw [e3]; split <;> omega, fun h => s5 y0 y1 y2 y3 0 e0 e1 e2 e3 (by rw [if_neg h]) x, fun h => s5 y0 y1 y2 y3 1 e0 e1 e2 e3 (by rw [if_pos (Classical.not_not.mp h)]) x⟩
      have s3 : ∀ y0 y1 y2 : Int, (y0 = if a = 0 then 1 else 0) → (y1 = if a = 1 then 1 else 0) → (y2 = if a = 2 then b else -1) → ∀ x, m_Wp i_M_tried 89 kc ks [(0, .inr (.inr 98)), (1, .inl a), (3, .inl c)] [.inl y2, .inr (.inr 98)] (mem Ls p (mup (mup (jm (J2 (dput I2 46 (mins I2 p c.toNat d))) 1 e x) 98 68 y0) 98 69 y1) L2) (fun w M2 => w = [.inl (wr (hmF (mins I2 p c.toNat d 8) 1 0 (I p 15).toNat 0 - hmF (I 36) 1 0 (I p 15).toNat 0))] ∧ OKM Ls M2) := by
        intro y0 y1 y2 e0 e1 e2 x
        exact T_M_tried_89 ⟨fun h => s4 y0 y1 y2 0 e0 e1 e2 (by rw [if_neg h]) x, fun h => s4 y0 y1 y2 1 e0 e1 e2 (by rw [if_pos (Classical.not_not.mp h)]) x⟩
      have s2 : ∀ y0 y1 : Int, (y0 = if a = 0 then 1 else 0) → (y1 = if a = 1 then 1 else 0) → ∀ x, m_Wp i_M_tried 75 kc ks [(0, .inr (.inr 98)), (1, .inl a), (2, .inl b), (3, .inl c)] [.inl y1, .inr (.inr 98)] (mem Ls p (mup (jm (J2 (dput I2 46 (mins I2 p c.toNat d))) 1 e x) 98 68 y0) L2) (fun w M2 => w = [.inl (wr (hmF (mins I2 p c.toNat d 8) 1 0 (I p 15).toNat 0 - hmF (I 36) 1 0 (I p 15).toNat 0))] ∧ OKM Ls M2) := by
        intro y0 y1 e0 e1 x
        exact T_M_tried_75 ⟨by rw [e1]; split <;> omega, fun h => s3 y0 y1 (-1) e0 e1 (by rw [if_neg h]) x, fun h => s3 y0 y1 b e0 e1 (by rw [if_pos (Classical.not_not.mp h)]) x⟩
      have s1 : ∀ y0 : Int, (y0 = if a = 0 then 1 else 0) → ∀ x, m_Wp i_M_tried 61 kc ks [(0, .inr (.inr 98)), (1, .inl a), (2, .inl b), (3, .inl c)] [.inl y0, .inr (.inr 98)] (mem Ls p (jm (J2 (dput I2 46 (mins I2 p c.toNat d))) 1 e x) L2) (fun w M2 => w = [.inl (wr (hmF (mins I2 p c.toNat d 8) 1 0 (I p 15).toNat 0 - hmF (I 36) 1 0 (I p 15).toNat 0))] ∧ OKM Ls M2) := by
        intro y0 e0 x
        exact T_M_tried_61 ⟨by rw [e0]; split <;> omega, fun h => s2 y0 0 e0 (by rw [if_neg h]) x, fun h => s2 y0 1 e0 (by rw [if_pos (Classical.not_not.mp h)]) x⟩
      exact T_M_tried_51 ⟨fun h => s1 0 (by rw [if_neg h]) _, fun h => s1 1 (by rw [if_pos (Classical.not_not.mp h)]) _⟩
    refine E_M_tried (r_isIn (T_M_tried_11 ⟨fun h => absurd (b01_zero.mp h) (fun z => z ha), fun _ => r_isIn (T_M_tried_22 ⟨fun h => absurd (b01_zero.mp h) (fun z => z hc'), fun _ => ⟨fun h3 => ⟨fun _ => go _ _, fun h4 => absurd (hb0 h3) h4⟩, fun h3 => r_isMan ?_⟩⟩)⟩))
    rw [mup_ne (by omega), hkC _ 98 (by omega), h12]
    exact T_M_tried_35 ⟨fun _ => go _ _, fun h4 => absurd (b01_zero.mp (Classical.not_not.mp h4)) (fun z => z (hb2 (by omega)))⟩
  refine E_C_tried ⟨fun h => ref (by omega), fun h => ⟨fun h2 => ref (by omega), fun h2 => ⟨fun h3 => ref (by omega), fun h3 => ⟨fun h4 => ⟨fun h5 => ⟨fun h7 => main (by omega) (by omega) (fun z => absurd z h5) (fun _ => h7) _ _, fun h7 => ref (by omega)⟩, fun h5 => q_isPerson hp (T_C_tried_32 ⟨fun h7 => main (by omega) (by omega) (fun _ => ?_) (fun z => absurd (by omega) z) _ _, fun h7 => ref (Or.inr (Or.inr (Or.inl ⟨by omega, b01_zero.mp (Classical.not_not.mp h7)⟩)))⟩)⟩, fun h4 => ref (by omega)⟩⟩⟩⟩
  by_cases hh : 0 ≤ b ∧ b < I p 13
  · exact hh
  · exact absurd (b01_zero.mpr hh) h7
end Q9
