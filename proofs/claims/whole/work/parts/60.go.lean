/-! ===== phase 2: go ===== -/
section Q11
variable {Ls p kc ks : Nat} {P M : Int} {I I0 I1 I2 J K L L1 L2 K2 Z d d' e : Nat → Nat → Int} {Q : List mV → mM → Prop} {x : Int}
theorem dat_dput_agr {c : Nat} (h : ∀ j, j < 9 → Z (c + j) = d j) : agr d (dat Z c) := ⟨fun k _ _ => by rw [dat_at (by omega), h 0 (by omega)], fun j k h1 h2 _ => by rw [dat_at (by omega), h j (by omega)]⟩
/-- now is otherwise -/
theorem INV_day (hI : INV p I L) (h1 : ∀ a, a < 28 ∨ (37 ≤ a ∧ a < 46) ∨ (67 ≤ a ∧ a < 98 ∧ a ≠ 94) → Z a = I a) (hLZ : LOG Z (I p 13) (I p 15)) (h98 : ∀ k, k ≠ 2 → k ≠ 52 → k ≠ 79 → k < 67 ∨ 74 < k → Z 98 k = I 98 k) (h3 : ∀ a, 99 ≤ a → a < 125 → Z a = I a) (h5 : ∀ a, 138 ≤ a → a ≠ 139 → Z a = I a) (hD : DAY Z K (I p 13) (I p 15)) (hL : K 98 84 = L 98 84) : INV p Z K := by
  obtain ⟨hp, hpl, hR, _, hT, hF, hW, hS, hLg, hIm⟩ := hI
  have hp' := hp
  unfold isPlan at hp'
  have gp : ∀ k, k < 19 → Z (p + k) = I (p + k) := fun k hk => h1 _ (by omega)
  have gp0 : Z p = I p := gp 0 (by omega)
  have d37 : dat Z 37 = dat I 37 := dat_congr (fun j hj => h1 _ (by omega))
  unfold INV
  rw [gp0]
  refine ⟨hp, planOK_congr hp gp hpl, PR_congr gp (fun k a b => h98 k (by omega) (by omega) (by omega) (by omega)) (fun a b c => h3 a (by omega) (by omega)) hR, hD, ?_, ?_, ?_, ?_, ?_, ?_⟩
  · unfold TPE at *
    rw [h1 2 (by omega), h98 1 (by omega) (by omega) (by omega) (by omega), h3 99 (by omega) (by omega), h1 6 (by omega)]; exact hT
  · rw [h1 2 (by omega), h98 4 (by omega) (by omega) (by omega) (by omega), h98 5 (by omega) (by omega) (by omega) (by omega)]; exact hF
  · unfold WDS at *
    rw [h1 7 (by omega), h3 100 (by omega) (by omega)]; exact hW
  · unfold SEE at *
    rw [h1 87 (by omega), h1 88 (by omega), h1 89 (by omega), h1 90 (by omega), h1 91 (by omega), h1 92 (by omega), h98 75 (by omega) (by omega) (by omega) (by omega), h98 76 (by omega) (by omega) (by omega) (by omega), h5 138 (by omega) (by omega)]; exact hS
  · exact hLZ
  · unfold IMG at *
    rw [h1 2 (by omega), h1 37 (by omega), h1 40 (by omega), h1 43 (by omega), h1 44 (by omega), h1 45 (by omega), h98 81 (by omega) (by omega) (by omega) (by omega), h5 141 (by omega) (by omega), h5 142 (by omega) (by omega), d37, hL]; exact hIm
theorem go_c {M N : Int} (hN : N ≤ 200) (hp : isPlan p) (hpl : planOK I0 p) (hwy : wayOK I0 (I0 p 13)) (hM : I0 p 15 = M) : ∀ (n k : Nat) (d L' : Nat → Nat → Int), (k : Int) + n = N → DOK (I0 p 13) M d → d 0 10 + n ≤ 20000 → lkeep L L' → (∀ L2, lkeep L L2 → Q [.inl (mins I0 p n d 0 10)] (mem Ls p (if N ≤ 0 then dput I0 28 (mins I0 p n d) else mup (dput I0 28 (mins I0 p n d)) 94 3 0) L2)) → m_Wp i_C_go 38 kc ks [(0, .inr (.inr 2)), (1, .inl N), (2, .inl (k : Int))] [] (mem Ls p (dput I0 28 d) L') Q := by
  intro n
  induction n with
  | zero =>
    intro k d L' hk hd hm hL K
    have hK := K L' hL
    rw [mins] at hK
    refine T_C_go_38 ⟨fun _ => ⟨fun h => ?_, fun h => ?_⟩, fun h => by omega⟩
    · rw [if_pos h] at hK; rw [dput_c]; exact hK
    · rw [if_neg h] at hK; rw [dput_c]; exact hK
  | succ n ih =>
    intro k d L' hk hd hm hL K
    refine T_C_go_38 ⟨fun h => by omega, fun _ => q_passMinute hp (Or.inl rfl) hpl hwy hM hd (by omega) (fun L2 hL2 => T_C_go_54 ?_)⟩
    rw [show wr ((k : Int) + 1) = ((k + 1 : Nat) : Int) by rw [wr_of] <;> omega]
    exact ih (k + 1) _ L2 (by omega) (DOK_fMin hpl hd) (by rw [fMin_minute]; omega) (fun a ha => by rw [hL2 a ha, hL a ha]) K
theorem go_m {M N : Int} (hN : N ≤ 200) (hR : PR I0 p J) (hW : WR I0 p J) (hpl : planOK I0 p) (hwy : wayOK I0 (I0 p 13)) (hM : I0 p 15 = M) : ∀ (n k : Nat) (d e K' : Nat → Nat → Int) (x : Int), (k : Int) + n = N → DOK (I0 p 13) M d → DR (I0 p 13) M d e → d 0 10 + n ≤ 20000 → KG J K K' d → (∀ e' x' K2, DR (I0 p 13) M (mins I0 p n d) e' → KG J K K2 (mins I0 p n d) → Q [.inl (mins I0 p n d 0 10)] (mem Ls p (mup (mup (jm J 0 e' x') 98 67 0) 98 79 (if N ≤ 0 then J 98 79 else 0)) K2)) → m_Wp i_M_go 43 kc ks [(0, .inr (.inr 98)), (1, .inl N), (2, .inl (k : Int))] [] (mem Ls p (jm J 0 e x) K') Q := by
  intro n
  induction n with
  | zero =>
    intro k d e K' x hk hd h hm hK hQ
    have hq := hQ e x K' h hK
    rw [mins] at hq
    have e136 : jm J 0 e x 136 0 = d 0 10 := by unfold jm; rw [(jS (b := 0) (mup J 98 52 x) e).2.2.2.2.2.2.2.2.2.2.2.1]; exact h.1
    refine T_M_go_43 ?_
    rw [e136, jm_98 (by omega)]
    refine ⟨fun _ => ⟨by omega, fun h2 => ⟨by omega, ?_⟩, fun h2 => ⟨by omega, ?_⟩⟩, fun h => by omega⟩
    · rw [if_pos h2] at hq; exact hq
    · rw [if_neg h2] at hq; exact hq
  | succ n ih =>
    intro k d e K' x hk hd h hm hK hQ
    refine T_M_go_43 ⟨fun h => by omega, fun _ => r_minuteGoes (b := 0) (by omega) hR hW hpl hwy hM hd h (by omega) hK.2.2.2 (fun e' x' K2 h' hK2 => T_M_go_53 ?_)⟩
    rw [show wr ((k : Int) + 1) = ((k + 1 : Nat) : Int) by rw [wr_of] <;> omega]
    exact ih (k + 1) _ e' K2 x' (by omega) (DOK_fMin hpl hd) h' (by rw [fMin_minute]; omega) (hK.tr hK2) hQ
theorem WR_draw (hp : isPlan p) (hpl : planOK I p) : WR (flw I p 1) p (mup (J2 I1) 98 67 1) := by
  have hp' := hp
  unfold isPlan at hp'
  obtain ⟨a1, a2, a3, a4, a5⟩ := flw_64 (I := I) (v := 1) hp
  obtain ⟨b1, b2, b3, b4, b5, b6, b7, b8⟩ := plainJ_fl (J := mup I1 98 2 0)
  have hfp : ∀ k, k < 19 → flw I p 1 (p + k) = I (p + k) := fun k hk => flw_out (by omega)
  have h0 := hfp 0 (by omega)
  rw [Nat.add_zero] at h0
  have h6 := hpl.1
  have e : ∀ k, k ≠ 67 → mup (J2 I1) 98 67 1 98 k = plainJ (mup I1 98 2 0) 98 k := fun k hk => mup_ne (Or.inr hk)
  unfold WR
  rw [e 68 (by omega), e 69 (by omega), e 70 (by omega), e 71 (by omega), e 72 (by omega), e 73 (by omega), e 74 (by omega), mup_eq rfl rfl, b2, b3, b4, b5, b6, b7, b8, a1, a2, a3, a4, a5, h0, hfp 3 (by omega), hfp 5 (by omega)]
  refine ⟨Or.inl ⟨rfl, rfl⟩, Or.inl ⟨rfl, rfl⟩, by omega, rfl, rfl, fun q hq => ?_, fun q hq => ?_⟩
  · rw [if_pos rfl, (flw_65 hp (by omega)).1]
  · rw [if_neg (by omega), (flw_65 hp (by omega)).2]
theorem pair_go {a : Int} (hI : INV p I L) : PAIR Ls i_C_go i_M_go [.inl a] (mem Ls p I L) := by
  have hp := hI.1
  have hp' := hp
  unfold isPlan at hp'
  have hpl := hI.2.1
  have h6 := hpl.1
  have h15 := hpl.2.2.1
  have hD := hI.2.2.2.1
  have h9000 : I 28 10 ≤ 9000 := hD.2.2.2
  have h0 : 0 ≤ I 28 10 := by have := hD.1.2.1; rw [dat_at (by omega)] at this; exact this
  have h136 : I 136 0 = I 28 10 := by
    have := hD.2.1.1
    rw [jat_at (by omega) (by decide), dat_at (by omega), Nat.zero_mul] at this; exact this
  have t := tf (v := 1) hp hpl
  have ref : ¬ ((0 ≤ a ∧ a ≤ 200) ∧ I 28 10 + a ≤ 9000) → m_Call i_M_go [.inr (.inr 98), .inl a] (mem Ls p I L) (fun w M2 => w = [.inl (-1)] ∧ OKM Ls M2) := fun h => by
    refine E_M_go (r_isIn (T_M_go_13 ⟨fun _ => ⟨rfl, p, _, _, rfl, INV_thrown hI⟩, fun h1 => ⟨by omega, fun h2 => ?_, fun _ => ⟨rfl, p, _, _, rfl, INV_thrown hI⟩⟩⟩))
    rw [b01_zero] at h1
    rw [mup_ne (by omega), h136, wr_of (by omega) (by omega)] at h2
    omega
  refine E_C_go ⟨fun h => ref (by omega), fun h => ⟨fun h2 => ref (by omega), fun h2 => ?_⟩⟩
  rw [wr_of (z := I 28 10 + a) (by omega) (by omega)]
  refine ⟨fun h3 => q_follow hp (Or.inr rfl) (T_C_go_36 ?_), fun h3 => ref (by omega)⟩
  have hd28 : dat (flw I p 1) 28 = dat I 28 := dat_congr (fun j hj => flw_out (by omega))
  have hst : flw I p 1 = dput (flw I p 1) 28 (dat I 28) := by rw [← hd28, dput_dat]
  have h10 : dat I 28 0 10 = I 28 10 := by rw [dat_at (by omega)]
  have hdk : DOK (flw I p 1 p 13) (I p 15) (dat I 28) := by rw [t.2.2]; exact hD.1
  have key := go_c (Ls := Ls) (kc := 0) (ks := 0) (L := L) (Q := fun v M1 => m_Call i_M_go [.inr (.inr 98), .inl a] M1 (fun w M2 => w = v ∧ OKM Ls M2)) (N := a) (M := I p 15) (by omega) hp t.1 t.2.1 (by rw [t.2.2]) a.toNat 0 (dat I 28) L (by omega) hdk (by omega) (fun _ _ => rfl)
  rw [← hst] at key
  refine key (fun L2 hL2 => ?_)
  -- the reference, from the memory X
  have hX : ∀ X, (∀ a', a' < 28 ∨ (37 ≤ a' ∧ a' < 64) ∨ (67 ≤ a' ∧ a' ≠ 94) → X a' = I a') → (∀ j, j < 9 → X (28 + j) = mins (flw I p 1) p a.toNat (dat I 28) j) → (0 < a → X 94 3 = 0) → (a ≤ 0 → X 94 = I 94) → m_Call i_M_go [.inr (.inr 98), .inl a] (mem Ls p X L2) (fun w M2 => w = [.inl (mins (flw I p 1) p a.toNat (dat I 28) 0 10)] ∧ OKM Ls M2) := by
    intro X hX1 hX2 hX3 hX4
    have hj0 : ∀ r k, r ≤ 12 → k < jlen r → X (125 + r) k = I (125 + r) k := fun r k _ _ => by rw [hX1 _ (by omega)]
    have hPR : PR (flw I p 1) p (mup (J2 X) 98 67 1) := by
      refine PR_congr (fun k hk => flw_out (by omega)) (fun k a1 a2 => ?_) (fun a' a1 a2 => ?_) hI.2.2.1
      · rw [mup_ne (by omega)]; unfold J2; rw [plainJ_98 (by omega), mup_ne (by omega), hX1 98 (by omega)]
      · rw [mup_other (by omega)]; unfold J2; rw [plainJ_out (by omega), mup_other (by omega), hX1 a' (by omega)]
    have hjat : jat (mup (J2 X) 98 67 1) 0 = jat I 0 := jat_congr (fun r k a1 a2 => by rw [mup_other (by omega)]; unfold J2; rw [plainJ_out (by omega), mup_other (by omega), hX1 _ (by omega)])
    have hmem : mup (J2 X) 98 67 1 = jm (mup (J2 X) 98 67 1) 0 (jat I 0) (mup (J2 X) 98 67 1 98 52) := by rw [← hjat]; exact now_jm
    have hX136 : mup X 98 2 0 136 0 = I 28 10 := by rw [mup_ne (by omega), hX1 136 (by omega), h136]
    refine E_M_go (r_isIn (T_M_go_13 ⟨fun z => absurd (b01_zero.mp z) (fun y => y (by omega)), fun _ => ⟨by omega, fun _ => r_plainTried (T_M_go_36 ⟨by omega, ?_⟩), fun z => ?_⟩⟩))
    · have hgo := go_m (Ls := Ls) (kc := 0) (ks := 0) (J := mup (J2 X) 98 67 1) (K := L2) (Q := fun w M2 => w = [.inl (mins (flw I p 1) p a.toNat (dat I 28) 0 10)] ∧ OKM Ls M2) (N := a) (M := I p 15) (by omega) hPR (WR_draw hp hpl) t.1 t.2.1 (by rw [t.2.2]) a.toNat 0 (dat I 28) (jat I 0) L2 (mup (J2 X) 98 67 1 98 52) (by omega) hdk (by rw [t.2.2]; exact hD.2.1) (by omega) ⟨fun _ _ _ _ => rfl, fun _ _ => rfl, fun _ => rfl, fun _ => by rw [hL2 98 (by omega), hD.2.2.1, dat_at (by omega)]⟩
      rw [← hmem] at hgo
      show m_Wp i_M_go 43 0 0 _ [] (mem Ls p (mup (J2 X) 98 67 1) L2) _
      refine hgo (fun e' x' K2 he' hK2 => ⟨rfl, ?_⟩)
      -- the invariant
      have hdm : DOK (I p 13) (I p 15) (mins (flw I p 1) p a.toNat (dat I 28)) := by have := DOK_mins t.1 a.toNat hdk; rw [t.2.2] at this; exact this
      rw [t.2.2] at he'
      have hZ : ∀ a' k, ¬ (a' = 98) → a' < 125 ∨ 137 < a' → mup (mup (jm (mup (J2 X) 98 67 1) 0 e' x') 98 67 0) 98 79 (if a ≤ 0 then mup (J2 X) 98 67 1 98 79 else 0) a' k = X a' k := fun a' k b1 b2 => by
        rw [mup_other b1, mup_other b1]; unfold jm J2; rw [jput_out b2, mup_other b1, mup_other b1, plainJ_out b1, mup_other b1]
      have hZf : ∀ a', ¬ (a' = 98) → a' < 125 ∨ 137 < a' → mup (mup (jm (mup (J2 X) 98 67 1) 0 e' x') 98 67 0) 98 79 (if a ≤ 0 then mup (J2 X) 98 67 1 98 79 else 0) a' = X a' := fun a' b1 b2 => funext (fun k => hZ a' k b1 b2)
      have hZ98 : ∀ k, k ≠ 2 → k ≠ 52 → k ≠ 79 → k < 67 ∨ 74 < k → mup (mup (jm (mup (J2 X) 98 67 1) 0 e' x') 98 67 0) 98 79 (if a ≤ 0 then mup (J2 X) 98 67 1 98 79 else 0) 98 k = I 98 k := fun k b1 b2 b3 b4 => by
        rw [mup_ne (by omega), mup_ne (by omega), jm_98 b2, mup_ne (by omega)]; unfold J2; rw [plainJ_98 b4, mup_ne (by omega), hX1 98 (by omega)]
      have hZj : ∀ r k, r ≤ 12 → k < jlen r → mup (mup (jm (mup (J2 X) 98 67 1) 0 e' x') 98 67 0) 98 79 (if a ≤ 0 then mup (J2 X) 98 67 1 98 79 else 0) (125 + r) k = e' r k := fun r k b1 b2 => by
        rw [mup_other (by omega), mup_other (by omega)]; unfold jm; exact jput_at b1 b2 (by rw [Nat.zero_mul, Nat.zero_add])
      have hag : agr (mins (flw I p 1) p a.toNat (dat I 28)) (dat (mup (mup (jm (mup (J2 X) 98 67 1) 0 e' x') 98 67 0) 98 79 (if a ≤ 0 then mup (J2 X) 98 67 1 98 79 else 0)) 28) := dat_dput_agr (fun j hj => by rw [hZf _ (by omega) (by omega)]; exact hX2 j hj)
      have h2810 : mup (mup (jm (mup (J2 X) 98 67 1) 0 e' x') 98 67 0) 98 79 (if a ≤ 0 then mup (J2 X) 98 67 1 98 79 else 0) 28 = mins (flw I p 1) p a.toNat (dat I 28) 0 := by rw [hZf _ (by omega) (by omega)]; exact hX2 0 (by omega)
      have hDAY : DAY (mup (mup (jm (mup (J2 X) 98 67 1) 0 e' x') 98 67 0) 98 79 (if a ≤ 0 then mup (J2 X) 98 67 1 98 79 else 0)) K2 (I p 13) (I p 15) := by
        refine ⟨DOK_agr h6.2 h15.2 hag hdm, DR_agr h6.2 h15.2 hag hdm.2.2.1 (DR_agrE h6.2 h15.2 hdm.2.2.1 (fun r k b1 b2 => ?_) he'), ?_, ?_⟩
        · rw [jat_at b1 b2, Nat.zero_mul, Nat.zero_add]; exact hZj r k b1 b2
        · rw [h2810]; exact hK2.2.2.2 (by rw [mup_eq rfl rfl]; omega)
        · rw [h2810, mins_minute, h10]; omega
      have hK84 : K2 98 84 = L 98 84 := by rw [hK2.2.1 84 (by omega), hL2 98 (by omega)]
      have hLOG : LOG (mup (mup (jm (mup (J2 X) 98 67 1) 0 e' x') 98 67 0) 98 79 (if a ≤ 0 then mup (J2 X) 98 67 1 98 79 else 0)) (I p 13) (I p 15) := by
        by_cases ha0 : a ≤ 0
        · -- nothing went by
          have ha : a = 0 := by omega
          have hL0 := hI.2.2.2.2.2.2.2.2.1
          have hd0 : dat (mup (mup (jm (mup (J2 X) 98 67 1) 0 e' x') 98 67 0) 98 79 (if a ≤ 0 then mup (J2 X) 98 67 1 98 79 else 0)) 28 = dat I 28 := dat_congr (fun j hj => by rw [hZf _ (by omega) (by omega), hX2 _ (by omega), ha, show Int.toNat 0 = 0 from rfl, mins, dat_at (by omega)])
          have h79 : mup (mup (jm (mup (J2 X) 98 67 1) 0 e' x') 98 67 0) 98 79 (if a ≤ 0 then mup (J2 X) 98 67 1 98 79 else 0) 98 79 = I 98 79 := by
            rw [mup_eq rfl rfl, if_pos ha0, mup_ne (by omega)]; unfold J2; rw [plainJ_98 (by omega), mup_ne (by omega), hX1 98 (by omega)]
          unfold LOG at *
          rw [hd0, h79, hZf 94 (by omega) (by omega), hX4 ha0, hZf 95 (by omega) (by omega), hX1 95 (by omega), hZf 96 (by omega) (by omega), hX1 96 (by omega), hZf 97 (by omega) (by omega), hX1 97 (by omega), hZf 140 (by omega) (by omega), hX1 140 (by omega)]
          exact hL0
        · unfold LOG
          rw [hZf 94 (by omega) (by omega), hX3 (by omega), mup_eq rfl rfl, if_neg ha0]
          exact ⟨by omega, rfl, True.intro⟩
      exact ⟨p, _, _, rfl, INV_day hI (fun a' ha' => by rw [hZf _ (by omega) (by omega), hX1 _ (by omega)]) hLOG hZ98 (fun a' b1 b2 => by rw [hZf _ (by omega) (by omega), hX1 _ (by omega)]) (fun a' b1 b2 => by rw [hZf _ (by omega) (by omega), hX1 _ (by omega)]) hDAY hK84⟩
    · rw [hX136, wr_of (by omega) (by omega)] at z; omega
  by_cases ha0 : a ≤ 0
  · rw [if_pos ha0]
    exact hX _ (fun a' ha' => by rw [dput_out (by omega), flw_out (by omega)]) (fun j hj => dput_at hj) (fun z => by omega) (fun _ => by rw [dput_out (by omega), flw_out (by omega)])
  · rw [if_neg ha0]
    refine hX _ (fun a' ha' => by rw [mup_other (by omega), dput_out (by omega), flw_out (by omega)]) (fun j hj => by rw [mup_other (by omega)]; exact dput_at hj) (fun _ => mup_eq rfl rfl) (fun z => by omega)
end Q11
