/-! near: who must ring -/
def rgF (r : Nat) (q : Nat) (d : Nat → Nat → Int) : Nat → Nat → Int := if bt (r : Int) q then dIn d (q : Int) else d
def neV (I0 : Nat → Nat → Int) (p : Nat) (P : Int) (r : Nat) (d : Nat → Nat → Int) : Int := spF (mins I0 p 60 (lp (rgF r) 0 P.toNat d) 1) (fun j => b01 (¬ bt 0 j)) 0 P.toNat 0 0 0
section Q7
variable {Ls p kc ks : Nat} {P M : Int} {I I0 I1 J K L L1 K2 d d' e : Nat → Nat → Int} {Q : List mV → mM → Prop} {x : Int}
theorem rgF_minute {r q : Nat} : rgF r q d 0 10 = d 0 10 := by unfold rgF; split; exact dIn_minute; rfl
theorem cIn_rg {r q : Nat} (h : cIn p I I0 M d) (hq : (q : Int) < I0 p 13) : cIn p I I0 M (rgF r q d) := by
  unfold rgF; split
  · exact cIn_in h (by omega)
  · exact h
theorem eqv_rg {r : Nat} (hP : I0 p 13 ≤ 6) (hM : M ≤ 6) : ∀ (n k : Nat) {d d' e : Nat → Nat → Int}, (k : Int) + n = I0 p 13 → mIn p I I0 J M d e → mIn p I I0 J M d' e → ∃ e1, mIn p I I0 J M (lp (rgF r) k n d) e1 ∧ mIn p I I0 J M (lp (rgF r) k n d') e1
  | 0, _, _, _, e, _, h, h' => ⟨e, h, h'⟩
  | n + 1, k, d, d', e, hk, h, h' => by
    rw [lp, lp]
    unfold rgF
    by_cases hb : bt (r : Int) k
    · rw [if_pos hb, if_pos hb]
      obtain ⟨e1, a1, a2⟩ := eqv_in (q := (k : Int)) (by omega) h h' hP hM
      exact eqv_rg hP hM n (k + 1) (by omega) a1 a2
    · rw [if_neg hb, if_neg hb]
      exact eqv_rg hP hM n (k + 1) (by omega) h h'
theorem rg_minute {r : Nat} : ∀ (n k : Nat) (d : Nat → Nat → Int), lp (rgF r) k n d 0 10 = d 0 10
  | 0, _, _ => rfl
  | n + 1, k, d => by rw [lp, rg_minute n, rgF_minute]
theorem spF_DR {s : Nat → Int} (hP : 0 ≤ P ∧ P ≤ 6) (h : DR P M d e) (h' : DR P M d' e) : ∀ (n k : Nat) (a lo hi : Int), (k : Int) + n = P → spF (d 1) s k n a lo hi = spF (d' 1) s k n a lo hi
  | 0, _, _, _, _, _ => rfl
  | n + 1, k, a, lo, hi, hk => by
    have e1 : d 1 k = d' 1 k := by rw [← (h.2.2.2.2.2.1 k (by omega)).1, (h'.2.2.2.2.2.1 k (by omega)).1]
    rw [spF, spF, e1]
    split
    · split
      · exact spF_DR hP h h' n (k + 1) _ _ _ (by omega)
      · exact spF_DR hP h h' n (k + 1) _ _ _ (by omega)
    · exact spF_DR hP h h' n (k + 1) _ _ _ (by omega)
theorem neV_same {r : Nat} (hI : INV p I L) (hd : agr (dat I 28) d) (hc : cIn p I (flw I p 0) (I p 15) d) (hd' : agr (dat I 28) d') (hc' : cIn p I (flw I p 0) (I p 15) d') (hm : d 0 10 ≤ 9000) : neV (flw I p 0) p (flw I p 0 p 13) r d = neV (flw I p 0) p (flw I p 0 p 13) r d' := by
  have h6 := hc.2.1.1
  have h15 := hI.2.1.2.2.1
  obtain ⟨e1, a1, a2⟩ := eqv_rg (r := r) h6.2 h15.2 (flw I p 0 p 13).toNat 0 (by omega) (laid_eqv hI hd hc) (laid_eqv hI hd' hc')
  obtain ⟨e2, b1, b2⟩ := eqv_mins h6.2 h15.2 60 a1 a2 (by rw [rg_minute]; omega)
  unfold neV
  exact spF_DR h6 b1.2.2.2.2 b2.2.2.2.2 _ _ _ _ _ (by omega)
theorem sir_1 {r : Nat} (hr : r < 64) {N : Int} (hN : I0 p 13 = N) (h6 : N ≤ 6) : ∀ (n k : Nat) (d : Nat → Nat → Int), (k : Int) + n = N → cIn p I I0 M d → (m_Wp i_C_spreadIfRinging 43 kc ks [(0, .inr (.inr 2)), (2, .inl 0)] [] (mem Ls p (dput I0 46 (lp (rgF r) k n d)) L) Q) → m_Wp i_C_spreadIfRinging 6 kc ks [(0, .inr (.inr 2)), (1, .inl (r : Int)), (2, .inl (k : Int))] [] (mem Ls p (dput I0 46 d) L) Q := by
  intro n
  induction n with
  | zero =>
    intro k d hk hc hQ
    have sp := (dS hc.1 (Or.inr (Or.inr (Or.inl rfl)) : isDay 46) I0 d).2.1
    refine T_C_spreadIfRinging_6 hc.1 ?_
    rw [sp, hN]
    exact ⟨fun _ => hQ, fun h => by omega⟩
  | succ n ih =>
    intro k d hk hc hQ
    have sp := (dS hc.1 (Or.inr (Or.inr (Or.inl rfl)) : isDay 46) I0 d).2.1
    rw [lp] at hQ
    have hcr := cIn_rg (r := r) (q := k) hc (by omega)
    unfold rgF at hQ hcr
    refine T_C_spreadIfRinging_6 hc.1 ?_
    rw [sp, hN]
    have hw : wr ((k : Int) + 1) = ((k + 1 : Nat) : Int) := by rw [wr_of] <;> omega
    refine ⟨fun h => by omega, fun _ => ⟨fun h => ?_, fun h => ?_⟩⟩
    · rw [if_neg h] at hQ; rw [hw]; exact ih (k + 1) d (by omega) hc hQ
    · rw [if_pos (Classical.not_not.mp h)] at hQ hcr
      refine q_takesIn (Or.inr (Or.inr (Or.inl rfl))) hc.2.2.2.2.2.2.2.1 (by omega) (T_C_spreadIfRinging_34 ?_)
      rw [hw]; exact ih (k + 1) _ (by omega) hcr hQ
theorem sir_2 : ∀ (n k : Nat) (d L' : Nat → Nat → Int), k + n = 60 → cIn p I I0 M d → d 0 10 + n ≤ 20000 → lkeep L L' → (∀ L2, lkeep L L2 → Q [.inl (spF (mins I0 p n d 1) (fun j => b01 (¬ bt 0 j)) 0 (I0 p 13).toNat 0 0 0)] (mem Ls p (dput I0 46 (mins I0 p n d)) L2)) → m_Wp i_C_spreadIfRinging 43 kc ks [(0, .inr (.inr 2)), (2, .inl (k : Int))] [] (mem Ls p (dput I0 46 d) L') Q := by
  intro n
  induction n with
  | zero =>
    intro k d L' hk hc hm hL hQ
    have sp := (dS hc.1 (Or.inr (Or.inr (Or.inl rfl)) : isDay 46) I0 d).2.1
    refine T_C_spreadIfRinging_43 hc.1 ?_
    rw [sp]
    refine ⟨fun _ => q_spread (Or.inr (Or.inr (Or.inl rfl))) hc.2.1.1 hc.2.2.2.2.2 ?_, fun h => by omega⟩
    rw [sp_all _ hc.2.1.1]
    exact T_C_spreadIfRinging_84 (hQ L' hL)
  | succ n ih =>
    intro k d L' hk hc hm hL hQ
    refine T_C_spreadIfRinging_43 hc.1 ⟨fun h => by omega, fun _ => q_minT hc (by omega) (fun L2 hL2 hc2 => T_C_spreadIfRinging_60 ?_)⟩
    rw [show wr ((k : Int) + 1) = ((k + 1 : Nat) : Int) by rw [wr_of] <;> omega]
    exact ih (k + 1) _ L2 (by omega) hc2 (by rw [fMin_minute]; omega) (fun a ha => by rw [hL2 a ha, hL a ha]) hQ
/-- the class's try: these ring -/
theorem q_sir {r : Nat} {X L' : Nat → Nat → Int} (hI : INV p I L) (hr : r < 64) (hX : stC p I X) (hL : lkeep L L') (hQ : ∀ X2 L2, stC p I X2 → lkeep L L2 → Q [.inl (neV (flw I p 0) p (flw I p 0 p 13) r (dat I 28))] (mem Ls p X2 L2)) : m_Call i_C_spreadIfRinging [.inr (.inr 2), .inl (r : Int)] (mem Ls p X L') Q := by
  have t := tf (v := 0) hI.1 hI.2.1
  have hc0 : cIn p I (flw I p 0) (I p 15) (dat I 28) := ⟨hI.1, t.1, t.2.1, by rw [t.2.2], t.2.2, by rw [t.2.2]; exact hI.2.2.2.1.1⟩
  refine E_C_spreadIfRinging (c_start3 hI hX hL (fun d hd hc hm => T_C_spreadIfRinging_4 (sir_1 hr rfl hc.2.1.1.2 (flw I p 0 p 13).toNat 0 d (by have := hc.2.1.1; omega) hc ?_)))
  have hcr : cIn p I (flw I p 0) (I p 15) (lp (rgF r) 0 (flw I p 0 p 13).toNat d) := lp_inv (P := fun s => cIn p I (flw I p 0) (I p 15) s) _ _ hc (fun j s _ hj hs => cIn_rg hs (by omega))
  refine sir_2 (L := L) 60 0 _ L' (by omega) hcr (by rw [rg_minute]; omega) hL (fun L2 hL2 => ?_)
  have := hQ (dput (flw I p 0) 46 (mins (flw I p 0) p 60 (lp (rgF r) 0 (flw I p 0 p 13).toNat d))) L2 (Or.inr ⟨_, rfl⟩) hL2
  rw [← neV_same (r := r) hI hd hc agr.rfl' hc0 hm] at this
  exact this
theorem near_c {y : Int} (hI : INV p I L) : ∀ (m s : Nat) (X L' : Nat → Nat → Int), (s : Int) + m = I p 13 + 1 → stC p I X → lkeep L L' → (∀ X2 L2, stC p I X2 → lkeep L L2 → Q [.inl (srO (fun r => neV (flw I p 0) p (flw I p 0 p 13) r (dat I 28)) (fun k => bcE (k : Int)) y (2 ^ (I p 13).toNat) (-2) s m)] (mem Ls p X2 L2)) → m_Wp i_C_near 26 kc ks [(0, .inr (.inr 2)), (1, .inl y), (2, .inl (wr (m_shl 1 (I p 13) - 1))), (3, .inl (s : Int))] [] (mem Ls p X L') Q := by
  have hp := hI.1
  have h6 := hI.2.1.1
  have hal := all_eq ⟨(I p 13).toNat, by omega⟩
  simp only at hal
  rw [show (((I p 13).toNat : Nat) : Int) = I p 13 by omega] at hal
  have h2 := two_pow_le (n := (I p 13).toNat) (by omega)
  have hpp : ∀ X, stC p I X → X p = I p := fun X hX => hX.out p (by have := hp; unfold isPlan at this; omega)
  generalize hg : (fun r => neV (flw I p 0) p (flw I p 0 p 13) r (dat I 28)) = g at *
  have inner : ∀ (s : Nat) (V : Int), (s : Int) ≤ 6 → srI g (fun k => bcE (k : Int)) y (s : Int) 0 (2 ^ (I p 13).toNat) = V → (V = -1 → ∀ X L', stC p I X → lkeep L L' → m_Wp i_C_near 26 kc ks [(0, .inr (.inr 2)), (1, .inl y), (2, .inl (wr (m_shl 1 (I p 13) - 1))), (3, .inl ((s + 1 : Nat) : Int))] [] (mem Ls p X L') Q) → (V ≠ -1 → ∀ X L', stC p I X → lkeep L L' → Q [.inl V] (mem Ls p X L')) → ∀ (n k : Nat) (X L' : Nat → Nat → Int), stC p I X → lkeep L L' → k + n = 2 ^ (I p 13).toNat → V = srI g (fun k => bcE (k : Int)) y (s : Int) k n → m_Wp i_C_near 40 kc ks [(0, .inr (.inr 2)), (1, .inl y), (2, .inl (wr (m_shl 1 (I p 13) - 1))), (3, .inl (s : Int)), (4, .inl (k : Int))] [] (mem Ls p X L') Q := by
    intro s V hs hVV K1 K2 n
    induction n with
    | zero =>
      intro k X L' hX hL hk hV
      refine T_C_near_40 ?_
      rw [show wr ((s : Int) + 1) = ((s + 1 : Nat) : Int) by rw [wr_of] <;> omega]
      exact ⟨fun _ => K1 hV X L' hX hL, fun h => by rw [hal.1] at h; omega⟩
    | succ n ih =>
      intro k X L' hX hL hk hV
      rw [srI] at hV
      refine T_C_near_40 ⟨fun h => by rw [hal.1] at h; omega, fun _ => q_bitCount (T_C_near_51 ?_)⟩
      have hw : wr ((k : Int) + 1) = ((k + 1 : Nat) : Int) := by rw [wr_of] <;> omega
      rw [hw]
      refine ⟨fun h => ?_, fun h => ?_⟩
      · rw [if_neg (fun z => h z.1)] at hV; exact ih (k + 1) X L' hX hL (by omega) hV
      · refine q_sir hI (by omega) hX hL (fun X2 L2 hX2 hL2 => T_C_near_61 ?_)
        have hgk : neV (flw I p 0) p (flw I p 0 p 13) k (dat I 28) = g k := by rw [← hg]
        rw [hgk, hw]
        refine ⟨fun h3 => ?_, fun h3 => ?_⟩
        · rw [if_neg (fun z => by have := z.2; omega)] at hV
          exact ih (k + 1) X2 L2 hX2 hL2 (by omega) hV
        · rw [if_pos ⟨Classical.not_not.mp h, by omega⟩] at hV
          rw [← hV]
          exact K2 (by rw [hV]; omega) X2 L2 hX2 hL2
  intro m
  induction m with
  | zero =>
    intro s X L' hs hX hL hQ
    refine T_C_near_26 hp ?_
    rw [hpp X hX]
    exact ⟨fun _ => hQ X L' hX hL, fun h => by omega⟩
  | succ m ih =>
    intro s X L' hs hX hL hQ
    rw [srO] at hQ
    refine T_C_near_26 hp ?_
    rw [hpp X hX]
    refine ⟨fun h => by omega, fun _ => ?_⟩
    refine inner s _ (by omega) rfl (fun h X L' hX hL => ?_) (fun h X L' hX hL => ?_) (2 ^ (I p 13).toNat) 0 X L' hX hL (by omega) rfl
    · rw [if_pos h] at hQ; exact ih (s + 1) X L' (by omega) hX hL hQ
    · rw [if_neg h] at hQ; exact hQ X L' hX hL
theorem near_ring {r : Nat} (hr : r < 64) {y b : Int} {N : Int} (hN : I0 p 13 = N) (h6 : N ≤ 6) : ∀ (n k : Nat) (d e : Nat → Nat → Int) (x : Int), (k : Int) + n = N → mIn p I I0 J M d e → d 0 10 ≤ 9000 → (∀ e x K', mIn p I I0 J M (mins I0 p 60 (lp (rgF r) k n d)) e → KT K K' → m_Wp i_M_near 95 kc ks [(0, .inr (.inr 98)), (1, .inl y), (2, .inl b), (3, .inl (r : Int)), (4, .inl N)] [] (mem Ls p (jm J 1 e x) K') Q) → m_Wp i_M_near 57 kc ks [(0, .inr (.inr 98)), (1, .inl y), (2, .inl b), (3, .inl (r : Int)), (4, .inl (k : Int))] [] (mem Ls p (jm J 1 e x) K) Q := by
  intro n
  induction n with
  | zero =>
    intro k d e x hk hc hm hQ
    refine T_M_near_57 ?_
    rw [jm_98 (by omega), hc.2.1.1.1, hN]
    refine ⟨fun _ => r_goT (N := 60) hc (by omega) (by omega) (fun e' x' K' he' hK => ?_), fun h => by omega⟩
    rw [show (k : Int) = N by omega]
    exact hQ e' x' K' he' hK
  | succ n ih =>
    intro k d e x hk hc hm hQ
    rw [lp] at hQ
    unfold rgF at hQ
    refine T_M_near_57 ?_
    rw [jm_98 (by omega), hc.2.1.1.1, hN]
    have hw : wr ((k : Int) + 1) = ((k + 1 : Nat) : Int) := by rw [wr_of] <;> omega
    refine ⟨fun h => by omega, fun _ => E_M_isOf ⟨fun h => ⟨by omega, T_M_near_72 ⟨fun _ => ?_, fun h2 => absurd rfl h2⟩⟩, fun h => ⟨by omega, T_M_near_72 ⟨fun h2 => by omega, fun _ => ?_⟩⟩⟩⟩
    · rw [if_neg h] at hQ; rw [hw]; exact ih (k + 1) d e x (by omega) hc hm hQ
    · rw [if_pos (Classical.not_not.mp h)] at hQ
      refine r_joinT hc (by omega) (fun e' he' => T_M_near_82 ?_)
      rw [hw]; exact ih (k + 1) _ e' x (by omega) he' (by rw [dIn_minute]; exact hm) hQ
theorem near_m {y : Int} (hI : INV p I L) (hk1 : ∀ a, a < 46 ∨ 67 ≤ a → I1 a = I a) : ∀ (n k : Nat) (b : Int) (X K' : Nat → Nat → Int), k + n = 2 ^ (I p 13).toNat → (b = -2 ∨ (0 ≤ b ∧ b < ((2 ^ (I p 13).toNat : Nat) : Int))) → stM I1 X → KT K K' → (∀ X2 K2, stM I1 X2 → KT K K2 → Q [.inl (srB (fun r => neV (flw I p 0) p (flw I p 0 p 13) r (dat I 28)) (fun k => bcE (k : Int)) y k n b)] (mem Ls p X2 K2)) → m_Wp i_M_near 22 kc ks [(0, .inr (.inr 98)), (1, .inl y), (2, .inl b), (3, .inl (k : Int))] [] (mem Ls p X K') Q := by
  have h6 := hI.2.1.1
  have h12 : I 98 12 = I p 13 := hI.2.2.1.1.1
  have hal := all_eq ⟨(I p 13).toNat, by omega⟩
  simp only at hal
  rw [show (((I p 13).toNat : Nat) : Int) = I p 13 by omega] at hal
  have h2 := two_pow_le (n := (I p 13).toNat) (by omega)
  have t := tf (v := 0) hI.1 hI.2.1
  have hc0 : cIn p I (flw I p 0) (I p 15) (dat I 28) := ⟨hI.1, t.1, t.2.1, by rw [t.2.2], t.2.2, by rw [t.2.2]; exact hI.2.2.2.1.1⟩
  have hm0 : dat I 28 0 10 ≤ 9000 := by rw [dat_at (by omega)]; exact hI.2.2.2.1.2.2.2
  have hX12 : ∀ X, stM I1 X → X 98 12 = I p 13 := fun X hX => by
    rcases hX with rfl | ⟨e, x, rfl⟩
    · rw [mup_ne (by omega), hk1 98 (by omega), h12]
    · rw [jm_98 (by omega)]; unfold J2; rw [plainJ_98 (by omega), mup_ne (by omega), hk1 98 (by omega), h12]
  intro n
  induction n with
  | zero =>
    intro k b X K' hk hb hX hK hQ
    refine T_M_near_22 ?_
    rw [hX12 X hX, hal.2]
    exact ⟨fun _ => hQ X K' hX hK, fun h => by omega⟩
  | succ n ih =>
    intro k b X K' hk hb hX hK hQ
    have hw : wr ((k : Int) + 1) = ((k + 1 : Nat) : Int) := by rw [wr_of] <;> omega
    rw [srB] at hQ
    have tr : (b < 0 ∨ bcE (k : Int) < bcE ((b.toNat : Nat) : Int)) → m_Call i_M_layTried [.inr (.inr 98)] (mem Ls p X K') (fun v M' => m_Wp i_M_near 54 kc ks [(0, .inr (.inr 98)), (1, .inl y), (2, .inl b), (3, .inl (k : Int))] (v ++ []) M' Q) := fun hor => by
      refine m_start3 hI hk1 hX agr.rfl' hc0 (fun e x he => T_M_near_54 (near_ring (by omega) rfl he.1.2.1.1.2 (flw I p 0 p 13).toNat 0 _ e x (by have := he.1.2.1.1; omega) he hm0 (fun e' x' K2 he' hK2 => T_M_near_95 (r_spread (b := 1) (by omega) he'.1.2.1.1 he'.2.1.1.1 he'.1.2.2.2.2.2 he'.2.2.2.2 (T_M_near_101 ?_)))))
      rw [hw]
      refine ⟨fun h => ?_, fun h => ?_⟩
      · rw [if_neg (fun z => by have := z.2; unfold neV at this; omega)] at hQ; exact ih (k + 1) b _ K2 (by omega) hb (Or.inr ⟨_, _, rfl⟩) (hK.tr hK2) hQ
      · rw [if_pos ⟨hor, by unfold neV; omega⟩] at hQ; exact ih (k + 1) _ _ K2 (by omega) (Or.inr ⟨by omega, by omega⟩) (Or.inr ⟨_, _, rfl⟩) (hK.tr hK2) hQ
    refine T_M_near_22 ?_
    rw [hX12 X hX, hal.2]
    have hXm : ∀ z : Nat, z < 64 → ∀ Q2 : List mV → mM → Prop, Q2 [.inl (bcE (z : Int))] (mem Ls p X K') → m_Call i_M_manyOf [.inl (z : Int)] (mem Ls p X K') Q2 := fun z hz Q2 hq => r_manyOf hz hq
    refine ⟨fun h => by omega, fun _ => ⟨fun h => tr (Or.inl h), fun h => hXm k (by omega) _ (T_M_near_40 ?_)⟩⟩
    rw [show b = ((b.toNat : Nat) : Int) by omega] at tr ⊢
    refine hXm _ (by omega) _ (T_M_near_44 ⟨fun h3 => tr (Or.inr (by rw [Int.toNat_natCast]; exact h3)), fun h3 => ?_⟩)
    rw [hw]
    rw [if_neg (fun z => by have := z.1; omega)] at hQ
    rw [← show b = ((b.toNat : Nat) : Int) by omega]
    exact ih (k + 1) b X K' (by omega) hb hX hK hQ
theorem stM_ok {X K2 : Nat → Nat → Int} (hI : INV p I L) (hk : ∀ a, a < 46 ∨ 67 ≤ a → I1 a = I a) (hL : lkeep L L1) (hX : stM I1 X) (hK : KT L1 K2) : OKM Ls (mem Ls p X K2) := by
  rcases hX with rfl | ⟨e, x, rfl⟩
  · refine ⟨p, _, _, rfl, INV_keeps hI ⟨fun a ha => by rw [mup_other (by omega), hk a (by omega)], fun k h1 _ _ => by rw [mup_ne (Or.inr h1), hk 98 (by omega)], fun a h1 _ => by rw [mup_other (by omega), hk a (by omega)], fun r k _ _ => by rw [mup_ne (by omega), hk _ (by omega)], fun a h1 _ => by rw [mup_other (by omega), hk a (by omega)], by rw [hK.2, hL 98 (by omega)], by rw [hK.2, hL 98 (by omega)]⟩⟩
  · exact mT_end hI hk hL hK
theorem pair_near {a : Int} (hI : INV p I L) : PAIR Ls i_C_near i_M_near [.inl a] (mem Ls p I L) := by
  have h6 := hI.2.1.1
  have h2 := two_pow_le (n := (I p 13).toNat) (by omega)
  have ref : ¬ (0 ≤ a ∧ a ≤ 60) → m_Call i_M_near [.inr (.inr 98), .inl a] (mem Ls p I L) (fun w M2 => w = [.inl (-1)] ∧ OKM Ls M2) := fun h => by
    refine E_M_near (r_isIn (T_M_near_12 ⟨fun h2 => absurd (b01_zero.mpr h) h2, fun _ => ⟨rfl, p, _, _, rfl, INV_thrown hI⟩⟩))
  refine E_C_near hI.1 ⟨fun h => ref (by omega), fun h => ⟨fun h3 => ?_, fun h2 => ref (by omega)⟩⟩
  refine near_c hI ((I p 13).toNat + 1) 0 I L (by omega) (Or.inl rfl) (fun _ _ => rfl) (fun X2 L2 hX2 hL2 => ?_)
  refine E_M_near (r_isIn (T_M_near_12 ⟨fun h4 => ?_, fun h4 => absurd (b01_zero.mp (Classical.not_not.mp h4)) (fun z => z (by omega))⟩))
  refine near_m (K := L2) hI hX2.out (2 ^ (I p 13).toNat) 0 (-2) _ L2 (by omega) (Or.inl rfl) (Or.inl rfl) KT.rfl' (fun X3 K3 hX3 hK3 => ⟨?_, stM_ok hI hX2.out hL2 hX3 hK3⟩)
  have hpc : ∀ r : Nat, r < 2 ^ (I p 13).toNat → 0 ≤ bcE (r : Int) ∧ bcE (r : Int) ≤ ((I p 13).toNat : Int) := fun r hr => ⟨(bc_mo ⟨r, by omega⟩).2, bc_le ⟨(I p 13).toNat, by omega⟩ ⟨r, by omega⟩ hr⟩
  have b1 := srO_spec (g := fun r => neV (flw I p 0) p (flw I p 0 p 13) r (dat I 28)) (pc := fun k => bcE (k : Int)) (y := a) (N := 2 ^ (I p 13).toNat) (z := -2) (T := (I p 13).toNat) hpc ((I p 13).toNat + 1) 0 (by omega) (fun r hr _ => (hpc r hr).1)
  have b2 := srB_spec (g := fun r => neV (flw I p 0) p (flw I p 0 p 13) r (dat I 28)) (pc := fun k => bcE (k : Int)) (y := a) (z := -2) (by omega) (2 ^ (I p 13).toNat) 0 (-2) (Or.inl ⟨rfl, fun r hr => by omega⟩)
  rw [Nat.zero_add] at b2
  rw [isB_one b2 b1]
end Q7
