section W2
variable {Ls p c kc ks : Nat} {I L d : Nat → Nat → Int} {Q : List mV → mM → Prop}
theorem fDrift1_minute {q : Nat} : fDrift1 I p q d 0 = d 0 := by unfold fDrift1; rw [mup_other (by omega)]
theorem DOK_drift1 {P M : Int} {q : Nat} (h : DOK P M d) : DOK P M (fDrift1 I p q d) := by
  unfold fDrift1
  have hl := @wth_range (d 1 q + fMore I p d q) (-99) 99 (by omega)
  generalize wth (d 1 q + fMore I p d q) (-99) 99 = v at *
  unfold DOK at *; simp only [mup_app]; grind
theorem driftAll_loop {M : Int} (hp : isPlan p) (hc : isDay c) (hpl : planOK I p) (hwy : wayOK I (I p 13)) : ∀ (n k : Nat) (d L' : Nat → Nat → Int), (k : Int) + n = I p 13 → DOK (I p 13) M d → d 0 10 ≤ 20000 → lkeep L L' → (∀ L2, lkeep L L2 → Q [] (mem Ls p (dput I c (lp (fDrift1 I p) k n d)) L2)) → m_Wp i_Way_driftAll 2 kc ks [(0, .inr (.inr 64)), (1, .inr (.inr c)), (2, .inl (k : Int))] [] (mem Ls p (dput I c d) L') Q := by
  intro n
  induction n with
  | zero =>
    intro k d L' hk hd hm hL K
    have sp := (dS hp hc I d).2.1
    exact T_Way_driftAll_2 hp hc ⟨fun _ => K L' hL, fun h => absurd (show dput I c d p 13 ≤ (k : Int) by rw [sp]; omega) h⟩
  | succ n ih =>
    intro k d L' hk hd hm hL K
    obtain ⟨⟨s0, s1, s2, s3, s4, s5, s6, s7, s8⟩, sp, spk, s64, s65, s66⟩ := dS hp hc I d
    have h6 := hpl.1
    have hw : wr ((k : Int) + 1) = ((k + 1 : Nat) : Int) := by rw [wr_of] <;> omega
    have hkt : (k : Int).toNat = k := Int.toNat_natCast k
    have hof := hd.2.2.2.2.2.2.1 k (by omega)
    have hra := hwy.2 k (by omega)
    refine T_Way_driftAll_2 hp hc ⟨fun h => absurd h (by rw [sp]; omega), fun _ => ?_⟩
    rw [s0]
    refine q_lawOf (law := 2) hp hc (by omega) hpl.2.2.2.2.2.2.2.2.2 (by omega) (nmv_big (P := 0) hpl hwy hd (by omega) hm hd.2.2.1) (fun L2 hL2 => ?_)
    have hLL : lkeep L L2 := fun a ha => by rw [hL2 a ha, hL a ha]
    -- the end of the round
    have fin : ∀ x5 y, y = d 1 k + fMore I p d k → m_Wp i_Way_driftAll 79 kc ks [(0, .inr (.inr 64)), (1, .inr (.inr c)), (2, .inl (k : Int)), (5, .inr (.inl x5))] [.inr (.inl (m_max (-99) (m_min 99 y))), .inl (k : Int), .inr (.inr (c + 1))] (mem Ls p (dput I c d) L2) Q := by
      intro x5 y hy
      refine T_Way_driftAll_79 hc ⟨by omega, ?_⟩
      have hwr := wth_range (v := y) (lo := -99) (hi := 99) (by omega)
      rw [within_wth (by omega), wr_of (z := wth y (-99) 99) (by omega) (by omega), hw, hkt, mup_dput (by omega)]
      have h1 := ih (k + 1) (fDrift1 I p k d) L2 (by omega) (DOK_drift1 hd) (by rw [fDrift1_minute]; exact hm) hLL K
      unfold fDrift1 at h1
      rw [hy]; exact h1
    have hfm : fMore I p d k = if lv I (p + 13) 2 (nmv I p d (k : Int) (d 0 11)) = -9223372036854775808 then I 66 k else wth (lv I (p + 13) 2 (nmv I p d (k : Int) (d 0 11))) (-9) 9 := rfl
    refine T_Way_driftAll_24 hc ⟨fun h => E_C_within (T_Way_driftAll_53 hc ⟨by omega, E_C_within ?_⟩), fun h => ⟨by omega, by omega, E_C_within ?_⟩⟩
    · rw [lcmp_zero] at h
      rw [if_neg h] at hfm
      have hwr := wth_range (v := lv I (p + 13) 2 (nmv I p d (k : Int) (d 0 11))) (lo := -9) (hi := 9) (by omega)
      rw [hkt, s1, within_wth (by omega : (-9 : Int) ≤ 9), wl_of (by omega) (by omega)]
      exact fin _ _ (by rw [hfm])
    · rw [lcmp_zero] at h
      rw [if_pos (Classical.not_not.mp h)] at hfm
      rw [hkt, s1, s66, wl_of (by omega) (by omega)]
      exact fin _ _ (by rw [hfm])
theorem q_driftAll {M : Int} (hp : isPlan p) (hc : isDay c) (hpl : planOK I p) (hwy : wayOK I (I p 13)) (hd : DOK (I p 13) M d) (hm : d 0 10 ≤ 20000) (K : ∀ L2, lkeep L L2 → Q [] (mem Ls p (dput I c (fDrift I p d)) L2)) : m_Call i_Way_driftAll [.inr (.inr 64), .inr (.inr c)] (mem Ls p (dput I c d) L) Q :=
  E_Way_driftAll hc (driftAll_loop hp hc hpl hwy (I p 13).toNat 0 d L (by have := hpl.1; omega) hd hm (fun _ _ => rfl) K)
theorem fCome_0 {m : Nat} : fCome I p m 0 d = if d 6 m = -1 ∧ d 5 m ≤ wr (d 0 10 + d 1 (I (p + 8) m).toNat) then mup d 6 m (d 0 10) else d := rfl
theorem fCome_1 {m : Nat} : fCome I p m 1 d = if d 7 m = -1 ∧ d 5 m ≤ wr (d 0 10 + d 1 (I (p + 9) m).toNat) then mup d 7 m (d 0 10) else d := rfl
theorem q_meet {M : Int} {m : Nat} (hp : isPlan p) (hc : isDay c) (hpl : planOK I p) (hd : DOK (I p 13) M d) (hm : d 0 10 ≤ 20000) (hmm : (m : Int) < I p 15) (hM : I p 15 = M) (K : Q [] (mem Ls p (dput I c (fKept I p m (fCome I p m 1 (fCome I p m 0 d)))) L)) : m_Call i_Way_meet [.inr (.inr 64), .inr (.inr c), .inl (m : Int)] (mem Ls p (dput I c d) L) Q := by
  obtain ⟨⟨s0, s1, s2, s3, s4, s5, s6, s7, s8⟩, sp, spk, s64, s65, s66⟩ := dS hp hc I d
  have h6 := hpl.1
  have h15 := hpl.2.2.1
  have hme := hpl.2.2.2.2.2.2.2.1 m (by omega)
  have hkt : (m : Int).toNat = m := Int.toNat_natCast m
  have hd1 : DOK (I p 13) M (fCome I p m 0 d) := DOK_come (Or.inl rfl) hd
  have hd2 : DOK (I p 13) M (fCome I p m 1 (fCome I p m 0 d)) := DOK_come (Or.inr rfl) hd1
  have t0 : ∀ (e : Nat → Nat → Int) (s : Nat), fCome I p m s e 0 10 = e 0 10 := fun e s => by unfold fCome; split <;> simp [mup_app]
  have t10 : fCome I p m 0 d 0 10 = d 0 10 := t0 d 0
  have t20 : fCome I p m 1 (fCome I p m 0 d) 0 10 = d 0 10 := by rw [t0, t0]
  -- the third part
  have p3 : m_Wp i_Way_meet 102 0 0 [(0, .inr (.inr 64)), (1, .inr (.inr c)), (2, .inl (m : Int)), (3, .inl (I (p + 8) m)), (4, .inl (I (p + 9) m))] [] (mem Ls p (dput I c (fCome I p m 1 (fCome I p m 0 d))) L) Q := by
    unfold fKept at K
    generalize fCome I p m 1 (fCome I p m 0 d) = e at *
    obtain ⟨⟨r0, r1, r2, r3, r4, r5, r6, r7, r8⟩, rp, rpk, r64, r65, r66⟩ := dS hp hc I e
    have hcm := (hd2.2.2.2.2.2.2.2.2.2.2 m (by omega))
    refine T_Way_meet_102 hc ?_
    rw [hkt, r6, r7, r65]
    refine ⟨by omega, fun h => T_Way_meet_172 ?_, fun h => ⟨by omega, fun h2 => T_Way_meet_172 ?_, fun h2 => ⟨by omega, by omega, by omega, by omega, ?_⟩⟩⟩
    · rw [if_pos (Or.inl h)] at K; exact K
    · rw [if_pos (Or.inr h2)] at K; exact K
    · rw [if_neg (by omega)] at K
      rw [wr_of (z := e 6 m - e 7 m) (by omega) (by omega), wr_of (z := 0 - (e 6 m - e 7 m)) (by omega) (by omega), show (if 0 ≤ e 6 m - e 7 m then e 6 m - e 7 m else 0 - (e 6 m - e 7 m)) = ((e 6 m - e 7 m).natAbs : Int) by split <;> omega]
      refine ⟨fun h3 => T_Way_meet_171 hc ⟨by omega, T_Way_meet_172 ?_⟩, fun h3 => T_Way_meet_171 hc ⟨by omega, T_Way_meet_172 ?_⟩⟩
      · rw [if_neg (by omega)] at K
        rw [hkt, mup_dput (by omega)]; exact K
      · rw [if_pos (by omega)] at K
        rw [hkt, mup_dput (by omega)]; exact K
  have p2 : m_Wp i_Way_meet 61 0 0 [(0, .inr (.inr 64)), (1, .inr (.inr c)), (2, .inl (m : Int)), (3, .inl (I (p + 8) m)), (4, .inl (I (p + 9) m))] [] (mem Ls p (dput I c (fCome I p m 0 d)) L) Q := by
    generalize fCome I p m 0 d = e at *
    rw [fCome_1] at p3
    obtain ⟨⟨r0, r1, r2, r3, r4, r5, r6, r7, r8⟩, rp, rpk, r64, r65, r66⟩ := dS hp hc I e
    refine T_Way_meet_61 hc ?_
    rw [hkt, r7, r0, r1, r5]
    refine ⟨by omega, fun h => ?_, fun h => ⟨by omega, by omega, fun h2 => ?_, fun h2 => ⟨by omega, ?_⟩⟩⟩
    · rw [if_neg (by omega)] at p3; exact p3
    · rw [if_neg (by omega)] at p3; exact p3
    · rw [if_pos (by omega)] at p3
      rw [mup_dput (by omega)]; exact p3
  rw [fCome_0] at p2
  refine E_Way_meet hp hc ?_
  rw [hkt, s6, s0, s1, s5, spk 8 (by omega), spk 9 (by omega)]
  refine ⟨by omega, by omega, by omega, fun h => ?_, fun h => ⟨by omega, by omega, fun h2 => ?_, fun h2 => ⟨by omega, ?_⟩⟩⟩
  · rw [if_neg (by omega)] at p2; exact p2
  · rw [if_neg (by omega)] at p2; exact p2
  · rw [if_pos (by omega)] at p2
    rw [mup_dput (by omega)]; exact p2
theorem meet_minute {m : Nat} : fMeet I p m d 0 10 = d 0 10 := by
  unfold fMeet fKept fCome
  grind [mup_app]
theorem meets_loop {M : Int} (hp : isPlan p) (hc : isDay c) (hpl : planOK I p) (hM : I p 15 = M) : ∀ (n k : Nat) (d : Nat → Nat → Int), (k : Int) + n = I p 15 → DOK (I p 13) M d → d 0 10 ≤ 20000 → Q [] (mem Ls p (dput I c (mup (lp (fMeet I p) k n d) 0 10 (d 0 10 + 1))) L) → m_Wp i_Way_passMinute 76 kc ks [(0, .inr (.inr 64)), (1, .inr (.inr c)), (2, .inl (k : Int))] [] (mem Ls p (dput I c d) L) Q := by
  intro n
  induction n with
  | zero =>
    intro k d hk hd hm K
    obtain ⟨⟨s0, s1, s2, s3, s4, s5, s6, s7, s8⟩, sp, spk, s64, s65, s66⟩ := dS hp hc I d
    have h10 := hd.2.1
    refine T_Way_passMinute_76 hp hc ?_
    rw [sp, s0, wr_of (by omega) (by omega), mup_dput0]
    exact ⟨fun _ => K, fun h => absurd (show I p 15 ≤ (k : Int) by omega) h⟩
  | succ n ih =>
    intro k d hk hd hm K
    obtain ⟨⟨s0, s1, s2, s3, s4, s5, s6, s7, s8⟩, sp, spk, s64, s65, s66⟩ := dS hp hc I d
    have h15 := hpl.2.2.1
    have hw : wr ((k : Int) + 1) = ((k + 1 : Nat) : Int) := by rw [wr_of] <;> omega
    have hkt : (k : Int).toNat = k := Int.toNat_natCast k
    rw [lp] at K
    have hK := ih (k + 1) (fMeet I p k d) (by omega) (DOK_meet hd) (by rw [meet_minute]; exact hm) (by rw [meet_minute]; exact K)
    unfold fMeet at hK
    refine T_Way_passMinute_76 hp hc ?_
    rw [sp, s8, hw, hkt]
    refine ⟨fun h => by omega, fun _ => ⟨by omega, fun h => ?_, fun h => ?_⟩⟩
    · rw [if_neg h] at hK; exact hK
    · rw [if_pos (Classical.not_not.mp h)] at hK
      refine q_meet hp hc hpl hd hm (by omega) hM (T_Way_passMinute_102 hc ?_)
      rw [hw]; exact hK
/-- the class's minute -/
theorem q_passMinute {M : Int} (hp : isPlan p) (hc : isDay c) (hpl : planOK I p) (hwy : wayOK I (I p 13)) (hM : I p 15 = M) (hd : DOK (I p 13) M d) (hm : d 0 10 ≤ 20000) (K : ∀ L2, lkeep L L2 → Q [] (mem Ls p (dput I c (fMin I p d)) L2)) : m_Call i_Way_passMinute [.inr (.inr 64), .inr (.inr c)] (mem Ls p (dput I c d) L) Q := by
  unfold fMin at K
  -- from behind
  have stE : ∀ (d L' : Nat → Nat → Int), DOK (I p 13) M d → d 0 10 ≤ 20000 → lkeep L L' → (∀ L2, lkeep L L2 → Q [] (mem Ls p (dput I c (fE I p d)) L2)) → m_Wp i_Way_passMinute 76 0 0 [(0, .inr (.inr 64)), (1, .inr (.inr c)), (2, .inl 0)] [] (mem Ls p (dput I c d) L') Q := by
    intro d L' hd hm hL K
    exact meets_loop hp hc hpl hM (I p 15).toNat 0 d (by have := hpl.2.2.1; omega) hd hm (K L' hL)
  have stD : ∀ (d L' : Nat → Nat → Int), DOK (I p 13) M d → d 0 10 ≤ 20000 → lkeep L L' → (∀ L2, lkeep L L2 → Q [] (mem Ls p (dput I c (fE I p (fD I p d))) L2)) → m_Wp i_Way_passMinute 50 0 0 [(0, .inr (.inr 64)), (1, .inr (.inr c))] [] (mem Ls p (dput I c d) L') Q := by
    intro d L' hd hm hL K
    obtain ⟨⟨s0, s1, s2, s3, s4, s5, s6, s7, s8⟩, sp, spk, s64, s65, s66⟩ := dS hp hc I d
    have h10 := hd.2.1
    refine T_Way_passMinute_50 hc ?_
    rw [s0, s64, wr_of (by omega) (by omega)]
    unfold fD at K
    refine ⟨fun h => ?_, fun h => ⟨by omega, fun h2 => ?_, fun h2 => ?_⟩⟩
    · rw [if_neg (by omega)] at K; exact stE d L' hd hm hL K
    · rw [if_neg (by omega)] at K; exact stE d L' hd hm hL K
    · rw [if_pos (by omega)] at K
      refine q_driftAll hp hc hpl hwy hd hm (fun L2 hL2 => T_Way_passMinute_74 hc ?_)
      refine stE _ L2 (DOK_drift hd) ?_ (fun a ha => by rw [hL2 a ha, hL a ha]) K
      have : fDrift I p d 0 = d 0 := by
        unfold fDrift
        exact lp_inv (P := fun (s : Nat → Nat → Int) => s 0 = d 0) _ _ rfl (fun j s _ _ hs => by rw [fDrift1_minute]; exact hs)
      rw [this]; exact hm
  have stC : ∀ (d L' : Nat → Nat → Int), DOK (I p 13) M d → d 0 10 ≤ 20000 → lkeep L L' → d 0 12 ≠ -1 → (∀ L2, lkeep L L2 → Q [] (mem Ls p (dput I c (fE I p (fD I p (fC I p d)))) L2)) → m_Call i_Way_goOnTalking [.inr (.inr 64), .inr (.inr c)] (mem Ls p (dput I c d) L') (fun v M' => m_Wp i_Way_passMinute 50 0 0 [(0, .inr (.inr 64)), (1, .inr (.inr c))] (v ++ []) M' Q) := by
    intro d L' hd hm hL hn K
    unfold fC at K
    rw [if_neg hn] at K
    refine q_goOnTalking hp hc hpl hwy hd hm hn (fun L2 hL2 => stD _ L2 (DOK_goOn hd hn) ?_ (fun a ha => by rw [hL2 a ha, hL a ha]) K)
    have : fGoOn I p d 0 10 = d 0 10 := by unfold fGoOn fTold; grind [mup_app]
    rw [this]; exact hm
  -- nobody talks, nobody waits
  have stN : ∀ (d L' : Nat → Nat → Int), DOK (I p 13) M d → d 0 10 ≤ 20000 → lkeep L L' → d 0 12 = -1 → (∀ L2, lkeep L L2 → Q [] (mem Ls p (dput I c (fE I p (fD I p (fC I p d)))) L2)) → (((dput I c d 64 7) = (0 : Int) →
          m_Wp i_Way_passMinute 76 0 0 [(0, .inr (.inr 64)), (1, .inr (.inr c)), (2, .inl 0)] [] (mem Ls p (dput I c d) L') Q) ∧
         (¬ ((dput I c d 64 7) = (0 : Int)) →
          (¬ (10 : Int) = (0 : Int)) ∧
          ((¬ (Int.tmod (wr ((dput I c d c 10) + 1)) 10) = (0 : Int) →
            m_Wp i_Way_passMinute 76 0 0 [(0, .inr (.inr 64)), (1, .inr (.inr c)), (2, .inl 0)] [] (mem Ls p (dput I c d) L') Q) ∧
           (¬ (¬ (Int.tmod (wr ((dput I c d c 10) + 1)) 10) = (0 : Int)) →
            m_Call i_Way_driftAll [.inr (.inr 64), .inr (.inr c)] (mem Ls p (dput I c d) L') (fun v M' =>
              m_Wp i_Way_passMinute 74 0 0 [(0, .inr (.inr 64)), (1, .inr (.inr c))] (v ++ []) M' Q))))) := by
    intro d L' hd hm hL hn K
    obtain ⟨⟨s0, s1, s2, s3, s4, s5, s6, s7, s8⟩, sp, spk, s64, s65, s66⟩ := dS hp hc I d
    have h10 := hd.2.1
    rw [s0, s64, wr_of (by omega) (by omega)]
    unfold fC at K
    rw [if_pos hn] at K
    unfold fD at K
    refine ⟨fun h => ?_, fun h => ⟨by omega, fun h2 => ?_, fun h2 => ?_⟩⟩
    · rw [if_neg (by omega)] at K; exact stE d L' hd hm hL K
    · rw [if_neg (by omega)] at K; exact stE d L' hd hm hL K
    · rw [if_pos (by omega)] at K
      refine q_driftAll hp hc hpl hwy hd hm (fun L2 hL2 => T_Way_passMinute_74 hc ?_)
      refine stE _ L2 (DOK_drift hd) ?_ (fun a ha => by rw [hL2 a ha, hL a ha]) K
      have : fDrift I p d 0 = d 0 := by
        unfold fDrift
        exact lp_inv (P := fun (s : Nat → Nat → Int) => s 0 = d 0) _ _ rfl (fun j s _ _ hs => by rw [fDrift1_minute]; exact hs)
      rw [this]; exact hm
  -- somebody begins
  have stB : ∀ (d L' : Nat → Nat → Int), DOK (I p 13) M d → d 0 10 ≤ 20000 → lkeep L L' → 0 < d 0 11 → (∀ L2, lkeep L L2 → Q [] (mem Ls p (dput I c (fE I p (fD I p (fC I p (fStart I p d))))) L2)) → m_Call i_Way_startTalk [.inr (.inr 64), .inr (.inr c)] (mem Ls p (dput I c d) L') (fun v M' => m_Wp i_Way_passMinute 37 0 0 [(0, .inr (.inr 64)), (1, .inr (.inr c))] (v ++ []) M' Q) := by
    intro d L' hd hm hL h0 K
    refine q_startTalk hp hc hpl hwy hd hm h0 (fun L2 hL2 => T_Way_passMinute_37 hc ?_)
    have hrow := hd.2.2.2.2.2.2.2.1 0 (by omega)
    have h12 : fStart I p d 0 12 = d 4 0 := by unfold fStart; simp [mup_app]
    have h10 : fStart I p d 0 10 = d 0 10 := by unfold fStart dOut; simp [mup_app, rup_app]
    have s0 := (dS hp hc I (fStart I p d)).1.1
    refine ⟨fun h => by rw [s0, h12] at h; omega, fun _ => ?_⟩
    exact stC _ L2 (DOK_start hpl hd h0) (by rw [h10]; exact hm) (fun a ha => by rw [hL2 a ha, hL a ha]) (by rw [h12]; omega) K
  have hd1 := DOK_rings hpl hd
  have hm1 : fRings I p d 0 10 = d 0 10 := by
    unfold fRings
    refine lp_inv (P := fun (s : Nat → Nat → Int) => s 0 10 = d 0 10) _ _ rfl (fun j s _ _ hs => ?_)
    unfold fRing dIn
    grind [mup_app]
  have hd2 := DOK_dr (I := I) hd1
  have hm2 : fDr I (fRings I p d) 0 10 = d 0 10 := by rw [← hm1]; unfold fDr dDraw; split <;> simp [mup_app]
  refine E_Way_passMinute hc (q_takeRings hp hc hpl hd (T_Way_passMinute_5 hc (q_isStrangerRinging hp hc (T_Way_passMinute_10 hc ?_))))
  unfold fA fStr at K
  have whole : ∀ e, DOK (I p 13) M e → e 0 10 ≤ 20000 → (∀ L2, lkeep L L2 → Q [] (mem Ls p (dput I c (fE I p (fD I p (fC I p (fB I p e))))) L2)) →
      ((¬ (dput I c e c 12) = (-1) →
      (((dput I c e c 12) = (-1) →
        (((dput I c e 64 7) = (0 : Int) →
          m_Wp i_Way_passMinute 76 0 0 [(0, .inr (.inr 64)), (1, .inr (.inr c)), (2, .inl 0)] [] (mem Ls p (dput I c e) L) Q) ∧
         (¬ ((dput I c e 64 7) = (0 : Int)) →
          (¬ (10 : Int) = (0 : Int)) ∧
          ((¬ (Int.tmod (wr ((dput I c e c 10) + 1)) 10) = (0 : Int) →
            m_Wp i_Way_passMinute 76 0 0 [(0, .inr (.inr 64)), (1, .inr (.inr c)), (2, .inl 0)] [] (mem Ls p (dput I c e) L) Q) ∧
           (¬ (¬ (Int.tmod (wr ((dput I c e c 10) + 1)) 10) = (0 : Int)) →
            m_Call i_Way_driftAll [.inr (.inr 64), .inr (.inr c)] (mem Ls p (dput I c e) L) (fun v M' =>
              m_Wp i_Way_passMinute 74 0 0 [(0, .inr (.inr 64)), (1, .inr (.inr c))] (v ++ []) M' Q)))))) ∧
       (¬ ((dput I c e c 12) = (-1)) →
        m_Call i_Way_goOnTalking [.inr (.inr 64), .inr (.inr c)] (mem Ls p (dput I c e) L) (fun v M' =>
          m_Wp i_Way_passMinute 50 0 0 [(0, .inr (.inr 64)), (1, .inr (.inr c))] (v ++ []) M' Q)))) ∧
     (¬ (¬ (dput I c e c 12) = (-1)) →
      (((dput I c e c 11) ≤ (0 : Int) →
        (((dput I c e c 12) = (-1) →
          (((dput I c e 64 7) = (0 : Int) →
            m_Wp i_Way_passMinute 76 0 0 [(0, .inr (.inr 64)), (1, .inr (.inr c)), (2, .inl 0)] [] (mem Ls p (dput I c e) L) Q) ∧
           (¬ ((dput I c e 64 7) = (0 : Int)) →
            (¬ (10 : Int) = (0 : Int)) ∧
            ((¬ (Int.tmod (wr ((dput I c e c 10) + 1)) 10) = (0 : Int) →
              m_Wp i_Way_passMinute 76 0 0 [(0, .inr (.inr 64)), (1, .inr (.inr c)), (2, .inl 0)] [] (mem Ls p (dput I c e) L) Q) ∧
             (¬ (¬ (Int.tmod (wr ((dput I c e c 10) + 1)) 10) = (0 : Int)) →
              m_Call i_Way_driftAll [.inr (.inr 64), .inr (.inr c)] (mem Ls p (dput I c e) L) (fun v M' =>
                m_Wp i_Way_passMinute 74 0 0 [(0, .inr (.inr 64)), (1, .inr (.inr c))] (v ++ []) M' Q)))))) ∧
         (¬ ((dput I c e c 12) = (-1)) →
          m_Call i_Way_goOnTalking [.inr (.inr 64), .inr (.inr c)] (mem Ls p (dput I c e) L) (fun v M' =>
            m_Wp i_Way_passMinute 50 0 0 [(0, .inr (.inr 64)), (1, .inr (.inr c))] (v ++ []) M' Q)))) ∧
       (¬ ((dput I c e c 11) ≤ (0 : Int)) →
        m_Call i_Way_startTalk [.inr (.inr 64), .inr (.inr c)] (mem Ls p (dput I c e) L) (fun v M' =>
          m_Wp i_Way_passMinute 37 0 0 [(0, .inr (.inr 64)), (1, .inr (.inr c))] (v ++ []) M' Q))))) := by
    intro e he hme K
    have s0 := (dS hp hc I e).1.1
    have stc := stC e L he hme (fun _ _ => rfl)
    have stn := stN e L he hme (fun _ _ => rfl)
    have stb := stB e L he hme (fun _ _ => rfl)
    unfold fB at K
    refine ⟨fun h => ⟨fun h2 => absurd h2 h, fun h2 => ?_⟩, fun h => ⟨fun h2 => ⟨fun h3 => ?_, fun h3 => absurd h3 h⟩, fun h2 => ?_⟩⟩
    · rw [s0] at h
      rw [if_neg (by omega)] at K
      exact stc h K
    · rw [s0] at h3 h2
      rw [if_neg (by omega)] at K
      exact stn h3 K
    · rw [s0] at h h2
      rw [if_pos (by omega)] at K
      exact stb (by omega) K
  refine ⟨fun h => ?_, fun h => q_takesStranger hc hd2.2.2.1 (T_Way_passMinute_17 hc ?_)⟩
  · rw [if_pos h] at K
    exact whole _ hd2 (by rw [hm2]; exact hm) K
  · rw [if_neg h] at K
    refine whole _ (DOK_str hd2) ?_ K
    have : dStr (fDr I (fRings I p d)) 0 10 = d 0 10 := by rw [← hm2]; unfold dStr; split <;> simp [mup_app]
    rw [this]; exact hm
end W2
