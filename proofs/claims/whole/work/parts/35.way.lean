/-! ===== phase 2: the class's minute is fMin ===== -/
section W1
variable {Ls p c kc ks : Nat} {I L d : Nat → Nat → Int} {Q : List mV → mM → Prop}
theorem takeRings_loop (hp : isPlan p) (hc : isDay c) (hpl : planOK I p) {M : Int} : ∀ (n k : Nat) (d : Nat → Nat → Int), (k : Int) + n = I p 14 → DOK (I p 13) M d → Q [] (mem Ls p (dput I c (lp (fRing I p) k n d)) L) → m_Wp i_Way_takeRings 2 kc ks [(0, .inr (.inr 64)), (1, .inr (.inr c)), (2, .inl (k : Int))] [] (mem Ls p (dput I c d) L) Q := by
  intro n
  induction n with
  | zero =>
    intro k d hk hd hQ
    obtain ⟨⟨s0, s1, s2, s3, s4, s5, s6, s7, s8⟩, sp, spk, s64, s65, s66⟩ := dS hp hc I d
    refine T_Way_takeRings_2 hp hc ⟨fun _ => hQ, fun h => absurd (show dput I c d p 14 ≤ (k : Int) by rw [sp]; omega) h⟩
  | succ n ih =>
    intro k d hk hd hQ
    obtain ⟨⟨s0, s1, s2, s3, s4, s5, s6, s7, s8⟩, sp, spk, s64, s65, s66⟩ := dS hp hc I d
    have hw : wr ((k : Int) + 1) = ((k + 1 : Nat) : Int) := by rw [wr_of] <;> (have := hpl.2.1; omega)
    have hr := hpl.2.2.2.2.2.2.1 k (by omega)
    have h10 := hpl.2.1
    have h6 := hpl.1
    have hkt : (k : Int).toNat = k := Int.toNat_natCast k
    have e6 : dput I c d (p + 6) k = I (p + 6) k := by rw [spk 6 (by omega)]
    have e7 : dput I c d (p + 7) k = I (p + 7) k := by rw [spk 7 (by omega)]
    rw [lp] at hQ
    unfold fRing at hQ
    refine T_Way_takeRings_2 hp hc ?_
    rw [hw, hkt, sp, s0, s64, e6, e7]
    refine ⟨fun h => by omega, fun _ => ⟨by omega, fun h => ?_, fun h => ⟨by omega, fun h2 => ?_, fun h2 => ⟨by omega, ?_⟩⟩⟩⟩
    · rw [if_neg (by omega)] at hQ; exact ih (k + 1) d (by omega) hd hQ
    · rw [if_neg (by omega)] at hQ; exact ih (k + 1) d (by omega) hd hQ
    · rw [if_pos (by omega)] at hQ
      refine q_takesIn hc hd.2.2.1 (by omega) (T_Way_takeRings_58 hc ?_)
      rw [hw]
      exact ih (k + 1) _ (by omega) (DOK_in hd (by omega)) hQ
theorem q_takeRings (hp : isPlan p) (hc : isDay c) (hpl : planOK I p) {M : Int} (hd : DOK (I p 13) M d) (K : Q [] (mem Ls p (dput I c (fRings I p d)) L)) : m_Call i_Way_takeRings [.inr (.inr 64), .inr (.inr c)] (mem Ls p (dput I c d) L) Q :=
  E_Way_takeRings hc (takeRings_loop hp hc hpl (I p 14).toNat 0 d (by have := hpl.2.1; omega) hd K)
theorem q_isStrangerRinging (hp : isPlan p) (hc : isDay c) (K : Q [.inl (strF I d)] (mem Ls p (dput I c (fDr I d)) L)) : m_Call i_Way_isStrangerRinging [.inr (.inr 64), .inr (.inr c)] (mem Ls p (dput I c d) L) Q := by
  obtain ⟨⟨s0, s1, s2, s3, s4, s5, s6, s7, s8⟩, sp, spk, s64, s65, s66⟩ := dS hp hc I d
  unfold strF fDr at K
  refine E_Way_isStrangerRinging hc ?_
  rw [s64]
  refine ⟨fun h8 => ⟨fun h0 => ⟨fun h1 => ?_, fun h1 => ?_⟩, fun h0 => ⟨fun h1 => ?_, fun h1 => ⟨fun h2 => absurd h2 h1, fun h2 => ?_⟩⟩⟩, fun h8 => ⟨fun h0 => ?_, fun h0 => ?_⟩⟩
  · rw [if_neg h8, if_pos h0, if_neg (by omega)] at K; exact ⟨by omega, K⟩
  · omega
  · refine q_drawNumber hc (T_Way_isStrangerRinging_57 hc ?_)
    rw [(dS hp hc I (dDraw d)).2.2.2.1]
    rw [if_neg h8, if_neg h0, if_neg h1, if_pos (show I 64 8 ≠ 0 ∧ I 64 4 ≠ 0 ∧ I 64 4 ≠ 100 from ⟨h8, h0, h1⟩)] at K
    refine ⟨by omega, fun h => ?_, fun h => ?_⟩
    · rw [if_neg (by omega)] at K; exact ⟨by omega, K⟩
    · rw [if_pos (by omega)] at K; exact ⟨by omega, K⟩
  · rw [if_neg h8, if_neg h0, if_pos (by omega), if_neg (by omega)] at K; exact ⟨by omega, K⟩
  · rw [if_pos (by omega), if_neg (by omega), if_neg (by omega)] at K; exact ⟨by omega, K⟩
  · rw [if_pos (by omega), if_pos (by omega), if_neg (by omega)] at K; exact ⟨by omega, K⟩
theorem isCold_loop (hp : isPlan p) {t : Int} (h3 : 0 ≤ I 64 5 ∧ I 64 5 ≤ 3) : ∀ (n k : Nat), (k : Int) + n = I 64 5 → Q [.inl (coldF I p t k n)] (mem Ls p I L) → m_Wp i_Way_isCold 2 kc ks [(0, .inr (.inr 64)), (1, .inl t), (2, .inl (k : Int))] [] (mem Ls p I L) Q := by
  intro n
  induction n with
  | zero =>
    intro k hk hQ
    exact T_Way_isCold_2 hp ⟨fun _ => ⟨by omega, hQ⟩, fun h => absurd (show I 64 5 ≤ (k : Int) by omega) h⟩
  | succ n ih =>
    intro k hk hQ
    have hw : wr ((k : Int) + 1) = ((k + 1 : Nat) : Int) := by rw [wr_of] <;> omega
    rw [coldF] at hQ
    refine T_Way_isCold_2 hp ?_
    rw [hw, Int.toNat_natCast]
    refine ⟨fun h => by omega, fun _ => ⟨by omega, fun h => ?_, fun h => ⟨by omega, fun h2 => ?_, fun h2 => ⟨by omega, ?_⟩⟩⟩⟩
    · rw [if_neg (by omega)] at hQ; exact ih (k + 1) (by omega) hQ
    · rw [if_neg (by omega)] at hQ; exact ih (k + 1) (by omega) hQ
    · rw [if_pos (by omega)] at hQ; exact hQ
theorem cold_dput (hp : isPlan p) (hc : isDay c) (t : Int) : ∀ n k : Nat, coldF (dput I c d) p t k n = coldF I p t k n
  | 0, _ => rfl
  | n + 1, k => by rw [coldF, coldF, cold_dput hp hc t n, (dS hp hc I d).2.2.1 11 (by omega), (dS hp hc I d).2.2.1 12 (by omega)]
theorem q_isCold (hp : isPlan p) (hc : isDay c) {t : Int} (h3 : 0 ≤ I 64 5 ∧ I 64 5 ≤ 3) (K : Q [.inl (coldF I p t 0 (I 64 5).toNat)] (mem Ls p (dput I c d) L)) : m_Call i_Way_isCold [.inr (.inr 64), .inl t] (mem Ls p (dput I c d) L) Q := by
  have s64 := (dS hp hc I d).2.2.2.1
  refine E_Way_isCold (isCold_loop hp (by rw [s64]; exact h3) (I 64 5).toNat 0 (by rw [s64]; omega) ?_)
  rw [cold_dput hp hc]
  exact K
theorem within_wth {v lo hi : Int} (h : lo ≤ hi) : m_max lo (m_min hi v) = wth v lo hi := by unfold m_max m_min wth; split <;> (try split) <;> (try split) <;> omega
/-- all names of a law are small -/
theorem nmv_big {P M q : Int} {x : Int} (hpl : planOK I p) (hwy : wayOK I (I p 13)) (hd : DOK (I p 13) M d) (hx : 0 ≤ x ∧ x < I p 13) (hm : d 0 10 ≤ 20000) (hq : 0 ≤ q ∧ q ≤ 20) : ∀ j, j < 7 → big (nmv I p d x q j) := by
  intro j hj
  have h1 := hpl.2.2.2.2.2.2.2.2.1 x.toNat (by omega)
  have h2 := hwy.2 x.toNat (by omega)
  have h3 := hd.2.2.2.2.2.2.1 x.toNat (by omega)
  have h4 := hd.2.1
  have h7 : j = 0 ∨ j = 1 ∨ j = 2 ∨ j = 3 ∨ j = 4 ∨ j = 5 ∨ j = 6 := by omega
  rcases h7 with rfl | rfl | rfl | rfl | rfl | rfl | rfl <;> simp only [nmv] <;> unfold big at * <;> omega
theorem q_startTalk {M : Int} (hp : isPlan p) (hc : isDay c) (hpl : planOK I p) (hwy : wayOK I (I p 13)) (hd : DOK (I p 13) M d) (hm : d 0 10 ≤ 20000) (h0 : 0 < d 0 11) (K : ∀ L2, lkeep L L2 → Q [] (mem Ls p (dput I c (fStart I p d)) L2)) : m_Call i_Way_startTalk [.inr (.inr 64), .inr (.inr c)] (mem Ls p (dput I c d) L) Q := by
  obtain ⟨⟨s0, s1, s2, s3, s4, s5, s6, s7, s8⟩, sp, spk, s64, s65, s66⟩ := dS hp hc I d
  have h6 := hpl.1
  have hrow := hd.2.2.2.2.2.2.2.1 0 (by omega)
  refine E_Way_startTalk hc ⟨by omega, q_takeOut hc hd.2.2.1 (by omega) ?_⟩
  rw [s4, show (0 : Int).toNat = 0 from rfl]
  have hd1 : DOK (I p 13) M (dOut d 0) := DOK_out hd (by omega)
  have t10 : dOut d 0 0 10 = d 0 10 := by unfold dOut; simp [mup_app, rup_app]
  have hmr := fMins_range (d := dOut d 0) (w := d 4 0) hpl (by omega)
  unfold fStart at K
  generalize dOut d 0 = e at *
  obtain ⟨⟨r0, r1, r2, r3, r4, r5, r6, r7, r8⟩, rp, rpk, r64, r65, r66⟩ := dS hp hc I e
  -- behind the minutes
  have fin : ∀ L2, lkeep L L2 → ∀ w x, w = d 4 0 → x = fMins I p e (d 4 0) → m_Call i_Way_isCold [.inr (.inr 64), .inl (dput I c e c 10)] (mem Ls p (dput I c e) L2) (fun v M' => m_Wp i_Way_startTalk 75 0 0 [(0, .inr (.inr 64)), (1, .inr (.inr c)), (2, .inl w), (3, .inr (.inl x))] (v ++ []) M' Q) := by
    intro L2 hL w x hw hx
    subst hw; subst hx
    rw [r0, t10]
    refine q_isCold hp hc hwy.1 (T_Way_startTalk_75 hc ⟨fun h => ?_, fun h => ?_⟩)
    · have := K L2 hL
      rw [if_pos h] at this
      rw [mup_dput0, mup_dput0, wr_of (by omega) (by omega)]
      exact this
    · have := K L2 hL
      rw [if_neg h] at this
      rw [mup_dput0, mup_dput0, wl_of (by omega) (by omega), wr_of (by unfold m_min; split <;> omega) (by unfold m_min; split <;> omega)]
      unfold m_min
      by_cases h2 : 20 < 2 * fMins I p e (d 4 0)
      · rw [if_pos h2] at this; rw [if_neg (by omega)]; exact this
      · rw [if_neg h2] at this
        by_cases h3 : 2 * fMins I p e (d 4 0) < 20
        · rw [if_pos h3]; exact this
        · rw [if_neg h3, show (20 : Int) = 2 * fMins I p e (d 4 0) by omega]; exact this
  refine T_Way_startTalk_12 hc ⟨fun h => fin L (fun _ _ => rfl) _ _ rfl (by unfold fMins; rw [if_pos h]), fun h => ?_⟩
  refine q_lawOf (law := 0) hp hc (by omega) hpl.2.2.2.2.2.2.2.2.2 (by omega) (nmv_big (P := 0) hpl hwy hd1 (by omega) (by omega) (by rw [r0]; exact hd1.2.2.1)) (fun L2 hL => ?_)
  rw [r0]
  refine T_Way_startTalk_33 hp hc ⟨fun h1 => E_C_within (T_Way_startTalk_66 hc ?_), fun h1 => ⟨by omega, ?_⟩⟩
  · rw [lcmp_zero] at h1
    rw [within_wth (by omega)]
    exact fin L2 hL _ _ rfl (by unfold fMins; rw [if_neg h, if_neg h1])
  · rw [lcmp_zero] at h1
    rw [rpk 2 (by omega)]
    exact fin L2 hL _ _ rfl (by unfold fMins; rw [if_neg h, if_pos (Classical.not_not.mp h1)])
theorem q_goOnTalking {M : Int} (hp : isPlan p) (hc : isDay c) (hpl : planOK I p) (hwy : wayOK I (I p 13)) (hd : DOK (I p 13) M d) (hm : d 0 10 ≤ 20000) (h0 : d 0 12 ≠ -1) (K : ∀ L2, lkeep L L2 → Q [] (mem Ls p (dput I c (fGoOn I p d)) L2)) : m_Call i_Way_goOnTalking [.inr (.inr 64), .inr (.inr c)] (mem Ls p (dput I c d) L) Q := by
  obtain ⟨⟨s0, s1, s2, s3, s4, s5, s6, s7, s8⟩, sp, spk, s64, s65, s66⟩ := dS hp hc I d
  have h6 := hpl.1
  have hlf := hd.2.2.2.2.1
  have htk := hd.2.2.2.1
  unfold fGoOn at K
  refine E_Way_goOnTalking hc ?_
  rw [s0, s2, wr_of (z := d 0 13 - 1) (by omega) (by omega), mup_dput0, mup_dput0]
  refine ⟨fun h => ⟨fun h2 => ?_, fun h2 => ⟨by omega, ?_⟩⟩, fun h => ?_⟩
  · rw [if_neg (by omega), if_pos h2] at K; exact K L (fun _ _ => rfl)
  · rw [if_neg (by omega), if_neg h2] at K
    have hah := (hd.2.2.2.2.2.2.1 (d 0 12).toNat (by omega))
    have e12 : ∀ j, mup (mup d 0 13 (d 0 13 - 1)) 0 12 (-1) (j + 1) = d (j + 1) := fun j => by rw [mup_other (by omega), mup_other (by omega)]
    have hd1 : DOK (I p 13) M (mup (mup d 0 13 (d 0 13 - 1)) 0 12 (-1)) := by
      clear K e12 hah s0 s1 s2 s3 s4 s5 s6 s7 s8 spk sp hwy
      unfold DOK at *; simp only [mup_app]; grind
    have t10 : mup (mup d 0 13 (d 0 13 - 1)) 0 12 (-1) 0 10 = d 0 10 := by simp [mup_app]
    unfold fTold fLate at K
    rw [e12 1, e12 2] at K
    have ee : ∀ j, mup (mup d 0 13 (d 0 13 - 1)) 0 12 (-1) (j + 1) = d (j + 1) := e12
    generalize mup (mup d 0 13 (d 0 13 - 1)) 0 12 (-1) = e at *
    refine q_lawOf (law := 1) hp hc (by omega) hpl.2.2.2.2.2.2.2.2.2 (by omega) (nmv_big (P := 0) hpl hwy hd1 (by omega) (by omega) (by omega)) (fun L2 hL => ?_)
    have e3 : dput I c e (c + 3) = d 3 := by rw [dput_at (by omega)]; exact ee 2
    have hK := K L2 hL
    generalize hlv : lv I (p + 13) 1 (nmv I p e (d 0 12) (d 2 (d 0 12).toNat)) = l at *
    refine T_Way_goOnTalking_49 hc ⟨fun h3 => E_C_within (T_Way_goOnTalking_82 hc ⟨by omega, by omega, by omega, ?_⟩), fun h3 => E_C_within (T_Way_goOnTalking_82 hc ⟨by omega, by omega, by omega, ?_⟩)⟩
    · rw [lcmp_zero] at h3
      rw [if_neg h3] at hK
      have hwr := wth_range (v := l) (lo := -30) (hi := 30) (by omega)
      rw [within_wth (by omega), wr_of (by omega) (by omega), e3, mup_dput (by omega), mup_dput (by omega)]
      exact hK
    · rw [lcmp_zero] at h3
      rw [if_pos (Classical.not_not.mp h3)] at hK
      have hwr := wth_range (v := -d 2 (d 0 12).toNat) (lo := -30) (hi := 30) (by omega)
      rw [wr_of (z := -d 2 (d 0 12).toNat) (by omega) (by omega), within_wth (by omega), wr_of (by omega) (by omega), e3, mup_dput (by omega), mup_dput (by omega)]
      exact hK
  · rw [if_pos (by omega)] at K; exact K L (fun _ _ => rfl)
end W1
