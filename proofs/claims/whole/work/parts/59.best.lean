/-! ===== phase 2: bestRing ===== -/
section Q10
variable {Ls p kc ks : Nat} {P M : Int} {I I0 I1 I2 J K L L1 K2 d d' e : Nat → Nat → Int} {Q : List mV → mM → Prop} {x : Int}
/-- a minute goes by the plan and the way alone -/
theorem fMin_base (hp : ∀ k, k < 19 → I2 (p + k) = I0 (p + k)) (h64 : I2 64 = I0 64) (h65 : I2 65 = I0 65) (h66 : I2 66 = I0 66) : fMin I2 p = fMin I0 p := by
  have h0 := hp 0 (by omega)
  rw [Nat.add_zero] at h0
  have hnm : ∀ d x q, nmv I2 p d x q = nmv I0 p d x q := fun d x q => by
    funext j
    unfold nmv
    rw [hp 2 (by omega), h65, h66]
  have hlv : ∀ l nm, lv I2 (p + 13) l nm = lv I0 (p + 13) l nm := fun l nm => by
    unfold lv
    rw [show p + 13 + 1 = p + 14 from rfl, show p + 13 + 2 = p + 15 from rfl, show p + 13 + 3 = p + 16 from rfl, show p + 13 + 4 = p + 17 from rfl, hp 14 (by omega), hp 15 (by omega), hp 16 (by omega), hp 17 (by omega)]
  have hcold : ∀ t n k, coldF I2 p t k n = coldF I0 p t k n := fun t n => by
    induction n with
    | zero => intro k; rfl
    | succ n ih => intro k; rw [coldF, coldF, hp 11 (by omega), hp 12 (by omega), ih]
  have r1 : fRing I2 p = fRing I0 p := by funext r d; unfold fRing; rw [hp 7 (by omega), hp 6 (by omega), h64]
  have r2 : ∀ d, fStr I2 d = fStr I0 d := fun d => by unfold fStr strF fDr; rw [h64]
  have r3 : ∀ d w, fMins I2 p d w = fMins I0 p d w := fun d w => by unfold fMins; rw [hlv, hnm, hp 2 (by omega)]
  have r4 : ∀ d, fStart I2 p d = fStart I0 p d := fun d => by unfold fStart; rw [hcold, r3, h64]
  have r5 : ∀ d w, fTold I2 p d w = fTold I0 p d w := fun d w => by unfold fTold fLate; rw [hlv, hnm]
  have r6 : fDrift1 I2 p = fDrift1 I0 p := by funext q d; unfold fDrift1 fMore; rw [hlv, hnm, h66]
  have r7 : fMeet I2 p = fMeet I0 p := by
    funext m d
    have c0 : ∀ d s, s = 0 ∨ s = 1 → fCome I2 p m s d = fCome I0 p m s d := fun d s hs => by
      unfold fCome
      rcases hs with rfl | rfl
      · rw [show p + 8 + 0 = p + 8 from rfl, hp 8 (by omega)]
      · rw [show p + 8 + 1 = p + 9 from rfl, hp 9 (by omega)]
    unfold fMeet fKept
    rw [c0 _ 0 (Or.inl rfl), c0 _ 1 (Or.inr rfl), h65, hp 8 (by omega), hp 9 (by omega)]
  funext d
  unfold fMin fE fD fC fB fA fRings fGoOn fDrift fMeets
  rw [r1, r2, r4, r6, r7, h0, h64]
  simp only [r5]
theorem mins_base (h : fMin I2 p = fMin I0 p) : ∀ (n : Nat) (d : Nat → Nat → Int), mins I2 p n d = mins I0 p n d
  | 0, _ => rfl
  | n + 1, d => by rw [mins, mins, mins_base h n, h]
theorem tdF_base (h : fMin I2 p = fMin I0 p) {q : Nat} {y : Int} : ∀ (n k : Nat) (d : Nat → Nat → Int), tdF I2 p q y k n d = tdF I0 p q y k n d
  | 0, _, _ => rfl
  | n + 1, k, d => by rw [tdF, tdF, tdF_base h n, h]
theorem tdF_eqv {q : Nat} {y : Int} (hP : I0 p 13 ≤ 6) (hM : M ≤ 6) (hq : (q : Int) < I0 p 13) : ∀ (n k : Nat) {d d' e : Nat → Nat → Int}, mIn p I I0 J M d e → mIn p I I0 J M d' e → d 0 10 + n ≤ 20000 → tdF I0 p q y k n d = tdF I0 p q y k n d'
  | 0, _, _, _, _, _, _, _ => rfl
  | n + 1, k, d, d', e, h, h', hm => by
    obtain ⟨e1, a1, a2⟩ := eqv_min h h' (by omega) hP hM
    have e3 : fMin I0 p d 3 q = fMin I0 p d' 3 q := by rw [← (a1.2.2.2.2.2.2.2.2.2.1 q hq).2.2.1, (a2.2.2.2.2.2.2.2.2.2.1 q hq).2.2.1]
    rw [tdF, tdF, e3, tdF_eqv hP hM hq n (k + 1) a1 a2 (by rw [fMin_minute]; omega)]
/-- in how many minutes one is told who rings at the day d; -2 -/
def brV (I0 : Nat → Nat → Int) (p q : Nat) (d : Nat → Nat → Int) : Int := if d 0 11 < 20 ∧ dMode d (q : Int) = 0 then tdF I0 p q (dIn d (q : Int) 3 q) 1 99 (dIn d (q : Int)) else -2
theorem tdF_range {q : Nat} {y : Int} : ∀ (n k : Nat) (d : Nat → Nat → Int), tdF I0 p q y k n d = -2 ∨ ((k : Int) ≤ tdF I0 p q y k n d ∧ tdF I0 p q y k n d < k + n)
  | 0, _, _ => Or.inl rfl
  | n + 1, k, d => by
    rw [tdF]
    split
    · rcases tdF_range (q := q) (y := y) n (k + 1) (fMin I0 p d) with h | h
      · exact Or.inl h
      · right; omega
    · right; omega
theorem brV_range {q : Nat} : brV I0 p q d = -2 ∨ (1 ≤ brV I0 p q d ∧ brV I0 p q d ≤ 99) := by
  unfold brV
  split
  · rcases tdF_range (I0 := I0) (p := p) (q := q) (y := dIn d (q : Int) 3 q) 99 1 (dIn d (q : Int)) with h | h
    · exact Or.inl h
    · right; omega
  · exact Or.inl rfl
theorem brV_eqv {q : Nat} (hP : I0 p 13 ≤ 6) (hM : M ≤ 6) (hq : (q : Int) < I0 p 13) (h : mIn p I I0 J M d e) (h' : mIn p I I0 J M d' e) (hm : d 0 10 ≤ 15000) : brV I0 p q d = brV I0 p q d' := by
  have e11 : d 0 11 = d' 0 11 := by rw [← h.2.2.2.2.2.1, h'.2.2.2.2.2.1]
  have em : dMode d (q : Int) = dMode d' (q : Int) := by rw [← (h.2.2.2.2.2.2.2.2.2.1 q hq).2.2.2, (h'.2.2.2.2.2.2.2.2.2.1 q hq).2.2.2]
  obtain ⟨e1, a1, a2⟩ := eqv_in (q := (q : Int)) (by omega) h h' hP hM
  have e3 : dIn d (q : Int) 3 q = dIn d' (q : Int) 3 q := by rw [← (a1.2.2.2.2.2.2.2.2.2.1 q hq).2.2.1, (a2.2.2.2.2.2.2.2.2.2.1 q hq).2.2.1]
  unfold brV
  rw [e11, em, e3, tdF_eqv hP hM hq 99 1 a1 a2 (by rw [dIn_minute]; omega)]
/-- the best, the fewest minutes -/
def brF (g : Nat → Int) : Nat → Nat → Int → Int → Int × Int
  | _, 0, b, l => (b, l)
  | k, n + 1, b, l => if g k = -2 ∨ (0 ≤ b ∧ l ≤ g k) then brF g (k + 1) n b l else brF g (k + 1) n (k : Int) (g k)
theorem brF_ok {g : Nat → Int} (hg : ∀ k, g k = -2 ∨ (1 ≤ g k ∧ g k ≤ 99)) : ∀ (n k : Nat) (b l : Int), (b = -2 ∧ l = -2) ∨ (0 ≤ b ∧ 1 ≤ l ∧ l ≤ 99) → ((brF g k n b l).1 = -2 ∧ (brF g k n b l).2 = -2) ∨ (0 ≤ (brF g k n b l).1 ∧ 1 ≤ (brF g k n b l).2)
  | 0, _, b, l, h => by rw [brF]; rcases h with h | h; exact Or.inl h; exact Or.inr ⟨h.1, h.2.1⟩
  | n + 1, k, b, l, h => by
    rw [brF]
    split
    · exact brF_ok hg n (k + 1) b l h
    · have := hg k
      exact brF_ok hg n (k + 1) _ _ (Or.inr (by omega))
theorem dput_swap {c c' : Nat} (h : c + 9 ≤ c' ∨ c' + 9 ≤ c) : dput (dput I0 c d) c' d' = dput (dput I0 c' d') c d := by
  funext a
  unfold dput
  by_cases h1 : c' ≤ a ∧ a < c' + 9
  · rw [if_pos h1, if_neg (by omega), if_pos h1]
  · rw [if_neg h1]
    by_cases h2 : c ≤ a ∧ a < c + 9
    · rw [if_pos h2, if_pos h2]
    · rw [if_neg h2, if_neg h2, if_neg h1]
theorem dput_base (hp : isPlan p) {c : Nat} (hc : c = 46 ∨ c = 55) : (∀ k, k < 19 → dput I0 c d (p + k) = I0 (p + k)) ∧ dput I0 c d 64 = I0 64 ∧ dput I0 c d 65 = I0 65 ∧ dput I0 c d 66 = I0 66 := by
  unfold isPlan at hp
  exact ⟨fun k hk => dput_out (by omega), dput_out (by omega), dput_out (by omega), dput_out (by omega)⟩
theorem cIn_base {c : Nat} (hc : c = 46 ∨ c = 55) (h : cIn p I I0 M d) : cIn p I (dput I0 c d') M d ∧ fMin (dput I0 c d') p = fMin I0 p := by
  obtain ⟨h1, h2, h3, h4, h5, h6⟩ := h
  obtain ⟨b1, b2, b3, b4⟩ := dput_base (I0 := I0) (d := d') h1 hc
  have b0 : dput I0 c d' p = I0 p := b1 0 (by omega)
  refine ⟨⟨h1, planOK_congr h1 b1 h2, ?_, by rw [b0]; exact h4, by rw [b0]; exact h5, by rw [b0]; exact h6⟩, fMin_base b1 b2 b3 b4⟩
  rw [b0]
  unfold wayOK at *
  rw [b2, b3, b4]; exact h3
theorem best_c {q : Nat} {w N : Int} (hN : N ≤ 60) (hq6 : q < 6) {g : Nat → Int} (hgr : ∀ k, g k = -2 ∨ (1 ≤ g k ∧ g k ≤ 99)) : ∀ (n k : Nat) (t dl L' : Nat → Nat → Int) (b f l : Int), (k : Int) + n = N + 1 → cIn p I I0 M dl → (q : Int) < I0 p 13 → dl 0 10 + n ≤ 10000 → lkeep L L' → (∀ (j : Nat) (t : Nat → Nat → Int), j < n → agr (mins I0 p j dl) t → cIn p I I0 M t → brV I0 p q t = g (k + j)) → ((b = -2 ∧ f = 100 ∧ l = -2) ∨ (0 ≤ b ∧ f = l ∧ 1 ≤ l ∧ l ≤ 99)) →
    (∀ X L2, (∀ a, a < 46 ∨ 67 ≤ a → X a = I0 a) → lkeep L L2 → Q [.inl (if w = 0 then (brF g k n b l).1 else (brF g k n b l).2)] (mem Ls p X L2)) → m_Wp i_C_bestRing 59 kc ks [(0, .inr (.inr 2)), (1, .inl (q : Int)), (2, .inl N), (3, .inl w), (4, .inl b), (5, .inl f), (6, .inl (k : Int))] [] (mem Ls p (dput (dput I0 46 t) 55 dl) L') Q := by
  intro n
  induction n with
  | zero =>
    intro k t dl L' b f l hk hc hq hm hL hV hb hQ
    have hq0 := hQ (dput (dput I0 46 t) 55 dl) L' (fun a ha => by rw [dput_out (by omega), dput_out (by omega)]) hL
    rw [brF] at hq0
    simp only at hq0
    refine T_C_bestRing_59 ⟨fun _ => ⟨fun hw => ?_, fun hw => ⟨fun h2 => ?_, fun h2 => ?_⟩⟩, fun h => by omega⟩
    · rw [if_pos hw] at hq0; exact hq0
    · rw [if_neg hw] at hq0
      rw [show f = l by omega]; exact hq0
    · rw [if_neg hw] at hq0
      rw [show b = l by omega]; exact hq0
  | succ n ih =>
    intro k t dl L' b f l hk hc hq hm hL hV hb hQ
    have hp := hc.1
    have h6 := hc.2.1.1
    refine T_C_bestRing_59 ⟨fun h => by omega, fun _ => q_copy (c := 46) (s := 55) (Or.inr (Or.inr (Or.inl ⟨rfl, rfl⟩))) (fun t2 ht2 => T_C_bestRing_76 ?_)⟩
    have hdl : dat (dput (dput I0 46 t) 55 dl) 55 = fun j => if j < 9 then dl j else fun _ => 0 := by
      funext j; unfold dat
      split
      · rw [dput_at (by omega)]
      · rfl
    have hag : agr dl t2 := by
      rw [hdl] at ht2
      refine ⟨fun k h1 h2 => ?_, fun j k h1 h2 h3 => ?_⟩
      · have := ht2.1 k h1 h2; simpa using this
      · have := ht2.2 j k h1 h2 h3
        have hj : (fun j => if j < 9 then dl j else fun _ => 0) j k = dl j k := by simp only [show j < 9 by omega, if_true]
        rw [this]; exact hj
    have hct : cIn p I I0 M t2 := ⟨hp, hc.2.1, hc.2.2.1, hc.2.2.2.1, hc.2.2.2.2.1, DOK_agr h6.2 (by rw [← hc.2.2.2.1]; exact hc.2.1.2.2.1.2) hag hc.2.2.2.2.2⟩
    have hmem : dput (dput (dput I0 46 t) 55 dl) 46 t2 = dput (dput I0 55 dl) 46 t2 := by
      rw [dput_swap (by omega), dput_dput, dput_swap (by omega)]
    rw [hmem]
    have hmem2 : ∀ t2, dput (dput I0 55 dl) 46 t2 = dput (dput I0 46 t2) 55 dl := fun t2 => dput_swap (by omega)
    have hgk : brV I0 p q t2 = g k := by have := hV 0 t2 (by omega) hag hct; rw [Nat.add_zero] at this; exact this
    have ht10 : t2 0 10 = dl 0 10 := hag.1 10 (by omega) (by omega)
    -- the later day goes on
    have nx : ∀ (t3 L3 : Nat → Nat → Int) (b f l : Int), lkeep L L3 → ((b = -2 ∧ f = 100 ∧ l = -2) ∨ (0 ≤ b ∧ f = l ∧ 1 ≤ l ∧ l ≤ 99)) → (∀ X L2, (∀ a, a < 46 ∨ 67 ≤ a → X a = I0 a) → lkeep L L2 → Q [.inl (if w = 0 then (brF g (k + 1) n b l).1 else (brF g (k + 1) n b l).2)] (mem Ls p X L2)) → m_Call i_Way_passMinute [.inr (.inr 64), .inr (.inr 55)] (mem Ls p (dput (dput I0 55 dl) 46 t3) L3) (fun v M' => m_Wp i_C_bestRing 127 kc ks [(0, .inr (.inr 2)), (1, .inl (q : Int)), (2, .inl N), (3, .inl w), (4, .inl b), (5, .inl f), (6, .inl (k : Int))] (v ++ []) M' Q) := by
      intro t3 L3 b f l hL3 hb hQ
      rw [hmem2]
      obtain ⟨cb1, cb2⟩ := cIn_base (d' := t3) (Or.inl rfl : (46 = 46 ∨ 46 = 55)) hc
      refine q_passMinute hp (Or.inr (Or.inr (Or.inr rfl))) cb1.2.1 cb1.2.2.1 cb1.2.2.2.1 cb1.2.2.2.2.2 (by omega) (fun L4 hL4 => T_C_bestRing_127 ?_)
      rw [show wr ((k : Int) + 1) = ((k + 1 : Nat) : Int) by rw [wr_of] <;> omega, cb2]
      refine ih (k + 1) t3 (fMin I0 p dl) L4 b f l (by omega) ⟨hp, hc.2.1, hc.2.2.1, hc.2.2.2.1, hc.2.2.2.2.1, DOK_fMin hc.2.1 hc.2.2.2.2.2⟩ hq (by rw [fMin_minute]; omega) (fun a ha => by rw [hL4 a ha, hL3 a ha]) (fun j t4 hj h4 h5 => ?_) hb hQ
      have := hV (j + 1) t4 (by omega) h4 h5
      rw [show k + (j + 1) = k + 1 + j by omega] at this; exact this
    rw [brF] at hQ
    obtain ⟨cb1, cb2⟩ := cIn_base (d' := dl) (Or.inr rfl : (55 = 46 ∨ 55 = 55)) hct
    have b0 : dput I0 55 dl p = I0 p := (dput_base hp (Or.inr rfl)).1 0 (by omega)
    refine q_takesIn (c := 46) (Or.inr (Or.inr (Or.inl rfl))) cb1.2.2.2.2.2.2.2.1 (by omega) (T_C_bestRing_84 ⟨fun h => ?_, fun h => ?_⟩)
    · have hnt : ¬ (t2 0 11 < 20 ∧ dMode t2 (q : Int) = 0) := fun z => by rw [if_pos z] at h; omega
      have hg2 : g k = -2 := by rw [← hgk]; unfold brV; rw [if_neg hnt]
      rw [if_pos (Or.inl hg2)] at hQ
      exact nx _ L' b f l hL hb hQ
    · have ht : t2 0 11 < 20 ∧ dMode t2 (q : Int) = 0 := by
        by_cases z : t2 0 11 < 20 ∧ dMode t2 (q : Int) = 0
        · exact z
        · rw [if_neg z] at h; omega
      have hg2 : tdF I0 p q (dIn t2 (q : Int) 3 q) 1 99 (dIn t2 (q : Int)) = g k := by rw [← hgk]; unfold brV; rw [if_pos ht]
      refine q_tillTold (by omega) (cIn_in cb1 (by rw [b0]; omega)) (by rw [dIn_minute]; omega) (fun d' L2 hL2 hc' => T_C_bestRing_92 ?_)
      rw [Int.toNat_natCast, tdF_base cb2, hg2]
      have hLL : lkeep L L2 := fun a ha => by rw [hL2 a ha, hL a ha]
      have hr := hgr k
      refine ⟨fun h3 => ?_, fun h3 => ⟨fun h4 => ?_, fun h4 => ?_⟩⟩
      · rw [if_pos (Or.inl h3)] at hQ; exact nx d' L2 b f l hLL hb hQ
      · rw [if_pos (Or.inr (by omega))] at hQ; exact nx d' L2 b f l hLL hb hQ
      · rw [if_neg (show ¬ (g k = -2 ∨ (0 ≤ b ∧ l ≤ g k)) by omega)] at hQ; exact nx d' L2 _ _ (g k) hLL (Or.inr (by omega)) hQ
theorem best_m {q : Nat} {w N : Int} (hI : INV p I L) (hk1 : ∀ a, a < 46 ∨ 67 ≤ a → I1 a = I a) (hN : N ≤ 60) (hq : (q : Int) < I p 13) {g : Nat → Int} (hgr : ∀ k, g k = -2 ∨ (1 ≤ g k ∧ g k ≤ 99)) (hg : ∀ k, g k = brV (flw I p 0) p q (mins (flw I p 0) p k (dat I 28))) : ∀ (n k : Nat) (X K' : Nat → Nat → Int) (b l : Int), (k : Int) + n = N + 1 → stM I1 X → KT K K' → ((b = -2 ∧ l = -2) ∨ (0 ≤ b ∧ 1 ≤ l ∧ l ≤ 99)) →
    (∀ X K2, stM I1 X → KT K K2 → m_Call i_M_plainTried [.inr (.inr 98)] (mem Ls p X K2) (fun v M' => m_Wp i_M_bestRing 118 kc ks [(0, .inr (.inr 98)), (1, .inl (q : Int)), (2, .inl N), (3, .inl w), (4, .inl (brF g k n b l).1), (5, .inl (brF g k n b l).2), (6, .inl (N + 1))] (v ++ []) M' Q)) → m_Wp i_M_bestRing 45 kc ks [(0, .inr (.inr 98)), (1, .inl (q : Int)), (2, .inl N), (3, .inl w), (4, .inl b), (5, .inl l), (6, .inl (k : Int))] [] (mem Ls p X K') Q := by
  have h15 := hI.2.1.2.2.1
  have t := tf (v := 0) hI.1 hI.2.1
  have hc0 : cIn p I (flw I p 0) (I p 15) (dat I 28) := ⟨hI.1, t.1, t.2.1, by rw [t.2.2], t.2.2, by rw [t.2.2]; exact hI.2.2.2.1.1⟩
  have hm0 : dat I 28 0 10 ≤ 9000 := by rw [dat_at (by omega)]; exact hI.2.2.2.1.2.2.2
  have hq' : (q : Int) < flw I p 0 p 13 := by rw [t.2.2]; exact hq
  intro n
  induction n with
  | zero =>
    intro k X K' b l hk hX hK hb hQ
    refine T_M_bestRing_45 ⟨fun _ => ?_, fun h => by omega⟩
    rw [show (k : Int) = N + 1 by omega]
    exact hQ X K' hX hK
  | succ n ih =>
    intro k X K' b l hk hX hK hb hQ
    have hw : wr ((k : Int) + 1) = ((k + 1 : Nat) : Int) := by rw [wr_of] <;> omega
    rw [brF] at hQ
    refine T_M_bestRing_45 ⟨fun h => by omega, fun _ => m_start3 hI hk1 hX agr.rfl' hc0 (fun e x he => T_M_bestRing_55 (r_goT (N := (k : Int)) he (by omega) (by omega) (fun e1 x1 K1 he1 hK1 => T_M_bestRing_61 (r_joinT he1 (by omega) (fun e2 he2 => T_M_bestRing_67 ?_)))))⟩
    rw [Int.toNat_natCast] at *
    have hmk : mins (flw I p 0) p k (dat I 28) 0 10 ≤ 9100 := by rw [mins_minute]; omega
    rw [hw]
    refine ⟨fun h => ?_, fun h => ?_⟩
    · have ht : mins (flw I p 0) p k (dat I 28) 0 11 < 20 ∧ dMode (mins (flw I p 0) p k (dat I 28)) (q : Int) = 0 := by
        by_cases z : mins (flw I p 0) p k (dat I 28) 0 11 < 20 ∧ dMode (mins (flw I p 0) p k (dat I 28)) (q : Int) = 0
        · exact z
        · rw [if_neg z] at h; omega
      have hg2 : tdF (flw I p 0) p q (dIn (mins (flw I p 0) p k (dat I 28)) (q : Int) 3 q) 1 99 (dIn (mins (flw I p 0) p k (dat I 28)) (q : Int)) = g k := by rw [hg k]; unfold brV; rw [if_pos ht]
      refine r_toldBy (by omega) (by rw [t.2.2]; exact hI.2.1.1.2) he2 (by rw [dIn_minute]; omega) (fun e3 x3 K3 hK3 => T_M_bestRing_78 ?_)
      rw [Int.toNat_natCast, hg2, hw]
      have hr := hgr k
      have hKK : KT K K3 := hK.tr (hK1.tr hK3)
      refine ⟨fun h3 => ?_, fun h3 => ⟨fun h4 => ?_, fun h4 => ⟨fun h5 => ?_, fun h5 => ?_⟩⟩⟩
      · rw [if_pos (Or.inl (by omega))] at hQ; exact ih (k + 1) _ K3 b l (by omega) (Or.inr ⟨_, _, rfl⟩) hKK hb hQ
      · rw [if_neg (by omega)] at hQ; exact ih (k + 1) _ K3 _ _ (by omega) (Or.inr ⟨_, _, rfl⟩) hKK (Or.inr (by omega)) hQ
      · rw [if_neg (by omega)] at hQ; exact ih (k + 1) _ K3 _ _ (by omega) (Or.inr ⟨_, _, rfl⟩) hKK (Or.inr (by omega)) hQ
      · rw [if_pos (Or.inr (by omega))] at hQ; exact ih (k + 1) _ K3 b l (by omega) (Or.inr ⟨_, _, rfl⟩) hKK hb hQ
    · have hnt : ¬ (mins (flw I p 0) p k (dat I 28) 0 11 < 20 ∧ dMode (mins (flw I p 0) p k (dat I 28)) (q : Int) = 0) := fun z => by rw [if_pos z] at h; omega
      have hg2 : g k = -2 := by rw [hg k]; unfold brV; rw [if_neg hnt]
      rw [if_pos (Or.inl hg2)] at hQ
      exact ih (k + 1) _ K1 b l (by omega) (Or.inr ⟨_, _, rfl⟩) (hK.tr hK1) hb hQ
theorem pair_bestRing {a b c : Int} (hI : INV p I L) : PAIR Ls i_C_bestRing i_M_bestRing [.inl a, .inl b, .inl c] (mem Ls p I L) := by
  have hp := hI.1
  have h6 := hI.2.1.1
  have h15 := hI.2.1.2.2.1
  have h12 : I 98 12 = I p 13 := hI.2.2.1.1.1
  have t := tf (v := 0) hI.1 hI.2.1
  have hc0 : cIn p I (flw I p 0) (I p 15) (dat I 28) := ⟨hI.1, t.1, t.2.1, by rw [t.2.2], t.2.2, by rw [t.2.2]; exact hI.2.2.2.1.1⟩
  have hm0 : dat I 28 0 10 ≤ 9000 := by rw [dat_at (by omega)]; exact hI.2.2.2.1.2.2.2
  have ref : ¬ (0 ≤ a ∧ a < I p 13) ∨ ¬ (0 ≤ b ∧ b ≤ 60) ∨ ¬ (0 ≤ c ∧ c ≤ 1) → m_Call i_M_bestRing [.inr (.inr 98), .inl a, .inl b, .inl c] (mem Ls p I L) (fun w M2 => w = [.inl (-1)] ∧ OKM Ls M2) := fun h => by
    refine E_M_bestRing (r_isMan ?_)
    rw [mup_ne (by omega), h12]
    refine T_M_bestRing_10 ⟨fun _ => ⟨rfl, p, _, _, rfl, INV_thrown hI⟩, fun h1 => r_isIn (T_M_bestRing_20 ⟨fun _ => ⟨rfl, p, _, _, rfl, INV_thrown hI⟩, fun h2 => r_isIn (T_M_bestRing_29 ⟨fun h3 => ?_, fun _ => ⟨rfl, p, _, _, rfl, INV_thrown hI⟩⟩)⟩)⟩
    rw [b01_zero] at h1 h2 h3; omega
  refine E_C_bestRing (q_isPerson hp (T_C_bestRing_5 ⟨fun h => ref (Or.inl (b01_zero.mp h)), fun h => ⟨fun h2 => ref (by omega), fun h2 => ⟨fun h3 => ref (by omega), fun h3 => ⟨fun h4 => ref (by omega), fun h4 => ⟨fun h5 => q_follow hp (Or.inl rfl) (T_C_bestRing_37 (q_copy (c := 55) (s := 28) (Or.inr (Or.inl ⟨rfl, rfl⟩)) (fun dl hdl => T_C_bestRing_48 ?_))), fun h5 => ref (by omega)⟩⟩⟩⟩⟩))
  rw [b01_zero] at h
  have ha : 0 ≤ a ∧ a < I p 13 := by omega
  rw [show dat (flw I p 0) 28 = dat I 28 from dat_congr (fun j hj => flw_out (by omega))] at hdl
  have hcl : cIn p I (flw I p 0) (I p 15) dl := ⟨hp, t.1, t.2.1, by rw [t.2.2], t.2.2, by rw [t.2.2]; exact DOK_agr h6.2 h15.2 hdl hI.2.2.2.1.1⟩
  have hml : dl 0 10 ≤ 9000 := by rw [hdl.1 10 (by omega) (by omega)]; exact hm0
  have hmem : dput (flw I p 0) 55 dl = dput (dput (flw I p 0) 46 (dat (flw I p 0) 46)) 55 dl := by rw [dput_dat]
  rw [hmem, show a = ((a.toNat : Nat) : Int) by omega]
  have hgr : ∀ k, brV (flw I p 0) p a.toNat (mins (flw I p 0) p k (dat I 28)) = -2 ∨ (1 ≤ brV (flw I p 0) p a.toNat (mins (flw I p 0) p k (dat I 28)) ∧ brV (flw I p 0) p a.toNat (mins (flw I p 0) p k (dat I 28)) ≤ 99) := fun k => brV_range
  refine best_c (by omega) (by omega) (g := fun k => brV (flw I p 0) p a.toNat (mins (flw I p 0) p k (dat I 28))) hgr (b + 1).toNat 0 _ dl L (-2) 100 (-2) (by omega) hcl (by rw [t.2.2]; omega) (by omega) (fun _ _ => rfl) (fun j t4 hj h7 h8 => ?_) (Or.inl ⟨rfl, rfl, rfl⟩) (fun X L2 hX hL2 => ?_)
  · -- a try is the same whichever copy it is made in
    have hP6 : flw I p 0 p 13 ≤ 6 := by rw [t.2.2]; exact h6.2
    obtain ⟨e1, a1, a2⟩ := eqv_mins hP6 h15.2 j (laid_eqv hI hdl hcl) (laid_eqv hI agr.rfl' hc0) (by omega)
    have a3 : mIn p I (flw I p 0) (J2 I) (I p 15) t4 e1 := ⟨h8, a1.2.1, a1.2.2.1, a1.2.2.2.1, DR_agr hP6 h15.2 h7 a1.1.2.2.2.2.2.2.2.1 a1.2.2.2.2⟩
    have := brV_eqv (q := a.toNat) hP6 h15.2 (by rw [t.2.2]; omega) a3 a2 (by rw [h7.1 10 (by omega) (by omega), mins_minute]; omega)
    rw [this, Nat.zero_add]
  · have hXI : ∀ a', a' < 46 ∨ 67 ≤ a' → X a' = I a' := fun a' ha' => by rw [hX a' ha', flw_out (by omega)]
    refine E_M_bestRing (r_isMan ?_)
    rw [mup_ne (by omega), hXI 98 (by omega), h12]
    refine T_M_bestRing_10 ⟨fun h7 => absurd (b01_zero.mp h7) (fun z => z (by omega)), fun _ => r_isIn (T_M_bestRing_20 ⟨fun h7 => absurd (b01_zero.mp h7) (fun z => z (by omega)), fun _ => r_isIn (T_M_bestRing_29 ⟨fun _ => ?_, fun h7 => absurd (b01_zero.mp (Classical.not_not.mp h7)) (fun z => z (by omega))⟩)⟩)⟩
    refine best_m (K := L2) hI hXI (by omega) (by omega) (g := fun k => brV (flw I p 0) p a.toNat (mins (flw I p 0) p k (dat I 28))) hgr (fun _ => rfl) (b + 1).toNat 0 _ L2 (-2) (-2) (by omega) (Or.inl rfl) KT.rfl' (Or.inl ⟨rfl, rfl⟩) (fun X2 K2 hX2 hK2 => r_plainTried ?_)
    have hok : OKM Ls (mem Ls p (plainJ X2) K2) := by
      have hst : stM X (plainJ X2) ∨ plainJ X2 = J2 X := by
        rcases hX2 with rfl | ⟨e, x, rfl⟩
        · exact Or.inr rfl
        · refine Or.inl (Or.inr ⟨e, x, ?_⟩)
          exact plain_plain (by
            rw [jm_98 (by omega), jm_98 (by omega), jm_98 (by omega), jm_98 (by omega), jm_98 (by omega), jm_98 (by omega), jm_98 (by omega), jm_98 (by omega)]
            exact plainJ_fl)
      rcases hst with hst | hst
      · exact stM_ok hI hXI hL2 hst hK2
      · rw [hst]
        have : J2 X = jm (J2 X) 1 (jat (J2 X) 1) (J2 X 98 52) := by unfold jm; rw [mup_same (J := J2 X) (k := 98) (j := 52) rfl, jput_jat]
        rw [this]; exact mT_end hI hXI hL2 hK2
    refine T_M_bestRing_118 ⟨fun hw => ⟨?_, hok⟩, fun hw => ⟨?_, hok⟩⟩
    · rw [if_neg hw]
    · rw [if_pos (Classical.not_not.mp hw)]
end Q10
