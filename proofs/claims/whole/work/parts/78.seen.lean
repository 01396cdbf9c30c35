/-! ===== phase 2: rates ===== -/
def CL (I : Nat → Nat → Int) (c : Nat → Int) (d : Nat → Nat → Int) (k : Nat) : Prop := c k ≠ 0 → I 91 k = -1 → I 88 k = d 0 10 → (¬ (d 0 10 + d 1 (I 89 k).toNat < I 90 k) ↔ I 92 k = 1)
def SO (I : Nat → Nat → Int) (c : Nat → Int) (d : Nat → Nat → Int) (N : Nat) : Prop := ∀ k, k < N → CL I c d k
section V3
variable {Ls p kc ks c : Nat} {P M : Int} {I I0 I1 I2 J K L L1 L2 K2 X X1 X2 Y Z d d' e : Nat → Nat → Int} {Q : List mV → mM → Prop} {x : Int} {cc cm : Nat → Int}
theorem isSo_loop {S : Nat} (hP : P ≤ 6) (hS : SEE I P) (hs : I 87 6 = (S : Int)) (hd : DOK P M d) (hm : d 0 10 ≤ 20000) (hX : ∀ b, 87 ≤ b → b ≤ 92 → I0 b = I b) (h93 : I0 93 = cc) (hc : ∀ k, k < S → cc k ≠ 0 → I 91 k = -1) (h1 : SO I cc d S → Q [.inl 1] (mem Ls p (dput I0 46 d) L)) (h0 : ¬ SO I cc d S → Q [.inl 0] (mem Ls p (dput I0 46 d) L)) : ∀ (t k : Nat), k + t = S → (∀ j, j < k → CL I cc d j) → m_Wp i_Seen_isSo 2 kc ks [(0, .inr (.inr 87)), (1, .inr (.inr 46)), (2, .inl (k : Int))] [] (mem Ls p (dput I0 46 d) L) Q := by
  have h24 := hS.1
  have hd0 := hd.2.1
  intro t
  induction t with
  | zero =>
    intro k hk hj
    refine T_Seen_isSo_2 (by omega) ?_
    rw [dput_out (a := 87) (by omega), hX 87 (by omega) (by omega), hs]
    exact ⟨fun _ => ⟨by omega, h1 (fun j hj2 => hj j (by omega))⟩, fun z => by omega⟩
  | succ t ih =>
    intro k hk hj
    refine T_Seen_isSo_2 (by omega) ?_
    rw [dput_out (a := 87) (by omega), hX 87 (by omega) (by omega), hs, dput_out (a := 88) (by omega), hX 88 (by omega) (by omega), dput_out (a := 89) (by omega), hX 89 (by omega) (by omega), dput_out (a := 90) (by omega), hX 90 (by omega) (by omega), dput_out (a := 92) (by omega), hX 92 (by omega) (by omega), dput_out (a := 93) (by omega), h93, Int.toNat_natCast, show dput I0 46 d 46 = d 0 from dput_c, show dput I0 46 d (46 + 1) = d 1 from dput_at (by omega), wr_of (z := (k : Int) + 1) (by omega) (by omega)]
    have next : CL I cc d k → m_Wp i_Seen_isSo 2 kc ks [(0, .inr (.inr 87)), (1, .inr (.inr 46)), (2, .inl ((k : Int) + 1))] [] (mem Ls p (dput I0 46 d) L) Q := fun hcl => ih (k + 1) (by omega) (fun j hj2 => by
      by_cases hjk : j = k
      · subst hjk; exact hcl
      · exact hj j (by omega))
    refine ⟨fun z => by omega, fun _ => ⟨by omega, fun z1 => next (fun a => absurd z1 a), fun z1 => ⟨by omega, fun z2 => next (fun _ _ b => absurd b z2), fun z2 => ?_⟩⟩⟩
    have hst := hc k (by omega) z1
    have hrow : (0 ≤ I 89 k ∧ I 89 k < P) ∧ (I 92 k = 0 ∨ I 92 k = 1) := by
      rcases hS.2.2.2.2 k (by omega) with h | h
      · exact ⟨h.2.2.1, h.2.2.2.2.1⟩
      · have := h.1; omega
    have hoff := hd.2.2.2.2.2.2.1 (I 89 k).toNat (by omega)
    have hmin := Classical.not_not.mp z2
    rw [wr_of (z := d 0 10 + d 1 (I 89 k).toNat) (by omega) (by omega)]
    refine ⟨by omega, by omega, by omega, fun z3 => ⟨by omega, fun z4 => next (fun _ _ _ => by omega), fun z4 => ⟨by omega, h0 (fun hso => ?_)⟩⟩, fun z3 => ⟨by omega, fun z4 => next (fun _ _ _ => by omega), fun z4 => ⟨by omega, h0 (fun hso => ?_)⟩⟩⟩
    · have := hso k (by omega) z1 hst hmin; omega
    · have := hso k (by omega) z1 hst hmin; omega
theorem mSo_loop {N : Nat} (hP : P ≤ 6) (hS : SEE I P) (hN : kb I = (N : Int)) (hd : DOK P M d) (hDR : DR P M d e) (hm : 1 ≤ d 0 10 ∧ d 0 10 ≤ 20000) (h75 : J 98 75 = I 87 6) (h76 : J 98 76 = I 87 7) (h138 : J 138 = I 138) (h139 : J 139 = cm) (h1 : SO I cm d N → Q [.inl 1] (mem Ls p (jm J 1 e x) L)) (h0 : ¬ SO I cm d N → Q [.inl 0] (mem Ls p (jm J 1 e x) L)) : ∀ (t k : Nat), k + t = N → (∀ j, j < k → CL I cm d j) → m_Wp i_M_isSo 2 kc ks [(0, .inr (.inr 98)), (1, .inl (d 0 10)), (2, .inl (k : Int))] [] (mem Ls p (jm J 1 e x) L) Q := by
  have h24 := hS.1
  have hr := kb_range hS
  have g98 : ∀ k, k ≠ 52 → jm J 1 e x 98 k = J 98 k := fun k hk => jm_98 hk
  intro t
  induction t with
  | zero =>
    intro k hk hj
    refine T_M_isSo_2 (r_knownBy (I := I) (P := P) (by rw [g98 75 (by omega)]; exact h75) (by rw [g98 76 (by omega)]; exact h76) hS (T_M_isSo_7 ?_))
    rw [hN]
    exact ⟨fun _ => ⟨by omega, h1 (fun j hj2 => hj j (by omega))⟩, fun z => by omega⟩
  | succ t ih =>
    intro k hk hj
    have next : CL I cm d k → m_Wp i_M_isSo 2 kc ks [(0, .inr (.inr 98)), (1, .inl (d 0 10)), (2, .inl ((k : Int) + 1))] [] (mem Ls p (jm J 1 e x) L) Q := fun hcl => ih (k + 1) (by omega) (fun j hj2 => by
      by_cases hjk : j = k
      · subst hjk; exact hcl
      · exact hj j (by omega))
    refine T_M_isSo_2 (r_knownBy (I := I) (P := P) (by rw [g98 75 (by omega)]; exact h75) (by rw [g98 76 (by omega)]; exact h76) hS (T_M_isSo_7 ?_))
    rw [hN, Int.toNat_natCast, wr_of (z := (k : Int) + 1) (by omega) (by omega), wr_of (z := 4 * (k : Int)) (by omega) (by omega), wr_of (z := 4 * (k : Int) + 1) (by omega) (by omega), wr_of (z := 4 * (k : Int) + 2) (by omega) (by omega), wr_of (z := 4 * (k : Int) + 3) (by omega) (by omega), show (4 * (k : Int)).toNat = 4 * k by omega, show (4 * (k : Int) + 1).toNat = 4 * k + 1 by omega, show (4 * (k : Int) + 2).toNat = 4 * k + 2 by omega, show (4 * (k : Int) + 3).toNat = 4 * k + 3 by omega, jm_hi (a := 138) (by omega), h138, jm_hi (a := 139) (by omega), h139]
    refine ⟨fun z => by omega, fun _ => ⟨by omega, fun z1 => next (fun a => absurd z1 a), fun z1 => ⟨by omega, fun z2 => ?_, fun z2 => next (fun _ b1 b2 => ?_)⟩⟩⟩
    · rcases hS.2.2.2.2 k (by omega) with h | h
      · obtain ⟨s1, s2, s3, s4, s5, s6, s7, s8, s9⟩ := h
        have hoff := hd.2.2.2.2.2.2.1 (I 89 k).toNat (by omega)
        have he2 : jm J 1 e x 127 (6 + (I 89 k).toNat) = d 1 (I 89 k).toNat := by
          rw [← (hDR.2.2.2.2.2.1 (I 89 k).toNat (by omega)).1]
          unfold jm
          exact (jS (b := 1) (mup J 98 52 x) e).2.2.1 (I 89 k).toNat (by omega)
        rw [s7, s8, s9, wr_of (z := 6 + I 89 k) (by omega) (by omega), show (6 + I 89 k).toNat = 6 + (I 89 k).toNat by omega, he2, wr_of (z := d 0 10 + d 1 (I 89 k).toNat) (by omega) (by omega)]
        have bad : ¬ (¬ (d 0 10 + d 1 (I 89 k).toNat < I 90 k) ↔ I 92 k = 1) → ¬ SO I cm d N := fun hb hso => hb (hso k (by omega) z1 s1 (by omega))
        refine ⟨by omega, by omega, by omega, fun z3 => ⟨by omega, fun z4 => ⟨fun _ => next (fun _ _ _ => by omega), fun z => absurd rfl z⟩, fun z4 => ⟨fun z => by omega, fun _ => ⟨by omega, h0 (bad (by omega))⟩⟩⟩, fun z3 => ⟨by omega, fun z4 => ⟨fun z => by omega, fun _ => ⟨by omega, h0 (bad (by omega))⟩⟩, fun z4 => ⟨fun _ => next (fun _ _ _ => by omega), fun z => absurd rfl z⟩⟩⟩
      · have := h.2.1; omega
    · rcases hS.2.2.2.2 k (by omega) with h | h
      · have := h.2.2.2.2.2.1; omega
      · have := h.1; omega
theorem last_loop {S : Nat} (hS : SEE I P) (hs : I 87 6 = (S : Int)) (hX : ∀ b, 87 ≤ b → b ≤ 92 → X b = I b) (h93 : X 93 = cc) (hc : ∀ k, k < S → cc k ≠ 0 → I 91 k = -1) (hQ : ∀ l, 0 ≤ l ∧ l ≤ 99 → (∀ k, k < S → cc k ≠ 0 → I 88 k ≤ l) → Q [.inl l] (mem Ls p X L)) : ∀ (t k : Nat) (l : Int), k + t = S → 0 ≤ l ∧ l ≤ 99 → (∀ j, j < k → cc j ≠ 0 → I 88 j ≤ l) → m_Wp i_Seen_lastMinute 4 kc ks [(0, .inr (.inr 87)), (1, .inl l), (2, .inl (k : Int))] [] (mem Ls p X L) Q := by
  have h24 := hS.1
  intro t
  induction t with
  | zero =>
    intro k l hk hl hj
    refine T_Seen_lastMinute_4 ?_
    rw [hX 87 (by omega) (by omega), hs]
    exact ⟨fun _ => hQ l hl (fun j hj2 => hj j (by omega)), fun z => by omega⟩
  | succ t ih =>
    intro k l hk hl hj
    refine T_Seen_lastMinute_4 ?_
    rw [hX 87 (by omega) (by omega), hs, hX 88 (by omega) (by omega), h93, Int.toNat_natCast, wr_of (z := (k : Int) + 1) (by omega) (by omega)]
    refine ⟨fun z => by omega, fun _ => ⟨by omega, fun z1 => ih (k + 1) l (by omega) hl (fun j hj2 hj3 => ?_), fun z1 => ⟨by omega, ?_⟩⟩⟩
    · by_cases hjk : j = k
      · subst hjk; exact absurd z1 hj3
      · exact hj j (by omega) hj3
    · have hst := hc k (by omega) z1
      have h88 : 1 ≤ I 88 k ∧ I 88 k ≤ 99 := by
        rcases hS.2.2.2.2 k (by omega) with h | h
        · exact h.2.1
        · have := h.1; omega
      refine ih (k + 1) _ (by omega) ?_ (fun j hj2 hj3 => ?_)
      · unfold m_max; split <;> omega
      · unfold m_max
        by_cases hjk : j = k
        · subst hjk; split <;> omega
        · have := hj j (by omega) hj3; split <;> omega
theorem q_seenSo {S : Nat} {l : Int} (hP : I0 p 13 ≤ 6) (hS : SEE I (I0 p 13)) (hs : I 87 6 = (S : Int)) (hX : ∀ b, 87 ≤ b → b ≤ 92 → I0 b = I b) (h93 : I0 93 = cc) (hc : ∀ k, k < S → cc k ≠ 0 → I 91 k = -1) (hl : l ≤ 99) : ∀ (n t : Nat) (d L' : Nat → Nat → Int), (t : Int) + n = l → cIn p I I0 M d → d 0 10 + n ≤ 20000 → lkeep L L' → ((∀ s, 1 ≤ s → s ≤ n → SO I cc (mins I0 p s d) S) → ∀ d' L2, lkeep L L2 → Q [.inl 1] (mem Ls p (dput I0 46 d') L2)) → (¬ (∀ s, 1 ≤ s → s ≤ n → SO I cc (mins I0 p s d) S) → ∀ d' L2, lkeep L L2 → Q [.inl 0] (mem Ls p (dput I0 46 d') L2)) → m_Wp i_C_isAllSeenSo 21 kc ks [(0, .inr (.inr 2)), (1, .inl l), (2, .inl (t : Int))] [] (mem Ls p (dput I0 46 d) L') Q := by
  intro n
  induction n with
  | zero =>
    intro t d L' ht hc' hm hL h1 h0
    exact T_C_isAllSeenSo_21 ⟨fun _ => ⟨by omega, h1 (fun s a b => by omega) d L' hL⟩, fun z => by omega⟩
  | succ n ih =>
    intro t d L' ht hc' hm hL h1 h0
    refine T_C_isAllSeenSo_21 ⟨fun z => by omega, fun _ => q_minT hc' (by omega) (fun L2 hL2 hc2 => T_C_isAllSeenSo_37 (E_Seen_isSo (by omega) ?_))⟩
    have hm2 : fMin I0 p d 0 10 = d 0 10 + 1 := fMin_minute
    have hLL : lkeep L L2 := fun a ha => by rw [hL2 a ha, hL a ha]
    refine isSo_loop hP hS hs hc2.2.2.2.2.2 (by omega) hX h93 hc (fun hso => T_C_isAllSeenSo_48 ⟨fun _ => ?_, fun z => absurd (show ¬ (1 : Int) = 0 by omega) z⟩) (fun hso => T_C_isAllSeenSo_48 ⟨fun z => absurd rfl z, fun _ => ⟨by omega, h0 (fun hall => hso ?_) _ L2 hLL⟩⟩) S 0 (by omega) (fun j hj => by omega)
    · rw [show wr ((t : Int) + 1) = ((t + 1 : Nat) : Int) by rw [wr_of] <;> omega]
      refine ih (t + 1) _ L2 (by omega) hc2 (by omega) hLL (fun hall => h1 (fun s a b => ?_)) (fun hall => h0 (fun hall2 => hall (fun s a b => ?_)))
      · match s, a with
        | s + 1, _ =>
          rw [mins]
          by_cases hs0 : s = 0
          · subst hs0; exact hso
          · exact hall s (by omega) (by omega)
      · have := hall2 (s + 1) (by omega) (by omega)
        rw [mins] at this; exact this
    · have := hall 1 (by omega) (by omega)
      exact this
theorem r_fits {N : Nat} (hP : I0 p 13 ≤ 6) (hS : SEE I1 (I0 p 13)) (hN : kb I1 = (N : Int)) (h75 : J 98 75 = I1 87 6) (h76 : J 98 76 = I1 87 7) (h138 : J 138 = I1 138) (h139 : J 139 = cm) : ∀ (n t : Nat) (d e K' : Nat → Nat → Int) (x : Int), t + n = 100 → 1 ≤ t → mIn p I I0 J M d e → d 0 10 + 1 = (t : Int) → KT K K' → ((∀ s, 1 ≤ s → s ≤ n → SO I1 cm (mins I0 p s d) N) → ∀ e' x' K2, KT K K2 → Q [.inl 1] (mem Ls p (jm J 1 e' x') K2)) → (¬ (∀ s, 1 ≤ s → s ≤ n → SO I1 cm (mins I0 p s d) N) → ∀ e' x' K2, KT K K2 → Q [.inl 0] (mem Ls p (jm J 1 e' x') K2)) → m_Wp i_M_fits 21 kc ks [(0, .inr (.inr 98)), (3, .inl (t : Int))] [] (mem Ls p (jm J 1 e x) K') Q := by
  intro n
  induction n with
  | zero =>
    intro t d e K' x ht ht1 hc' hm hL h1 h0
    exact T_M_fits_21 ⟨fun _ => ⟨by omega, h1 (fun s a b => by omega) e x K' hL⟩, fun z => by omega⟩
  | succ n ih =>
    intro t d e K' x ht ht1 hc' hm hL h1 h0
    refine T_M_fits_21 ⟨fun z => by omega, fun _ => r_minT2 hc' (by omega) (fun e2 x2 K2 hc2 hL2 => T_M_fits_32 (E_M_isSo ?_))⟩
    have hm2 : fMin I0 p d 0 10 = d 0 10 + 1 := fMin_minute
    have hLL : KT K K2 := hL.tr hL2
    rw [show (t : Int) = fMin I0 p d 0 10 by omega]
    refine mSo_loop hP hS hN hc2.1.2.2.2.2.2 hc2.2.2.2.2 (by omega) h75 h76 h138 h139 (fun hso => T_M_fits_37 ⟨fun _ => ?_, fun z => absurd (show ¬ (1 : Int) = 0 by omega) z⟩) (fun hso => T_M_fits_37 ⟨fun z => absurd rfl z, fun _ => ⟨by omega, h0 (fun hall => hso ?_) e2 x2 K2 hLL⟩⟩) N 0 (by omega) (fun j hj => by omega)
    · rw [show wr (fMin I0 p d 0 10 + 1) = ((t + 1 : Nat) : Int) by rw [wr_of] <;> omega]
      refine ih (t + 1) _ e2 K2 x2 (by omega) (by omega) hc2 (by omega) hLL (fun hall => h1 (fun s a b => ?_)) (fun hall => h0 (fun hall2 => hall (fun s a b => ?_)))
      · match s, a with
        | s + 1, _ =>
          rw [mins]
          by_cases hs0 : s = 0
          · subst hs0; exact hso
          · exact hall s (by omega) (by omega)
      · have := hall2 (s + 1) (by omega) (by omega)
        rw [mins] at this; exact this
    · have := hall 1 (by omega) (by omega)
      exact this
end V3
