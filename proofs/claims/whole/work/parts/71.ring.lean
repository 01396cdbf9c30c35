/-! ===== phase 2: ring, hangUp ===== -/
section W8
variable {Ls p kc ks : Nat} {P M : Int} {I I0 I1 I2 J K L L1 L2 K2 X X1 X2 Y Z d d' e : Nat → Nat → Int} {Q : List mV → mM → Prop} {x : Int}
theorem pOf_first {f : Nat → Int} {a : Int} : ∀ (t k : Nat), (∀ j, k ≤ j → j < k + t → f j ≠ a) → f (k + t) = a → pOf f a k (t + 1) = ((k + t : Nat) : Int)
  | 0, k, _, h => by rw [pOf, if_pos (show f k = a from h)]; rfl
  | t + 1, k, h1, h => by
    rw [pOf, if_neg (h1 k (by omega) (by omega)), pOf_first t (k + 1) (fun j a b => h1 j (by omega) (by omega)) (by rw [← h]; congr 1; omega)]
    congr 1; omega
theorem jm_hi {b a : Nat} (h : 137 < a) : jm J b e x a = J a := by
  unfold jm; rw [jput_out (by omega), mup_other (by omega)]
theorem DR_jm {x : Int} (hP : P ≤ 6) (hM : M ≤ 6) (hn : 0 ≤ d 0 11 ∧ d 0 11 ≤ 20) (h : DR P M d e) : DR P M d (jat (jm J 0 e x) 0) :=
  DR_agrE hP hM hn (fun r k b1 b2 => by rw [jat_at b1 b2, Nat.zero_mul, Nat.zero_add]; unfold jm; exact jput_at b1 b2 (by rw [Nat.zero_mul, Nat.zero_add])) h
theorem und_in {a : Int} (hd : DOK P M d) (ht : d 0 11 < 20 ∧ dMode d a = 0) (ha : 0 ≤ a ∧ a < P) : dPl (dIn d a) a = d 0 11 ∧ agw d (und (dIn d a) 0 a (d 2 a.toNat)) := by
  obtain ⟨n, hn⟩ : ∃ n : Nat, d 0 11 = (n : Int) := ⟨(d 0 11).toNat, by have := hd.2.2.1.1; omega⟩
  have hz := dMode_zero ht.2
  have e4 : ∀ j, dIn d a 4 j = if j = n then a else d 4 j := fun j => by
    rw [dIn_eq ht, hn, Int.toNat_natCast]; simp [mup_app]
  have e11 : dIn d a 0 11 = (n : Int) + 1 := by rw [dIn_eq ht, hn]; simp [mup_app]
  have hpl : dPl (dIn d a) a = (n : Int) := by
    unfold dPl
    rw [e11, show ((n : Int) + 1).toNat = n + 1 by omega, pOf_first n 0 (fun j _ hj => by rw [e4, if_neg (by omega)]; exact hz.2 j (by omega)) (by rw [e4, if_pos (by omega)])]
    congr 1; omega
  refine ⟨by rw [hpl, hn], ?_⟩
  unfold und
  rw [if_pos rfl, hpl, Int.toNat_natCast]
  unfold dOut rowOut
  rw [e11, show ((n : Int) + 1).toNat = n + 1 by omega]
  have e0 : ∀ k, k ≠ 11 → dIn d a 0 k = d 0 k := fun k hk => by rw [dIn_eq ht]; simp [mup_app, hk]
  have e2 : ∀ k, k ≠ a.toNat → dIn d a 2 k = d 2 k := fun k hk => by rw [dIn_eq ht]; simp [mup_app, hk]
  have eR : ∀ j, j ≠ 0 → j ≠ 2 → j ≠ 4 → dIn d a j = d j := fun j h1 h2 h3 => by rw [dIn_eq ht, mup_other h1, mup_other h3, mup_other h2]
  refine ⟨fun k h1 h2 => ?_, fun j k h1 h2 h3 h4 => ?_, fun k hk => ?_⟩
  · by_cases hk : k = 11
    · subst hk; simp [mup_app, hn]
    · simp [mup_app, rup_app, hk, e0 k hk]
  · by_cases hj : j = 2
    · subst hj
      by_cases hk : k = a.toNat
      · subst hk; simp [mup_app]
      · simp [mup_app, rup_app, hk, e2 k hk]
    · simp [mup_app, rup_app, hj, h3, show ¬ j = 0 by omega, eR j (by omega) hj h3]
  · have h1 : ¬ (n ≤ k ∧ k < n) := by omega
    have h2 : ¬ k = n := by omega
    simp only [mup_app, rup_app, show ¬ (4 : Nat) = 2 by omega, show ¬ (4 : Nat) = 0 by omega, false_and, if_false, if_true, Nat.add_lt_add_iff_right, h1, e4, h2]
theorem dIn_keep {a : Int} : dIn d a 0 10 = d 0 10 ∧ dIn d a 0 14 = d 0 14 ∧ ∀ j, 9 ≤ j → dIn d a j = d j := by
  unfold dIn
  split
  · refine ⟨?_, ?_, fun j hj => ?_⟩
    · rw [mup_ne (by omega), mup_ne (by omega), mup_ne (by omega)]
    · rw [mup_ne (by omega), mup_ne (by omega), mup_ne (by omega)]
    · rw [mup_other (by omega), mup_other (by omega), mup_other (by omega)]
  · exact ⟨rfl, rfl, fun _ _ => rfl⟩
theorem pair_ring {a : Int} (hI : INV p I L) : PAIR Ls i_C_ring i_M_ring [.inl a] (mem Ls p I L) := by
  have hpl := hI.2.1
  have hP := hpl.1
  have hM : I p 15 ≤ 6 := hpl.2.2.1.2
  have h12 : I 98 12 = I p 13 := hI.2.2.1.1.1
  have hnow := now_eq hI
  have hd := hI.2.2.2.1.1
  have hn := hd.2.2.1
  have e11 : dat I 28 0 11 = I 28 11 := rfl
  have e10 : dat I 28 0 10 = I 28 10 := rfl
  have e14 : dat I 28 0 14 = I 28 14 := rfl
  have ref : (0 ≤ a ∧ a < I p 13) → ¬ (dat I 28 0 11 < 20 ∧ dMode (dat I 28) a = 0) → m_Call i_M_ring [.inr (.inr 98), .inl a] (mem Ls p I L) (fun w M2 => w = [.inl (-2)] ∧ OKM Ls M2) := fun ha h => by
    refine E_M_ring (r_isMan ?_)
    rw [mup_ne (by omega), h12, b01_one.mpr ha]
    refine T_M_ring_10 ⟨fun _ => ?_, fun z => absurd (show ¬ (1 : Int) = 0 by omega) z⟩
    have b := (hnow.2.2.2.2.1 a.toNat (by omega)).2.2.2
    rw [mup_ne (by omega), mup_ne (by omega), b, show ((a.toNat : Nat) : Int) = a by omega, hnow.2.1]
    exact ⟨by omega, fun _ => ⟨rfl, okT hI⟩, fun h2 => ⟨by omega, fun h3 => absurd ⟨by omega, Classical.not_not.mp h2⟩ h, fun _ => ⟨rfl, okT hI⟩⟩⟩
  refine E_C_ring (q_isPerson hI.1 (T_C_ring_5 ⟨fun h => ?_, fun h => ?_⟩))
  · rw [b01_zero] at h
    have ha : 0 ≤ a ∧ a < I p 13 := by omega
    refine ⟨by omega, ?_⟩
    have hq : ∀ (Q' : List mV → mM → Prop), Q' [.inl (if dat I 28 0 11 < 20 ∧ dMode (dat I 28) a = 0 then 1 else 0)] (mem Ls p (dput I 28 (dIn (dat I 28) a)) L) → m_Call i_Day_takesIn [.inr (.inr 28), .inl a] (mem Ls p I L) Q' := fun Q' hQ' => by
      have := q_takesIn (Ls := Ls) (p := p) (L := L) (c := 28) (I := I) (d := dat I 28) (x := a) (Or.inl rfl) hn (by omega) hQ'
      rw [dput_dat] at this; exact this
    refine hq _ ?_
    by_cases ht : dat I 28 0 11 < 20 ∧ dMode (dat I 28) a = 0
    · rw [if_pos ht]
      refine T_C_ring_28 ⟨fun _ => ?_, fun z => absurd (show ¬ (1 : Int) = 0 by omega) z⟩
      obtain ⟨n, hn', h20, h79⟩ := log_n hI
      refine q_note (n := n) (by rw [dput_out (by omega)]; exact hn') h20 (fun X2 n1 s hN s1 s2 => T_C_ring_44 ⟨by omega, ?_⟩)
      obtain ⟨g1, g2, g3, g4, g5, g6⟩ := hN
      have gI : ∀ b, b < 28 ∨ 37 ≤ b → b ≠ 94 → b ≠ 95 → b ≠ 96 → b ≠ 97 → X2 b = I b := fun b b1 b2 b3 b4 b5 => by rw [g1 b b2 b3 b4 b5, dput_out (by omega)]
      have gD : ∀ j, j < 9 → X2 (28 + j) = dIn (dat I 28) a j := fun j hj => by rw [g1 _ (by omega) (by omega) (by omega) (by omega), dput_at hj]
      refine E_M_ring (r_isMan ?_)
      rw [mup_ne (by omega), gI 98 (by omega) (by omega) (by omega) (by omega) (by omega), h12, b01_one.mpr ha]
      refine T_M_ring_10 ⟨fun _ => ?_, fun z => absurd (show ¬ (1 : Int) = 0 by omega) z⟩
      have b := (hnow.2.2.2.2.1 a.toNat (by omega)).2.2.2
      rw [mup_ne (by omega), mup_ne (by omega), gI 125 (by omega) (by omega) (by omega) (by omega) (by omega), gI 130 (by omega) (by omega) (by omega) (by omega) (by omega), b, show ((a.toNat : Nat) : Int) = a by omega, hnow.2.1]
      refine ⟨by omega, fun z => absurd ht.2 z, fun _ => ⟨by omega, fun _ => ?_, fun z => by have := ht.1; omega⟩⟩
      refine r_remember (n := n) (n1 := n1) (s := s) (by rw [mup_ne (by omega), gI 98 (by omega) (by omega) (by omega) (by omega) (by omega), h79]) h20 g3 s1 s2 g4 (fun Y hY => T_M_ring_42 ?_)
      have yX : ∀ b, b ≠ 98 → b ≠ 140 → Y b = X2 b := fun b b1 b2 => by rw [hY.1 b b1 b2, mup_other b1]
      have yI : ∀ b, 99 ≤ b → b ≠ 140 → Y b = I b := fun b b1 b2 => by rw [yX b (by omega) b2, gI b (by omega) (by omega) (by omega) (by omega) (by omega)]
      have hj0 : jat Y 0 = jat I 0 := jat_congr (fun r k h1 h2 => by rw [yI _ (by omega) (by omega)])
      rw [now_jm (Y := Y), hj0]
      refine r_joins (b := 0) (by omega) hP hd hI.2.2.2.1.2.1 ha (fun e' he' => ?_)
      rw [if_pos ht]
      refine T_M_ring_48 ⟨by omega, ?_⟩
      have hdat : dat (jm Y 0 e' (Y 98 52)) 28 = dIn (dat I 28) a := by
        funext j
        unfold dat
        split
        · next hj => rw [jm_lo (by omega) (by omega), yX _ (by omega) (by omega), gD j hj]; rfl
        · next hj => rw [(dIn_keep).2.2 j (by omega), if_neg hj]
      have hDIn := DOK_in hd ha
      have hz28 : jm Y 0 e' (Y 98 52) 28 = dIn (dat I 28) a 0 := by rw [← hdat]; rfl
      refine ⟨?_, p, _, _, rfl, ?_⟩
      · have b2 := (he'.2.2.2.2.2.1 a.toNat (by omega)).2.1
        rw [show X2 30 = dIn (dat I 28) a 2 from gD 2 (by omega), ← b2]
        unfold jm
        rw [show a.toNat = 6 * 0 + a.toNat by omega, (jS (b := 0) _ e').2.1 a.toNat (by omega)]
        rw [show 6 * 0 + a.toNat = a.toNat by omega]
      · refine deed_end (X1 := X2) (Y := Y) (a := 0) (w := a) (o := I 30 a.toNat) hI hn' gI g2 g3 g4 (fun k hk => ?_) g6 hY (fun b b1 b2 => ?_) (fun k hk => jm_98 hk) ?_ ?_ ?_ ?_ ?_ ?_
        · have := g5 k hk; rw [dput_out (by omega), dput_out (by omega), dput_out (by omega)] at this; exact this
        · by_cases hb : b < 125
          · exact jm_lo hb b2
          · exact jm_hi (by omega)
        · rw [hdat]; exact hDIn
        · rw [hdat]; exact DR_jm hP.2 hM hDIn.2.2.1 he'
        · rw [hz28]; exact (dIn_keep).2.1
        · rw [hz28]; exact (dIn_keep).1
        · rw [hdat]; exact Or.inl ⟨rfl, ha, by rw [(und_in hd ht ha).1]; omega⟩
        · rw [hdat]; exact (und_in hd ht ha).2
    · rw [if_neg ht]
      have hi : dIn (dat I 28) a = dat I 28 := by unfold dIn; rw [if_neg ht]
      rw [hi, dput_dat]
      exact T_C_ring_28 ⟨fun z => absurd rfl z, fun _ => ref ha ht⟩
  · have h' := b01_zero.mp (Classical.not_not.mp h)
    refine E_M_ring (r_isMan ?_)
    rw [mup_ne (by omega), h12, b01_zero.mpr h']
    exact T_M_ring_10 ⟨fun z => absurd rfl z, fun _ => ⟨rfl, okT hI⟩⟩
end W8
