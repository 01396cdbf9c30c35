/-! ===== phase 2: putOff ===== -/
section W7
variable {Ls p kc ks : Nat} {P M : Int} {I I0 I1 I2 J K L L1 L2 K2 X X1 X2 Y Z d d' e : Nat → Nat → Int} {Q : List mV → mM → Prop} {x : Int}
theorem r_isOpen2 {m : Int} (hI : INV p I L) (h : Q [.inl (b01 ((0 ≤ m ∧ m < I p 15) ∧ (I 34 m.toNat = -1 ∧ I 35 m.toNat = -1)))] (mem Ls p (mup I1 98 2 0) K)) (hk1 : ∀ a, 98 ≤ a → I1 a = I a) : m_Call i_M_isOpen [.inr (.inr 98), .inl m] (mem Ls p (mup I1 98 2 0) K) Q := by
  have h14 : I 98 14 = I p 15 := hI.2.2.1.1.2.2.1
  have h15 := hI.2.1.2.2.1
  refine E_M_isOpen (r_isMeeting ?_)
  rw [mup_ne (by omega), hk1 98 (by omega), h14]
  by_cases hm : 0 ≤ m ∧ m < I p 15
  · rw [b01_one.mpr hm]
    have hDR := (hI.2.2.2.1.2.1.2.2.2.2.2.2.2 m.toNat (by omega))
    have hDO := hI.2.2.2.1.1.2.2.2.2.2.2.2.2.2.2 m.toNat (by omega)
    rw [dat_at (by omega), dat_at (by omega), dat_at (by omega)] at hDO
    have e0 : mup I1 98 2 0 134 (2 * m.toNat) = I 34 m.toNat := by
      have := hDR.2.1
      rw [jat_at (by omega) (by show 2 * m.toNat < 12; omega), dat_at (by omega), Nat.zero_mul, Nat.zero_add] at this
      rw [mup_ne (by omega), hk1 _ (by omega)]; exact this
    have e1 : mup I1 98 2 0 134 (2 * m.toNat + 1) = I 35 m.toNat := by
      have := hDR.2.2.1
      rw [jat_at (by omega) (by show 2 * m.toNat + 1 < 12; omega), dat_at (by omega), Nat.zero_mul, Nat.zero_add] at this
      rw [mup_ne (by omega), hk1 _ (by omega)]; exact this
    refine T_M_isOpen_5 ?_
    rw [wr_of (z := 2 * m) (by omega) (by omega), wr_of (z := 2 * m + 1) (by omega) (by omega), show (2 * m).toNat = 2 * m.toNat by omega, show (2 * m + 1).toNat = 2 * m.toNat + 1 by omega, e0, e1]
    have g34 : -1 ≤ I 34 m.toNat := hDO.2.1.1
    have g35 : -1 ≤ I 35 m.toNat := hDO.2.2.1.1
    refine ⟨fun z => by omega, fun _ => ⟨by omega, fun h1 => ⟨by omega, ?_⟩, fun h1 => ⟨by omega, fun h2 => ⟨by omega, ?_⟩, fun h2 => ⟨by omega, ?_⟩⟩⟩⟩
    · rw [b01_zero.mpr (fun z => by have := z.2.1; omega)] at h; exact h
    · rw [b01_zero.mpr (fun z => by have := z.2.2; omega)] at h; exact h
    · rw [b01_one.mpr ⟨hm, by omega, by omega⟩] at h; exact h
  · rw [b01_zero.mpr hm]
    refine T_M_isOpen_5 ⟨fun _ => ⟨by omega, ?_⟩, fun z => absurd rfl z⟩
    rw [b01_zero.mpr (fun z => hm z.1)] at h; exact h
theorem pair_putOff {a v : Int} (hI : INV p I L) : PAIR Ls i_C_putOff i_M_putOff [.inl a, .inl v] (mem Ls p I L) := by
  have hpl := hI.2.1
  have hP : I p 13 ≤ 6 := hpl.1.2
  have hM : I p 15 ≤ 6 := hpl.2.2.1.2
  have h12 : I 98 12 = I p 13 := hI.2.2.1.1.1
  have hnow := now_eq hI
  have ref : ¬ (0 ≤ a ∧ a < I p 15) ∨ ¬ (0 ≤ v ∧ v ≤ 999) ∨ ¬ (I 34 a.toNat = -1 ∧ I 35 a.toNat = -1) ∨ I 33 a.toNat = v → m_Call i_M_putOff [.inr (.inr 98), .inl a, .inl v] (mem Ls p I L) (fun w M2 => w = [.inl 0] ∧ OKM Ls M2) := fun h => by
    refine E_M_putOff (r_isOpen hI (T_M_putOff_10 ⟨fun _ => ⟨by omega, rfl, okT hI⟩, fun h2 => r_isIn (T_M_putOff_21 ⟨fun _ => ⟨by omega, rfl, okT hI⟩, fun h3 => ?_⟩)⟩) (fun _ _ => rfl))
    rw [b01_zero] at h2 h3
    rw [mup_ne (by omega), (hnow.2.2.2.2.2.2 a.toNat (by omega)).1]
    exact ⟨by omega, fun h4 => by omega, fun _ => ⟨by omega, rfl, okT hI⟩⟩
  refine E_C_putOff (q_isMeeting hI.1 (T_C_putOff_5 ⟨fun h => ⟨by omega, ref (Or.inl (b01_zero.mp h))⟩, fun h => ⟨fun h2 => ⟨by omega, ref (by omega)⟩, fun h2 => ⟨fun h3 => ?_, fun h3 => ⟨by omega, ref (by omega)⟩⟩⟩⟩))
  rw [b01_zero] at h
  have ha : 0 ≤ a ∧ a < I p 15 := by omega
  refine q_isOneThere (by omega) (T_C_putOff_29 ⟨fun h4 => ⟨by omega, ref ?_⟩, fun h4 => ⟨by omega, fun h4 => ⟨by omega, ?_⟩, fun h4 => ⟨by omega, ref (by omega)⟩⟩⟩)
  · rw [b01_zero] at h4; exact Or.inr (Or.inr (Or.inl (Classical.not_not.mp h4)))
  rename_i h4'
  have hop : I 34 a.toNat = -1 ∧ I 35 a.toNat = -1 := Classical.not_not.mp (b01_zero.mp (Classical.not_not.mp h4'))
  obtain ⟨n, hn, h20, h79⟩ := log_n hI
  refine q_note hn h20 (fun X2 n1 s hN s1 s2 => T_C_putOff_65 ⟨by omega, by omega, ?_⟩)
  obtain ⟨g1, g2, g3, g4, g5, g6⟩ := hN
  have gI : ∀ b, b ≠ 33 → b ≠ 94 → b ≠ 95 → b ≠ 96 → b ≠ 97 → mup X2 33 a.toNat v b = I b := fun b b1 b2 b3 b4 b5 => by rw [mup_other b1, g1 b b2 b3 b4 b5]
  have gM : ∀ b, 99 ≤ b → mup (mup X2 33 a.toNat v) 98 2 0 b = I b := fun b hb => by rw [mup_other (by omega), gI b (by omega) (by omega) (by omega) (by omega) (by omega)]
  refine E_M_putOff (r_isOpen2 hI (T_M_putOff_10 ⟨fun h5 => absurd (b01_zero.mp h5) (fun z => z ⟨ha, hop⟩), fun _ => r_isIn (T_M_putOff_21 ⟨fun h6 => absurd (b01_zero.mp h6) (fun z => z (by omega)), fun _ => ⟨by omega, ?_⟩⟩)⟩) (fun b hb => gI b (by omega) (by omega) (by omega) (by omega) (by omega)))
  rw [gM 133 (by omega), (hnow.2.2.2.2.2.2 a.toNat (by omega)).1]
  refine ⟨fun _ => r_remember (n := n) (n1 := n1) (s := s) ?_ h20 g3 s1 s2 g4 (fun Y hY => T_M_putOff_40 ⟨by omega, by omega, rfl, p, _, _, rfl, ?_⟩), fun h7 => absurd h4 h7⟩
  · rw [mup_ne (by omega), gI 98 (by omega) (by omega) (by omega) (by omega) (by omega), h79]
  have yI : ∀ b, 99 ≤ b → b ≠ 140 → Y b = I b := fun b hb b2 => by rw [hY.1 b (by omega) b2, gM b hb]
  have yX : ∀ b, b < 98 → Y b = mup X2 33 a.toNat v b := fun b hb => by rw [hY.1 b (by omega) (by omega), mup_other (by omega)]
  have z28 : ∀ b, b < 94 → b ≠ 33 → mup Y 133 a.toNat v b = I b := fun b hb h33 => by rw [mup_other (by omega), yX b (by omega), gI b h33 (by omega) (by omega) (by omega) (by omega)]
  have z33 : mup Y 133 a.toNat v 33 = mup I 33 a.toNat v 33 := by
    funext k
    rw [mup_other (by omega), yX 33 (by omega), mup_app, mup_app, g1 33 (by omega) (by omega) (by omega) (by omega)]
  have hdat : dat (mup Y 133 a.toNat v) 28 = mup (dat I 28) 5 a.toNat v := by
    funext j k
    rw [mup_app]
    unfold dat
    by_cases hj : j < 9
    · rw [if_pos hj, if_pos hj]
      by_cases hj1 : j = 5
      · subst hj1
        rw [show 28 + 5 = 33 from rfl, z33, mup_app]
        by_cases hk : k = a.toNat
        · rw [if_pos ⟨rfl, hk⟩, if_pos ⟨rfl, hk⟩]
        · rw [if_neg (fun z => hk z.2), if_neg (fun z => hk z.2)]
      · rw [if_neg (fun z => hj1 z.1), z28 (28 + j) (by omega) (by omega)]
    · rw [if_neg hj, if_neg hj, if_neg (by omega)]
  refine deed_end (X1 := mup X2 33 a.toNat v) (Y := Y) (a := 4) (w := a) (o := I 33 a.toNat) hI hn (fun b b1 b2 b3 b4 b5 => gI b (by omega) b2 b3 b4 b5) (by rw [mup_ne (by omega)]; exact g2) g3 g4 (fun k hk => by rw [mup_other (by omega), mup_other (by omega), mup_other (by omega)]; exact g5 k hk) (by rw [mup_other (by omega), mup_other (by omega), mup_other (by omega)]; exact g6) hY (fun b b1 b2 => mup_other (by omega)) (fun k _ => mup_ne (by omega)) ?_ ?_ ?_ ?_ ?_ ?_
  · rw [hdat]; exact DOK_at5 hI.2.2.2.1.1
  · obtain ⟨e1, e2, e3, e4, e5, e6, e7⟩ := hnow
    refine DR_cells hP hM ?_ ?_
    · rw [z28 28 (by omega) (by omega)]; exact hI.2.2.2.1.1.2.2.1.2
    · rw [hdat, z28 28 (by omega) (by omega), z28 29 (by omega) (by omega), z28 30 (by omega) (by omega), z28 31 (by omega) (by omega), z28 32 (by omega) (by omega), z28 34 (by omega) (by omega), z28 35 (by omega) (by omega), z28 36 (by omega) (by omega), z33, mup_other (k := 133) (i := 136) (by omega), mup_other (k := 133) (i := 130) (by omega), mup_other (k := 133) (i := 131) (by omega), mup_other (k := 133) (i := 132) (by omega), mup_other (k := 133) (i := 137) (by omega), mup_other (k := 133) (i := 126) (by omega), mup_other (k := 133) (i := 128) (by omega), mup_other (k := 133) (i := 125) (by omega), mup_other (k := 133) (i := 129) (by omega), mup_other (k := 133) (i := 127) (by omega), mup_other (k := 133) (i := 134) (by omega), mup_other (k := 133) (i := 135) (by omega), yI 136 (by omega) (by omega), yI 130 (by omega) (by omega), yI 131 (by omega) (by omega), yI 132 (by omega) (by omega), yI 137 (by omega) (by omega), yI 126 (by omega) (by omega), yI 128 (by omega) (by omega), yI 125 (by omega) (by omega), yI 129 (by omega) (by omega), yI 127 (by omega) (by omega), yI 134 (by omega) (by omega), yI 135 (by omega) (by omega)]
      refine ⟨e1, e2, e3, now_left hI, e4, fun q hq => ?_, e6, fun q hq => ?_⟩
      · rw [dMode_congr (d := dat I 28) (mup_ne (by omega)) (mup_ne (by omega)) (mup_other (by omega))]; exact e5 q hq
      have b := e7 q hq
      refine ⟨?_, b.2⟩
      rw [mup_app, mup_app, yI 133 (by omega) (by omega), b.1]
      by_cases hqa : q = a.toNat
      · rw [if_pos ⟨rfl, hqa⟩, if_pos ⟨rfl, hqa⟩]
      · rw [if_neg (fun z => hqa z.2), if_neg (fun z => hqa z.2)]
  · rw [z28 28 (by omega) (by omega)]
  · rw [z28 28 (by omega) (by omega)]
  · exact Or.inr (Or.inr (Or.inr (Or.inr ⟨rfl, ha.1, ha.2⟩)))
  · rw [hdat]
    unfold und
    rw [if_neg (by omega), if_neg (by omega), if_neg (by omega), if_neg (by omega), mup_mup, mup_same (J := dat I 28) (k := 5) (show dat I 28 5 a.toNat = I 33 a.toNat from rfl)]
    exact agw.rfl'
end W7
