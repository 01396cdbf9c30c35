/-! ===== phase 2: set, putOff, ring ===== -/
section W6
variable {Ls p kc ks : Nat} {P M : Int} {I I0 I1 I2 J K L L1 L2 K2 X X1 X2 Y Z d d' e : Nat → Nat → Int} {Q : List mV → mM → Prop} {x : Int}
theorem DR_cells (hP : P ≤ 6) (hM : M ≤ 6) (hn : Z 28 11 ≤ 20) (h : Z 136 0 = Z 28 10 ∧ Z 130 0 = Z 28 11 ∧ Z 131 0 = en (Z 28 12) ∧ (Z 28 12 ≠ -1 → Z 132 0 = Z 28 13) ∧ Z 137 0 = Z 28 15 ∧ (∀ q : Nat, (q : Int) < P → Z 127 q = Z 29 q ∧ Z 126 q = Z 30 q ∧ Z 128 q = Z 31 q ∧ Z 125 q = dMode (dat Z 28) q) ∧ (∀ k : Nat, (k : Int) < Z 28 11 → Z 129 k = en (Z 32 k)) ∧ (∀ m : Nat, (m : Int) < M → Z 133 m = Z 33 m ∧ Z 134 (2 * m) = Z 34 m ∧ Z 134 (2 * m + 1) = Z 35 m ∧ Z 135 m = Z 36 m)) : DR P M (dat Z 28) (jat Z 0) := by
  obtain ⟨a1, a2, a3, a4, a5, a6, a7, a8⟩ := h
  have j0 : ∀ r k, r ≤ 12 → k < jlen r → jat Z 0 r k = Z (125 + r) k := fun r k h1 h2 => by rw [jat_at h1 h2, Nat.zero_mul, Nat.zero_add]
  have d0 : ∀ j, j < 9 → dat Z 28 j = Z (28 + j) := fun j hj => dat_at hj
  unfold DR
  rw [d0 0 (by omega), d0 1 (by omega), d0 2 (by omega), d0 3 (by omega), d0 4 (by omega), d0 5 (by omega), d0 6 (by omega), d0 7 (by omega), d0 8 (by omega), j0 11 0 (by omega) (by decide), j0 5 0 (by omega) (by decide), j0 6 0 (by omega) (by decide), j0 7 0 (by omega) (by decide), j0 12 0 (by omega) (by decide)]
  refine ⟨a1, a2, a3, a4, a5, fun q hq => ?_, fun k hk => ?_, fun m hm => ?_⟩
  · rw [j0 0 q (by omega) (by show q < 6; omega), j0 1 q (by omega) (by show q < 6; omega), j0 2 q (by omega) (by show q < 6; omega), j0 3 q (by omega) (by show q < 6; omega)]; exact a6 q hq
  · have hk' : (k : Int) < Z 28 11 := hk
    rw [j0 4 k (by omega) (by show k < 20; omega)]; exact a7 k hk
  · rw [j0 8 m (by omega) (by show m < 6; omega), j0 9 (2 * m) (by omega) (by show 2 * m < 12; omega), j0 9 (2 * m + 1) (by omega) (by show 2 * m + 1 < 12; omega), j0 10 m (by omega) (by show m < 6; omega)]; exact a8 m hm
theorem now_left (hI : INV p I L) : I 28 12 ≠ -1 → I 132 0 = I 28 13 := hI.2.2.2.1.2.1.2.2.2.1
/-- a deed is done -/
theorem deed_end {n n1 s : Nat} {a w o : Int} (hI : INV p I L) (hn : I 94 3 = (n : Int)) (c1 : ∀ b, b < 28 ∨ 37 ≤ b → b ≠ 94 → b ≠ 95 → b ≠ 96 → b ≠ 97 → X1 b = I b) (c2 : X1 94 3 = ((n1 + 1 : Nat) : Int)) (c3 : n1 + s = n) (c4 : n1 < 20) (c5 : ∀ k, k < n1 → X1 95 k = I 95 (k + s) ∧ X1 96 k = I 96 (k + s) ∧ X1 97 k = I 97 (k + s)) (c6 : X1 95 n1 = a ∧ X1 96 n1 = w ∧ X1 97 n1 = o) (hR : RMD (mup X1 98 2 0) Y n1 s) (hZ : ∀ b, b < 125 ∨ 137 < b → b ≠ 98 → Z b = Y b) (hZ98 : ∀ k, k ≠ 52 → Z 98 k = Y 98 k) (hD : DOK (I p 13) (I p 15) (dat Z 28)) (hDR : DR (I p 13) (I p 15) (dat Z 28) (jat Z 0)) (h14 : Z 28 14 = I 28 14) (h10 : Z 28 10 = I 28 10) (hu : uOK (I p 13) (I p 15) (dat Z 28) a w o) (hag : agw (dat I 28) (und (dat Z 28) a w o)) : INV p Z L := by
  obtain ⟨r1, r2, r3, r4, r5⟩ := hR
  have f1 : ∀ b, b < 125 ∨ 137 < b → b ≠ 98 → b ≠ 140 → Z b = X1 b := fun b b1 b2 b3 => by rw [hZ b b1 b2, r1 b b2 b3, mup_other b2]
  have f98 : ∀ k, k ≠ 2 → k ≠ 52 → k ≠ 79 → Z 98 k = I 98 k := fun k b1 b2 b3 => by rw [hZ98 k b2, r2 k b3, mup_ne (Or.inr b1), c1 98 (by omega) (by omega) (by omega) (by omega) (by omega)]
  have fI : ∀ b, b < 28 ∨ (37 ≤ b ∧ b < 94) ∨ (98 < b ∧ b < 125) ∨ 137 < b → b ≠ 140 → Z b = I b := fun b b1 b2 => by rw [f1 b (by omega) (by omega) b2, c1 b (by omega) (by omega) (by omega) (by omega) (by omega)]
  have hD0 := hI.2.2.2.1
  refine INV_deed hI (fun b hb => fI b (by omega) (by omega)) ?_ (fun k b1 b2 b3 _ => f98 k b1 b2 b3) (fun b b1 b2 => fI b (by omega) (by omega)) (fun b b1 b2 b3 => fI b (by omega) b3) ⟨hD, hDR, ?_, ?_⟩ rfl
  · refine LOG_push hI hn c3 c4 ?_ ?_ (fun k hk => ?_) ?_ (fun k j hk hj => ?_) (fun j hj => ?_) hu hag
    · rw [f1 94 (by omega) (by omega) (by omega)]; exact c2
    · rw [hZ98 79 (by omega)]; exact r3
    · rw [f1 95 (by omega) (by omega) (by omega), f1 96 (by omega) (by omega) (by omega), f1 97 (by omega) (by omega) (by omega)]; exact c5 k hk
    · rw [f1 95 (by omega) (by omega) (by omega), f1 96 (by omega) (by omega) (by omega), f1 97 (by omega) (by omega) (by omega)]; exact c6
    · rw [hZ 140 (by omega) (by omega), r4 k j hk hj, mup_other (by omega), c1 140 (by omega) (by omega) (by omega) (by omega) (by omega)]
    · rw [hZ 140 (by omega) (by omega), r5 j hj]
      unfold snp
      have g : ∀ b, 99 ≤ b → mup X1 98 2 0 b = I b := fun b hb => by rw [mup_other (by omega), c1 b (by omega) (by omega) (by omega) (by omega) (by omega)]
      rw [g 125 (by omega), g 126 (by omega), g 127 (by omega), g 133 (by omega), g 129 (by omega), g 130 (by omega), g 131 (by omega), g 132 (by omega)]
  · rw [h14]; exact hD0.2.2.1
  · rw [h10]; exact hD0.2.2.2
theorem log_n (hI : INV p I L) : ∃ n : Nat, I 94 3 = (n : Int) ∧ n ≤ 20 ∧ I 98 79 = (n : Int) := by
  have h := hI.2.2.2.2.2.2.2.2.1
  exact ⟨(I 94 3).toNat, by have := h.1; omega, by have := h.1; omega, by have := h.1; have := h.2.1; omega⟩
theorem DOK_at {v : Int} {q : Nat} (h : DOK P M d) (hv : -99 ≤ v ∧ v ≤ 99) : DOK P M (mup d 1 q v) := by
  unfold DOK at *
  obtain ⟨a1, a2, a3, a4, a5, a6, a7, a8, a9, a10, a11⟩ := h
  simp only [mup_app, show ¬ (0 : Nat) = 1 by omega, show ¬ (2 : Nat) = 1 by omega, show ¬ (3 : Nat) = 1 by omega, show ¬ (4 : Nat) = 1 by omega, show ¬ (6 : Nat) = 1 by omega, show ¬ (7 : Nat) = 1 by omega, show ¬ (8 : Nat) = 1 by omega, false_and, if_false]
  refine ⟨a1, a2, a3, a4, a5, a6, fun r hr => ?_, a8, a9, a10, a11⟩
  have := a7 r hr
  by_cases hrq : r = q
  · rw [if_pos ⟨trivial, hrq⟩]; exact ⟨hv.1, hv.2, this.2.2⟩
  · rw [if_neg (fun z => hrq z.2)]; exact this
theorem DOK_at5 {v : Int} {q : Nat} (h : DOK P M d) : DOK P M (mup d 5 q v) := by
  unfold DOK at *
  obtain ⟨a1, a2, a3, a4, a5, a6, a7, a8, a9, a10, a11⟩ := h
  simp only [mup_app, show ¬ (0 : Nat) = 5 by omega, show ¬ (1 : Nat) = 5 by omega, show ¬ (2 : Nat) = 5 by omega, show ¬ (3 : Nat) = 5 by omega, show ¬ (4 : Nat) = 5 by omega, show ¬ (6 : Nat) = 5 by omega, show ¬ (7 : Nat) = 5 by omega, show ¬ (8 : Nat) = 5 by omega, false_and, if_false]
  exact ⟨a1, a2, a3, a4, a5, a6, a7, a8, a9, a10, a11⟩
theorem agw.rfl' : agw d d := ⟨fun _ _ _ => rfl, fun _ _ _ _ _ _ => rfl, fun _ _ => rfl⟩
theorem pair_set {a v : Int} (hI : INV p I L) : PAIR Ls i_C_set i_M_set [.inl a, .inl v] (mem Ls p I L) := by
  have hpl := hI.2.1
  have hP : I p 13 ≤ 6 := hpl.1.2
  have hM : I p 15 ≤ 6 := hpl.2.2.1.2
  have h12 : I 98 12 = I p 13 := hI.2.2.1.1.1
  have hnow := now_eq hI
  have ref : ¬ (0 ≤ a ∧ a < I p 13) ∨ ¬ (-99 ≤ v ∧ v ≤ 99) ∨ I 29 a.toNat = v → m_Call i_M_set [.inr (.inr 98), .inl a, .inl v] (mem Ls p I L) (fun w M2 => w = [.inl 0] ∧ OKM Ls M2) := fun h => by
    refine E_M_set (r_isMan ?_)
    rw [mup_ne (by omega), h12]
    refine T_M_set_10 ⟨fun _ => ⟨by omega, rfl, okT hI⟩, fun h2 => r_isIn (T_M_set_21 ⟨fun _ => ⟨by omega, rfl, okT hI⟩, fun h3 => ?_⟩)⟩
    rw [b01_zero] at h2 h3
    rw [mup_ne (by omega), (hnow.2.2.2.2.1 a.toNat (by omega)).1]
    exact ⟨by omega, fun h4 => by omega, fun _ => ⟨by omega, rfl, okT hI⟩⟩
  refine E_C_set (q_isPerson hI.1 (T_C_set_5 ⟨fun h => ⟨by omega, ref (Or.inl (b01_zero.mp h))⟩, fun h => ⟨fun h2 => ⟨by omega, ref (by omega)⟩, fun h2 => ⟨fun h3 => ⟨by omega, ref (by omega)⟩, fun h3 => ?_⟩⟩⟩))
  rw [b01_zero] at h
  have ha : 0 ≤ a ∧ a < I p 13 := by omega
  refine ⟨by omega, fun h4 => ⟨by omega, ?_⟩, fun h4 => ⟨by omega, ref (by omega)⟩⟩
  obtain ⟨n, hn, h20, h79⟩ := log_n hI
  refine q_note hn h20 (fun X2 n1 s hN s1 s2 => T_C_set_53 ⟨by omega, by omega, ?_⟩)
  obtain ⟨g1, g2, g3, g4, g5, g6⟩ := hN
  refine E_M_set (r_isMan ?_)
  have gI : ∀ b, b ≠ 29 → b ≠ 94 → b ≠ 95 → b ≠ 96 → b ≠ 97 → mup X2 29 a.toNat v b = I b := fun b b1 b2 b3 b4 b5 => by rw [mup_other b1, g1 b b2 b3 b4 b5]
  have gM : ∀ b, 99 ≤ b → mup (mup X2 29 a.toNat v) 98 2 0 b = I b := fun b hb => by rw [mup_other (by omega), gI b (by omega) (by omega) (by omega) (by omega) (by omega)]
  rw [mup_ne (show ¬ (98 : Nat) = 98 ∨ ¬ 12 = 2 by omega), gI 98 (by omega) (by omega) (by omega) (by omega) (by omega), h12]
  refine T_M_set_10 ⟨fun h5 => absurd (b01_zero.mp h5) (fun z => z ha), fun _ => r_isIn (T_M_set_21 ⟨fun h6 => absurd (b01_zero.mp h6) (fun z => z (by omega)), fun _ => ⟨by omega, ?_⟩⟩)⟩
  rw [gM 127 (by omega), (hnow.2.2.2.2.1 a.toNat (by omega)).1]
  refine ⟨fun _ => r_remember (n := n) (n1 := n1) (s := s) ?_ h20 g3 s1 s2 g4 (fun Y hY => T_M_set_40 ⟨by omega, by omega, rfl, p, _, _, rfl, ?_⟩), fun h7 => absurd h4 h7⟩
  · rw [mup_ne (by omega), gI 98 (by omega) (by omega) (by omega) (by omega) (by omega), h79]
  have yI : ∀ b, 99 ≤ b → b ≠ 140 → Y b = I b := fun b hb b2 => by rw [hY.1 b (by omega) b2, gM b hb]
  have yX : ∀ b, b < 98 → Y b = mup X2 29 a.toNat v b := fun b hb => by rw [hY.1 b (by omega) (by omega), mup_other (by omega)]
  have z28 : ∀ b, b < 94 → b ≠ 29 → mup Y 127 a.toNat v b = I b := fun b hb h29 => by rw [mup_other (by omega), yX b (by omega), gI b h29 (by omega) (by omega) (by omega) (by omega)]
  have z29 : mup Y 127 a.toNat v 29 = mup I 29 a.toNat v 29 := by
    funext k
    rw [mup_other (by omega), yX 29 (by omega), mup_app, mup_app, g1 29 (by omega) (by omega) (by omega) (by omega)]
  have hdat : dat (mup Y 127 a.toNat v) 28 = mup (dat I 28) 1 a.toNat v := by
    funext j k
    rw [mup_app]
    unfold dat
    by_cases hj : j < 9
    · rw [if_pos hj, if_pos hj]
      by_cases hj1 : j = 1
      · subst hj1
        rw [show 28 + 1 = 29 from rfl, z29, mup_app]
        by_cases hk : k = a.toNat
        · rw [if_pos ⟨rfl, hk⟩, if_pos ⟨rfl, hk⟩]
        · rw [if_neg (fun z => hk z.2), if_neg (fun z => hk z.2)]
      · rw [if_neg (fun z => hj1 z.1), z28 (28 + j) (by omega) (by omega)]
    · rw [if_neg hj, if_neg hj, if_neg (by omega)]
  refine deed_end (X1 := mup X2 29 a.toNat v) (Y := Y) (a := 3) (w := a) (o := I 29 a.toNat) hI hn (fun b b1 b2 b3 b4 b5 => gI b (by omega) b2 b3 b4 b5) (by rw [mup_ne (by omega)]; exact g2) g3 g4 (fun k hk => by rw [mup_other (by omega), mup_other (by omega), mup_other (by omega)]; exact g5 k hk) (by rw [mup_other (by omega), mup_other (by omega), mup_other (by omega)]; exact g6) hY (fun b b1 b2 => mup_other (by omega)) (fun k _ => mup_ne (by omega)) ?_ ?_ ?_ ?_ ?_ ?_
  · rw [hdat]; exact DOK_at hI.2.2.2.1.1 (by omega)
  · obtain ⟨e1, e2, e3, e4, e5, e6, e7⟩ := hnow
    refine DR_cells hP hM ?_ ?_
    · rw [z28 28 (by omega) (by omega)]; exact hI.2.2.2.1.1.2.2.1.2
    · rw [hdat, z28 28 (by omega) (by omega), z28 30 (by omega) (by omega), z28 31 (by omega) (by omega), z28 32 (by omega) (by omega), z28 33 (by omega) (by omega), z28 34 (by omega) (by omega), z28 35 (by omega) (by omega), z28 36 (by omega) (by omega), z29, mup_other (k := 127) (i := 136) (by omega), mup_other (k := 127) (i := 130) (by omega), mup_other (k := 127) (i := 131) (by omega), mup_other (k := 127) (i := 132) (by omega), mup_other (k := 127) (i := 137) (by omega), mup_other (k := 127) (i := 126) (by omega), mup_other (k := 127) (i := 128) (by omega), mup_other (k := 127) (i := 125) (by omega), mup_other (k := 127) (i := 129) (by omega), mup_other (k := 127) (i := 133) (by omega), mup_other (k := 127) (i := 134) (by omega), mup_other (k := 127) (i := 135) (by omega), yI 136 (by omega) (by omega), yI 130 (by omega) (by omega), yI 131 (by omega) (by omega), yI 132 (by omega) (by omega), yI 137 (by omega) (by omega), yI 126 (by omega) (by omega), yI 128 (by omega) (by omega), yI 125 (by omega) (by omega), yI 129 (by omega) (by omega), yI 133 (by omega) (by omega), yI 134 (by omega) (by omega), yI 135 (by omega) (by omega)]
      refine ⟨e1, e2, e3, now_left hI, e4, fun q hq => ?_, e6, e7⟩
      have b := e5 q hq
      rw [dMode_congr (d := dat I 28) (mup_ne (by omega)) (mup_ne (by omega)) (mup_other (by omega))]
      refine ⟨?_, b.2⟩
      rw [mup_app, mup_app, yI 127 (by omega) (by omega), b.1]
      by_cases hqa : q = a.toNat
      · rw [if_pos ⟨rfl, hqa⟩, if_pos ⟨rfl, hqa⟩]
      · rw [if_neg (fun z => hqa z.2), if_neg (fun z => hqa z.2)]
  · rw [z28 28 (by omega) (by omega)]
  · rw [z28 28 (by omega) (by omega)]
  · exact Or.inr (Or.inr (Or.inr (Or.inl ⟨rfl, ha.1, ha.2⟩)))
  · rw [hdat]
    unfold und
    rw [if_neg (by omega), if_neg (by omega), if_neg (by omega), if_pos rfl, mup_mup, mup_same (J := dat I 28) (k := 1) (show dat I 28 1 a.toNat = I 29 a.toNat from rfl)]
    exact agw.rfl'
end W6
