/-! ===== phase 2: the reference's trials ===== -/
def plainJ (J : Nat → Nat → Int) : Nat → Nat → Int := mup (mup (mup (mup (mup (mup (mup (mup J 98 67 0) 98 68 0) 98 69 0) 98 70 0) 98 71 0) 98 72 (-1)) 98 73 (-1)) 98 74 0
theorem plainJ_out {J : Nat → Nat → Int} {a : Nat} (h : a ≠ 98) : plainJ J a = J a := by
  unfold plainJ
  rw [mup_other h, mup_other h, mup_other h, mup_other h, mup_other h, mup_other h, mup_other h, mup_other h]
theorem plainJ_98 {J : Nat → Nat → Int} {k : Nat} (h : k < 67 ∨ 74 < k) : plainJ J 98 k = J 98 k := by
  unfold plainJ
  rw [mup_ne (by omega), mup_ne (by omega), mup_ne (by omega), mup_ne (by omega), mup_ne (by omega), mup_ne (by omega), mup_ne (by omega), mup_ne (by omega)]
theorem plainJ_fl {J : Nat → Nat → Int} : plainJ J 98 67 = 0 ∧ plainJ J 98 68 = 0 ∧ plainJ J 98 69 = 0 ∧ plainJ J 98 70 = 0 ∧ plainJ J 98 71 = 0 ∧ plainJ J 98 72 = -1 ∧ plainJ J 98 73 = -1 ∧ plainJ J 98 74 = 0 := by
  unfold plainJ; simp [mup_app]
theorem jput1_lo {J e : Nat → Nat → Int} {r k : Nat} (hk : k < jlen r) : jput J 1 e (125 + r) k = J (125 + r) k := by
  rw [jput_app, if_neg]
  rw [show 125 + r - 125 = r by omega]
  omega
/-- only what the two plans and the flags hold -/
theorem PR_congr {I I' J J' : Nat → Nat → Int} {p : Nat} (hI : ∀ k, k < 19 → I' (p + k) = I (p + k)) (h98 : ∀ k, 12 ≤ k → k ≤ 16 → J' 98 k = J 98 k) (hJ : ∀ a, 102 ≤ a → a ≤ 120 → J' a = J a) (h : PR I p J) : PR I' p J' := by
  unfold PR at *
  have h0 := hI 0 (by omega)
  rw [Nat.add_zero] at h0
  rw [h0, hI 1 (by omega), hI 2 (by omega), hI 3 (by omega), hI 4 (by omega), hI 5 (by omega), hI 6 (by omega), hI 7 (by omega), hI 8 (by omega), hI 9 (by omega), hI 10 (by omega), hI 11 (by omega), hI 12 (by omega), hI 13 (by omega), hI 14 (by omega), hI 15 (by omega), hI 16 (by omega), hI 17 (by omega)]
  rw [h98 12 (by omega) (by omega), h98 13 (by omega) (by omega), h98 14 (by omega) (by omega), h98 15 (by omega) (by omega), h98 16 (by omega) (by omega)]
  rw [hJ 102 (by omega) (by omega), hJ 103 (by omega) (by omega), hJ 104 (by omega) (by omega), hJ 105 (by omega) (by omega), hJ 106 (by omega) (by omega), hJ 107 (by omega) (by omega), hJ 108 (by omega) (by omega), hJ 109 (by omega) (by omega), hJ 110 (by omega) (by omega), hJ 111 (by omega) (by omega), hJ 112 (by omega) (by omega), hJ 113 (by omega) (by omega), hJ 114 (by omega) (by omega), hJ 115 (by omega) (by omega), hJ 116 (by omega) (by omega), hJ 117 (by omega) (by omega), hJ 118 (by omega) (by omega), hJ 119 (by omega) (by omega), hJ 120 (by omega) (by omega)]
  exact h
section T2
variable {Ls pp p kc ks : Nat} {M : Int} {I J K d : Nat → Nat → Int} {Q : List mV → mM → Prop}
theorem WR_plain {J : Nat → Nat → Int} (hp : isPlan p) (hpl : planOK I p) : WR (flw I p 0) p (plainJ J) := by
  have hp' := hp
  unfold isPlan at hp'
  obtain ⟨a1, a2, a3, a4, a5⟩ := flw_64 (I := I) (v := 0) hp
  obtain ⟨b1, b2, b3, b4, b5, b6, b7, b8⟩ := plainJ_fl (J := J)
  have hfp : ∀ k, k < 19 → flw I p 0 (p + k) = I (p + k) := fun k hk => flw_out (by omega)
  have h0 := hfp 0 (by omega)
  rw [Nat.add_zero] at h0
  have h6 := hpl.1
  unfold WR
  rw [b1, b2, b3, b4, b5, b6, b7, b8, a1, a2, a3, a4, a5, h0, hfp 3 (by omega), hfp 5 (by omega)]
  refine ⟨Or.inl ⟨rfl, rfl⟩, Or.inl ⟨rfl, rfl⟩, by omega, rfl, rfl, fun q hq => ?_, fun q hq => ?_⟩
  · rw [if_pos rfl, (flw_65 hp (by omega)).1]
  · rw [if_neg (by omega), (flw_65 hp (by omega)).2]
theorem PR_plain {J : Nat → Nat → Int} {v : Int} (hp : isPlan p) (h : PR I p J) : PR (flw I p v) p (plainJ J) := by
  have hp' := hp
  unfold isPlan at hp'
  exact PR_congr (fun k hk => flw_out (by omega)) (fun k h1 h2 => plainJ_98 (by omega)) (fun a h1 h2 => plainJ_out (by omega)) h
theorem r_plainTried (h : Q [] (mem Ls pp (plainJ J) K)) : m_Call i_M_plainTried [.inr (.inr 98)] (mem Ls pp J K) Q :=
  E_M_plainTried ⟨by omega, by omega, by omega, by omega, by omega, h⟩
theorem plain_jput {b : Nat} {e : Nat → Nat → Int} : plainJ (jput J b e) = jput (plainJ J) b e := by
  unfold plainJ
  rw [mup_jput_out (by omega), mup_jput_out (by omega), mup_jput_out (by omega), mup_jput_out (by omega), mup_jput_out (by omega), mup_jput_out (by omega), mup_jput_out (by omega), mup_jput_out (by omega)]
theorem lay2 (hQ : ∀ e, (∀ r k, r ≤ 12 → k < jlen r → e r k = J (125 + r) k) → Q [] (mem Ls pp (jput (plainJ J) 1 e) K)) : ∀ (n k : Nat) (e : Nat → Nat → Int), k + n = 20 → (∀ q, q < k → e 4 q = J 129 q) → (∀ q, q < 6 → e 0 q = J 125 q ∧ e 1 q = J 126 q ∧ e 2 q = J 127 q ∧ e 3 q = J 128 q ∧ e 8 q = J 133 q ∧ e 10 q = J 135 q) → (∀ q, q < 12 → e 9 q = J 134 q) → m_Wp i_M_layTried 148 kc ks [(0, .inr (.inr 98)), (1, .inl (k : Int))] [] (mem Ls pp (jput J 1 e) K) Q := by
  intro n
  induction n with
  | zero =>
    intro k e hk h4 h6 h12
    obtain ⟨w0, w1, w2, w3, w4, w5, w6, w7, w8, w9, w10, w11, w12⟩ := jW (b := 1) J
    have l : ∀ r, r = 5 ∨ r = 6 ∨ r = 7 ∨ r = 11 ∨ r = 12 → jput J 1 e (125 + r) 0 = J (125 + r) 0 := fun r hr => jput1_lo (by unfold jlen; rw [if_neg (by omega), if_neg (by omega), if_pos hr]; omega)
    refine T_M_layTried_148 ⟨fun _ => ⟨by omega, by omega, by omega, by omega, by omega, by omega, by omega, by omega, by omega, by omega, r_plainTried (T_M_layTried_239 ?_)⟩, fun h => by omega⟩
    rw [l 5 (by omega), l 6 (by omega), l 7 (by omega), l 11 (by omega), l 12 (by omega), w5, w6, w7, w11, w12, plain_jput]
    refine hQ _ (fun r k hr hk => ?_)
    have h13 : r = 0 ∨ r = 1 ∨ r = 2 ∨ r = 3 ∨ r = 4 ∨ r = 5 ∨ r = 6 ∨ r = 7 ∨ r = 8 ∨ r = 9 ∨ r = 10 ∨ r = 11 ∨ r = 12 := by omega
    rcases h13 with rfl | rfl | rfl | rfl | rfl | rfl | rfl | rfl | rfl | rfl | rfl | rfl | rfl <;> simp [jlen] at hk
    · simp [mup_app, h6 k hk]
    · simp [mup_app, h6 k hk]
    · simp [mup_app, h6 k hk]
    · simp [mup_app, h6 k hk]
    · simp [mup_app, h4 k (by omega)]
    · simp [mup_app, hk]
    · simp [mup_app, hk]
    · simp [mup_app, hk]
    · simp [mup_app, h6 k hk]
    · simp [mup_app, h12 k hk]
    · simp [mup_app, h6 k hk]
    · simp [mup_app, hk]
    · simp [mup_app, hk]
  | succ n ih =>
    intro k e hk h4 h6 h12
    obtain ⟨w0, w1, w2, w3, w4, w5, w6, w7, w8, w9, w10, w11, w12⟩ := jW (b := 1) J
    have l4 : jput J 1 e 129 k = J 129 k := jput1_lo (r := 4) (by show k < 20; omega)
    refine T_M_layTried_148 ⟨fun h => by omega, fun _ => ?_⟩
    rw [wr_of (z := 20 + (k : Int)) (by omega) (by omega), wr_of (z := (k : Int) + 1) (by omega) (by omega), Int.toNat_natCast, l4, show (20 + (k : Int)).toNat = 20 * 1 + k by omega, w4 _ _ _ (by omega)]
    refine ⟨by omega, by omega, ih (k + 1) _ (by omega) (fun q hq => ?_) (fun q hq => ?_) (fun q hq => ?_)⟩
    · by_cases h : q = k
      · subst h; simp [mup_app]
      · simp [mup_app, h, h4 q (by omega)]
    · simp [mup_app, h6 q hq]
    · simp [mup_app, h12 q hq]
theorem lay1 (hQ : ∀ e, (∀ r k, r ≤ 12 → k < jlen r → e r k = J (125 + r) k) → Q [] (mem Ls pp (jput (plainJ J) 1 e) K)) : ∀ (n k : Nat) (e : Nat → Nat → Int), k + n = 6 → (∀ q, q < k → e 0 q = J 125 q ∧ e 1 q = J 126 q ∧ e 2 q = J 127 q ∧ e 3 q = J 128 q ∧ e 8 q = J 133 q ∧ e 10 q = J 135 q) → (∀ q, q < 2 * k → e 9 q = J 134 q) → m_Wp i_M_layTried 2 kc ks [(0, .inr (.inr 98)), (1, .inl (k : Int))] [] (mem Ls pp (jput J 1 e) K) Q := by
  intro n
  induction n with
  | zero =>
    intro k e hk h6 h12
    exact T_M_layTried_2 ⟨fun _ => lay2 hQ 20 0 e (by omega) (fun q hq => by omega) (fun q hq => h6 q (by omega)) (fun q hq => h12 q (by omega)), fun h => by omega⟩
  | succ n ih =>
    intro k e hk h6 h12
    obtain ⟨w0, w1, w2, w3, w4, w5, w6, w7, w8, w9, w10, w11, w12⟩ := jW (b := 1) J
    have l0 : jput J 1 e 125 k = J 125 k := jput1_lo (r := 0) (by show k < 6; omega)
    have l1 : jput J 1 e 126 k = J 126 k := jput1_lo (r := 1) (by show k < 6; omega)
    have l2 : jput J 1 e 127 k = J 127 k := jput1_lo (r := 2) (by show k < 6; omega)
    have l3 : jput J 1 e 128 k = J 128 k := jput1_lo (r := 3) (by show k < 6; omega)
    have l8 : jput J 1 e 133 k = J 133 k := jput1_lo (r := 8) (by show k < 6; omega)
    have l10 : jput J 1 e 135 k = J 135 k := jput1_lo (r := 10) (by show k < 6; omega)
    have l9 : jput J 1 e 134 (2 * k) = J 134 (2 * k) := jput1_lo (r := 9) (by show 2 * k < 12; omega)
    have l9' : jput J 1 (mup e 9 (2 * k) (J 134 (2 * k))) 134 (2 * k + 1) = J 134 (2 * k + 1) := jput1_lo (r := 9) (by show 2 * k + 1 < 12; omega)
    refine T_M_layTried_2 ⟨fun h => by omega, fun _ => ?_⟩
    rw [wr_of (z := 6 + (k : Int)) (by omega) (by omega), wr_of (z := (k : Int) + 1) (by omega) (by omega), wr_of (z := 2 * (k : Int)) (by omega) (by omega), wr_of (z := 12 + 2 * (k : Int)) (by omega) (by omega), wr_of (z := 2 * (k : Int) + 1) (by omega) (by omega), wr_of (z := 12 + 2 * (k : Int) + 1) (by omega) (by omega), Int.toNat_natCast, show (6 + (k : Int)).toNat = 6 * 1 + k by omega, show (2 * (k : Int)).toNat = 2 * k by omega, show (12 + 2 * (k : Int)).toNat = 12 * 1 + 2 * k by omega, show (2 * (k : Int) + 1).toNat = 2 * k + 1 by omega, show (12 + 2 * (k : Int) + 1).toNat = 12 * 1 + (2 * k + 1) by omega]
    rw [l0, l1, l2, l3, l8, l10, l9, w9 _ _ _ (by omega), l9']
    rw [w0 _ _ _ (by omega), w1 _ _ _ (by omega), w2 _ _ _ (by omega), w3 _ _ _ (by omega), w8 _ _ _ (by omega), w10 _ _ _ (by omega), w9 _ _ _ (by omega), w9 _ _ _ (by omega)]
    refine ⟨by omega, by omega, by omega, by omega, by omega, by omega, by omega, by omega, by omega, by omega, by omega, by omega, by omega, by omega, by omega, by omega, ih (k + 1) _ (by omega) (fun q hq => ?_) (fun q hq => ?_)⟩
    · by_cases h : q = k
      · subst h; simp [mup_app]
      · simp [mup_app, h, h6 q (by omega)]
    · by_cases h : q = 2 * k
      · subst h; simp [mup_app]
      · by_cases h' : q = 2 * k + 1
        · subst h'; simp [mup_app]
        · simp [mup_app, h, h', h12 q (by omega)]
/-- a trial of the reference: as it is now -/
theorem r_layTried (hQ : ∀ e, (∀ r k, r ≤ 12 → k < jlen r → e r k = J (125 + r) k) → Q [] (mem Ls pp (jput (plainJ J) 1 e) K)) : m_Call i_M_layTried [.inr (.inr 98)] (mem Ls pp J K) Q := by
  have h := lay1 (kc := 0) (ks := 0) hQ 6 0 (jat J 1) (by omega) (fun q hq => by omega) (fun q hq => by omega)
  rw [jput_jat] at h
  exact E_M_layTried h
theorem jput_jm {b : Nat} {e : Nat → Nat → Int} : jput J b e = jm J b e (J 98 52) := by
  unfold jm; rw [mup_same rfl]
end T2
section T3
variable {Ls pp p b kc ks : Nat} {M : Int} {I J K d e : Nat → Nat → Int} {Q : List mV → mM → Prop} {x : Int}
theorem KG.tr {J K K' K2 d d' : Nat → Nat → Int} (h : KG J K K' d) (h2 : KG J K' K2 d') : KG J K K2 d' := ⟨fun a h3 h4 h5 => by rw [h2.1 a h3 h4 h5, h.1 a h3 h4 h5], fun k hk => by rw [h2.2.1 k hk, h.2.1 k hk], fun z => by rw [h2.2.2.1 z, h.2.2.1 z], h2.2.2.2⟩
theorem goMany_loop (hR : PR I p J) (hW : WR I p J) (hpl : planOK I p) (hwy : wayOK I (I p 13)) (hM : I p 15 = M) {N : Int} (hN : N ≤ 1000) : ∀ (n k : Nat) (d e K' : Nat → Nat → Int) (x : Int), (k : Int) + n = N → DOK (I p 13) M d → DR (I p 13) M d e → d 0 10 + n ≤ 20000 → KG J K K' d → (∀ e' x' K2, DR (I p 13) M (mins I p n d) e' → KG J K K2 (mins I p n d) → Q [] (mem Ls pp (jm J 1 e' x') K2)) → m_Wp i_M_goMany 2 kc ks [(0, .inr (.inr 98)), (1, .inl N), (2, .inl (k : Int))] [] (mem Ls pp (jm J 1 e x) K') Q := by
  intro n
  induction n with
  | zero =>
    intro k d e K' x hk hd h hm hK hQ
    exact T_M_goMany_2 ⟨fun _ => hQ e x K' h hK, fun h => by omega⟩
  | succ n ih =>
    intro k d e K' x hk hd h hm hK hQ
    refine T_M_goMany_2 ⟨fun h => by omega, fun _ => r_minuteGoes (b := 1) (by omega) hR hW hpl hwy hM hd h (by omega) hK.2.2.2 (fun e' x' K2 h' hK2 => T_M_goMany_12 ?_)⟩
    rw [show wr ((k : Int) + 1) = ((k + 1 : Nat) : Int) by rw [wr_of] <;> omega]
    exact ih (k + 1) _ e' K2 x' (by omega) (DOK_fMin hpl hd) h' (by rw [fMin_minute]; omega) (hK.tr hK2) hQ
theorem r_goMany (hR : PR I p J) (hW : WR I p J) (hpl : planOK I p) (hwy : wayOK I (I p 13)) (hM : I p 15 = M) {N : Int} (hN : 0 ≤ N ∧ N ≤ 1000) (hd : DOK (I p 13) M d) (h : DR (I p 13) M d e) (hm : d 0 10 + N ≤ 20000) (hdr : J 98 67 ≠ 0 → K 98 66 = d 0 14) (hQ : ∀ e' x' K2, DR (I p 13) M (mins I p N.toNat d) e' → KG J K K2 (mins I p N.toNat d) → Q [] (mem Ls pp (jm J 1 e' x') K2)) : m_Call i_M_goMany [.inr (.inr 98), .inl N] (mem Ls pp (jm J 1 e x) K) Q :=
  E_M_goMany (goMany_loop hR hW hpl hwy hM hN.2 N.toNat 0 d e K x (by omega) hd h (by omega) ⟨fun _ _ _ _ => rfl, fun _ _ => rfl, fun _ => rfl, hdr⟩ hQ)
end T3
