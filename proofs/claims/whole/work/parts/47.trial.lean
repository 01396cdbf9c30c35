/-! ===== phase 2: trials ===== -/
/-- two days alike in all that counts -/
def agr (d d' : Nat → Nat → Int) : Prop := (∀ k, 8 ≤ k → k ≤ 15 → d' 0 k = d 0 k) ∧ (∀ j k, 1 ≤ j → j ≤ 8 → k < (if j = 4 then 20 else 6) → d' j k = d j k)
theorem agr.rfl' {d : Nat → Nat → Int} : agr d d := ⟨fun _ _ _ => rfl, fun _ _ _ _ _ => rfl⟩
theorem agr.tr {d d' d2 : Nat → Nat → Int} (h : agr d d') (h2 : agr d' d2) : agr d d2 := ⟨fun k h3 h4 => by rw [h2.1 k h3 h4, h.1 k h3 h4], fun j k h3 h4 h5 => by rw [h2.2 j k h3 h4 h5, h.2 j k h3 h4 h5]⟩
theorem agr.row {d d' : Nat → Nat → Int} (h : agr d d') {j k : Nat} (h1 : 1 ≤ j) (h2 : j ≤ 8) (h3 : k < 6) : d' j k = d j k := h.2 j k h1 h2 (by split <;> omega)
theorem agr.four {d d' : Nat → Nat → Int} (h : agr d d') {k : Nat} (h3 : k < 20) : d' 4 k = d 4 k := h.2 4 k (by omega) (by omega) h3
theorem DOK_agr {P M : Int} {d d' : Nat → Nat → Int} (hP : P ≤ 6) (hM : M ≤ 6) (h : agr d d') (hd : DOK P M d) : DOK P M d' := by
  have h8 := h.1 8 (by omega) (by omega)
  have h9 := h.1 9 (by omega) (by omega)
  have h10 := h.1 10 (by omega) (by omega)
  have h11 := h.1 11 (by omega) (by omega)
  have h12 := h.1 12 (by omega) (by omega)
  have h13 := h.1 13 (by omega) (by omega)
  have h14 := h.1 14 (by omega) (by omega)
  have hn := hd.2.2.1
  unfold DOK at *
  rw [h8, h9, h10, h11, h12, h13, h14]
  obtain ⟨a1, a2, a3, a4, a5, a6, a7, a8, a9, a10, a11⟩ := hd
  refine ⟨a1, a2, a3, a4, a5, a6, fun q hq => ?_, fun k hk => ?_, fun j k hj hk => ?_, fun k hk => ?_, fun m hm => ?_⟩
  · rw [h.row (j := 1) (by omega) (by omega) (by omega), h.row (j := 2) (by omega) (by omega) (by omega), h.row (j := 3) (by omega) (by omega) (by omega)]; exact a7 q hq
  · rw [h.four (by omega)]; exact a8 k hk
  · rw [h.four (by omega), h.four (by omega)]; exact a9 j k hj hk
  · rw [h.four (by omega)]; exact a10 k hk
  · rw [h.row (j := 6) (by omega) (by omega) (by omega), h.row (j := 7) (by omega) (by omega) (by omega), h.row (j := 8) (by omega) (by omega) (by omega)]; exact a11 m hm
theorem pOf_congr {f g : Nat → Int} {x : Int} : ∀ (n k : Nat), (∀ j, k ≤ j → j < k + n → g j = f j) → pOf g x k n = pOf f x k n
  | 0, _, _ => rfl
  | n + 1, k, h => by rw [pOf, pOf, h k (by omega) (by omega), pOf_congr n (k + 1) (fun j h1 h2 => h j (by omega) (by omega))]
theorem dPl_agr {d d' : Nat → Nat → Int} {x : Int} (h : agr d d') (hn : 0 ≤ d 0 11 ∧ d 0 11 ≤ 20) : dPl d' x = dPl d x := by
  unfold dPl
  rw [h.1 11 (by omega) (by omega)]
  exact pOf_congr _ _ (fun j _ hj => h.four (by omega))
theorem dMode_agr {d d' : Nat → Nat → Int} {x : Int} (h : agr d d') (hn : 0 ≤ d 0 11 ∧ d 0 11 ≤ 20) : dMode d' x = dMode d x := by
  unfold dMode
  rw [h.1 12 (by omega) (by omega), dPl_agr h hn]
theorem DR_agr {P M : Int} {d d' e : Nat → Nat → Int} (hP : P ≤ 6) (hM : M ≤ 6) (h : agr d d') (hn : 0 ≤ d 0 11 ∧ d 0 11 ≤ 20) (hr : DR P M d e) : DR P M d' e := by
  have h10 := h.1 10 (by omega) (by omega)
  have h11 := h.1 11 (by omega) (by omega)
  have h12 := h.1 12 (by omega) (by omega)
  have h13 := h.1 13 (by omega) (by omega)
  have h15 := h.1 15 (by omega) (by omega)
  unfold DR at *
  rw [h10, h11, h12, h13, h15]
  obtain ⟨a1, a2, a3, a4, a5, a6, a7, a8⟩ := hr
  refine ⟨a1, a2, a3, a4, a5, fun q hq => ?_, fun k hk => ?_, fun m hm => ?_⟩
  · rw [dMode_agr h hn, h.row (j := 1) (by omega) (by omega) (by omega), h.row (j := 2) (by omega) (by omega) (by omega), h.row (j := 3) (by omega) (by omega) (by omega)]; exact a6 q hq
  · rw [h.four (by omega)]; exact a7 k hk
  · rw [h.row (j := 5) (by omega) (by omega) (by omega), h.row (j := 6) (by omega) (by omega) (by omega), h.row (j := 7) (by omega) (by omega) (by omega), h.row (j := 8) (by omega) (by omega) (by omega)]; exact a8 m hm
/-- two days of the reference alike -/
theorem DR_agrE {P M : Int} {d e e' : Nat → Nat → Int} (hP : P ≤ 6) (hM : M ≤ 6) (hn : 0 ≤ d 0 11 ∧ d 0 11 ≤ 20) (h : ∀ r k, r ≤ 12 → k < jlen r → e' r k = e r k) (hr : DR P M d e) : DR P M d e' := by
  have l0 : jlen 0 = 6 := rfl
  have l1 : jlen 1 = 6 := rfl
  have l2 : jlen 2 = 6 := rfl
  have l3 : jlen 3 = 6 := rfl
  have l4 : jlen 4 = 20 := rfl
  have l5 : jlen 5 = 1 := rfl
  have l6 : jlen 6 = 1 := rfl
  have l7 : jlen 7 = 1 := rfl
  have l8 : jlen 8 = 6 := rfl
  have l9 : jlen 9 = 12 := rfl
  have l10 : jlen 10 = 6 := rfl
  have l11 : jlen 11 = 1 := rfl
  have l12 : jlen 12 = 1 := rfl
  unfold DR at *
  obtain ⟨a1, a2, a3, a4, a5, a6, a7, a8⟩ := hr
  rw [h 11 0 (by omega) (by omega), h 5 0 (by omega) (by omega), h 6 0 (by omega) (by omega), h 7 0 (by omega) (by omega), h 12 0 (by omega) (by omega)]
  refine ⟨a1, a2, a3, a4, a5, fun q hq => ?_, fun k hk => ?_, fun m hm => ?_⟩
  · rw [h 2 q (by omega) (by omega), h 1 q (by omega) (by omega), h 3 q (by omega) (by omega), h 0 q (by omega) (by omega)]; exact a6 q hq
  · rw [h 4 k (by omega) (by omega)]; exact a7 k hk
  · rw [h 8 m (by omega) (by omega), h 9 (2 * m) (by omega) (by omega), h 9 (2 * m + 1) (by omega) (by omega), h 10 m (by omega) (by omega)]; exact a8 m hm
/-- minutes -/
def mins (I : Nat → Nat → Int) (p : Nat) : Nat → (Nat → Nat → Int) → Nat → Nat → Int
  | 0, d => d
  | n + 1, d => mins I p n (fMin I p d)
theorem mins_succ {I : Nat → Nat → Int} {p : Nat} : ∀ (n : Nat) (d : Nat → Nat → Int), mins I p (n + 1) d = fMin I p (mins I p n d)
  | 0, _ => rfl
  | n + 1, d => by rw [mins, mins_succ n, mins]
theorem fMin_minute {I d : Nat → Nat → Int} {p : Nat} : fMin I p d 0 10 = d 0 10 + 1 := by
  have h2 : ∀ d : Nat → Nat → Int, fD I p d 0 10 = d 0 10 := fun d => by
    unfold fD
    split
    · have : fDrift I p d 0 = d 0 := by
        unfold fDrift
        exact lp_inv (P := fun (s : Nat → Nat → Int) => s 0 = d 0) _ _ rfl (fun j s _ _ hs => by rw [fDrift1_minute]; exact hs)
      rw [this]
    · rfl
  have h3 : ∀ d : Nat → Nat → Int, fC I p d 0 10 = d 0 10 := fun d => by unfold fC fGoOn fTold; grind [mup_app]
  have h4 : ∀ d : Nat → Nat → Int, fB I p d 0 10 = d 0 10 := fun d => by unfold fB fStart dOut; split <;> simp [mup_app, rup_app]
  have h5 : ∀ d : Nat → Nat → Int, fStr I d 0 10 = d 0 10 := fun d => by unfold fStr dStr fDr dDraw; grind [mup_app]
  have hm1 : fRings I p d 0 10 = d 0 10 := by
    unfold fRings
    refine lp_inv (P := fun (s : Nat → Nat → Int) => s 0 10 = d 0 10) _ _ rfl (fun j s _ _ hs => ?_)
    unfold fRing dIn
    grind [mup_app]
  unfold fMin fE
  rw [mup_eq rfl rfl, h2, h3, h4]
  unfold fA
  rw [h5, hm1]
theorem mins_minute {I : Nat → Nat → Int} {p : Nat} : ∀ (n : Nat) (d : Nat → Nat → Int), mins I p n d 0 10 = d 0 10 + n
  | 0, d => by simp [mins]
  | n + 1, d => by rw [mins, mins_minute n, fMin_minute]; omega
theorem DOK_mins {M : Int} {I : Nat → Nat → Int} {p : Nat} (hpl : planOK I p) : ∀ (n : Nat) {d : Nat → Nat → Int}, DOK (I p 13) M d → DOK (I p 13) M (mins I p n d)
  | 0, _, h => h
  | n + 1, _, h => DOK_mins hpl n (DOK_fMin hpl h)
section T1
variable {Ls p kc ks : Nat} {M : Int} {I L d : Nat → Nat → Int} {Q : List mV → mM → Prop}
theorem passTrial_loop (hp : isPlan p) (hpl : planOK I p) (hwy : wayOK I (I p 13)) (hM : I p 15 = M) {N : Int} (hN : N ≤ 1000) : ∀ (n k : Nat) (d L' : Nat → Nat → Int), (k : Int) + n = N → DOK (I p 13) M d → d 0 10 + n ≤ 20000 → lkeep L L' → (∀ L2, lkeep L L2 → Q [] (mem Ls p (dput I 46 (mins I p n d)) L2)) → m_Wp i_C_passTrial 2 kc ks [(0, .inr (.inr 2)), (1, .inl N), (2, .inl (k : Int))] [] (mem Ls p (dput I 46 d) L') Q := by
  intro n
  induction n with
  | zero =>
    intro k d L' hk hd hm hL K
    exact T_C_passTrial_2 ⟨fun _ => K L' hL, fun h => by omega⟩
  | succ n ih =>
    intro k d L' hk hd hm hL K
    refine T_C_passTrial_2 ⟨fun h => by omega, fun _ => q_passMinute hp (Or.inr (Or.inr (Or.inl rfl))) hpl hwy hM hd (by omega) (fun L2 hL2 => T_C_passTrial_18 ?_)⟩
    rw [show wr ((k : Int) + 1) = ((k + 1 : Nat) : Int) by rw [wr_of] <;> omega]
    exact ih (k + 1) _ L2 (by omega) (DOK_fMin hpl hd) (by rw [fMin_minute]; omega) (fun a ha => by rw [hL2 a ha, hL a ha]) K
theorem q_passTrial (hp : isPlan p) (hpl : planOK I p) (hwy : wayOK I (I p 13)) (hM : I p 15 = M) {N : Int} (hN : 0 ≤ N ∧ N ≤ 1000) (hd : DOK (I p 13) M d) (hm : d 0 10 + N ≤ 20000) (K : ∀ L2, lkeep L L2 → Q [] (mem Ls p (dput I 46 (mins I p N.toNat d)) L2)) : m_Call i_C_passTrial [.inr (.inr 2), .inl N] (mem Ls p (dput I 46 d) L) Q :=
  E_C_passTrial (passTrial_loop hp hpl hwy hM hN.2 N.toNat 0 d L (by omega) hd (by omega) (fun _ _ => rfl) K)
/-- what the class follows: the plan, and whether numbers are drawn -/
def flw (I : Nat → Nat → Int) (p : Nat) (a : Int) : Nat → Nat → Int := mcpy (mcpy (mup (mup (mup (mup (mup I 64 8 a) 64 4 (I p 17)) 64 5 (I p 16)) 64 6 (-1)) 64 7 1) (p + 3) 65 (Int.toNat 6)) (p + 5) 66 (Int.toNat 6)
theorem flw_out {a : Nat} {v : Int} (h : a < 64 ∨ 66 < a) : flw I p v a = I a := by
  unfold flw mcpy
  rw [if_neg (by omega), if_neg (by omega), mup_other (by omega), mup_other (by omega), mup_other (by omega), mup_other (by omega), mup_other (by omega)]
theorem flw_64 {v : Int} (hp : isPlan p) : flw I p v 64 4 = I p 17 ∧ flw I p v 64 5 = I p 16 ∧ flw I p v 64 6 = -1 ∧ flw I p v 64 7 = 1 ∧ flw I p v 64 8 = v := by
  unfold flw mcpy
  rw [if_neg (by omega), if_neg (by omega)]
  simp [mup_app]
theorem flw_65 {v : Int} {q : Nat} (hp : isPlan p) (hq : q < 6) : flw I p v 65 q = I (p + 3) q ∧ flw I p v 66 q = I (p + 5) q := by
  unfold isPlan at hp
  have h1 : ∀ a, a ≠ 64 → mup (mup (mup (mup (mup I 64 8 v) 64 4 (I p 17)) 64 5 (I p 16)) 64 6 (-1)) 64 7 1 a = I a := fun a ha => by rw [mup_other ha, mup_other ha, mup_other ha, mup_other ha, mup_other ha]
  unfold flw mcpy
  simp only [show Int.toNat 6 = 6 from rfl, hq, if_true]
  refine ⟨?_, ?_⟩
  · rw [if_neg (by omega), h1 _ (by omega)]; exact if_pos hq
  · rw [if_neg (by omega), h1 _ (by omega)]
theorem q_follow {a : Int} (hp : isPlan p) (ha : a = 0 ∨ a = 1) (h : Q [] (mem Ls p (flw I p a) L)) : m_Call i_Way_follow [.inr (.inr 64), .inl a] (mem Ls p I L) Q :=
  E_Way_follow hp ⟨ha, by omega, by decide, by decide, h⟩
theorem planOK_congr {I' : Nat → Nat → Int} (hp : isPlan p) (h : ∀ k, k < 19 → I' (p + k) = I (p + k)) (hpl : planOK I p) : planOK I' p := by
  unfold planOK lawOK at *
  have h0 := h 0 (by omega)
  rw [Nat.add_zero] at h0
  rw [h0, h 6 (by omega), h 8 (by omega), h 9 (by omega), h 10 (by omega), h 2 (by omega), h 3 (by omega), h 4 (by omega), h 5 (by omega), show p + 13 + 1 = p + 14 from rfl, show p + 13 + 2 = p + 15 from rfl, show p + 13 + 3 = p + 16 from rfl, show p + 13 + 4 = p + 17 from rfl, h 14 (by omega), h 15 (by omega), h 16 (by omega), h 17 (by omega)]
  exact hpl
theorem flw_plan {v : Int} (hp : isPlan p) (hpl : planOK I p) : planOK (flw I p v) p ∧ wayOK (flw I p v) (I p 13) := by
  have hp' := hp
  unfold isPlan at hp'
  refine ⟨planOK_congr hp (fun k hk => flw_out (by omega)) hpl, ?_⟩
  obtain ⟨a1, a2, a3, a4, a5⟩ := flw_64 (I := I) (v := v) hp
  refine ⟨by rw [a2]; exact hpl.2.2.2.1, fun q hq => ?_⟩
  have h6 := hpl.1
  have := flw_65 (I := I) (v := v) (q := q) hp (by omega)
  rw [this.1, this.2]
  have := hpl.2.2.2.2.2.2.2.2.1 q hq
  omega
/-- a day copied -/
theorem q_copy {c s : Nat} (hcd : (c = 46 ∧ s = 28) ∨ (c = 55 ∧ s = 28) ∨ (c = 46 ∧ s = 55) ∨ (c = 37 ∧ s = 28) ∨ (c = 28 ∧ s = 37)) (h : ∀ d, agr (dat I s) d → Q [] (mem Ls p (dput I c d) L)) : m_Call i_Day_copy [.inr (.inr c), .inr (.inr s)] (mem Ls p I L) Q := by
  refine E_Day_copy hcd ⟨by decide, by decide, by decide, by decide, by decide, by decide, by decide, by decide, ?_⟩
  have key : ∀ X : Nat → Nat → Int, (∀ a, a < c ∨ c + 9 ≤ a → X a = I a) → agr (dat I s) (dat X c) → Q [] (mem Ls p X L) := fun X h1 h2 => by
    have := h (dat X c) h2
    rw [show dput I c (dat X c) = X by
      funext a
      by_cases ha : a < c ∨ c + 9 ≤ a
      · rw [dput_out ha, h1 a ha]
      · rw [show a = c + (a - c) by omega, dput_at (by omega), dat_at (by omega)]] at this
    exact this
  refine key _ (fun a ha => ?_) ⟨fun k h1 h2 => ?_, fun j k h1 h2 h3 => ?_⟩
  · unfold mcpy
    rw [if_neg (by omega), if_neg (by omega), if_neg (by omega), if_neg (by omega), if_neg (by omega), if_neg (by omega), if_neg (by omega), if_neg (by omega)]
    rw [mup_other (by omega), mup_other (by omega), mup_other (by omega), mup_other (by omega), mup_other (by omega), mup_other (by omega), mup_other (by omega), mup_other (by omega)]
  · rw [dat_at (by omega), dat_at (by omega)]
    unfold mcpy
    rw [if_neg (by omega), if_neg (by omega), if_neg (by omega), if_neg (by omega), if_neg (by omega), if_neg (by omega), if_neg (by omega), if_neg (by omega)]
    have hk : k = 8 ∨ k = 9 ∨ k = 10 ∨ k = 11 ∨ k = 12 ∨ k = 13 ∨ k = 14 ∨ k = 15 := by omega
    rcases hk with rfl | rfl | rfl | rfl | rfl | rfl | rfl | rfl <;> simp [mup_app]
  · have hj : j = 1 ∨ j = 2 ∨ j = 3 ∨ j = 4 ∨ j = 5 ∨ j = 6 ∨ j = 7 ∨ j = 8 := by omega
    have hne : ∀ i, 1 ≤ i → i ≤ 8 → s + i ≠ c := fun i _ _ => by omega
    have hne2 : ∀ i i', 1 ≤ i → i ≤ 8 → 1 ≤ i' → i' ≤ 8 → s + i ≠ c + i' := fun i i' _ _ _ _ => by omega
    rw [dat_at (by omega), dat_at (by omega)]
    unfold mcpy
    rcases hj with rfl | rfl | rfl | rfl | rfl | rfl | rfl | rfl <;> simp at h3 <;> simp [h3, mup_app, hne, hne2]
end T1
