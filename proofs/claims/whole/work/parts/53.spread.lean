/-! ===== phase 2: spreads; agree, ahead ===== -/
/-- bit k of z -/
abbrev bt (z : Int) (k : Nat) : Prop := m_and (m_shr z (k : Int)) 1 = 1
def spF (f : Nat → Int) (sel : Nat → Int) : Nat → Nat → Int → Int → Int → Int
  | _, 0, _, lo, hi => hi - lo
  | k, n + 1, any, lo, hi => if sel k = 1 then (if any = 0 then spF f sel (k + 1) n 1 (f k) (f k) else spF f sel (k + 1) n 1 (if f k < lo then f k else lo) (if hi < f k then f k else hi)) else spF f sel (k + 1) n any lo hi
theorem spF_congr {f : Nat → Int} {s s' : Nat → Int} : ∀ (n k : Nat) (a lo hi : Int), (∀ j, k ≤ j → j < k + n → (s j = 1 ↔ s' j = 1)) → spF f s k n a lo hi = spF f s' k n a lo hi
  | 0, _, _, _, _, _ => rfl
  | n + 1, k, a, lo, hi, h => by
    have h0 := h k (by omega) (by omega)
    have ih := fun a lo hi => spF_congr (f := f) n (k + 1) a lo hi (fun j h1 h2 => h j (by omega) (by omega))
    rw [spF, spF]
    by_cases hs : s k = 1
    · rw [if_pos hs, if_pos (h0.mp hs)]
      split
      · exact ih _ _ _
      · exact ih _ _ _
    · rw [if_neg hs, if_neg (fun z => hs (h0.mpr z))]; exact ih _ _ _
section Q4
variable {Ls p c kc ks : Nat} {P M : Int} {I I0 I1 J K L L1 K2 d e : Nat → Nat → Int} {Q : List mV → mM → Prop} {x : Int}
theorem spread_c {z : Int} (hc : isDay c) (hP : 0 ≤ P ∧ P ≤ 6) (hd : DOK P M d) : ∀ (n k : Nat) (a lo hi : Int), (k : Int) + n = P → -99 ≤ lo ∧ lo ≤ 99 → -99 ≤ hi ∧ hi ≤ 99 → Q [.inl (spF (d 1) (fun j => b01 (bt z j)) k n a lo hi)] (mem Ls p (dput I c d) L) → m_Wp i_Day_spread 10 kc ks [(0, .inr (.inr c)), (1, .inl z), (2, .inl a), (3, .inl lo), (4, .inl hi), (5, .inl (k : Int))] [] (mem Ls p (dput I c d) L) Q := by
  have h8 := hd.1.1
  intro n
  induction n with
  | zero =>
    intro k a lo hi hk hlo hhi hQ
    refine T_Day_spread_10 hc ?_
    rw [dput_c, h8, wr_of (z := hi - lo) (by omega) (by omega)]
    exact ⟨fun _ => hQ, fun h => by omega⟩
  | succ n ih =>
    intro k a lo hi hk hlo hhi hQ
    have ho := hd.2.2.2.2.2.2.1 k (by omega)
    have hw : wr ((k : Int) + 1) = ((k + 1 : Nat) : Int) := by rw [wr_of] <;> omega
    rw [spF] at hQ
    refine T_Day_spread_10 hc ?_
    rw [dput_c, h8, hw, Int.toNat_natCast, dput_at (by omega)]
    have hsel : (b01 (bt z k) = 1) ↔ m_and (m_shr z (k : Int)) 1 = 1 := b01_one
    refine ⟨fun h => by omega, fun _ => ⟨fun h => ?_, fun h => ⟨fun h2 => ⟨by omega, fun _ => ⟨by omega, ?_⟩, fun h3 => absurd h2 h3⟩, fun h2 => ⟨by omega, fun h3 => absurd h3 h2, fun _ => ⟨by omega, ?_⟩⟩⟩⟩⟩
    · rw [if_neg (fun z => h (hsel.mp z))] at hQ; exact ih (k + 1) a lo hi (by omega) hlo hhi hQ
    · rw [if_pos (hsel.mpr (Classical.not_not.mp h)), if_pos h2] at hQ
      exact ih (k + 1) 1 _ _ (by omega) (by omega) (by omega) hQ
    · rw [if_pos (hsel.mpr (Classical.not_not.mp h)), if_neg h2] at hQ
      unfold m_min m_max
      exact ih (k + 1) 1 _ _ (by omega) (by split <;> omega) (by split <;> omega) hQ
theorem q_spread {z : Int} (hc : isDay c) (hP : 0 ≤ P ∧ P ≤ 6) (hd : DOK P M d) (hQ : Q [.inl (spF (d 1) (fun j => b01 (bt z j)) 0 P.toNat 0 0 0)] (mem Ls p (dput I c d) L)) : m_Call i_Day_spread [.inr (.inr c), .inl z] (mem Ls p (dput I c d) L) Q :=
  E_Day_spread hc (spread_c hc hP hd P.toNat 0 0 0 0 (by omega) (by omega) (by omega) hQ)
theorem spread_m {b : Nat} {z : Int} (hb : b ≤ 1) (hP : 0 ≤ P ∧ P ≤ 6) (h12 : J 98 12 = P) (hd : DOK P M d) (hr : DR P M d e) : ∀ (n k : Nat) (a lo hi : Int), (k : Int) + n = P → -99 ≤ lo ∧ lo ≤ 99 → -99 ≤ hi ∧ hi ≤ 99 → Q [.inl (spF (d 1) (fun j => b01 (¬ bt z j)) k n a lo hi)] (mem Ls p (jm J b e x) K) → m_Wp i_M_spread 11 kc ks [(0, .inr (.inr 98)), (1, .inl (b : Int)), (2, .inl z), (3, .inl a), (4, .inl lo), (5, .inl hi), (6, .inl (k : Int))] [] (mem Ls p (jm J b e x) K) Q := by
  intro n
  induction n with
  | zero =>
    intro k a lo hi hk hlo hhi hQ
    refine T_M_spread_11 ?_
    rw [jm_98 (by omega), h12, wr_of (z := hi - lo) (by omega) (by omega)]
    exact ⟨fun _ => hQ, fun h => by omega⟩
  | succ n ih =>
    intro k a lo hi hk hlo hhi hQ
    have ho := hd.2.2.2.2.2.2.1 k (by omega)
    have hw : wr ((k : Int) + 1) = ((k + 1 : Nat) : Int) := by rw [wr_of] <;> omega
    have e127 : jm J b e x 127 (6 * b + k) = d 1 k := by unfold jm; rw [(jS (b := b) (mup J 98 52 x) e).2.2.1 _ (by omega)]; exact (hr.2.2.2.2.2.1 k (by omega)).1
    rw [spF] at hQ
    have hsel : (b01 (¬ bt z k) = 1) ↔ ¬ m_and (m_shr z (k : Int)) 1 = 1 := b01_one
    have nx : ∀ a lo hi, -99 ≤ lo ∧ lo ≤ 99 → -99 ≤ hi ∧ hi ≤ 99 → Q [.inl (spF (d 1) (fun j => b01 (¬ bt z j)) (k + 1) n a lo hi)] (mem Ls p (jm J b e x) K) → m_Wp i_M_spread 88 kc ks [(0, .inr (.inr 98)), (1, .inl (b : Int)), (2, .inl z), (3, .inl a), (4, .inl lo), (5, .inl hi), (6, .inl (k : Int))] [] (mem Ls p (jm J b e x) K) Q := by
      intro a lo hi h1 h2 h3
      refine T_M_spread_88 ?_
      rw [hw]
      exact ih (k + 1) a lo hi (by omega) h1 h2 h3
    refine T_M_spread_11 ?_
    rw [jm_98 (by omega), h12]
    refine ⟨fun h => by omega, fun _ => E_M_isOf ⟨fun h => ⟨by omega, T_M_spread_26 ?_⟩, fun h => ⟨by omega, T_M_spread_26 ⟨fun h2 => by omega, fun _ => ?_⟩⟩⟩⟩
    · rw [if_pos (hsel.mpr h)] at hQ
      rw [ix6 hb (by omega), Int.toNat_natCast, Int.toNat_natCast, e127]
      refine ⟨fun _ => ⟨by omega, fun h2 => T_M_spread_57 (T_M_spread_64 ⟨fun _ => T_M_spread_77 (T_M_spread_84 (nx _ _ _ (by omega) (by omega) ?_)), fun h3 => absurd h2 h3⟩), fun h2 => ?_⟩, fun h2 => absurd rfl h2⟩
      · rw [if_pos h2] at hQ; exact hQ
      · rw [if_neg h2] at hQ
        refine ⟨fun h4 => T_M_spread_64 ⟨fun h3 => absurd h3 h2, fun _ => ⟨fun h5 => T_M_spread_84 (nx _ _ _ (by omega) (by omega) ?_), fun h5 => T_M_spread_77 (T_M_spread_84 (nx _ _ _ (by omega) (by omega) ?_))⟩⟩, fun h4 => T_M_spread_57 (T_M_spread_64 ⟨fun h3 => absurd h3 h2, fun _ => ⟨fun h5 => T_M_spread_84 (nx _ _ _ (by omega) (by omega) ?_), fun h5 => T_M_spread_77 (T_M_spread_84 (nx _ _ _ (by omega) (by omega) ?_))⟩⟩)⟩
        · rw [if_neg (by omega), if_neg (by omega)] at hQ; exact hQ
        · rw [if_neg (by omega), if_pos (by omega)] at hQ; exact hQ
        · rw [if_pos (by omega), if_neg (by omega)] at hQ; exact hQ
        · rw [if_pos (by omega), if_pos (by omega)] at hQ; exact hQ
    · rw [if_neg (fun z => (hsel.mp z) (Classical.not_not.mp h))] at hQ
      exact nx a lo hi hlo hhi hQ
theorem r_spread {b : Nat} {z : Int} (hb : b ≤ 1) (hP : 0 ≤ P ∧ P ≤ 6) (h12 : J 98 12 = P) (hd : DOK P M d) (hr : DR P M d e) (hQ : Q [.inl (spF (d 1) (fun j => b01 (¬ bt z j)) 0 P.toNat 0 0 0)] (mem Ls p (jm J b e x) K)) : m_Call i_M_spread [.inr (.inr 98), .inl (b : Int), .inl z] (mem Ls p (jm J b e x) K) Q :=
  E_M_spread (spread_m hb hP h12 hd hr P.toNat 0 0 0 0 (by omega) (by omega) (by omega) hQ)
/-- all people -/
theorem bt_all : ∀ P : Fin 7, ∀ k : Fin 6, k.val < P.val → bt (wr (m_shl 1 (P.val : Int) - 1)) k.val := by decide +kernel
theorem bt_none : ∀ k : Fin 6, ¬ bt 0 k.val := by decide +kernel
theorem sp_all (f : Nat → Int) (hP : 0 ≤ P ∧ P ≤ 6) : spF f (fun j => b01 (bt (wr (m_shl 1 P - 1)) j)) 0 P.toNat 0 0 0 = spF f (fun j => b01 (¬ bt 0 j)) 0 P.toNat 0 0 0 := by
  refine spF_congr _ _ _ _ _ (fun j _ hj => ?_)
  have h1 := bt_all ⟨P.toNat, by omega⟩ ⟨j, by omega⟩ (by show j < P.toNat; omega)
  have h2 := bt_none ⟨j, by omega⟩
  simp only at h1 h2
  rw [show ((P.toNat : Nat) : Int) = P by omega] at h1
  exact ⟨fun _ => b01_one.mpr h2, fun _ => b01_one.mpr h1⟩
def agF (I0 : Nat → Nat → Int) (p : Nat) (P : Int) (y : Int) : Nat → Nat → (Nat → Nat → Int) → Int
  | _, 0, _ => -2
  | k, n + 1, d => if y < spF (d 1) (fun j => b01 (¬ bt 0 j)) 0 P.toNat 0 0 0 then agF I0 p P y (k + 1) n (fMin I0 p d) else (k : Int)
theorem agree_c {M y : Int} : ∀ (n k : Nat) (d L' : Nat → Nat → Int), k + n = 100 → cIn p I I0 M d → d 0 10 + n ≤ 20000 → lkeep L L' → (∀ d' L2, lkeep L L2 → Q [.inl (agF I0 p (I0 p 13) y k n d)] (mem Ls p (dput I0 46 d') L2)) → m_Wp i_C_agree 30 kc ks [(0, .inr (.inr 2)), (1, .inl y), (2, .inl (wr (m_shl 1 (I0 p 13) - 1))), (3, .inl (k : Int))] [] (mem Ls p (dput I0 46 d) L') Q := by
  intro n
  induction n with
  | zero =>
    intro k d L' hk hc hm hL K
    exact T_C_agree_30 ⟨fun _ => K d L' hL, fun h => by omega⟩
  | succ n ih =>
    intro k d L' hk hc hm hL K
    rw [agF] at K
    refine T_C_agree_30 ⟨fun h => by omega, fun _ => q_spread (Or.inr (Or.inr (Or.inl rfl))) hc.2.1.1 hc.2.2.2.2.2 ?_⟩
    rw [sp_all _ hc.2.1.1]
    refine T_C_agree_44 ⟨fun h => ?_, fun h => ?_⟩
    · rw [if_pos h] at K
      refine q_minT hc (by omega) (fun L2 hL2 hc2 => T_C_agree_61 ?_)
      rw [show wr ((k : Int) + 1) = ((k + 1 : Nat) : Int) by rw [wr_of] <;> omega]
      exact ih (k + 1) _ L2 (by omega) hc2 (by rw [fMin_minute]; omega) (fun a ha => by rw [hL2 a ha, hL a ha]) K
    · rw [if_neg h] at K; exact K d L' hL
theorem agree_m {M y : Int} : ∀ (n k : Nat) (d e K' : Nat → Nat → Int) (x : Int), k + n = 100 → mIn p I I0 J M d e → d 0 10 + n ≤ 20000 → KT K K' → (∀ e' x' K2, KT K K2 → Q [.inl (agF I0 p (I0 p 13) y k n d)] (mem Ls p (jm J 1 e' x') K2)) → m_Wp i_M_agree 23 kc ks [(0, .inr (.inr 98)), (1, .inl y), (2, .inl (k : Int))] [] (mem Ls p (jm J 1 e x) K') Q := by
  intro n
  induction n with
  | zero =>
    intro k d e K' x hk hc hm hL K
    exact T_M_agree_23 ⟨fun _ => K e x K' hL, fun h => by omega⟩
  | succ n ih =>
    intro k d e K' x hk hc hm hL K
    rw [agF] at K
    refine T_M_agree_23 ⟨fun h => by omega, fun _ => r_spread (b := 1) (by omega) hc.1.2.1.1 hc.2.1.1.1 hc.1.2.2.2.2.2 hc.2.2.2.2 (T_M_agree_35 ⟨fun h => ?_, fun h => ?_⟩)⟩
    · rw [if_pos h] at K
      refine r_minT2 hc (by omega) (fun e2 x2 K2 hc2 hL2 => T_M_agree_46 ?_)
      rw [show wr ((k : Int) + 1) = ((k + 1 : Nat) : Int) by rw [wr_of] <;> omega]
      exact ih (k + 1) _ e2 K2 x2 (by omega) hc2 (by rw [fMin_minute]; omega) (hL.tr hL2) K
    · rw [if_neg h] at K; exact K e x K' hL
theorem pair_agree {a : Int} (hI : INV p I L) : PAIR Ls i_C_agree i_M_agree [.inl a] (mem Ls p I L) := by
  have ref : ¬ (0 ≤ a ∧ a ≤ 60) → m_Call i_M_agree [.inr (.inr 98), .inl a] (mem Ls p I L) (fun w M2 => w = [.inl (-1)] ∧ OKM Ls M2) := fun h => by
    refine E_M_agree (r_isIn (T_M_agree_12 ⟨fun h2 => absurd (b01_zero.mpr h) h2, fun _ => ⟨rfl, p, _, _, rfl, INV_thrown hI⟩⟩))
  refine E_C_agree hI.1 ⟨fun h => ref (by omega), fun h => ⟨fun h2 => c_start2 hI (fun d hd hc hm => T_C_agree_28 ?_), fun h2 => ref (by omega)⟩⟩
  rw [show I p 13 = flw I p 0 p 13 by rw [hc.2.2.2.2.1]]
  refine agree_c 100 0 d L (by omega) hc (by omega) (fun _ _ => rfl) (fun d' L2 hL => ?_)
  exact E_M_agree (r_isIn (T_M_agree_12 ⟨fun h3 => m_start2 hI kC_trial hd hc (fun e he => T_M_agree_21 (agree_m 100 0 d e L2 _ (by omega) he (by omega) KT.rfl' (fun e' x' K2 hK => ⟨rfl, mT_end hI kC_trial hL hK⟩))), fun h3 => absurd (b01_zero.mp (Classical.not_not.mp h3)) (fun z => z (by omega))⟩))
/-! how many are kept, missed -/
def hmF (f : Nat → Int) (w : Int) : Nat → Nat → Int → Int
  | _, 0, y => y
  | k, n + 1, y => hmF f w (k + 1) n (if f k = w then y + 1 else y)
theorem hmF_range {f : Nat → Int} {w : Int} : ∀ (n k : Nat) (y : Int), y ≤ hmF f w k n y ∧ hmF f w k n y ≤ y + n
  | 0, _, y => by rw [hmF]; omega
  | n + 1, k, y => by
    have := hmF_range (f := f) (w := w) n (k + 1) (if f k = w then y + 1 else y)
    rw [hmF]
    split at this <;> (split <;> omega)
theorem many_c {w : Int} (hc : isDay c) (hM : M ≤ 6) (hd : DOK P M d) : ∀ (n k : Nat) (y : Int), (k : Int) + n = M → 0 ≤ y ∧ y ≤ k → Q [.inl (hmF (d 8) w k n y)] (mem Ls p (dput I c d) L) → m_Wp i_Day_howMany 4 kc ks [(0, .inr (.inr c)), (1, .inl w), (2, .inl y), (3, .inl (k : Int))] [] (mem Ls p (dput I c d) L) Q := by
  have h9 := hd.1.2
  intro n
  induction n with
  | zero =>
    intro k y hk hy hQ
    refine T_Day_howMany_4 hc ?_
    rw [dput_c, h9]
    exact ⟨fun _ => hQ, fun h => by omega⟩
  | succ n ih =>
    intro k y hk hy hQ
    rw [hmF] at hQ
    refine T_Day_howMany_4 hc ?_
    rw [dput_c, h9, Int.toNat_natCast, dput_at (by omega), show wr ((k : Int) + 1) = ((k + 1 : Nat) : Int) by rw [wr_of] <;> omega, wr_of (z := y + 1) (by omega) (by omega)]
    refine ⟨fun h => by omega, fun _ => ⟨by omega, fun h => ?_, fun h => ?_⟩⟩
    · rw [if_neg h] at hQ; exact ih (k + 1) y (by omega) (by omega) hQ
    · rw [if_pos (Classical.not_not.mp h)] at hQ; exact ih (k + 1) _ (by omega) (by omega) hQ
theorem q_howMany {w : Int} (hc : isDay c) (hM : 0 ≤ M ∧ M ≤ 6) (hd : DOK P M d) (hQ : Q [.inl (hmF (d 8) w 0 M.toNat 0)] (mem Ls p (dput I c d) L)) : m_Call i_Day_howMany [.inr (.inr c), .inl w] (mem Ls p (dput I c d) L) Q :=
  E_Day_howMany hc (many_c hc hM.2 hd M.toNat 0 0 (by omega) (by omega) hQ)
theorem are_m {b : Nat} {w : Int} {f : Nat → Int} (hb : b ≤ 1) (hM : M ≤ 6) (h14 : I 98 14 = M) (hf : ∀ m : Nat, (m : Int) < M → I 135 (6 * b + m) = f m) : ∀ (n k : Nat) (y : Int), (k : Int) + n = M → 0 ≤ y ∧ y ≤ k → Q [.inl (hmF f w k n y)] (mem Ls p I K) → m_Wp i_M_are 5 kc ks [(0, .inr (.inr 98)), (1, .inl (b : Int)), (2, .inl w), (3, .inl y), (4, .inl (k : Int))] [] (mem Ls p I K) Q := by
  intro n
  induction n with
  | zero =>
    intro k y hk hy hQ
    refine T_M_are_5 ?_
    rw [h14]
    exact ⟨fun _ => hQ, fun h => by omega⟩
  | succ n ih =>
    intro k y hk hy hQ
    rw [hmF] at hQ
    refine T_M_are_5 ?_
    rw [h14, ix6 hb (by omega), Int.toNat_natCast, Int.toNat_natCast, hf k (by omega), show wr ((k : Int) + 1) = ((k + 1 : Nat) : Int) by rw [wr_of] <;> omega, wr_of (z := y + 1) (by omega) (by omega), wr_of (z := y + 0) (by omega) (by omega)]
    refine ⟨fun h => by omega, fun _ => ⟨by omega, fun h => ?_, fun h => ?_⟩⟩
    · rw [if_neg h] at hQ; rw [Int.add_zero]; exact ih (k + 1) y (by omega) (by omega) hQ
    · rw [if_pos (Classical.not_not.mp h)] at hQ; exact ih (k + 1) _ (by omega) (by omega) hQ
theorem r_are {b : Nat} {w : Int} {f : Nat → Int} (hb : b ≤ 1) (hM : 0 ≤ M ∧ M ≤ 6) (h14 : I 98 14 = M) (hf : ∀ m : Nat, (m : Int) < M → I 135 (6 * b + m) = f m) (hQ : Q [.inl (hmF f w 0 M.toNat 0)] (mem Ls p I K)) : m_Call i_M_are [.inr (.inr 98), .inl (b : Int), .inl w] (mem Ls p I K) Q :=
  E_M_are (are_m hb hM.2 h14 hf M.toNat 0 0 (by omega) (by omega) hQ)
/-- the verdicts of now, while a trial is laid -/
theorem verdict_now (hI : INV p I L) (hk : ∀ a, a < 46 ∨ 67 ≤ a → I1 a = I a) {m : Nat} (hm : (m : Int) < I p 15) : jm (J2 I1) 1 e x 135 (6 * 0 + m) = I 36 m := by
  have h15 := hI.2.1.2.2.1
  have := (hI.2.2.2.1.2.1.2.2.2.2.2.2.2 m hm).2.2.2
  rw [jat_at (by omega) (by show m < 6; omega), dat_at (by omega), Nat.zero_mul, Nat.zero_add] at this
  rw [Nat.mul_zero, Nat.zero_add]
  unfold jm J2
  rw [show 135 = 125 + 10 from rfl, jput1_lo (by show m < 6; omega), mup_other (by omega), plainJ_out (by omega), mup_other (by omega), hk _ (by omega)]
  exact this
theorem verdict_try {M : Int} (hM : M ≤ 6) (h : mIn p I I0 J M d e) {m : Nat} (hm : (m : Int) < M) : jm J 1 e x 135 (6 * 1 + m) = d 8 m := by
  unfold jm; rw [(jS (b := 1) (mup J 98 52 x) e).2.2.2.2.2.2.2.2.2.2.1 m (by omega)]
  exact (h.2.2.2.2.2.2.2.2.2.2.2 m hm).2.2.2
theorem now_dput : dput (flw I p 0) 46 d = dput (dput (flw I p 0) 46 d) 28 (dat I 28) := by
  have : dat (dput (flw I p 0) 46 d) 28 = dat I 28 := dat_congr (fun j hj => kC_trial _ (by omega))
  rw [← this, dput_dat]
theorem pair_ahead {a b c : Int} (hI : INV p I L) : PAIR Ls i_C_ahead i_M_ahead [.inl a, .inl b, .inl c] (mem Ls p I L) := by
  have hp := hI.1
  have h6 := hI.2.1.1
  have h15 := hI.2.1.2.2.1
  have h12 : I 98 12 = I p 13 := hI.2.2.1.1.1
  have h14 : I 98 14 = I p 15 := hI.2.2.1.1.2.2.1
  have ref : ¬ (0 ≤ a ∧ a ≤ 200) ∨ ¬ (0 ≤ b ∧ b ≤ 3) ∨ (b = 2 ∧ ¬ (0 ≤ c ∧ c < I p 13)) → m_Call i_M_ahead [.inr (.inr 98), .inl a, .inl b, .inl c] (mem Ls p I L) (fun w M2 => w = [.inl (-2147483648)] ∧ OKM Ls M2) := fun h => by
    refine E_M_ahead (r_isIn (T_M_ahead_13 ⟨fun _ => ⟨rfl, p, _, _, rfl, INV_thrown hI⟩, fun h1 => r_isIn (T_M_ahead_22 ⟨fun _ => ⟨rfl, p, _, _, rfl, INV_thrown hI⟩, fun h2 => ⟨fun h3 => ?_, fun h3 => r_isMan ?_⟩⟩)⟩))
    · rw [b01_zero] at h1 h2; omega
    · rw [mup_ne (by omega), h12]
      rw [b01_zero] at h1 h2
      exact T_M_ahead_35 ⟨fun h4 => absurd (b01_zero.mpr (by omega)) h4, fun _ => ⟨rfl, p, _, _, rfl, INV_thrown hI⟩⟩
  have main : (0 ≤ a ∧ a ≤ 200) → (0 ≤ b ∧ b ≤ 3) → (b = 2 → 0 ≤ c ∧ c < I p 13) → m_Call i_C_startTrial [.inr (.inr 2)] (mem Ls p I L) (fun v M' => m_Wp i_C_ahead 40 0 0 [(0, .inr (.inr 2)), (1, .inl a), (2, .inl b), (3, .inl c)] (v ++ []) M' (fun v M1 => m_Call i_M_ahead [.inr (.inr 98), .inl a, .inl b, .inl c] M1 (fun w M2 => w = v ∧ OKM Ls M2))) := fun ha hb hc' => by
    refine c_start2 hI (fun d hd hc hm => T_C_ahead_40 (q_passT (N := a) hc (by omega) (by omega) (fun L2 hL => T_C_ahead_45 ?_)))
    have hcm := cIn_mins hc a.toNat
    have hP0 : (flw I p 0) p 13 = I p 13 := by rw [hc.2.2.2.2.1]
    -- the reference
    have mm : ∀ v, (∀ e x K', mIn p I (flw I p 0) (J2 (dput (flw I p 0) 46 (mins (flw I p 0) p a.toNat d))) (I p 15) (mins (flw I p 0) p a.toNat d) e → KT L2 K' → m_Wp i_M_ahead 51 0 0 [(0, .inr (.inr 98)), (1, .inl a), (2, .inl b), (3, .inl c)] [] (mem Ls p (jm (J2 (dput (flw I p 0) 46 (mins (flw I p 0) p a.toNat d))) 1 e x) K') (fun w M2 => w = v ∧ OKM Ls M2)) → m_Call i_M_ahead [.inr (.inr 98), .inl a, .inl b, .inl c] (mem Ls p (dput (flw I p 0) 46 (mins (flw I p 0) p a.toNat d)) L2) (fun w M2 => w = v ∧ OKM Ls M2) := fun v hv => by
      have go : m_Call i_M_layTried [.inr (.inr 98)] (mem Ls p (mup (dput (flw I p 0) 46 (mins (flw I p 0) p a.toNat d)) 98 2 0) L2) (fun v' M' => m_Wp i_M_ahead 46 0 0 [(0, .inr (.inr 98)), (1, .inl a), (2, .inl b), (3, .inl c)] (v' ++ []) M' (fun w M2 => w = v ∧ OKM Ls M2)) :=
        m_start2 hI kC_trial hd hc (fun e he => T_M_ahead_46 (r_goT (N := a) he (by omega) (by omega) (fun e' x' K' he' hK => hv e' x' K' he' hK)))
      refine E_M_ahead (r_isIn (T_M_ahead_13 ⟨fun h1 => absurd (b01_zero.mp h1) (fun z => z ha), fun h1 => r_isIn (T_M_ahead_22 ⟨fun h2 => absurd (b01_zero.mp h2) (fun z => z hb), fun h2 => ⟨fun h3 => go, fun h3 => r_isMan ?_⟩⟩)⟩))
      rw [mup_ne (by omega), kC_trial 98 (by omega), h12]
      exact T_M_ahead_35 ⟨fun _ => go, fun h4 => absurd (b01_zero.mp (Classical.not_not.mp h4)) (fun z => z (hc' (by omega)))⟩
    have r1 : ∀ w e x K', mIn p I (flw I p 0) (J2 (dput (flw I p 0) 46 (mins (flw I p 0) p a.toNat d))) (I p 15) (mins (flw I p 0) p a.toNat d) e → KT L2 K' → ∀ Q2 : List mV → mM → Prop, Q2 [.inl (hmF (mins (flw I p 0) p a.toNat d 8) w 0 (I p 15).toNat 0)] (mem Ls p (jm (J2 (dput (flw I p 0) 46 (mins (flw I p 0) p a.toNat d))) 1 e x) K') → m_Call i_M_are [.inr (.inr 98), .inl 1, .inl w] (mem Ls p (jm (J2 (dput (flw I p 0) 46 (mins (flw I p 0) p a.toNat d))) 1 e x) K') Q2 := fun w e x K' he hK Q2 hq =>
      r_are (b := 1) (by omega) h15 (by rw [jm_98 (by omega), he.2.1.1.2.2.1]; exact he.1.2.2.2.1) (fun m hm2 => verdict_try h15.2 he hm2) hq
    have r0 : ∀ w e x K', mIn p I (flw I p 0) (J2 (dput (flw I p 0) 46 (mins (flw I p 0) p a.toNat d))) (I p 15) (mins (flw I p 0) p a.toNat d) e → ∀ Q2 : List mV → mM → Prop, Q2 [.inl (hmF (I 36) w 0 (I p 15).toNat 0)] (mem Ls p (jm (J2 (dput (flw I p 0) 46 (mins (flw I p 0) p a.toNat d))) 1 e x) K') → m_Call i_M_are [.inr (.inr 98), .inl 0, .inl w] (mem Ls p (jm (J2 (dput (flw I p 0) 46 (mins (flw I p 0) p a.toNat d))) 1 e x) K') Q2 := fun w e x K' he Q2 hq =>
      r_are (b := 0) (by omega) h15 (by rw [jm_98 (by omega), he.2.1.1.2.2.1]; exact he.1.2.2.2.1) (fun m hm2 => verdict_now hI kC_trial hm2) hq
    have c1 : ∀ (w : Int) (Q2 : List mV → mM → Prop), Q2 [.inl (hmF (mins (flw I p 0) p a.toNat d 8) w 0 (I p 15).toNat 0)] (mem Ls p (dput (flw I p 0) 46 (mins (flw I p 0) p a.toNat d)) L2) → m_Call i_Day_howMany [.inr (.inr 46), .inl w] (mem Ls p (dput (flw I p 0) 46 (mins (flw I p 0) p a.toNat d)) L2) Q2 := fun w Q2 hq =>
      q_howMany (Or.inr (Or.inr (Or.inl rfl))) h15 hcm.2.2.2.2.2 hq
    have c0 : ∀ (w : Int) (Q2 : List mV → mM → Prop), Q2 [.inl (hmF (I 36) w 0 (I p 15).toNat 0)] (mem Ls p (dput (flw I p 0) 46 (mins (flw I p 0) p a.toNat d)) L2) → m_Call i_Day_howMany [.inr (.inr 28), .inl w] (mem Ls p (dput (flw I p 0) 46 (mins (flw I p 0) p a.toNat d)) L2) Q2 := fun w Q2 hq => by
      rw [now_dput] at hq ⊢
      exact q_howMany (c := 28) (Or.inl rfl) h15 hI.2.2.2.1.1 (by rw [dat_at (by omega)]; exact hq)
    have e46 : dput (flw I p 0) 46 (mins (flw I p 0) p a.toNat d) 46 = mins (flw I p 0) p a.toNat d 0 := dput_c
    have e47 : dput (flw I p 0) 46 (mins (flw I p 0) p a.toNat d) 47 = mins (flw I p 0) p a.toNat d 1 := dput_at (c := 46) (j := 1) (by omega)
    refine ⟨fun hb0 => c1 1 _ (T_C_ahead_80 (c0 1 _ (T_C_ahead_88 (mm _ (fun e x K' he hK => T_M_ahead_51 ⟨fun _ => r1 1 e x K' he hK _ (T_M_ahead_86 (r0 1 e x K' he _ (T_M_ahead_92 ⟨rfl, mT_end hI kC_trial hL hK⟩))), fun z => absurd hb0 z⟩))))), fun hb0 => ⟨fun hb1 => c1 2 _ (T_C_ahead_98 (c0 2 _ (T_C_ahead_106 (mm _ (fun e x K' he hK => T_M_ahead_51 ⟨fun z => absurd z hb0, fun _ => ⟨fun _ => r1 2 e x K' he hK _ (T_M_ahead_100 (r0 2 e x K' he _ (T_M_ahead_106 ⟨rfl, mT_end hI kC_trial hL hK⟩))), fun z => absurd hb1 z⟩⟩))))), fun hb1 => ⟨fun hb2 => ⟨by have := hc' hb2; omega, ?_⟩, fun hb2 => ?_⟩⟩⟩
    · have hcc := hc' hb2
      rw [e47]
      refine mm _ (fun e x K' he hK => T_M_ahead_51 ⟨fun z => absurd z hb0, fun _ => ⟨fun z => absurd z hb1, fun _ => ⟨fun _ => ?_, fun z => absurd hb2 z⟩⟩⟩)
      have e127 : jm (J2 (dput (flw I p 0) 46 (mins (flw I p 0) p a.toNat d))) 1 e x 127 (6 + c.toNat) = mins (flw I p 0) p a.toNat d 1 c.toNat := by
        unfold jm; rw [show 6 + c.toNat = 6 * 1 + c.toNat by omega, (jS (b := 1) _ e).2.2.1 c.toNat (by omega)]
        exact (he.2.2.2.2.2.2.2.2.2.1 c.toNat (by rw [hP0]; omega)).1
      rw [wr_of (z := 6 + c) (by omega) (by omega), show (6 + c).toNat = 6 + c.toNat by omega, e127]
      exact ⟨by omega, rfl, mT_end hI kC_trial hL hK⟩
    · rw [e46]
      refine mm _ (fun e x K' he hK => T_M_ahead_51 ⟨fun z => absurd z hb0, fun _ => ⟨fun z => absurd z hb1, fun _ => ⟨fun z => absurd z hb2, fun _ => ⟨by omega, ?_, mT_end hI kC_trial hL hK⟩⟩⟩⟩)
      have e130 : jm (J2 (dput (flw I p 0) 46 (mins (flw I p 0) p a.toNat d))) 1 e x 130 1 = mins (flw I p 0) p a.toNat d 0 11 := by
        unfold jm; rw [(jS (b := 1) _ e).2.2.2.2.2.1]; exact he.2.2.2.2.2.1
      rw [e130]
  refine E_C_ahead ⟨fun h => ref (by omega), fun h => ⟨fun h2 => ref (by omega), fun h2 => ⟨fun h3 => ref (by omega), fun h3 => ⟨fun h4 => ref (by omega), fun h4 => ⟨fun h5 => main (by omega) (by omega) (fun z => absurd z h5), fun h5 => q_isPerson hp (T_C_ahead_30 ⟨fun h7 => main (by omega) (by omega) (fun _ => ?_), fun h7 => ref (Or.inr (Or.inr ⟨by omega, b01_zero.mp (Classical.not_not.mp h7)⟩))⟩)⟩⟩⟩⟩⟩
  by_cases hh : 0 ≤ c ∧ c < I p 13
  · exact hh
  · exact absurd (b01_zero.mpr hh) h7
end Q4
