/-! ===== phase 2: undo ===== -/
def rowInP (f : Nat → Int) (k n : Nat) : Nat → Int := fun z => if k < z ∧ z ≤ n then f (z - 1) else f z
/-- what the reference takes back -/
def TKD (X X2 : Nat → Nat → Int) (f : Nat → Int) (i : Nat) : Prop := (∀ b, b ≠ 125 → b ≠ 126 → b ≠ 127 → b ≠ 133 → b ≠ 129 → b ≠ 130 → b ≠ 131 → b ≠ 132 → X2 b = X b) ∧ (∀ k, k < 6 → X2 125 k = f (i + k) ∧ X2 126 k = f (i + 6 + k) ∧ X2 127 k = f (i + 12 + k) ∧ X2 133 k = f (i + 18 + k)) ∧ (∀ k, k < 20 → X2 129 k = f (i + 24 + k)) ∧ X2 130 0 = f (i + 44) ∧ X2 131 0 = f (i + 45) ∧ X2 132 0 = f (i + 46)
section W10
variable {Ls p kc ks : Nat} {P M : Int} {I I0 I1 I2 J K L L1 L2 K2 X X1 X2 Y Z d d' e : Nat → Nat → Int} {Q : List mV → mM → Prop} {x : Int}
theorem takeB_loop_140 {i : Nat} (hi : i + 47 ≤ 940) (hQ : ∀ X2, TKD X X2 (X 140) i → Q [] (mem Ls p X2 L)) : ∀ (t k : Nat) (Y : Nat → Nat → Int), k + t = 20 → (∀ b, b ≠ 125 → b ≠ 126 → b ≠ 127 → b ≠ 133 → b ≠ 129 → Y b = X b) → (∀ k, k < 6 → Y 125 k = X 140 (i + k) ∧ Y 126 k = X 140 (i + 6 + k) ∧ Y 127 k = X 140 (i + 12 + k) ∧ Y 133 k = X 140 (i + 18 + k)) → (∀ j, j < k → Y 129 j = X 140 (i + 24 + j)) → m_Wp i_M_take 69 kc ks [(0, .inr (.inr 98)), (1, .inr (.inr 140)), (2, .inl (i : Int)), (3, .inl (k : Int))] [] (mem Ls p Y L) Q := by
  intro t
  induction t with
  | zero =>
    intro k Y hk h1 h2 h3
    refine T_M_take_69_r140 ⟨fun _ => ?_, fun h => by omega⟩
    rw [wr_of (z := (i : Int) + 44) (by omega) (by omega), wr_of (z := (i : Int) + 45) (by omega) (by omega), wr_of (z := (i : Int) + 46) (by omega) (by omega), show ((i : Int) + 44).toNat = i + 44 by omega, show ((i : Int) + 45).toNat = i + 45 by omega, show ((i : Int) + 46).toNat = i + 46 by omega, h1 140 (by omega) (by omega) (by omega) (by omega) (by omega)]
    refine ⟨by omega, by omega, by omega, by omega, by omega, by omega, hQ _ ⟨fun b b1 b2 b3 b4 b5 b6 b7 b8 => ?_, fun j hj => ?_, fun j hj => ?_, ?_, ?_, ?_⟩⟩
    · rw [mup_other b8, mup_other b7, mup_other b6]; exact h1 b b1 b2 b3 b4 b5
    · rw [mup_other (by omega), mup_other (by omega), mup_other (by omega), mup_other (by omega), mup_other (by omega), mup_other (by omega), mup_other (by omega), mup_other (by omega), mup_other (by omega), mup_other (by omega), mup_other (by omega), mup_other (by omega)]; exact h2 j hj
    · rw [mup_other (by omega), mup_other (by omega), mup_other (by omega)]; exact h3 j (by omega)
    · rw [mup_ne (by omega), mup_ne (by omega), mup_eq rfl rfl]
    · rw [mup_ne (by omega), mup_eq rfl rfl]
    · rw [mup_eq rfl rfl]
  | succ t ih =>
    intro k Y hk h1 h2 h3
    refine T_M_take_69_r140 ⟨fun h => by omega, fun _ => ?_⟩
    rw [wr_of (z := (i : Int) + 24) (by omega) (by omega), wr_of (z := (i : Int) + 24 + (k : Int)) (by omega) (by omega), wr_of (z := (k : Int) + 1) (by omega) (by omega), show ((i : Int) + 24 + (k : Int)).toNat = i + 24 + k by omega, Int.toNat_natCast, h1 140 (by omega) (by omega) (by omega) (by omega) (by omega)]
    refine ⟨by omega, by omega, ih (k + 1) _ (by omega) (fun b b1 b2 b3 b4 b5 => by rw [mup_other b5]; exact h1 b b1 b2 b3 b4 b5) (fun j hj => by rw [mup_other (by omega), mup_other (by omega), mup_other (by omega), mup_other (by omega)]; exact h2 j hj) (fun j hj => ?_)⟩
    by_cases hjk : j = k
    · subst hjk; rw [mup_eq rfl rfl]
    · rw [mup_ne (Or.inr hjk)]; exact h3 j (by omega)
theorem takeA_loop_140 {i : Nat} (hi : i + 47 ≤ 940) (hQ : ∀ X2, TKD X X2 (X 140) i → Q [] (mem Ls p X2 L)) : ∀ (t k : Nat) (Y : Nat → Nat → Int), k + t = 6 → (∀ b, b ≠ 125 → b ≠ 126 → b ≠ 127 → b ≠ 133 → Y b = X b) → (∀ j, j < k → Y 125 j = X 140 (i + j) ∧ Y 126 j = X 140 (i + 6 + j) ∧ Y 127 j = X 140 (i + 12 + j) ∧ Y 133 j = X 140 (i + 18 + j)) → m_Wp i_M_take 2 kc ks [(0, .inr (.inr 98)), (1, .inr (.inr 140)), (2, .inl (i : Int)), (3, .inl (k : Int))] [] (mem Ls p Y L) Q := by
  intro t
  induction t with
  | zero =>
    intro k Y hk h1 h2
    refine T_M_take_2_r140 ⟨fun _ => ?_, fun h => by omega⟩
    exact takeB_loop_140 hi hQ 20 0 Y (by omega) (fun b b1 b2 b3 b4 _ => h1 b b1 b2 b3 b4) (fun j hj => h2 j (by omega)) (fun j hj => by omega)
  | succ t ih =>
    intro k Y hk h1 h2
    refine T_M_take_2_r140 ⟨fun h => by omega, fun _ => ?_⟩
    rw [wr_of (z := (i : Int) + (k : Int)) (by omega) (by omega), wr_of (z := (i : Int) + 6) (by omega) (by omega), wr_of (z := (i : Int) + 6 + (k : Int)) (by omega) (by omega), wr_of (z := (i : Int) + 12) (by omega) (by omega), wr_of (z := (i : Int) + 12 + (k : Int)) (by omega) (by omega), wr_of (z := (i : Int) + 18) (by omega) (by omega), wr_of (z := (i : Int) + 18 + (k : Int)) (by omega) (by omega), wr_of (z := (k : Int) + 1) (by omega) (by omega), show ((i : Int) + (k : Int)).toNat = i + k by omega, show ((i : Int) + 6 + (k : Int)).toNat = i + 6 + k by omega, show ((i : Int) + 12 + (k : Int)).toNat = i + 12 + k by omega, show ((i : Int) + 18 + (k : Int)).toNat = i + 18 + k by omega, Int.toNat_natCast, h1 140 (by omega) (by omega) (by omega) (by omega)]
    refine ⟨by omega, by omega, by omega, by omega, by omega, by omega, by omega, by omega, ih (k + 1) _ (by omega) (fun b b1 b2 b3 b4 => by rw [mup_other b4, mup_other b3, mup_other b2, mup_other b1]; exact h1 b b1 b2 b3 b4) (fun j hj => ?_)⟩
    by_cases hjk : j = k
    · subst hjk; simp [mup_app]
    · have := h2 j (by omega); simp [mup_app, hjk, this]
theorem r_take_140 {i : Nat} (hi : i + 47 ≤ 940) (hQ : ∀ X2, TKD X X2 (X 140) i → Q [] (mem Ls p X2 L)) : m_Call i_M_take [.inr (.inr 98), .inr (.inr 140), .inl (i : Int)] (mem Ls p X L) Q :=
  E_M_take_r140 (takeA_loop_140 hi hQ 6 0 X (by omega) (fun _ _ _ _ _ => rfl) (fun j hj => by omega))
theorem takeB_loop_141 {i : Nat} (hi : i + 47 ≤ 47) (hQ : ∀ X2, TKD X X2 (X 141) i → Q [] (mem Ls p X2 L)) : ∀ (t k : Nat) (Y : Nat → Nat → Int), k + t = 20 → (∀ b, b ≠ 125 → b ≠ 126 → b ≠ 127 → b ≠ 133 → b ≠ 129 → Y b = X b) → (∀ k, k < 6 → Y 125 k = X 141 (i + k) ∧ Y 126 k = X 141 (i + 6 + k) ∧ Y 127 k = X 141 (i + 12 + k) ∧ Y 133 k = X 141 (i + 18 + k)) → (∀ j, j < k → Y 129 j = X 141 (i + 24 + j)) → m_Wp i_M_take 69 kc ks [(0, .inr (.inr 98)), (1, .inr (.inr 141)), (2, .inl (i : Int)), (3, .inl (k : Int))] [] (mem Ls p Y L) Q := by
  intro t
  induction t with
  | zero =>
    intro k Y hk h1 h2 h3
    refine T_M_take_69_r141 ⟨fun _ => ?_, fun h => by omega⟩
    rw [wr_of (z := (i : Int) + 44) (by omega) (by omega), wr_of (z := (i : Int) + 45) (by omega) (by omega), wr_of (z := (i : Int) + 46) (by omega) (by omega), show ((i : Int) + 44).toNat = i + 44 by omega, show ((i : Int) + 45).toNat = i + 45 by omega, show ((i : Int) + 46).toNat = i + 46 by omega, h1 141 (by omega) (by omega) (by omega) (by omega) (by omega)]
    refine ⟨by omega, by omega, by omega, by omega, by omega, by omega, hQ _ ⟨fun b b1 b2 b3 b4 b5 b6 b7 b8 => ?_, fun j hj => ?_, fun j hj => ?_, ?_, ?_, ?_⟩⟩
    · rw [mup_other b8, mup_other b7, mup_other b6]; exact h1 b b1 b2 b3 b4 b5
    · rw [mup_other (by omega), mup_other (by omega), mup_other (by omega), mup_other (by omega), mup_other (by omega), mup_other (by omega), mup_other (by omega), mup_other (by omega), mup_other (by omega), mup_other (by omega), mup_other (by omega), mup_other (by omega)]; exact h2 j hj
    · rw [mup_other (by omega), mup_other (by omega), mup_other (by omega)]; exact h3 j (by omega)
    · rw [mup_ne (by omega), mup_ne (by omega), mup_eq rfl rfl]
    · rw [mup_ne (by omega), mup_eq rfl rfl]
    · rw [mup_eq rfl rfl]
  | succ t ih =>
    intro k Y hk h1 h2 h3
    refine T_M_take_69_r141 ⟨fun h => by omega, fun _ => ?_⟩
    rw [wr_of (z := (i : Int) + 24) (by omega) (by omega), wr_of (z := (i : Int) + 24 + (k : Int)) (by omega) (by omega), wr_of (z := (k : Int) + 1) (by omega) (by omega), show ((i : Int) + 24 + (k : Int)).toNat = i + 24 + k by omega, Int.toNat_natCast, h1 141 (by omega) (by omega) (by omega) (by omega) (by omega)]
    refine ⟨by omega, by omega, ih (k + 1) _ (by omega) (fun b b1 b2 b3 b4 b5 => by rw [mup_other b5]; exact h1 b b1 b2 b3 b4 b5) (fun j hj => by rw [mup_other (by omega), mup_other (by omega), mup_other (by omega), mup_other (by omega)]; exact h2 j hj) (fun j hj => ?_)⟩
    by_cases hjk : j = k
    · subst hjk; rw [mup_eq rfl rfl]
    · rw [mup_ne (Or.inr hjk)]; exact h3 j (by omega)
theorem takeA_loop_141 {i : Nat} (hi : i + 47 ≤ 47) (hQ : ∀ X2, TKD X X2 (X 141) i → Q [] (mem Ls p X2 L)) : ∀ (t k : Nat) (Y : Nat → Nat → Int), k + t = 6 → (∀ b, b ≠ 125 → b ≠ 126 → b ≠ 127 → b ≠ 133 → Y b = X b) → (∀ j, j < k → Y 125 j = X 141 (i + j) ∧ Y 126 j = X 141 (i + 6 + j) ∧ Y 127 j = X 141 (i + 12 + j) ∧ Y 133 j = X 141 (i + 18 + j)) → m_Wp i_M_take 2 kc ks [(0, .inr (.inr 98)), (1, .inr (.inr 141)), (2, .inl (i : Int)), (3, .inl (k : Int))] [] (mem Ls p Y L) Q := by
  intro t
  induction t with
  | zero =>
    intro k Y hk h1 h2
    refine T_M_take_2_r141 ⟨fun _ => ?_, fun h => by omega⟩
    exact takeB_loop_141 hi hQ 20 0 Y (by omega) (fun b b1 b2 b3 b4 _ => h1 b b1 b2 b3 b4) (fun j hj => h2 j (by omega)) (fun j hj => by omega)
  | succ t ih =>
    intro k Y hk h1 h2
    refine T_M_take_2_r141 ⟨fun h => by omega, fun _ => ?_⟩
    rw [wr_of (z := (i : Int) + (k : Int)) (by omega) (by omega), wr_of (z := (i : Int) + 6) (by omega) (by omega), wr_of (z := (i : Int) + 6 + (k : Int)) (by omega) (by omega), wr_of (z := (i : Int) + 12) (by omega) (by omega), wr_of (z := (i : Int) + 12 + (k : Int)) (by omega) (by omega), wr_of (z := (i : Int) + 18) (by omega) (by omega), wr_of (z := (i : Int) + 18 + (k : Int)) (by omega) (by omega), wr_of (z := (k : Int) + 1) (by omega) (by omega), show ((i : Int) + (k : Int)).toNat = i + k by omega, show ((i : Int) + 6 + (k : Int)).toNat = i + 6 + k by omega, show ((i : Int) + 12 + (k : Int)).toNat = i + 12 + k by omega, show ((i : Int) + 18 + (k : Int)).toNat = i + 18 + k by omega, Int.toNat_natCast, h1 141 (by omega) (by omega) (by omega) (by omega)]
    refine ⟨by omega, by omega, by omega, by omega, by omega, by omega, by omega, by omega, ih (k + 1) _ (by omega) (fun b b1 b2 b3 b4 => by rw [mup_other b4, mup_other b3, mup_other b2, mup_other b1]; exact h1 b b1 b2 b3 b4) (fun j hj => ?_)⟩
    by_cases hjk : j = k
    · subst hjk; simp [mup_app]
    · have := h2 j (by omega); simp [mup_app, hjk, this]
theorem r_take_141 {i : Nat} (hi : i + 47 ≤ 47) (hQ : ∀ X2, TKD X X2 (X 141) i → Q [] (mem Ls p X2 L)) : m_Call i_M_take [.inr (.inr 98), .inr (.inr 141), .inl (i : Int)] (mem Ls p X L) Q :=
  E_M_take_r141 (takeA_loop_141 hi hQ 6 0 X (by omega) (fun _ _ _ _ _ => rfl) (fun j hj => by omega))
theorem putIn_loop {a n : Nat} {w : Int} (hn : d 0 11 = (n : Int)) (h20 : n < 20) (hQ : Q [] (mem Ls p (dput I 28 (dPut d a w)) L)) : ∀ (t k : Nat), a + t = k → k ≤ n → m_Wp i_Day_putIn 27 kc ks [(0, .inr (.inr 28)), (1, .inl (a : Int)), (2, .inl w), (3, .inl (k : Int))] [] (mem Ls p (dput I 28 (rup d 4 (rowInP (d 4) k n))) L) Q := by
  intro t
  induction t with
  | zero =>
    intro k hk hkn
    have : k = a := by omega
    subst this
    refine T_Day_putIn_27 (Or.inl rfl) ⟨fun _ => ⟨by omega, ?_⟩, fun h => by omega⟩
    rw [Int.toNat_natCast, show dput I 28 (rup d 4 (rowInP (d 4) k n)) 28 = rup d 4 (rowInP (d 4) k n) 0 from dput_c, rup_other (by omega), hn, wr_of (z := (n : Int) + 1) (by omega) (by omega), (dW (c := 28) I).2.2.2.2.1, (dW (c := 28) I).1, rup_mup]
    rw [show mup (rup d 4 (fun z => if z = k then w else rowInP (d 4) k n z)) 0 11 ((n : Int) + 1) = dPut d k w by
      unfold dPut
      rw [hn, Int.toNat_natCast]
      congr 1]
    exact hQ
  | succ t ih =>
    intro k hk hkn
    refine T_Day_putIn_27 (Or.inl rfl) ⟨fun h => by omega, fun _ => ?_⟩
    rw [wr_of (z := (k : Int) - 1) (by omega) (by omega), wr_of (z := (k : Int) + -1) (by omega) (by omega), Int.toNat_natCast, show ((k : Int) - 1).toNat = k - 1 by omega, dput_at (by omega), rup_self, (dW (c := 28) I).2.2.2.2.1, rup_mup, show (fun z => if z = k then rowInP (d 4) k n (k - 1) else rowInP (d 4) k n z) = rowInP (d 4) (k - 1) n by
      funext z
      unfold rowInP
      by_cases h : z = k
      · subst h; rw [if_pos rfl, if_neg (by omega), if_pos (by omega)]
      · rw [if_neg h]
        by_cases h2 : k < z ∧ z ≤ n
        · rw [if_pos h2, if_pos (by omega)]
        · rw [if_neg h2, if_neg (by omega)]]
    refine ⟨by omega, by omega, ?_⟩
    rw [show (k : Int) + -1 = ((k - 1 : Nat) : Int) by omega]
    exact ih (k - 1) (by omega) (by omega)
theorem q_putIn {w : Int} {a n : Nat} (hn : d 0 11 = (n : Int)) (h20 : n < 20) (ha : a ≤ n) (hQ : Q [] (mem Ls p (dput I 28 (dPut d a w)) L)) : m_Call i_Day_putIn [.inr (.inr 28), .inl (a : Int), .inl w] (mem Ls p (dput I 28 d) L) Q := by
  have h := putIn_loop (kc := 0) (ks := 0) (I := I) (Ls := Ls) (p := p) (L := L) (Q := Q) (w := w) (a := a) hn h20 hQ (n - a) n (by omega) (by omega)
  rw [show rowInP (d 4) n n = d 4 by funext z; unfold rowInP; rw [if_neg (by omega)], rup_id] at h
  refine E_Day_putIn (Or.inl rfl) ?_
  rw [show dput I 28 d 28 = d 0 from dput_c, hn]
  exact ⟨fun z => by omega, fun _ => ⟨fun z => by omega, fun _ => ⟨fun _ => h, fun z => by omega⟩⟩⟩
theorem und_keep {a w o : Int} : (∀ j, j = 3 ∨ j = 6 ∨ j = 7 ∨ j = 8 ∨ 9 ≤ j → und d a w o j = d j) ∧ (∀ k, k ≠ 11 → k ≠ 12 → k ≠ 13 → und d a w o 0 k = d 0 k) := by
  unfold und dOut dPut
  refine ⟨fun j hj => ?_, fun k h1 h2 h3 => ?_⟩
  · split
    · rw [mup_other (by omega), mup_other (by omega), rup_other (by omega)]
    · split
      · rw [mup_other (by omega), rup_other (by omega)]
      · split
        · rw [mup_other (by omega), mup_other (by omega)]
        · split
          · rw [mup_other (by omega)]
          · rw [mup_other (by omega)]
  · split
    · rw [mup_ne (by omega), mup_ne (by omega), rup_other (by omega)]
    · split
      · rw [mup_ne (by omega), rup_other (by omega)]
      · split
        · rw [mup_ne (by omega), mup_ne (by omega)]
        · split
          · rw [mup_ne (by omega)]
          · rw [mup_ne (by omega)]
/-- the class undoes -/
theorem q_undo {n : Nat} (hP : P ≤ 6) (hM : M ≤ 6) (hn : I 94 3 = ((n + 1 : Nat) : Int)) (h20 : n < 20) (hd : DOK P M (dat I 28)) (hu : uOK P M (dat I 28) (I 95 n) (I 96 n) (I 97 n)) (hQ : Q [.inl (n : Int)] (mem Ls p (mup (dput I 28 (und (dat I 28) (I 95 n) (I 96 n) (I 97 n))) 94 3 (n : Int)) L)) : m_Call i_C_undo [.inr (.inr 2)] (mem Ls p I L) Q := by
  refine E_C_undo ?_
  rw [hn, wr_of (z := ((n + 1 : Nat) : Int) - 1) (by omega) (by omega), show ((n + 1 : Nat) : Int) - 1 = (n : Int) by omega, Int.toNat_natCast]
  have hmem : mup I 94 3 (n : Int) = dput (mup I 94 3 (n : Int)) 28 (dat I 28) := by
    have := dput_dat (mup I 94 3 (n : Int)) 28
    rw [show dat (mup I 94 3 (n : Int)) 28 = dat I 28 from dat_congr (fun j hj => mup_other (by omega))] at this
    exact this.symm
  have hout : ∀ e : Nat → Nat → Int, mup (dput I 28 e) 94 3 (n : Int) = dput (mup I 94 3 (n : Int)) 28 e := fun e => by
    funext a
    by_cases ha : 28 ≤ a ∧ a < 37
    · rw [mup_other (by omega)]; unfold dput; rw [if_pos (by omega), if_pos (by omega)]
    · rw [dput_out (by omega)]
      by_cases h94 : a = 94
      · subst h94; funext k; rw [mup_app, mup_app, dput_out (by omega)]
      · rw [mup_other h94, mup_other h94, dput_out (by omega)]
  rw [hout] at hQ
  have h94 : ∀ e : Nat → Nat → Int, dput (mup I 94 3 (n : Int)) 28 e 94 3 = (n : Int) := fun e => by rw [dput_out (by omega), mup_eq rfl rfl]
  have hn11 := hd.2.2.1
  refine ⟨fun _ => ⟨by omega, by omega, by omega, fun a0 => ?_, fun a0 => ⟨fun a1 => ?_, fun a1 => ⟨fun a2 => ?_, fun a2 => ⟨fun a3 => ?_, fun a3 => ?_⟩⟩⟩⟩, fun h => by omega⟩
  · have hu0 : (0 ≤ I 96 n ∧ I 96 n < P) ∧ dPl (dat I 28) (I 96 n) ≠ -1 := by unfold uOK at hu; rw [a0] at hu; omega
    unfold und at hQ; rw [if_pos a0] at hQ
    obtain ⟨k, hk, _, hk2, hk3⟩ := pOf_some (r := dPl (dat I 28) (I 96 n)) rfl hu0.2
    rw [hmem]
    refine q_placeOf (Or.inl rfl) hn11 (T_C_undo_116 (q_takeOut (Or.inl rfl) hn11 (by omega) (T_C_undo_119 ⟨by omega, ?_⟩)))
    rw [h94, show (30 : Nat) = 28 + 2 from rfl, (dW (c := 28) _).2.2.1]
    exact hQ
  · have hu1 : (0 ≤ I 96 n ∧ I 96 n < P) ∧ (0 ≤ I 97 n ∧ I 97 n ≤ dat I 28 0 11) ∧ dat I 28 0 11 < 20 := by unfold uOK at hu; omega
    unfold und at hQ; rw [if_neg a0, if_pos a1] at hQ
    rw [hmem, show I 97 n = (((I 97 n).toNat : Nat) : Int) by omega]
    refine q_putIn (n := (dat I 28 0 11).toNat) (by omega) (by omega) (by omega) (T_C_undo_141 ?_)
    rw [h94]
    exact hQ
  · unfold und at hQ; rw [if_neg a0, if_neg a1, if_pos a2] at hQ
    rw [hmem, (dW (c := 28) _).1, (dW (c := 28) _).1]
    exact hQ
  · have hu3 : 0 ≤ I 96 n ∧ I 96 n < P := by unfold uOK at hu; omega
    unfold und at hQ; rw [if_neg a0, if_neg a1, if_neg a2, if_pos a3] at hQ
    rw [hmem, show (29 : Nat) = 28 + 1 from rfl, (dW (c := 28) _).2.1]
    exact ⟨by omega, hQ⟩
  · have hu4 : 0 ≤ I 96 n ∧ I 96 n < M := by unfold uOK at hu; omega
    unfold und at hQ; rw [if_neg a0, if_neg a1, if_neg a2, if_neg a3] at hQ
    rw [hmem, show (33 : Nat) = 28 + 5 from rfl, (dW (c := 28) _).2.2.2.2.2.1]
    exact ⟨by omega, hQ⟩
theorem pair_undo (hI : INV p I L) : PAIR Ls i_C_undo i_M_undo [] (mem Ls p I L) := by
  have hpl := hI.2.1
  have hP := hpl.1
  have hM : I p 15 ≤ 6 := hpl.2.2.1.2
  have hnow := now_eq hI
  have hd := hI.2.2.2.1.1
  have hL := hI.2.2.2.2.2.2.2.2.1
  obtain ⟨n, hn', h20, h79⟩ := log_n hI
  match n, hn', h20, h79 with
  | 0, hn', h20, h79 =>
    refine E_C_undo ⟨fun h => by omega, fun _ => E_M_undo ⟨fun h => absurd (by rw [h79]; rfl) h, fun _ => ⟨rfl, okT hI⟩⟩⟩
  | n + 1, hn', h20, h79 =>
    have hG := hL.2.2
    rw [hn', Int.toNat_natCast, LGP] at hG
    obtain ⟨u1, u2, u3, u4⟩ := hG
    refine q_undo hP.2 hM hn' (by omega) hd u1 (E_M_undo ?_)
    generalize hU : und (dat I 28) (I 95 n) (I 96 n) (I 97 n) = U at *
    have hk := und_keep (d := dat I 28) (a := I 95 n) (w := I 96 n) (o := I 97 n)
    rw [hU] at hk
    have gI : ∀ b, b < 28 ∨ 37 ≤ b → b ≠ 94 → mup (dput I 28 U) 94 3 (n : Int) b = I b := fun b b1 b2 => by rw [mup_other b2, dput_out (by omega)]
    have gD : ∀ j, j < 9 → mup (dput I 28 U) 94 3 (n : Int) (28 + j) = U j := fun j hj => by rw [mup_other (by omega), dput_at hj]
    rw [gI 98 (by omega) (by omega), h79, wr_of (z := ((n + 1 : Nat) : Int) - 1) (by omega) (by omega), wr_of (z := 47 * (((n + 1 : Nat) : Int) - 1)) (by omega) (by omega), show ((n + 1 : Nat) : Int) - 1 = (n : Int) by omega, show 47 * (n : Int) = ((47 * n : Nat) : Int) by omega]
    refine ⟨fun _ => r_take_140 (by omega) (fun Z hZ => T_M_undo_39 ?_), fun h => by omega⟩
    obtain ⟨t1, t2, t3, t4, t5, t6⟩ := hZ
    have z98 : Z 98 79 = (n : Int) := by rw [t1 98 (by omega) (by omega) (by omega) (by omega) (by omega) (by omega) (by omega) (by omega), mup_eq rfl rfl]
    have zX : ∀ b, b ≠ 98 → b < 125 ∨ b = 128 ∨ 133 < b → Z b = mup (dput I 28 U) 94 3 (n : Int) b := fun b b1 b2 => by rw [t1 b (by omega) (by omega) (by omega) (by omega) (by omega) (by omega) (by omega) (by omega), mup_other b1, mup_other b1]
    have z98' : ∀ k, k ≠ 2 → k ≠ 79 → Z 98 k = I 98 k := fun k b1 b2 => by rw [t1 98 (by omega) (by omega) (by omega) (by omega) (by omega) (by omega) (by omega) (by omega), mup_ne (Or.inr b2), mup_ne (Or.inr b1), gI 98 (by omega) (by omega)]
    have f140 : mup (mup (mup (dput I 28 U) 94 3 (n : Int)) 98 2 0) 98 79 (n : Int) 140 = I 140 := by rw [mup_other (by omega), mup_other (by omega), gI 140 (by omega) (by omega)]
    rw [f140] at t2 t3 t4 t5 t6
    have zI : ∀ b, b < 28 ∨ (37 ≤ b ∧ b < 125) ∨ b = 128 ∨ 133 < b → b ≠ 94 → b ≠ 98 → Z b = I b := fun b b1 b2 b3 => by rw [zX b b3 (by omega), gI b (by omega) b2]
    have zD : ∀ j, j < 9 → Z (28 + j) = U j := fun j hj => by rw [zX _ (by omega) (by omega), gD j hj]
    have hdat : dat Z 28 = U := by
      funext j
      by_cases hj : j < 9
      · rw [dat_at hj, zD j hj]
      · rw [hk.1 j (by omega)]; unfold dat; rw [if_neg hj, if_neg hj]
    have z28 : Z 28 = U 0 := zD 0 (by omega)
    rw [z98]
    refine ⟨rfl, p, _, _, rfl, INV_day hI (fun b hb => ?_) ?_ (fun k b1 b2 b3 _ => z98' k b1 b3) (fun b b1 b2 => zI b (by omega) (by omega) (by omega)) (fun b b1 b2 => zI b (by omega) (by omega) (by omega)) ?_ rfl⟩
    · exact zI b (by omega) (by omega) (by omega)
    · have z94 : Z 94 3 = (n : Int) := by rw [zX 94 (by omega) (by omega), mup_eq rfl rfl]
      refine ⟨by omega, by omega, ?_⟩
      rw [z94, Int.toNat_natCast, hdat, zI 95 (by omega) (by omega) (by omega), zI 96 (by omega) (by omega) (by omega), zI 97 (by omega) (by omega) (by omega), zI 140 (by omega) (by omega) (by omega)]
      exact u4
    · refine ⟨by rw [hdat]; exact u2, ?_, ?_, ?_⟩
      · obtain ⟨s1, s2, s3, s4, s5, s6⟩ := u3
        obtain ⟨e1, e2, e3, e4, e5, e6, e7⟩ := hnow
        have hU11 := u2.2.2.1
        have c0 : ∀ k, k ≠ 11 → k ≠ 12 → k ≠ 13 → U 0 k = I 28 k := fun k a b c => hk.2 k a b c
        have c3 : U 3 = I 31 := hk.1 3 (by omega)
        have c6 : U 6 = I 34 := hk.1 6 (by omega)
        have c7 : U 7 = I 35 := hk.1 7 (by omega)
        have c8 : U 8 = I 36 := hk.1 8 (by omega)
        refine DR_cells hP.2 hM (by rw [z28]; omega) ?_
        rw [hdat, z28, show Z 29 = U 1 from zD 1 (by omega), show Z 30 = U 2 from zD 2 (by omega), show Z 31 = U 3 from zD 3 (by omega), show Z 32 = U 4 from zD 4 (by omega), show Z 33 = U 5 from zD 5 (by omega), show Z 34 = U 6 from zD 6 (by omega), show Z 35 = U 7 from zD 7 (by omega), show Z 36 = U 8 from zD 8 (by omega), zI 136 (by omega) (by omega) (by omega), zI 137 (by omega) (by omega) (by omega), zI 128 (by omega) (by omega) (by omega), zI 134 (by omega) (by omega) (by omega), zI 135 (by omega) (by omega) (by omega), t4, t5, t6, c0 10 (by omega) (by omega) (by omega), c0 15 (by omega) (by omega) (by omega), c3, c6, c7, c8]
        refine ⟨e1, s4, s5, s6, e4, fun q hq => ?_, fun k hk => ?_, fun m hm => ?_⟩
        · have b := t2 q (by omega)
          have b2 := s1 q hq
          rw [b.1, b.2.1, b.2.2.1]
          exact ⟨b2.2.2, b2.2.1, (e5 q hq).2.2.1, b2.1⟩
        · rw [t3 k (by omega)]; exact s3 k hk
        · rw [(t2 m (by omega)).2.2.2]
          exact ⟨s2 m hm, (e7 m hm).2⟩
      · rw [z28, hk.2 14 (by omega) (by omega) (by omega)]; exact hI.2.2.2.1.2.2.1
      · rw [z28, hk.2 10 (by omega) (by omega) (by omega)]; exact hI.2.2.2.1.2.2.2
end W10
