section Q15
variable {Ls p kc ks : Nat} {P M : Int} {I I0 I1 I2 J K L L1 L2 K2 Z d d' e : Nat → Nat → Int} {Q : List mV → mM → Prop} {x : Int}
/-! rests -/
def gnF (a b : Int) : Int := (if a ≤ b then (if a = b then 2 else 0) else 6) - Int.tdiv a 4
theorem tdiv4 {a : Int} (h : 0 ≤ a ∧ a ≤ 1000) : Int.tdiv a 4 = a / 4 ∧ wr (Int.tdiv a 4) = a / 4 := by
  have h1 : Int.tdiv a 4 = a / 4 := Int.tdiv_eq_ediv_of_nonneg h.1
  exact ⟨h1, by rw [h1, wr_of (by omega) (by omega)]⟩
theorem q_gain {a b : Int} (h : 0 ≤ a ∧ a ≤ 1000) (hQ : Q [.inl (gnF a b)] (mem Ls p I L)) : m_Call i_C_gain [.inl a, .inl b] (mem Ls p I L) Q := by
  have t := tdiv4 h
  unfold gnF at hQ
  rw [t.1] at hQ
  refine E_C_gain ?_
  rw [t.2, wr_of (z := 0 - a / 4) (by omega) (by omega), wr_of (z := 2 - a / 4) (by omega) (by omega), wr_of (z := 6 - a / 4) (by omega) (by omega)]
  refine ⟨fun h1 => ⟨fun h2 => ⟨by omega, ?_⟩, fun h2 => ⟨by omega, ?_⟩⟩, fun h1 => ⟨by omega, ?_⟩⟩
  · rw [if_pos h1, if_neg h2] at hQ; exact hQ
  · rw [if_pos h1, if_pos (Classical.not_not.mp h2)] at hQ; exact hQ
  · rw [if_neg h1] at hQ; exact hQ
theorem r_hasBy {a b : Int} (h : 0 ≤ a ∧ a ≤ 1000) (hQ : Q [.inl (gnF a b)] (mem Ls p I L)) : m_Call i_M_hasBy [.inl a, .inl b] (mem Ls p I L) Q := by
  have t := tdiv4 h
  unfold gnF at hQ
  rw [t.1] at hQ
  refine E_M_hasBy ?_
  rw [t.2, wr_of (z := 0 - a / 4) (by omega) (by omega), wr_of (z := 2 - a / 4) (by omega) (by omega), wr_of (z := 6 - a / 4) (by omega) (by omega)]
  refine ⟨fun h1 => ⟨fun h2 => ⟨by omega, ?_⟩, fun h2 => ⟨by omega, ?_⟩⟩, fun h1 => ⟨by omega, ?_⟩⟩
  · rw [if_pos h1, if_neg h2] at hQ; exact hQ
  · rw [if_pos h1, if_pos (Classical.not_not.mp h2)] at hQ; exact hQ
  · rw [if_neg h1] at hQ; exact hQ
def irL (x y A B : Int) : Nat → Nat → Int
  | _, 0 => 1
  | t, n + 1 => if gnF A B < gnF ((t : Int) * x) B ∨ gnF B A < gnF ((t : Int) * y) A then 0 else irL x y A B (t + 1) n
/-- does the pair g of times leave neither of two a gain? -/
def irF (x y : Int) (g : Nat) : Int := irL x y (x * ((g / 4 : Nat) + 1)) (y * ((g % 4 : Nat) + 1)) 1 4
theorem mul_range {x k : Int} (hx : 1 ≤ x ∧ x ≤ 9) (hk : 0 ≤ k ∧ k ≤ 5) : 0 ≤ k * x ∧ k * x ≤ 45 := by
  have h : x = 1 ∨ x = 2 ∨ x = 3 ∨ x = 4 ∨ x = 5 ∨ x = 6 ∨ x = 7 ∨ x = 8 ∨ x = 9 := by omega
  rcases h with rfl | rfl | rfl | rfl | rfl | rfl | rfl | rfl | rfl <;> omega
theorem irL_01 {x y A B : Int} : ∀ n t : Nat, irL x y A B t n = 0 ∨ irL x y A B t n = 1
  | 0, _ => Or.inr rfl
  | n + 1, t => by rw [irL]; split; exact Or.inl rfl; exact irL_01 n (t + 1)
theorem isRest_loop {x y A B : Int} (hx : 1 ≤ x ∧ x ≤ 9) (hy : 1 ≤ y ∧ y ≤ 9) (hA : 0 ≤ A ∧ A ≤ 1000) (hB : 0 ≤ B ∧ B ≤ 1000) : ∀ (n t : Nat), t + n = 5 → Q [.inl (irL x y A B t n)] (mem Ls p I L) → m_Wp i_C_isRest 45 kc ks [(4, .inl x), (5, .inl y), (6, .inl A), (7, .inl B), (8, .inl (t : Int))] [] (mem Ls p I L) Q := by
  intro n
  induction n with
  | zero => intro t ht hQ; exact T_C_isRest_45 ⟨fun _ => ⟨by omega, hQ⟩, fun h => by omega⟩
  | succ n ih =>
    intro t ht hQ
    rw [irL] at hQ
    have r1 := mul_range (k := (t : Int)) hx (by omega)
    have r2 := mul_range (k := (t : Int)) hy (by omega)
    refine T_C_isRest_45 ?_
    rw [wr_of (z := (t : Int) * x) (by omega) (by omega)]
    refine ⟨fun h => by omega, fun _ => q_gain (by omega) (T_C_isRest_61 (q_gain hA (T_C_isRest_68 ?_)))⟩
    rw [wr_of (z := (t : Int) * y) (by omega) (by omega)]
    refine ⟨fun h => ⟨by omega, ?_⟩, fun h => q_gain (by omega) (T_C_isRest_81 (q_gain hB (T_C_isRest_88 ?_)))⟩
    · rw [if_pos (Or.inl h)] at hQ; exact hQ
    · rw [show wr ((t : Int) + 1) = ((t + 1 : Nat) : Int) by rw [wr_of] <;> omega]
      refine ⟨fun h2 => ?_, fun h2 => ⟨by omega, ?_⟩⟩
      · rw [if_neg (by omega)] at hQ; exact ih (t + 1) (by omega) hQ
      · rw [if_pos (Or.inr (by omega))] at hQ; exact hQ
theorem q_isRest {a b : Int} {g : Nat} (hp : isPlan p) (hpl : planOK I p) (ha : 0 ≤ a ∧ a < I p 13) (hb : 0 ≤ b ∧ b < I p 13) (hg : g < 16) (hQ : Q [.inl (irF (I (p + 2) a.toNat) (I (p + 2) b.toNat) g)] (mem Ls p I L)) : m_Call i_C_isRest [.inr (.inr 2), .inl a, .inl b, .inl (g : Int)] (mem Ls p I L) Q := by
  have h6 := hpl.1
  have hx := hpl.2.2.2.2.2.2.2.2.1 a.toNat (by omega)
  have hy := hpl.2.2.2.2.2.2.2.2.1 b.toNat (by omega)
  have td : Int.tdiv (g : Int) 4 = ((g / 4 : Nat) : Int) := by rw [Int.tdiv_eq_ediv_of_nonneg (by omega)]; rfl
  have tm : Int.tmod (g : Int) 4 = ((g % 4 : Nat) : Int) := by rw [Int.tmod_eq_emod_of_nonneg (by omega)]; rfl
  have r1 := mul_range (x := I (p + 2) a.toNat) (k := ((g / 4 : Nat) : Int) + 1) (by omega) (by omega)
  have r2 := mul_range (x := I (p + 2) b.toNat) (k := ((g % 4 : Nat) : Int) + 1) (by omega) (by omega)
  rw [Int.mul_comm] at r1 r2
  refine E_C_isRest hp ⟨by omega, by omega, by omega, by omega, ?_⟩
  rw [td, tm, wr_of (z := ((g / 4 : Nat) : Int)) (by omega) (by omega), wr_of (z := ((g / 4 : Nat) : Int) + 1) (by omega) (by omega), wr_of (z := ((g % 4 : Nat) : Int) + 1) (by omega) (by omega), wr_of (z := I (p + 2) a.toNat * (((g / 4 : Nat) : Int) + 1)) (by omega) (by omega), wr_of (z := I (p + 2) b.toNat * (((g % 4 : Nat) : Int) + 1)) (by omega) (by omega)]
  exact isRest_loop (by omega) (by omega) (by omega) (by omega) 4 1 (by omega) hQ
/-- how many; the k-th -/
def rsN (f : Nat → Int) : Nat → Nat → Int → Int
  | _, 0, y => y
  | g, n + 1, y => rsN f (g + 1) n (if f g = 0 then y else y + 1)
def rsK (f : Nat → Int) (w : Int) : Nat → Nat → Int → Int
  | _, 0, _ => -2
  | g, n + 1, y => if f g = 0 then rsK f w (g + 1) n y else if y = w then 10 * (((g / 4 : Nat) : Int) + 1) + ((g % 4 : Nat) : Int) + 1 else rsK f w (g + 1) n (y + 1)
theorem q_areTwo {a b : Int} (hp : isPlan p) (hQ : Q [.inl (b01 ((0 ≤ a ∧ a < I p 13) ∧ (0 ≤ b ∧ b < I p 13) ∧ a ≠ b))] (mem Ls p I L)) : m_Call i_C_areTwo [.inr (.inr 2), .inl a, .inl b] (mem Ls p I L) Q := by
  refine E_C_areTwo (q_isPerson hp (T_C_areTwo_5 ⟨fun h => ⟨by omega, ?_⟩, fun h => q_isPerson hp (T_C_areTwo_13 ⟨fun h2 => ⟨by omega, ?_⟩, fun h2 => ⟨fun h3 => ⟨by omega, ?_⟩, fun h3 => ⟨by omega, ?_⟩⟩⟩)⟩))
  · rw [b01_zero.mpr (fun z => (b01_zero.mp h) z.1)] at hQ; exact hQ
  · rw [b01_zero.mpr (fun z => (b01_zero.mp h2) z.2.1)] at hQ; exact hQ
  · rw [b01_zero.mpr (fun z => z.2.2 h3)] at hQ; exact hQ
  · rw [b01_zero] at h h2
    rw [b01_one.mpr ⟨by omega, by omega, h3⟩] at hQ; exact hQ
theorem r_areTwo {a b : Int} {N : Int} (hN : I 98 12 = N) (hQ : Q [.inl (b01 ((0 ≤ a ∧ a < N) ∧ (0 ≤ b ∧ b < N) ∧ a ≠ b))] (mem Ls p I L)) : m_Call i_M_areTwo [.inr (.inr 98), .inl a, .inl b] (mem Ls p I L) Q := by
  refine E_M_areTwo (r_isMan ?_)
  rw [hN]
  refine T_M_areTwo_5 ⟨fun h => ⟨by omega, ?_⟩, fun h => r_isMan ?_⟩
  · rw [b01_zero.mpr (fun z => (b01_zero.mp h) z.1)] at hQ; exact hQ
  · rw [hN]
    refine T_M_areTwo_13 ⟨fun h2 => ⟨by omega, ?_⟩, fun h2 => ⟨fun h3 => ⟨by omega, ?_⟩, fun h3 => ⟨by omega, ?_⟩⟩⟩
    · rw [b01_zero.mpr (fun z => (b01_zero.mp h2) z.2.1)] at hQ; exact hQ
    · rw [b01_zero.mpr (fun z => z.2.2 h3)] at hQ; exact hQ
    · rw [b01_zero] at h h2
      rw [b01_one.mpr ⟨by omega, by omega, h3⟩] at hQ; exact hQ
/-- the reference's loop over the sixteen pairs: w = -1 counts -/
theorem restAt_in {x y w : Int} {g : Nat} {n : Int} (hx : 1 ≤ x ∧ x ≤ 9) (hy : 1 ≤ y ∧ y ≤ 9) (hg : g < 16) (hn : 0 ≤ n ∧ n ≤ 16) (K0 : irF x y g = 0 → m_Wp i_M_restAt 22 kc ks [(3, .inl w), (4, .inl x), (5, .inl y), (6, .inl n), (7, .inl ((g + 1 : Nat) : Int))] [] (mem Ls p I L) Q) (K1 : irF x y g ≠ 0 → n ≠ w → m_Wp i_M_restAt 22 kc ks [(3, .inl w), (4, .inl x), (5, .inl y), (6, .inl (n + 1)), (7, .inl ((g + 1 : Nat) : Int))] [] (mem Ls p I L) Q) (K2 : irF x y g ≠ 0 → n = w → Q [.inl (10 * (((g / 4 : Nat) : Int) + 1) + ((g % 4 : Nat) : Int) + 1)] (mem Ls p I L)) : ∀ (m t : Nat) (i : Int), t + m = 5 → (i = 0 ∨ i = 1) → (i = 0 → irF x y g = 0) → (i = 1 → irF x y g = irL x y (x * ((g / 4 : Nat) + 1)) (y * ((g % 4 : Nat) + 1)) t m) → m_Wp i_M_restAt 51 kc ks [(3, .inl w), (4, .inl x), (5, .inl y), (6, .inl n), (7, .inl (g : Int)), (8, .inl (((g / 4 : Nat) : Int) + 1)), (9, .inl (((g % 4 : Nat) : Int) + 1)), (10, .inl i), (11, .inl (t : Int))] [] (mem Ls p I L) Q := by
  have r1 := mul_range (x := x) (k := ((g / 4 : Nat) : Int) + 1) (by omega) (by omega)
  have r2 := mul_range (x := y) (k := ((g % 4 : Nat) : Int) + 1) (by omega) (by omega)
  have hg1 : wr ((g : Int) + 1) = ((g + 1 : Nat) : Int) := by rw [wr_of] <;> omega
  have c1 : (((g / 4 : Nat) : Int) + 1) * x = x * (((g / 4 : Nat) : Int) + 1) := Int.mul_comm _ _
  have c2 : (((g % 4 : Nat) : Int) + 1) * y = y * (((g % 4 : Nat) : Int) + 1) := Int.mul_comm _ _
  intro m
  induction m with
  | zero =>
    intro t i ht hi h0 h1
    refine T_M_restAt_51 ?_
    rw [hg1, wr_of (z := n + 1) (by omega) (by omega), wr_of (z := 10 * (((g / 4 : Nat) : Int) + 1)) (by omega) (by omega), wr_of (z := 10 * (((g / 4 : Nat) : Int) + 1) + (((g % 4 : Nat) : Int) + 1)) (by omega) (by omega)]
    refine ⟨fun _ => ⟨fun h2 => ?_, fun h2 => K0 (h0 (Classical.not_not.mp h2))⟩, fun h => by omega⟩
    have hne : irF x y g ≠ 0 := by rw [h1 (by omega), irL]; omega
    refine ⟨fun h3 => K1 hne h3, fun h3 => ?_⟩
    rw [← Int.add_assoc]
    exact K2 hne (Classical.not_not.mp h3)
  | succ m ih =>
    intro t i ht hi h0 h1
    have r3 := mul_range (x := x) (k := (t : Int)) (by omega) (by omega)
    have r4 := mul_range (x := y) (k := (t : Int)) (by omega) (by omega)
    have ht1 : wr ((t : Int) + 1) = ((t + 1 : Nat) : Int) := by rw [wr_of] <;> omega
    refine T_M_restAt_51 ?_
    rw [ht1, wr_of (z := (t : Int) * x) (by omega) (by omega), wr_of (z := (((g % 4 : Nat) : Int) + 1) * y) (by omega) (by omega), c2]
    refine ⟨fun h => by omega, fun _ => ⟨fun h2 => ih (t + 1) 0 (by omega) (Or.inl rfl) (fun _ => h0 h2) (fun z => by omega), fun h2 => ?_⟩⟩
    have hE := h1 (by omega)
    rw [irL] at hE
    refine r_hasBy (by omega) (T_M_restAt_75 ?_)
    rw [wr_of (z := (((g / 4 : Nat) : Int) + 1) * x) (by omega) (by omega), wr_of (z := (((g % 4 : Nat) : Int) + 1) * y) (by omega) (by omega), c1, c2]
    refine r_hasBy (by omega) (T_M_restAt_88 ?_)
    rw [ht1, wr_of (z := (t : Int) * y) (by omega) (by omega), wr_of (z := (((g / 4 : Nat) : Int) + 1) * x) (by omega) (by omega), c1]
    refine ⟨fun h3 => ih (t + 1) 0 (by omega) (Or.inl rfl) (fun _ => by rw [hE, if_pos (Or.inl h3)]) (fun z => by omega), fun h3 => r_hasBy (by omega) (T_M_restAt_104 ?_)⟩
    rw [wr_of (z := (((g / 4 : Nat) : Int) + 1) * x) (by omega) (by omega), wr_of (z := (((g % 4 : Nat) : Int) + 1) * y) (by omega) (by omega), c1, c2]
    refine r_hasBy (by omega) (T_M_restAt_117 ?_)
    rw [ht1]
    refine ⟨fun h4 => ih (t + 1) 0 (by omega) (Or.inl rfl) (fun _ => by rw [hE, if_pos (Or.inr h4)]) (fun z => by omega), fun h4 => ih (t + 1) 1 (by omega) (Or.inr rfl) (fun z => by omega) (fun _ => by rw [hE, if_neg (by omega)])⟩
theorem restAt_m {x y w T1 T2 : Int} (hx : 1 ≤ x ∧ x ≤ 9) (hy : 1 ≤ y ∧ y ≤ 9) (hQ1 : ∀ v, (w < 0 → v = T1) → (0 ≤ w → v = T2) → Q [.inl v] (mem Ls p I L)) : ∀ (m g : Nat) (n : Int), g + m = 16 → (0 ≤ n ∧ n ≤ g) → T1 = rsN (irF x y) g m n → (0 ≤ w → T2 = rsK (irF x y) w g m n) → m_Wp i_M_restAt 22 kc ks [(3, .inl w), (4, .inl x), (5, .inl y), (6, .inl n), (7, .inl (g : Int))] [] (mem Ls p I L) Q := by
  intro m
  induction m with
  | zero =>
    intro g n hg hn h1 h2
    exact T_M_restAt_22 ⟨fun _ => ⟨fun h => hQ1 _ (fun z => by omega) (fun _ => by rw [h2 h]; rfl), fun h => hQ1 _ (fun _ => by rw [h1]; rfl) (fun z => absurd z h)⟩, fun h => by omega⟩
  | succ m ih =>
    intro g n hg hn h1 h2
    have td : Int.tdiv (g : Int) 4 = ((g / 4 : Nat) : Int) := by rw [Int.tdiv_eq_ediv_of_nonneg (by omega)]; rfl
    have tm : Int.tmod (g : Int) 4 = ((g % 4 : Nat) : Int) := by rw [Int.tmod_eq_emod_of_nonneg (by omega)]; rfl
    refine T_M_restAt_22 ?_
    rw [td, tm, wr_of (z := ((g / 4 : Nat) : Int)) (by omega) (by omega), wr_of (z := 1 + ((g / 4 : Nat) : Int)) (by omega) (by omega), wr_of (z := 1 + ((g % 4 : Nat) : Int)) (by omega) (by omega), Int.add_comm 1, Int.add_comm 1]
    rw [rsN] at h1
    rw [rsK] at h2
    refine ⟨fun h => by omega, fun _ => ⟨by omega, by omega, restAt_in hx hy (by omega) (by omega) (fun z => ?_) (fun z z2 => ?_) (fun z z2 => ?_) 4 1 1 (by omega) (Or.inr rfl) (fun z => by omega) (fun _ => rfl)⟩⟩
    · rw [if_pos z] at h1 h2; exact ih (g + 1) n (by omega) (by omega) h1 h2
    · rw [if_neg z] at h1
      rw [if_neg z, if_neg z2] at h2
      exact ih (g + 1) _ (by omega) (by omega) h1 h2
    · rw [if_neg z, if_pos z2] at h2
      exact hQ1 _ (fun y => by omega) (fun y => (h2 y).symm)
theorem pair_rests {a b : Int} (hI : INV p I L) : PAIR Ls i_C_rests i_M_rests [.inl a, .inl b] (mem Ls p I L) := by
  have hpl := hI.2.1
  have h6 := hpl.1
  have h12 : I 98 12 = I p 13 := hI.2.2.1.1.1
  refine E_C_rests (q_areTwo hI.1 (T_C_rests_6 ⟨fun h => ?_, fun h => E_M_rests (r_areTwo (N := I p 13) (by rw [mup_ne (by omega), h12]) (T_M_rests_11 ⟨fun _ => ⟨rfl, okT hI⟩, fun z => absurd (Classical.not_not.mp h) z⟩))⟩))
  have hab : (0 ≤ a ∧ a < I p 13) ∧ (0 ≤ b ∧ b < I p 13) ∧ a ≠ b := by rw [b01_zero] at h; exact Classical.not_not.mp h
  have hx := hpl.2.2.2.2.2.2.2.2.1 a.toNat (by omega)
  have hy := hpl.2.2.2.2.2.2.2.2.1 b.toNat (by omega)
  have e1 := (hI.2.2.1.2.1 a.toNat (by omega)).2.1
  have e2 := (hI.2.2.1.2.1 b.toNat (by omega)).2.1
  have fin : m_Call i_M_rests [.inr (.inr 98), .inl a, .inl b] (mem Ls p I L) (fun w M2 => w = [.inl (rsN (irF (I (p + 2) a.toNat) (I (p + 2) b.toNat)) 0 16 0)] ∧ OKM Ls M2) := by
    refine E_M_rests (r_areTwo (N := I p 13) (by rw [mup_ne (by omega), h12]) (T_M_rests_11 ⟨fun z => absurd z h, fun _ => E_M_restAt ⟨by omega, by omega, ?_⟩⟩))
    rw [mup_other (by omega), e1, e2]
    exact restAt_m (by omega) (by omega) (fun v hv _ => T_M_rests_21 ⟨by rw [hv (by omega)], okT hI⟩) 16 0 0 (by omega) (by omega) rfl (fun _ => rfl)
  generalize hT : rsN (irF (I (p + 2) a.toNat) (I (p + 2) b.toNat)) 0 16 0 = T at fin
  have cl : ∀ (m g : Nat) (n : Int), g + m = 16 → (0 ≤ n ∧ n ≤ g) → T = rsN (irF (I (p + 2) a.toNat) (I (p + 2) b.toNat)) g m n → m_Wp i_C_rests 16 0 0 [(0, .inr (.inr 2)), (1, .inl a), (2, .inl b), (3, .inl n), (4, .inl (g : Int))] [] (mem Ls p I L) (fun v M1 => m_Call i_M_rests [.inr (.inr 98), .inl a, .inl b] M1 (fun w M2 => w = v ∧ OKM Ls M2)) := by
    intro m
    induction m with
    | zero => intro g n hg hn hE; exact T_C_rests_16 ⟨fun _ => by rw [rsN] at hE; rw [← hE]; exact fin, fun z => by omega⟩
    | succ m ih =>
      intro g n hg hn hE
      rw [rsN] at hE
      refine T_C_rests_16 ⟨fun z => by omega, fun _ => q_isRest hI.1 hpl hab.1 hab.2.1 (by omega) (T_C_rests_31 ?_)⟩
      rw [show wr ((g : Int) + 1) = ((g + 1 : Nat) : Int) by rw [wr_of] <;> omega, wr_of (z := n + 1) (by omega) (by omega)]
      refine ⟨fun z => ?_, fun z => ?_⟩
      · rw [if_pos z] at hE; exact ih (g + 1) n (by omega) (by omega) hE
      · rw [if_neg z] at hE; exact ih (g + 1) _ (by omega) (by omega) hE
  exact cl 16 0 0 (by omega) (by omega) hT.symm
theorem pair_rest {a b c : Int} (hI : INV p I L) : PAIR Ls i_C_rest i_M_rest [.inl a, .inl b, .inl c] (mem Ls p I L) := by
  have hpl := hI.2.1
  have h6 := hpl.1
  have h12 : I 98 12 = I p 13 := hI.2.2.1.1.1
  refine E_C_rest (q_areTwo hI.1 (T_C_rest_6 ⟨fun h => E_M_rest (r_areTwo (N := I p 13) (by rw [mup_ne (by omega), h12]) (T_M_rest_11 ⟨fun _ => ⟨rfl, okT hI⟩, fun z => absurd h z⟩)), fun h => ⟨fun hc => ?_, fun hc => E_M_rest (r_areTwo (N := I p 13) (by rw [mup_ne (by omega), h12]) (T_M_rest_11 ⟨fun z => absurd z h, fun _ => ⟨fun _ => ⟨rfl, okT hI⟩, fun z => by omega⟩⟩))⟩⟩))
  have hab : (0 ≤ a ∧ a < I p 13) ∧ (0 ≤ b ∧ b < I p 13) ∧ a ≠ b := by rw [b01_zero] at h; exact Classical.not_not.mp h
  have hx := hpl.2.2.2.2.2.2.2.2.1 a.toNat (by omega)
  have hy := hpl.2.2.2.2.2.2.2.2.1 b.toNat (by omega)
  have e1 := (hI.2.2.1.2.1 a.toNat (by omega)).2.1
  have e2 := (hI.2.2.1.2.1 b.toNat (by omega)).2.1
  have fin : m_Call i_M_rest [.inr (.inr 98), .inl a, .inl b, .inl c] (mem Ls p I L) (fun w M2 => w = [.inl (rsK (irF (I (p + 2) a.toNat) (I (p + 2) b.toNat)) c 0 16 0)] ∧ OKM Ls M2) := by
    refine E_M_rest (r_areTwo (N := I p 13) (by rw [mup_ne (by omega), h12]) (T_M_rest_11 ⟨fun z => absurd z h, fun _ => ⟨fun z => by omega, fun _ => E_M_restAt ⟨by omega, by omega, ?_⟩⟩⟩))
    rw [mup_other (by omega), e1, e2]
    exact restAt_m (by omega) (by omega) (fun v _ hv => T_M_rest_25 ⟨by rw [hv hc], okT hI⟩) 16 0 0 (by omega) (by omega) rfl (fun _ => rfl)
  generalize hT : rsK (irF (I (p + 2) a.toNat) (I (p + 2) b.toNat)) c 0 16 0 = T at fin
  have cl : ∀ (m g : Nat) (n : Int), g + m = 16 → (0 ≤ n ∧ n ≤ g) → T = rsK (irF (I (p + 2) a.toNat) (I (p + 2) b.toNat)) c g m n → m_Wp i_C_rest 21 0 0 [(0, .inr (.inr 2)), (1, .inl a), (2, .inl b), (3, .inl c), (4, .inl n), (5, .inl (g : Int))] [] (mem Ls p I L) (fun v M1 => m_Call i_M_rest [.inr (.inr 98), .inl a, .inl b, .inl c] M1 (fun w M2 => w = v ∧ OKM Ls M2)) := by
    intro m
    induction m with
    | zero => intro g n hg hn hE; exact T_C_rest_21 ⟨fun _ => by rw [rsK] at hE; rw [← hE]; exact fin, fun z => by omega⟩
    | succ m ih =>
      intro g n hg hn hE
      rw [rsK] at hE
      have td : Int.tdiv (g : Int) 4 = ((g / 4 : Nat) : Int) := by rw [Int.tdiv_eq_ediv_of_nonneg (by omega)]; rfl
      have tm : Int.tmod (g : Int) 4 = ((g % 4 : Nat) : Int) := by rw [Int.tmod_eq_emod_of_nonneg (by omega)]; rfl
      refine T_C_rest_21 ⟨fun z => by omega, fun _ => q_isRest hI.1 hpl hab.1 hab.2.1 (by omega) (T_C_rest_36 ?_)⟩
      rw [show wr ((g : Int) + 1) = ((g + 1 : Nat) : Int) by rw [wr_of] <;> omega, wr_of (z := n + 1) (by omega) (by omega), td, tm, wr_of (z := ((g / 4 : Nat) : Int)) (by omega) (by omega), wr_of (z := ((g / 4 : Nat) : Int) + 1) (by omega) (by omega), wr_of (z := 10 * (((g / 4 : Nat) : Int) + 1)) (by omega) (by omega), wr_of (z := 10 * (((g / 4 : Nat) : Int) + 1) + ((g % 4 : Nat) : Int)) (by omega) (by omega), wr_of (z := 10 * (((g / 4 : Nat) : Int) + 1) + ((g % 4 : Nat) : Int) + 1) (by omega) (by omega)]
      refine ⟨fun z => ?_, fun z => ⟨fun z2 => ?_, fun z2 => ⟨by omega, by omega, ?_⟩⟩⟩
      · rw [if_pos z] at hE; exact ih (g + 1) n (by omega) (by omega) hE
      · rw [if_neg z, if_neg z2] at hE; exact ih (g + 1) _ (by omega) (by omega) hE
      · rw [if_neg z, if_pos (Classical.not_not.mp z2)] at hE; rw [← hE]; exact fin
  exact cl 16 0 0 (by omega) (by omega) hT.symm
end Q15
