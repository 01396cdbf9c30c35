/-! ===== phase 2: what counts of what was seen ===== -/
def jC (st : Nat → Int) : Nat → (Nat → Int) → Nat → Int
  | 0, c => c
  | n + 1, c => jC st n (if st n = -1 then c else if c n = 0 then (fun z => if z = n then 0 else c z) else (fun z => if z = n then 0 else if z = (st n).toNat then 0 else c z))
def jM (st : Nat → Int) : Nat → (Nat → Int) → Nat → Int
  | 0, c => c
  | n + 1, c => jM st n (if st n = -1 then c else if c n = 0 then c else (fun z => if z = (st n).toNat then 0 else c z))
theorem jCM {st : Nat → Int} {N : Nat} (hst : ∀ k, k < N → st k = -1 ∨ (0 ≤ st k ∧ st k < (k : Int))) : ∀ (n : Nat) (c c' : Nat → Int), n ≤ N → (∀ k, k < N → k < n ∨ st k = -1 → c k = c' k) → (∀ k, k < N → n ≤ k → st k ≠ -1 → c k = 0) → (∀ k, N ≤ k → k < 24 → c k = 0) → (∀ k, k < N → st k = -1 → jC st n c k = jM st n c' k) ∧ (∀ k, k < N → st k ≠ -1 → jC st n c k = 0) ∧ (∀ k, N ≤ k → k < 24 → jC st n c k = 0)
  | 0, c, c', _, h1, h2, h3 => ⟨fun k a b => h1 k a (Or.inr b), fun k a b => h2 k a (by omega) b, h3⟩
  | n + 1, c, c', hn, h1, h2, h3 => by
    rw [jC, jM]
    have hs := hst n (by omega)
    have hcn := h1 n (by omega) (by omega)
    refine jCM hst n _ _ (by omega) (fun k a b => ?_) (fun k a b e => ?_) (fun k a a2 => ?_)
    · by_cases s1 : st n = -1
      · rw [if_pos s1, if_pos s1]; exact h1 k a (by omega)
      · rw [if_neg s1, if_neg s1]
        have hkn : k ≠ n := fun z => by subst z; omega
        by_cases s2 : c n = 0
        · rw [if_pos s2, if_pos (show c' n = 0 by rw [← hcn]; exact s2), if_neg hkn]; exact h1 k a (by omega)
        · rw [if_neg s2, if_neg (show ¬ c' n = 0 by rw [← hcn]; exact s2), if_neg hkn]
          by_cases s3 : k = (st n).toNat
          · rw [if_pos s3, if_pos s3]
          · rw [if_neg s3, if_neg s3]; exact h1 k a (by omega)
    · by_cases hkn : k = n
      · subst hkn
        rw [if_neg e]
        by_cases s2 : c k = 0
        · rw [if_pos s2, if_pos rfl]
        · rw [if_neg s2, if_pos rfl]
      · have hz := h2 k a (by omega) e
        by_cases s1 : st n = -1
        · rw [if_pos s1]; exact hz
        · rw [if_neg s1]
          by_cases s2 : c n = 0
          · rw [if_pos s2, if_neg hkn]; exact hz
          · rw [if_neg s2, if_neg hkn]
            by_cases s3 : k = (st n).toNat
            · rw [if_pos s3]
            · rw [if_neg s3]; exact hz
    · have hz := h3 k a a2
      have hkn : k ≠ n := by omega
      by_cases s1 : st n = -1
      · rw [if_pos s1]; exact hz
      · rw [if_neg s1]
        by_cases s2 : c n = 0
        · rw [if_pos s2, if_neg hkn]; exact hz
        · rw [if_neg s2, if_neg hkn]
          by_cases s3 : k = (st n).toNat
          · rw [if_pos s3]
          · rw [if_neg s3]; exact hz
def cI (f : Nat → Int) (N k : Nat) : Nat → Int := fun z => if z < k then (if z < N then 1 else 0) else f z
def mI (f : Nat → Int) (k : Nat) : Nat → Int := fun z => if z < k then 1 else f z
section V2
variable {Ls p kc ks c : Nat} {P M : Int} {I I0 I1 I2 J K L L1 L2 K2 X X1 X2 Y Z d d' e : Nat → Nat → Int} {Q : List mV → mM → Prop} {x : Int}
def kb (I : Nat → Nat → Int) : Int := if I 87 7 = -1 then I 87 6 else I 87 7
theorem q_knownBy (hS : SEE I P) (hQ : Q [.inl (kb I)] (mem Ls p I L)) : m_Call i_Seen_knownBy [.inr (.inr 87)] (mem Ls p I L) Q := by
  unfold kb at hQ
  have h := hS.2.2.2.1
  refine E_Seen_knownBy ⟨fun z => ?_, fun z => ?_⟩
  · rw [if_neg z] at hQ
    rw [show m_min (I 87 7) (I 87 6) = I 87 7 by unfold m_min; split <;> omega]; exact hQ
  · rw [if_pos (Classical.not_not.mp z)] at hQ; exact hQ
theorem r_knownBy (h75 : X 98 75 = I 87 6) (h76 : X 98 76 = I 87 7) (hS : SEE I P) (hQ : Q [.inl (kb I)] (mem Ls p X L)) : m_Call i_M_knownBy [.inr (.inr 98)] (mem Ls p X L) Q := by
  unfold kb at hQ
  have h := hS.2.2.2.1
  refine E_M_knownBy ?_
  rw [h75, h76]
  refine ⟨fun z => ?_, fun z => ?_⟩
  · rw [if_neg (by omega)] at hQ; exact hQ
  · rw [if_pos (by omega)] at hQ; exact hQ
theorem kb_range (hS : SEE I P) : 0 ≤ kb I ∧ kb I ≤ I 87 6 ∧ kb I ≤ 24 := by
  have h := hS.2.2.2.1
  have h1 := hS.1
  unfold kb; split <;> omega
theorem st_ok {N : Nat} (hS : SEE I P) (hN : (N : Int) ≤ I 87 6) : ∀ k, k < N → I 91 k = -1 ∨ (0 ≤ I 91 k ∧ I 91 k < (k : Int)) := fun k hk => by
  rcases hS.2.2.2.2 k (by omega) with h | h
  · exact Or.inl h.1
  · exact Or.inr h.1
theorem rup2 {k : Nat} {f : Nat → Int} {v w : Int} {i j : Nat} : mup (mup (rup X k f) k i v) k j w = rup X k (fun z => if z = j then w else if z = i then v else f z) := by rw [rup_mup, rup_mup]
theorem judgeB_loop {N : Nat} (hN : N ≤ 24) (hst : ∀ k, k < N → I 91 k = -1 ∨ (0 ≤ I 91 k ∧ I 91 k < (k : Int))) : ∀ (n : Nat) (f : Nat → Int), n ≤ N → Q [] (mem Ls p (rup I 93 (jC (I 91) n f)) L) → m_Wp i_Seen_judge 39 kc ks [(0, .inr (.inr 87)), (2, .inl ((n : Int) - 1))] [] (mem Ls p (rup I 93 f) L) Q := by
  intro n
  induction n with
  | zero =>
    intro f hn hQ
    exact T_Seen_judge_39 ⟨fun _ => hQ, fun z => by omega⟩
  | succ n ih =>
    intro f hn hQ
    rw [jC] at hQ
    have hs := hst n (by omega)
    refine T_Seen_judge_39 ?_
    rw [show ((n + 1 : Nat) : Int) - 1 = (n : Int) by omega, Int.toNat_natCast, wr_of (z := (n : Int) + -1) (by omega) (by omega), show (n : Int) + -1 = (n : Int) - 1 by omega, rup_other (by omega), rup_self, rup_mup, rup2]
    refine ⟨fun z => by omega, fun _ => ⟨by omega, fun s1 => ?_, fun s1 => ⟨by omega, fun s2 => ⟨⟨by omega, by omega⟩, ?_⟩, fun s2 => ⟨by omega, ⟨by omega, by omega⟩, ⟨by omega, by omega⟩, ?_⟩⟩⟩⟩
    · rw [if_pos s1] at hQ; exact ih f (by omega) hQ
    · rw [if_neg s1, if_pos s2] at hQ; exact ih _ (by omega) hQ
    · rw [if_neg s1, if_neg s2] at hQ; exact ih _ (by omega) hQ
theorem judgeA_loop {N : Nat} (hN : N ≤ 24) (hQ : m_Wp i_Seen_judge 39 kc ks [(0, .inr (.inr 87)), (2, .inl ((N : Int) - 1))] [] (mem Ls p (rup I 93 (cI (I 93) N 24)) L) Q) : ∀ (t k : Nat), k + t = 24 → m_Wp i_Seen_judge 7 kc ks [(0, .inr (.inr 87)), (1, .inl (N : Int)), (2, .inl (k : Int))] [] (mem Ls p (rup I 93 (cI (I 93) N k)) L) Q := by
  intro t
  induction t with
  | zero =>
    intro k hk
    have : k = 24 := by omega
    subst this
    refine T_Seen_judge_7 ⟨fun _ => ?_, fun z => by omega⟩
    rw [wr_of (z := (N : Int) - 1) (by omega) (by omega)]
    exact hQ
  | succ t ih =>
    intro k hk
    have step : ∀ v : Int, v = (if k < N then 1 else 0) → rup I 93 (fun z => if z = k then v else cI (I 93) N k z) = rup I 93 (cI (I 93) N (k + 1)) := fun v hv => by
      congr 1
      funext z
      unfold cI
      by_cases h : z = k
      · subst h; rw [if_pos rfl, if_pos (by omega), hv]
      · rw [if_neg h]
        by_cases h2 : z < k
        · rw [if_pos h2, if_pos (show z < k + 1 by omega)]
        · rw [if_neg h2, if_neg (show ¬ z < k + 1 by omega)]
    refine T_Seen_judge_7 ⟨fun z => by omega, fun _ => ?_⟩
    rw [Int.toNat_natCast, wr_of (z := (k : Int) + 1) (by omega) (by omega), rup_mup, rup_mup]
    refine ⟨fun z => ⟨⟨by omega, by omega⟩, ?_⟩, fun z => ⟨⟨by omega, by omega⟩, ?_⟩⟩
    · rw [step 0 (by rw [if_neg (by omega)])]; exact ih (k + 1) (by omega)
    · rw [step 1 (by rw [if_pos (by omega)])]; exact ih (k + 1) (by omega)
theorem q_judge {N : Nat} (hS : SEE I P) (hN : kb I = (N : Int)) (hQ : Q [] (mem Ls p (rup I 93 (jC (I 91) N (cI (I 93) N 24))) L)) : m_Call i_Seen_judge [.inr (.inr 87)] (mem Ls p I L) Q := by
  have hr := kb_range hS
  refine E_Seen_judge (q_knownBy hS (T_Seen_judge_4 ?_))
  rw [hN]
  have h := judgeA_loop (I := I) (kc := 0) (ks := 0) (Ls := Ls) (p := p) (L := L) (Q := Q) (N := N) (by omega) (judgeB_loop (N := N) (by omega) (st_ok hS (by omega)) N _ (by omega) hQ) 24 0 (by omega)
  rw [show cI (I 93) N 0 = I 93 by funext z; unfold cI; rw [if_neg (by omega)], rup_id] at h
  exact h
/-- the reference counts -/
theorem countA_loop {N : Nat} {a : Int} (h75 : X 98 75 = I 87 6) (h76 : X 98 76 = I 87 7) (hS : SEE I P) (hN : kb I = (N : Int)) (hQ : m_Wp i_M_rates 45 kc ks [(0, .inr (.inr 98)), (1, .inl a), (2, .inl ((N : Int) - 1))] [] (mem Ls p (rup X 139 (mI (X 139) N)) L) Q) : ∀ (t k : Nat), k + t = N → m_Wp i_M_rates 17 kc ks [(0, .inr (.inr 98)), (1, .inl a), (2, .inl (k : Int))] [] (mem Ls p (rup X 139 (mI (X 139) k)) L) Q := by
  have hr := kb_range hS
  have g : ∀ k, rup X 139 (mI (X 139) k) 98 = X 98 := fun k => rup_other (by omega)
  intro t
  induction t with
  | zero =>
    intro k hk
    have : k = N := by omega
    subst this
    refine T_M_rates_17 (r_knownBy (I := I) (P := P) (by rw [g]; exact h75) (by rw [g]; exact h76) hS (T_M_rates_22 ⟨fun _ => r_knownBy (I := I) (P := P) (by rw [g]; exact h75) (by rw [g]; exact h76) hS (T_M_rates_42 ?_), fun z => by omega⟩))
    rw [hN, wr_of (z := (k : Int) - 1) (by omega) (by omega)]
    exact hQ
  | succ t ih =>
    intro k hk
    refine T_M_rates_17 (r_knownBy (I := I) (P := P) (by rw [g]; exact h75) (by rw [g]; exact h76) hS (T_M_rates_22 ⟨fun z => by omega, fun _ => ⟨⟨by omega, by omega⟩, ?_⟩⟩))
    rw [Int.toNat_natCast, wr_of (z := (k : Int) + 1) (by omega) (by omega), rup_mup, show (fun z => if z = k then (1 : Int) else mI (X 139) k z) = mI (X 139) (k + 1) by
      funext z
      unfold mI
      by_cases h : z = k
      · subst h; rw [if_pos rfl, if_pos (by omega)]
      · rw [if_neg h]
        by_cases h2 : z < k
        · rw [if_pos h2, if_pos (show z < k + 1 by omega)]
        · rw [if_neg h2, if_neg (show ¬ z < k + 1 by omega)]]
    exact ih (k + 1) (by omega)
theorem countB_loop {N : Nat} {a : Int} (hS : SEE I P) (h138 : X 138 = I 138) (hN : (N : Int) ≤ I 87 6) (hQ0 : ∀ f, f = jM (I 91) N (mI (X 139) N) → m_Wp i_M_rates 95 kc ks [(0, .inr (.inr 98)), (1, .inl a), (2, .inl 0), (3, .inl 0)] [] (mem Ls p (rup X 139 f) L) Q) : ∀ (n : Nat) (f : Nat → Int), n ≤ N → jM (I 91) n f = jM (I 91) N (mI (X 139) N) → m_Wp i_M_rates 45 kc ks [(0, .inr (.inr 98)), (1, .inl a), (2, .inl ((n : Int) - 1))] [] (mem Ls p (rup X 139 f) L) Q := by
  have h24 := hS.1
  intro n
  induction n with
  | zero =>
    intro f hn hf
    exact T_M_rates_45 ⟨fun _ => hQ0 f hf, fun z => by omega⟩
  | succ n ih =>
    intro f hn hf
    rw [jM] at hf
    refine T_M_rates_45 ?_
    have hrow := hS.2.2.2.2 n (by omega)
    rw [show ((n + 1 : Nat) : Int) - 1 = (n : Int) by omega, Int.toNat_natCast, wr_of (z := (n : Int) + -1) (by omega) (by omega), show (n : Int) + -1 = (n : Int) - 1 by omega, wr_of (z := 4 * (n : Int)) (by omega) (by omega), wr_of (z := 4 * (n : Int) + 1) (by omega) (by omega), show (4 * (n : Int)).toNat = 4 * n by omega, show (4 * (n : Int) + 1).toNat = 4 * n + 1 by omega, rup_other (k := 139) (a := 138) (by omega), rup_self, h138, rup_mup]
    refine ⟨fun z => by omega, fun _ => ⟨by omega, fun s2 => ?_, fun s2 => ⟨by omega, fun s1 => ?_, fun s1 => ⟨by omega, ⟨?_, by omega⟩, ?_⟩⟩⟩⟩
    · refine ih f (by omega) ?_
      by_cases s1 : I 91 n = -1
      · rw [if_pos s1] at hf; exact hf
      · rw [if_neg s1, if_pos s2] at hf; exact hf
    · refine ih f (by omega) ?_
      have hs1 : I 91 n = -1 := by rcases hrow with h | h <;> omega
      rw [if_pos hs1] at hf; exact hf
    · rcases hrow with h | h <;> omega
    · have hs1 : I 91 n ≠ -1 ∧ I 138 (4 * n + 1) = I 91 n := by rcases hrow with h | h <;> omega
      rw [if_neg hs1.1, if_neg s2] at hf
      rw [hs1.2]
      exact ih _ (by omega) hf
end V2
