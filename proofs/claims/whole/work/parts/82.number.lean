/-! ===== phase 2: numbers ===== -/
/-- a number of the two: alike as far as bounds go -/
def NR (n w : Int) : Prop := (n = w ∧ 0 ≤ n ∧ n ≤ 99999) ∨ (99999 < n ∧ n ≤ 1000000 ∧ 99999 < w ∧ w ≤ 1000000)
section V7
variable {Ls p pp kc ks kc' ks' c : Nat} {I J K L X Y Z : Nat → Nat → Int} {Q : List mV → mM → Prop}
theorem num_loop {N e : Nat} (hN : N ≤ 700) (heN : e ≤ N) (hT : TPR X Y) (h2 : X 5 2 = (N : Int)) (h6 : Y 98 6 = (N : Int)) (he : e < N → ¬ isDg (Y 99 e)) : ∀ (t i : Nat) (n w : Int), i + t = e → (∀ j, i ≤ j → j < e → isDg (Y 99 j)) → NR n w → ∃ n' w', NR n' w' ∧ (∀ Q, Q [] (mem Ls p (mup (mup (mup X 5 6 n') 5 3 (e : Int)) 5 4 2) L) → m_Wp i_Tokens_readNumber 5 kc ks [(0, .inr (.inr 5))] [] (mem Ls p (mup (mup X 5 6 n) 5 3 (i : Int)) L) Q) ∧ (∀ Q, Q [] (mem Ls pp (mup (mup Y 98 9 w') 98 7 (e : Int)) K) → m_Wp i_M_token 213 kc' ks' [(0, .inr (.inr 98))] [] (mem Ls pp (mup (mup Y 98 9 w) 98 7 (i : Int)) K) Q) := by
  have xs : ∀ (n i : Int), mup (mup X 5 6 n) 5 3 i 5 2 = (N : Int) := fun n i => by rw [mup_ne (by omega), mup_ne (by omega), h2]
  have x3 : ∀ (n i : Int), mup (mup X 5 6 n) 5 3 i 5 3 = i := fun n i => mup_eq rfl rfl
  have x6 : ∀ (n i : Int), mup (mup X 5 6 n) 5 3 i 5 6 = n := fun n i => by rw [mup_ne (by omega), mup_eq rfl rfl]
  have x66 : ∀ (n i : Int), mup (mup X 5 6 n) 5 3 i 6 = X 6 := fun n i => by rw [mup_other (by omega), mup_other (by omega)]
  have y6 : ∀ (n i : Int), mup (mup Y 98 9 n) 98 7 i 98 6 = (N : Int) := fun n i => by rw [mup_ne (by omega), mup_ne (by omega), h6]
  have y7 : ∀ (n i : Int), mup (mup Y 98 9 n) 98 7 i 98 7 = i := fun n i => mup_eq rfl rfl
  have y9 : ∀ (n i : Int), mup (mup Y 98 9 n) 98 7 i 98 9 = n := fun n i => by rw [mup_ne (by omega), mup_eq rfl rfl]
  have y99 : ∀ (n i : Int), mup (mup Y 98 9 n) 98 7 i 99 = Y 99 := fun n i => by rw [mup_other (by omega), mup_other (by omega)]
  have xset : ∀ (n i n' i' : Int), mup (mup (mup (mup X 5 6 n) 5 3 i) 5 6 n') 5 3 i' = mup (mup X 5 6 n') 5 3 i' := fun n i n' i' => by
    rw [mup_comm (J := mup X 5 6 n) (by omega), mup_mup, mup_mup]
  have yset : ∀ (n i n' i' : Int), mup (mup (mup (mup Y 98 9 n) 98 7 i) 98 9 n') 98 7 i' = mup (mup Y 98 9 n') 98 7 i' := fun n i n' i' => by
    rw [mup_comm (J := mup Y 98 9 n) (by omega), mup_mup, mup_mup]
  intro t
  induction t with
  | zero =>
    intro i n w hi hd hr
    have : i = e := by omega
    subst this
    refine ⟨n, w, hr, fun Q hQ => T_Tokens_readNumber_5 ?_, fun Q hQ => T_M_token_213 ?_⟩
    · rw [xs, x3]
      refine ⟨fun _ => hQ, fun z => q_isDigit (by omega) (fun h => ?_) (fun _ => T_Tokens_readNumber_24 ⟨fun _ => hQ, fun z => absurd rfl z⟩)⟩
      rw [x66, (hT i (by omega)).2] at h
      exact absurd ((sby_lt (hT i (by omega)).1).2.1.mp h) (he (by omega))
    · rw [y7]
      refine r_isDigit hN (y6 _ _) (fun h1 h => ?_) (fun _ => T_M_token_221 ⟨fun _ => hQ, fun z => absurd rfl z⟩)
      rw [y99] at h
      exact absurd h (he h1)
  | succ t ih =>
    intro i n w hi hd hr
    have hdi := hd i (by omega) (by omega)
    have hti := hT i (by omega)
    have hx : X 6 i = Y 99 i := by rw [hti.2]; unfold isDg at hdi; unfold sby; rw [if_pos (by omega)]
    have hnw : (0 ≤ n ∧ n ≤ 1000000) ∧ (0 ≤ w ∧ w ≤ 1000000) := by unfold NR at hr; omega
    have hr2 : NR (m_min 1000000 (n * 10 + Y 99 i - 48)) (if w ≤ 99999 then 10 * w + Y 99 i - 48 else w) := by
      unfold isDg at hdi
      unfold NR at hr ⊢
      unfold m_min
      split <;> split <;> omega
    obtain ⟨n', w', q1, q2, q3⟩ := ih (i + 1) _ _ (by omega) (fun j h1 h3 => hd j (by omega) h3) hr2
    unfold isDg at hdi
    refine ⟨n', w', q1, fun Q hQ => T_Tokens_readNumber_5 ?_, fun Q hQ => T_M_token_213 ?_⟩
    · rw [xs, x3]
      refine ⟨fun z => by omega, fun _ => q_isDigit (by omega) (fun _ => T_Tokens_readNumber_24 ⟨fun z => by omega, fun _ => ?_⟩) (fun h => absurd (by rw [x66, hx]; exact hdi) h)⟩
      rw [x3, x6, x66, Int.toNat_natCast, hx, wr_of (z := n * 10) (by omega) (by omega), wr_of (z := n * 10 + Y 99 i) (by omega) (by omega), wr_of (z := n * 10 + Y 99 i - 48) (by omega) (by omega), wr_of (z := (i : Int) + 1) (by omega) (by omega), xset, show (i : Int) + 1 = ((i + 1 : Nat) : Int) by omega]
      exact ⟨by omega, q2 Q hQ⟩
    · rw [y7]
      refine r_isDigit hN (y6 _ _) (fun _ _ => T_M_token_221 ⟨fun z => by omega, fun _ => ?_⟩) (fun h => absurd ⟨by omega, by rw [y99]; exact hdi⟩ h)
      rw [y9, y7, y99, Int.toNat_natCast, wr_of (z := (i : Int) + 1) (by omega) (by omega), show (i : Int) + 1 = ((i + 1 : Nat) : Int) by omega, yset, yset]
      have q3' := q3 Q hQ
      refine ⟨fun z => ⟨by omega, ?_⟩, fun z => ?_⟩
      · rw [if_pos z] at q3'
        rw [wr_of (z := 10 * w) (by omega) (by omega), wr_of (z := 10 * w + Y 99 i) (by omega) (by omega), wr_of (z := 10 * w + Y 99 i - 48) (by omega) (by omega)]
        exact q3'
      · rw [if_neg z] at q3'; exact q3'
end V7
