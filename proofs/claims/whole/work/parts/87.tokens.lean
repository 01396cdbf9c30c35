/-! ===== phase 2: the token, both ===== -/
def sgk (c : Int) : Int := if c = 40 then 5 else if c = 41 then 6 else if c = 42 then 9 else if c = 43 then 7 else if c = 45 then 8 else if c = 47 then 10 else if c = 59 then 4 else if c = 60 then 11 else if c = 61 then 13 else if c = 62 then 16 else 1
section V11
variable {Ls p pp kc ks kc' ks' c : Nat} {I J K L X Y Z : Nat → Nat → Int} {Q : List mV → mM → Prop}
theorem q_signKind {c : Int} (hQ : Q [.inl (sgk c)] (mem Ls p X L)) : m_Call i_Tokens_signKind [.inl c] (mem Ls p X L) Q := by
  unfold sgk at hQ
  refine E_Tokens_signKind ⟨fun z => ?_, fun n0 => ⟨fun z => ?_, fun n1 => ⟨fun z => ?_, fun n2 => ⟨fun z => ?_, fun n3 => ⟨fun z => ?_, fun n4 => ⟨fun z => ?_, fun n5 => ⟨fun z => ?_, fun n6 => ⟨fun z => ?_, fun n7 => ⟨fun z => ?_, fun n8 => ⟨fun z => ?_, fun n9 => ?_⟩⟩⟩⟩⟩⟩⟩⟩⟩⟩
  · rw [if_pos z] at hQ; exact hQ
  · rw [if_neg n0, if_pos z] at hQ; exact hQ
  · rw [if_neg n0, if_neg n1, if_pos z] at hQ; exact hQ
  · rw [if_neg n0, if_neg n1, if_neg n2, if_pos z] at hQ; exact hQ
  · rw [if_neg n0, if_neg n1, if_neg n2, if_neg n3, if_pos z] at hQ; exact hQ
  · rw [if_neg n0, if_neg n1, if_neg n2, if_neg n3, if_neg n4, if_pos z] at hQ; exact hQ
  · rw [if_neg n0, if_neg n1, if_neg n2, if_neg n3, if_neg n4, if_neg n5, if_pos z] at hQ; exact hQ
  · rw [if_neg n0, if_neg n1, if_neg n2, if_neg n3, if_neg n4, if_neg n5, if_neg n6, if_pos z] at hQ; exact hQ
  · rw [if_neg n0, if_neg n1, if_neg n2, if_neg n3, if_neg n4, if_neg n5, if_neg n6, if_neg n7, if_pos z] at hQ; exact hQ
  · rw [if_neg n0, if_neg n1, if_neg n2, if_neg n3, if_neg n4, if_neg n5, if_neg n6, if_neg n7, if_neg n8, if_pos z] at hQ; exact hQ
  · rw [if_neg n0, if_neg n1, if_neg n2, if_neg n3, if_neg n4, if_neg n5, if_neg n6, if_neg n7, if_neg n8, if_neg n9] at hQ; exact hQ
theorem r_sign {s : Nat} {c : Int} (hs : s < 700) (h7 : Y 98 7 = (s : Int)) (hc : Y 99 s = c) (h1 : c = 60 ∨ c = 61 ∨ c = 62 → m_Wp i_M_signToken 50 0 0 [(0, .inr (.inr 98))] [] (mem Ls p (mup (mup Y 98 9 c) 98 7 ((s + 1 : Nat) : Int)) L) Q) (h2 : c = 59 ∨ c = 40 ∨ c = 41 ∨ c = 43 ∨ c = 45 ∨ c = 42 ∨ c = 47 ∨ c = 37 → Q [] (mem Ls p (mup (mup (mup Y 98 9 c) 98 7 ((s + 1 : Nat) : Int)) 98 8 4) L)) (h3 : ¬ (c = 60 ∨ c = 61 ∨ c = 62) → ¬ (c = 59 ∨ c = 40 ∨ c = 41 ∨ c = 43 ∨ c = 45 ∨ c = 42 ∨ c = 47 ∨ c = 37) → Q [] (mem Ls p (mup (mup (mup Y 98 9 c) 98 7 ((s + 1 : Nat) : Int)) 98 8 6) L)) : m_Call i_M_signToken [.inr (.inr 98)] (mem Ls p Y L) Q := by
  refine E_M_signToken ?_
  rw [h7, Int.toNat_natCast, hc, wr_of (z := (s : Int) + 1) (by omega) (by omega), show (s : Int) + 1 = ((s + 1 : Nat) : Int) by omega]
  have sg : c = 59 ∨ c = 40 ∨ c = 41 ∨ c = 43 ∨ c = 45 ∨ c = 42 ∨ c = 47 ∨ c = 37 → m_Wp i_M_signToken 270 0 0 [(0, .inr (.inr 98))] [] (mem Ls p (mup (mup Y 98 9 c) 98 7 ((s + 1 : Nat) : Int)) L) Q := fun h => T_M_signToken_270 (T_M_signToken_275 ⟨fun z => absurd z (show ¬ (1 : Int) = 0 by omega), fun _ => T_M_signToken_287 (T_M_signToken_290 (h2 h))⟩)
  refine ⟨by omega, fun z => h1 (Or.inl z), fun n0 => ⟨fun z => h1 (Or.inr (Or.inr z)), fun n1 => ⟨fun n2 => ⟨fun z => sg (Or.inl z), fun n3 => ⟨fun z => sg (Or.inr (Or.inl z)), fun n4 => ⟨fun z => sg (Or.inr (Or.inr (Or.inl z))), fun n5 => ⟨fun z => sg (Or.inr (Or.inr (Or.inr (Or.inl z)))), fun n6 => ⟨fun z => sg (Or.inr (Or.inr (Or.inr (Or.inr (Or.inl z))))), fun n7 => ⟨fun z => sg (Or.inr (Or.inr (Or.inr (Or.inr (Or.inr (Or.inl z)))))), fun n8 => ⟨fun z => sg (Or.inr (Or.inr (Or.inr (Or.inr (Or.inr (Or.inr (Or.inl z))))))), fun n9 => ⟨fun n10 => T_M_signToken_275 ⟨fun _ => T_M_signToken_287 (T_M_signToken_290 (h3 ?_ ?_)), fun z => absurd rfl z⟩, fun z => sg (Or.inr (Or.inr (Or.inr (Or.inr (Or.inr (Or.inr (Or.inr (Classical.not_not.mp z))))))))⟩⟩⟩⟩⟩⟩⟩⟩, fun z => h1 (Or.inr (Or.inl (Classical.not_not.mp z)))⟩⟩⟩
  · intro h; rcases h with h | h | h
    · exact n0 h
    · exact n2 h
    · exact n1 h
  · intro h; rcases h with h | h | h | h | h | h | h | h
    · exact n3 h
    · exact n4 h
    · exact n5 h
    · exact n6 h
    · exact n7 h
    · exact n8 h
    · exact n9 h
    · exact n10 h
/-- what the two share: the tape, its end, the words -/
def TKS (X Y : Nat → Nat → Int) (N : Nat) : Prop := X 5 2 = (N : Int) ∧ Y 98 6 = (N : Int) ∧ N ≤ 700 ∧ TPR X Y ∧ (∀ k : Nat, k < 20 → X 7 k = words7.getD k 0) ∧ (∀ k : Nat, k < 100 → Y 100 k = words100.getD k 0)
theorem tok_pair {N a : Nat} (hT : TKS X Y N) (ha : a ≤ N) (hX : X 5 3 = (a : Int)) (hY : Y 98 7 = (a : Int)) : ∃ (a' pl : Nat) (k nm lt m w : Int), (∀ Q, Q [] (mem Ls p (tX X (a' : Int) k (pl : Int) nm lt) L) → m_Call i_Tokens_advance [.inr (.inr 5)] (mem Ls p X L) Q) ∧ (∀ Q, Q [] (mem Ls pp (tY Y (a' : Int) m w (pl : Int)) K) → m_Call i_M_token [.inr (.inr 98)] (mem Ls pp Y K) Q) ∧ a ≤ a' ∧ a' ≤ N ∧ (k ≠ 0 → a < a') ∧ KR k nm lt m w := by
  obtain ⟨t2, t6, hN, tp, w7, w100⟩ := hT
  obtain ⟨s, s1, s2, s3, s4⟩ := run_to (P := fun j => isWs (Y 99 j)) N (N - a) a (by omega)
  have wsX : ∀ j, a ≤ j → j < s → isWs (X 6 j) := fun j h1 h2 => by rw [(tp j (by omega)).2]; exact (sby_lt (tp j (by omega)).1).2.2.mpr (s3 j h1 h2)
  have nwX : s < N → ¬ isWs (X 6 s) := fun h h2 => by rw [(tp s (by omega)).2] at h2; exact s4 h ((sby_lt (tp s (by omega)).1).2.2.mp h2)
  by_cases hsN : s = N
  · refine ⟨s, s, 0, X 5 6, X 5 7, 0, Y 98 9, fun Q hQ => q_adv hN s1 s2 nwX wsX t2 hX (fun h => by omega) (fun _ => ?_), fun Q hQ => r_tok hN s1 s2 s4 s3 t6 hY (fun h => by omega) (fun _ => ?_), s1, s2, fun h => absurd rfl h, Or.inl ⟨rfl, rfl⟩⟩
    · rw [show mup (mup (mup X 5 3 (s : Int)) 5 5 (s : Int)) 5 4 0 = tX X (s : Int) 0 (s : Int) (X 5 6) (X 5 7) by
        funext b k; unfold tX; simp only [mup_app]; grind]
      exact hQ
    · rw [show mup (mup (mup Y 98 7 (s : Int)) 98 10 (s : Int)) 98 8 0 = tY Y (s : Int) 0 (Y 98 9) (s : Int) by
        funext b k; unfold tY; simp only [mup_app]; grind]
      exact hQ
  · have hs : s < N := by omega
    have ts := tp s (by omega)
    -- the class's and the reference's memory at the token
    have x2 : mup (mup X 5 3 (s : Int)) 5 5 (s : Int) 5 2 = (N : Int) := by rw [mup_ne (by omega), mup_ne (by omega), t2]
    have x3 : mup (mup X 5 3 (s : Int)) 5 5 (s : Int) 5 3 = (s : Int) := by rw [mup_ne (by omega), mup_eq rfl rfl]
    have x5 : mup (mup X 5 3 (s : Int)) 5 5 (s : Int) 5 5 = (s : Int) := mup_eq rfl rfl
    have x6 : mup (mup X 5 3 (s : Int)) 5 5 (s : Int) 6 = X 6 := by rw [mup_other (by omega), mup_other (by omega)]
    have x7 : mup (mup X 5 3 (s : Int)) 5 5 (s : Int) 7 = X 7 := by rw [mup_other (by omega), mup_other (by omega)]
    have y6 : mup (mup Y 98 7 (s : Int)) 98 10 (s : Int) 98 6 = (N : Int) := by rw [mup_ne (by omega), mup_ne (by omega), t6]
    have y7 : mup (mup Y 98 7 (s : Int)) 98 10 (s : Int) 98 7 = (s : Int) := by rw [mup_ne (by omega), mup_eq rfl rfl]
    have y10 : mup (mup Y 98 7 (s : Int)) 98 10 (s : Int) 98 10 = (s : Int) := mup_eq rfl rfl
    have y99 : mup (mup Y 98 7 (s : Int)) 98 10 (s : Int) 99 = Y 99 := by rw [mup_other (by omega), mup_other (by omega)]
    have y100 : mup (mup Y 98 7 (s : Int)) 98 10 (s : Int) 100 = Y 100 := by rw [mup_other (by omega), mup_other (by omega)]
    have cT : ∀ (Q : List mV → mM → Prop), (isLt (X 6 s) → m_Wp i_Tokens_advance 87 0 0 [(0, .inr (.inr 5))] [.inl 1] (mem Ls p (mup (mup X 5 3 (s : Int)) 5 5 (s : Int)) L) Q) → (¬ isLt (X 6 s) → m_Wp i_Tokens_advance 87 0 0 [(0, .inr (.inr 5))] [.inl 0] (mem Ls p (mup (mup X 5 3 (s : Int)) 5 5 (s : Int)) L) Q) → m_Call i_Tokens_advance [.inr (.inr 5)] (mem Ls p X L) Q := fun Q h1 h0 => q_adv hN s1 s2 nwX wsX t2 hX (fun _ => q_isLetter (by omega) (fun h => h1 (by rw [x6] at h; exact h)) (fun h => h0 (by rw [x6] at h; exact h))) (fun h => absurd h hsN)
    have mT : ∀ (Q : List mV → mM → Prop), (isLt (Y 99 s) → m_Wp i_M_token 87 0 0 [(0, .inr (.inr 98))] [.inl 1] (mem Ls pp (mup (mup Y 98 7 (s : Int)) 98 10 (s : Int)) K) Q) → (¬ isLt (Y 99 s) → m_Wp i_M_token 87 0 0 [(0, .inr (.inr 98))] [.inl 0] (mem Ls pp (mup (mup Y 98 7 (s : Int)) 98 10 (s : Int)) K) Q) → m_Call i_M_token [.inr (.inr 98)] (mem Ls pp Y K) Q := fun Q h1 h0 => r_tok hN s1 s2 s4 s3 t6 hY (fun _ => r_isSmall hN y6 (fun _ h => h1 (by rw [y99] at h; exact h)) (fun h => h0 (fun h2 => h ⟨hs, by rw [y99]; exact h2⟩))) (fun h => absurd h hsN)
    by_cases hlt : isLt (Y 99 s)
    · -- letters
      have hltX : isLt (X 6 s) := by rw [ts.2]; exact (sby_lt ts.1).1.mpr hlt
      obtain ⟨e, e1, e2, e3, e4⟩ := run_to (P := fun j => isLt (Y 99 j)) N (N - s) s (by omega)
      have hse : s < e := by
        by_cases h : s = e
        · exact absurd hlt (by rw [h]; exact e4 (by omega))
        · omega
      have lX : ∀ j, s ≤ j → j < e → isLt (X 6 j) := fun j h1 h2 => by rw [(tp j (by omega)).2]; exact (sby_lt (tp j (by omega)).1).1.mpr (e3 j h1 h2)
      have sX : e < N → ¬ isLt (X 6 e) := fun h h2 => by rw [(tp e (by omega)).2] at h2; exact e4 h ((sby_lt (tp e (by omega)).1).1.mp h2)
      have eqL : ∀ j, s ≤ j → j < e → X 6 j = Y 99 j := fun j h1 h2 => by
        have := e3 j h1 h2
        unfold isLt at this
        rw [(tp j (by omega)).2]; unfold sby; rw [if_pos (by omega)]
      have hpk : pk6 (X 6) s (e - s) = pk6 (Y 99) s (e - s) := by unfold pk6; rw [pk_congr (e - s) (fun j hj => eqL (s + j) (by omega) (by omega))]
      have lY : ∀ j, j < e - s → isLt (Y 99 (s + j)) := fun j hj => e3 (s + j) (by omega) (by omega)
      -- the class
      have cW : ∀ (Q : List mV → mM → Prop), (e - s ≤ 6 → ∀ k : Nat, k < 20 → words7.getD k 0 = pk6 (X 6) s (e - s) → Q [] (mem Ls p (mup (mup (mup (mup (mup X 5 3 (s : Int)) 5 5 (s : Int)) 5 3 (e : Int)) 5 7 (pk6 (X 6) s (e - s))) 5 4 (17 + (k : Int))) L)) → (e - s ≤ 6 → (∀ k : Nat, k < 20 → words7.getD k 0 ≠ pk6 (X 6) s (e - s)) → Q [] (mem Ls p (mup (mup (mup (mup (mup X 5 3 (s : Int)) 5 5 (s : Int)) 5 3 (e : Int)) 5 7 (pk6 (X 6) s (e - s))) 5 4 3) L)) → (¬ (e - s ≤ 6) → Q [] (mem Ls p (mup (mup (mup (mup (mup X 5 3 (s : Int)) 5 5 (s : Int)) 5 7 (wlF (X 6) s (e - s))) 5 3 (e : Int)) 5 4 1) L)) → m_Call i_Tokens_advance [.inr (.inr 5)] (mem Ls p X L) Q := fun Q h1 h0 hB => by
        refine cT Q (fun _ => T_Tokens_advance_87 ⟨fun z => by omega, fun _ => ?_⟩) (fun h => absurd hltX h)
        refine q_readWord (N := N) (s := s) (e := e) hse hN e2 x2 x3 x5 (fun k hk => by rw [x7]; exact w7 k hk) (by rw [x6]; exact lX) (by rw [x6]; exact sX) ?_ ?_ ?_
        · rw [x6]; exact fun h6 k hk hP => T_Tokens_advance_94 (h1 h6 k hk hP)
        · rw [x6]; exact fun h6 hP => T_Tokens_advance_94 (h0 h6 hP)
        · rw [x6]; exact fun h6 => T_Tokens_advance_94 (hB h6)
      -- the reference
      have mW : ∀ (Q : List mV → mM → Prop), (∀ k : Nat, k < 20 → MT (Y 99) s (e - s) k → Q [] (mem Ls pp (mup (mup (mup (mup (mup Y 98 7 (s : Int)) 98 10 (s : Int)) 98 7 (e : Int)) 98 9 (k : Int)) 98 8 1) K)) → ((∀ k : Nat, k < 20 → ¬ MT (Y 99) s (e - s) k) → e - s ≤ 6 → Q [] (mem Ls pp (mup (mup (mup (mup (mup (mup Y 98 7 (s : Int)) 98 10 (s : Int)) 98 7 (e : Int)) 98 9 (-1)) 98 8 2) 98 9 (pk6 (Y 99) s (e - s))) K)) → ((∀ k : Nat, k < 20 → ¬ MT (Y 99) s (e - s) k) → ¬ (e - s ≤ 6) → Q [] (mem Ls pp (mup (mup (mup (mup (mup Y 98 7 (s : Int)) 98 10 (s : Int)) 98 7 (e : Int)) 98 9 (-1)) 98 8 6) K)) → m_Call i_M_token [.inr (.inr 98)] (mem Ls pp Y K) Q := fun Q h1 h0 hB => by
        refine mT Q (fun _ => T_M_token_87 ⟨fun z => by omega, fun _ => ?_⟩) (fun h => absurd hlt h)
        have hloop := tw_loop (kc := 0) (ks := 0) (Q := Q) (L := K) (Ls := Ls) (p := pp) (Y := mup (mup Y 98 7 (s : Int)) 98 10 (s : Int)) (s := s) (e := e) hN e2 y6 (by rw [y99]; exact e3) (by rw [y99]; exact e4) ?_ (e - s) s (by omega) (by omega)
        · rw [mup_same (J := mup (mup Y 98 7 (s : Int)) 98 10 (s : Int)) y7] at hloop
          exact hloop
        · rw [y10, show (e : Int) = ((s + (e - s) : Nat) : Int) by omega]
          have z99 : mup (mup (mup Y 98 7 (s : Int)) 98 10 (s : Int)) 98 7 ((s + (e - s) : Nat) : Int) 99 = Y 99 := by rw [mup_other (by omega), y99]
          have z7 : mup (mup (mup Y 98 7 (s : Int)) 98 10 (s : Int)) 98 7 ((s + (e - s) : Nat) : Int) 98 7 = ((s + (e - s) : Nat) : Int) := mup_eq rfl rfl
          have z10 : mup (mup (mup Y 98 7 (s : Int)) 98 10 (s : Int)) 98 7 ((s + (e - s) : Nat) : Int) 98 10 = (s : Int) := by rw [mup_ne (by omega), y10]
          have hse' : ((s + (e - s) : Nat) : Int) = (e : Int) := by omega
          refine r_wordAt (n := e - s) (fun k hk => by rw [mup_other (by omega), y100]; exact w100 k hk) (by omega) (fun k hk hm => T_M_token_127 ?_) (fun hm => T_M_token_127 ?_)
          · rw [z99] at hm
            refine ⟨fun z => by omega, fun _ => ⟨fun _ => ?_, fun z => absurd (show ¬ (1 : Int) = 2 by omega) z⟩⟩
            rw [hse']; exact h1 k hk hm
          · rw [z99] at hm
            rw [z7, z10, wr_of (z := ((s + (e - s) : Nat) : Int) - (s : Int)) (by omega) (by omega)]
            refine ⟨fun _ => ⟨fun z6 => ⟨fun z => absurd rfl z, fun _ => r_packed (n := e - s) (by omega) (by omega) (fun j hj => by rw [mup_other (by omega), mup_other (by omega), z99]; exact lY j hj) (T_M_token_186 ?_)⟩, fun z6 => ⟨fun _ => ?_, fun z => absurd (show ¬ (6 : Int) = 2 by omega) z⟩⟩, fun z => by omega⟩
            · rw [mup_other (by omega), mup_other (by omega), z99, hse']; exact h0 hm (by omega)
            · rw [hse']; exact hB hm (by omega)
      by_cases h6 : e - s ≤ 6
      · by_cases hex : ∃ k : Nat, k < 20 ∧ MT (Y 99) s (e - s) k
        · obtain ⟨k, hk, hm⟩ := hex
          have hwk : words7.getD (wpm k) 0 = pk6 (X 6) s (e - s) := by rw [hpk]; exact (MT_iff (by omega) lY hk).mp hm
          have hpm : wpm k < 20 := by unfold wpm; split <;> (try split) <;> omega
          have uniC : ∀ k' : Nat, k' < 20 → words7.getD k' 0 = pk6 (X 6) s (e - s) → k' = wpm k := fun k' hk' hP => by
            have tab : ∀ i : Nat, i < 20 → ∀ j : Nat, j < 20 → words7.getD i 0 = words7.getD j 0 → i = j := by decide
            exact tab k' hk' (wpm k) hpm (by rw [hP, hwk])
          have uniM : ∀ k' : Nat, k' < 20 → MT (Y 99) s (e - s) k' → k' = k := fun k' hk' hP => by
            have h1 := uniC (wpm k') (by unfold wpm; split <;> (try split) <;> omega) (by rw [hpk]; exact (MT_iff (by omega) lY hk').mp hP)
            unfold wpm at h1
            grind
          refine ⟨e, s, 17 + ((wpm k : Nat) : Int), X 5 6, pk6 (X 6) s (e - s), 1, (k : Int), fun Q hQ => cW Q (fun _ k' hk' hP => ?_) (fun _ hP => absurd hwk (hP (wpm k) hpm)) (fun h => absurd h6 h), fun Q hQ => mW Q (fun k' hk' hP => ?_) (fun hP _ => absurd hm (hP k hk)) (fun _ h => absurd h6 h), by omega, e2, fun _ => by omega, ?_⟩
          · rw [uniC k' hk' hP, show mup (mup (mup (mup (mup X 5 3 (s : Int)) 5 5 (s : Int)) 5 3 (e : Int)) 5 7 (pk6 (X 6) s (e - s))) 5 4 (17 + ((wpm k : Nat) : Int)) = tX X (e : Int) (17 + ((wpm k : Nat) : Int)) (s : Int) (X 5 6) (pk6 (X 6) s (e - s)) by
              funext b j; unfold tX; simp only [mup_app]; grind]
            exact hQ
          · rw [uniM k' hk' hP, show mup (mup (mup (mup (mup Y 98 7 (s : Int)) 98 10 (s : Int)) 98 7 (e : Int)) 98 9 (k : Int)) 98 8 1 = tY Y (e : Int) 1 (k : Int) (s : Int) by
              funext b j; unfold tY; simp only [mup_app]; grind]
            exact hQ
          · refine Or.inr (Or.inr (Or.inr (Or.inr (Or.inr (Or.inr ⟨rfl, by omega, by omega, ?_⟩)))))
            unfold wpm
            by_cases k10 : k = 10
            · subst k10; rfl
            · by_cases k11 : k = 11
              · subst k11; rfl
              · rw [if_neg k10, if_neg k11, if_neg (by omega), if_neg (by omega)]; omega
        · have hnM : ∀ k : Nat, k < 20 → ¬ MT (Y 99) s (e - s) k := fun k hk hm => hex ⟨k, hk, hm⟩
          have hnC : ∀ k : Nat, k < 20 → words7.getD k 0 ≠ pk6 (X 6) s (e - s) := fun k hk hP => by
            have hpm : wpm k < 20 := by unfold wpm; split <;> (try split) <;> omega
            refine hnM (wpm k) hpm ((MT_iff (by omega) lY hpm).mpr ?_)
            rw [← hpk, ← hP]
            congr 1
            unfold wpm
            grind
          refine ⟨e, s, 3, X 5 6, pk6 (X 6) s (e - s), 2, pk6 (Y 99) s (e - s), fun Q hQ => cW Q (fun _ k hk hP => absurd hP (hnC k hk)) (fun _ _ => ?_) (fun h => absurd h6 h), fun Q hQ => mW Q (fun k hk hP => absurd hP (hnM k hk)) (fun _ _ => ?_) (fun _ h => absurd h6 h), by omega, e2, fun _ => by omega, Or.inr (Or.inr (Or.inr (Or.inl ⟨rfl, rfl, hpk.symm⟩)))⟩
          · rw [show mup (mup (mup (mup (mup X 5 3 (s : Int)) 5 5 (s : Int)) 5 3 (e : Int)) 5 7 (pk6 (X 6) s (e - s))) 5 4 3 = tX X (e : Int) 3 (s : Int) (X 5 6) (pk6 (X 6) s (e - s)) by
              funext b j; unfold tX; simp only [mup_app]; grind]
            exact hQ
          · rw [show mup (mup (mup (mup (mup (mup Y 98 7 (s : Int)) 98 10 (s : Int)) 98 7 (e : Int)) 98 9 (-1)) 98 8 2) 98 9 (pk6 (Y 99) s (e - s)) = tY Y (e : Int) 2 (pk6 (Y 99) s (e - s)) (s : Int) by
              funext b j; unfold tY; simp only [mup_app]; grind]
            exact hQ
      · have hnM : ∀ k : Nat, k < 20 → ¬ MT (Y 99) s (e - s) k := fun k hk hm => by
          have := (w_tab k hk).1
          have := hm.1
          omega
        refine ⟨e, s, 1, X 5 6, wlF (X 6) s (e - s), 6, -1, fun Q hQ => cW Q (fun h => absurd h h6) (fun h => absurd h h6) (fun _ => ?_), fun Q hQ => mW Q (fun k hk hP => absurd hP (hnM k hk)) (fun _ h => absurd h h6) (fun _ _ => ?_), by omega, e2, fun _ => by omega, Or.inr (Or.inl ⟨rfl, Or.inl rfl⟩)⟩
        · rw [show mup (mup (mup (mup (mup X 5 3 (s : Int)) 5 5 (s : Int)) 5 7 (wlF (X 6) s (e - s))) 5 3 (e : Int)) 5 4 1 = tX X (e : Int) 1 (s : Int) (X 5 6) (wlF (X 6) s (e - s)) by
            funext b j; unfold tX; simp only [mup_app]; grind]
          exact hQ
        · rw [show mup (mup (mup (mup (mup Y 98 7 (s : Int)) 98 10 (s : Int)) 98 7 (e : Int)) 98 9 (-1)) 98 8 6 = tY Y (e : Int) 6 (-1) (s : Int) by
            funext b j; unfold tY; simp only [mup_app]; grind]
          exact hQ
    · have hltX : ¬ isLt (X 6 s) := fun h => hlt (by rw [ts.2] at h; exact (sby_lt ts.1).1.mp h)
      by_cases hdg : isDg (Y 99 s)
      · -- digits
        have hdX : isDg (X 6 s) := by rw [ts.2]; exact (sby_lt ts.1).2.1.mpr hdg
        obtain ⟨e, e1, e2, e3, e4⟩ := run_to (P := fun j => isDg (Y 99 j)) N (N - s) s (by omega)
        have hse : s < e := by
          by_cases h : s = e
          · exact absurd hdg (by rw [h]; exact e4 (by omega))
          · omega
        have tp' : TPR (mup (mup X 5 3 (s : Int)) 5 5 (s : Int)) (mup (mup (mup Y 98 7 (s : Int)) 98 10 (s : Int)) 98 8 3) := fun j hj => by
          rw [x6, mup_other (by omega), y99]; exact tp j hj
        obtain ⟨n', w', q1, q2, q3⟩ := num_loop (Ls := Ls) (p := p) (pp := pp) (L := L) (K := K) (kc := 0) (ks := 0) (kc' := 0) (ks' := 0) (X := mup (mup X 5 3 (s : Int)) 5 5 (s : Int)) (Y := mup (mup (mup Y 98 7 (s : Int)) 98 10 (s : Int)) 98 8 3) (N := N) (e := e) hN e2 tp' x2 (by rw [mup_ne (by omega), y6]) (by rw [mup_other (by omega), y99]; exact e4) (e - s) s 0 0 (by omega) (by rw [mup_other (by omega), y99]; exact e3) (Or.inl ⟨rfl, by omega, by omega⟩)
        refine ⟨e, s, 2, n', X 5 7, 3, w', fun Q hQ => cT Q (fun h => absurd h hltX) (fun _ => T_Tokens_advance_87 ⟨fun _ => ?_, fun z => absurd rfl z⟩), fun Q hQ => mT Q (fun h => absurd h hlt) (fun _ => T_M_token_87 ⟨fun _ => ?_, fun z => absurd rfl z⟩), by omega, e2, fun _ => by omega, Or.inr (Or.inr (Or.inl ⟨rfl, rfl, q1⟩))⟩
        · rw [x3]
          refine q_isDigit (by omega) (fun _ => T_Tokens_advance_105 ⟨fun z => by omega, fun _ => E_Tokens_readNumber ?_⟩) (fun h => absurd (by rw [x6]; exact hdX) h)
          have := q2 (fun v M' => m_Wp i_Tokens_advance 112 0 0 [(0, .inr (.inr 5))] (v ++ []) M' Q) (T_Tokens_advance_112 (by
            rw [show mup (mup (mup (mup (mup X 5 3 (s : Int)) 5 5 (s : Int)) 5 6 n') 5 3 (e : Int)) 5 4 2 = tX X (e : Int) 2 (s : Int) n' (X 5 7) by
              funext b j; unfold tX; simp only [mup_app]; grind]
            exact hQ))
          rw [mup_same (J := mup (mup (mup X 5 3 (s : Int)) 5 5 (s : Int)) 5 6 0) (k := 5) (j := 3) (by rw [mup_ne (by omega), x3])] at this
          exact this
        · rw [y7]
          refine r_isDigit hN y6 (fun _ _ => T_M_token_200 ⟨fun z => by omega, fun _ => ?_⟩) (fun h => absurd ⟨hs, by rw [y99]; exact hdg⟩ h)
          have := q3 Q (by
            rw [show mup (mup (mup (mup (mup Y 98 7 (s : Int)) 98 10 (s : Int)) 98 8 3) 98 9 w') 98 7 (e : Int) = tY Y (e : Int) 3 w' (s : Int) by
              funext b j; unfold tY; simp only [mup_app]; grind]
            exact hQ)
          rw [mup_same (J := mup (mup (mup (mup Y 98 7 (s : Int)) 98 10 (s : Int)) 98 8 3) 98 9 0) (k := 98) (j := 7) (by rw [mup_ne (by omega), mup_ne (by omega), y7])] at this
          exact this
      · -- a sign
        have hdX : ¬ isDg (X 6 s) := fun h => hdg (by rw [ts.2] at h; exact (sby_lt ts.1).2.1.mp h)
        have cS : ∀ (Q : List mV → mM → Prop), m_Wp i_Tokens_advance 128 0 0 [(0, .inr (.inr 5))] [.inl (sgk (X 6 s)), .inr (.inr 5)] (mem Ls p (mup (mup X 5 3 (s : Int)) 5 5 (s : Int)) L) Q → m_Call i_Tokens_advance [.inr (.inr 5)] (mem Ls p X L) Q := fun Q hq => by
          refine cT Q (fun h => absurd h hltX) (fun _ => T_Tokens_advance_87 ⟨fun _ => ?_, fun z => absurd rfl z⟩)
          rw [x3]
          refine q_isDigit (by omega) (fun h => absurd (by rw [x6] at h; exact h) hdX) (fun _ => T_Tokens_advance_105 ⟨fun _ => ?_, fun z => absurd rfl z⟩)
          rw [x3, x6, Int.toNat_natCast]
          exact ⟨by omega, q_signKind hq⟩
        have mS : ∀ (Q : List mV → mM → Prop), m_Call i_M_signToken [.inr (.inr 98)] (mem Ls pp (mup (mup Y 98 7 (s : Int)) 98 10 (s : Int)) K) (fun v M' => m_Wp i_M_token 281 0 0 [(0, .inr (.inr 98))] (v ++ []) M' Q) → m_Call i_M_token [.inr (.inr 98)] (mem Ls pp Y K) Q := fun Q hq => by
          refine mT Q (fun h => absurd h hlt) (fun _ => T_M_token_87 ⟨fun _ => ?_, fun z => absurd rfl z⟩)
          rw [y7]
          exact r_isDigit hN y6 (fun _ h => absurd (by rw [y99] at h; exact h) hdg) (fun _ => T_M_token_200 ⟨fun _ => hq, fun z => absurd rfl z⟩)
        obtain ⟨c, hc⟩ : ∃ c, Y 99 s = c := ⟨_, rfl⟩
        have hcb : 0 ≤ c ∧ c ≤ 255 := by rw [← hc]; exact ts.1
        have hxc : X 6 s = sby c := by rw [ts.2, hc]
        have hsg : ∀ v : Int, 0 ≤ v ∧ v < 128 → (X 6 s = v ↔ c = v) := fun v hv => by rw [hxc]; exact sby_eq hcb hv
        have hnx : ∀ v : Int, 0 ≤ v ∧ v < 128 → s + 1 < N → (X 6 (s + 1) = v ↔ Y 99 (s + 1) = v) := fun v hv h => by rw [(tp (s + 1) (by omega)).2]; exact sby_eq (tp (s + 1) (by omega)).1 hv
        have tXe : ∀ (k : Int) (a : Nat), mup (mup (mup (mup X 5 3 (s : Int)) 5 5 (s : Int)) 5 4 k) 5 3 (a : Int) = tX X (a : Int) k (s : Int) (X 5 6) (X 5 7) := fun k a => by
          funext b j; unfold tX; simp only [mup_app]; grind
        by_cases hcmp : c = 60 ∨ c = 61 ∨ c = 62
        · -- of comparing
          have mC : ∀ (w0 : Int) (a0 : Nat), (∀ w a : Int, (c = 60 ∧ s + 1 < N ∧ Y 99 (s + 1) = 61 ∧ w = 1 ∧ a = ((s + 2 : Nat) : Int)) ∨ (c = 60 ∧ s + 1 < N ∧ Y 99 (s + 1) = 62 ∧ w = 3 ∧ a = ((s + 2 : Nat) : Int)) ∨ (c = 60 ∧ ¬ (s + 1 < N ∧ (Y 99 (s + 1) = 61 ∨ Y 99 (s + 1) = 62)) ∧ w = 0 ∧ a = ((s + 1 : Nat) : Int)) ∨ (c = 61 ∧ w = 2 ∧ a = ((s + 1 : Nat) : Int)) ∨ (c = 62 ∧ s + 1 < N ∧ Y 99 (s + 1) = 61 ∧ w = 4 ∧ a = ((s + 2 : Nat) : Int)) ∨ (c = 62 ∧ ¬ (s + 1 < N ∧ Y 99 (s + 1) = 61) ∧ w = 5 ∧ a = ((s + 1 : Nat) : Int)) → w = w0 ∧ a = (a0 : Int)) → ∀ Q, Q [] (mem Ls pp (tY Y (a0 : Int) 5 w0 (s : Int)) K) → m_Call i_M_token [.inr (.inr 98)] (mem Ls pp Y K) Q := fun w0 a0 hu Q hQ => by
            refine mS Q (r_sign (c := c) (by omega) y7 (by rw [y99]; exact hc) (fun _ => ?_) (fun h => by omega) (fun h => absurd hcmp h))
            refine r_comp (N := N) (s := s) (c := c) hN hs (by rw [mup_ne (by omega), mup_ne (by omega), y6]) (mup_eq rfl rfl) (by rw [mup_ne (by omega), mup_eq rfl rfl]) hcmp (fun j hj => by rw [mup_other (by omega), mup_other (by omega), y99]; exact (tp j hj).1.1) (fun w a hwa => ?_)
            rw [mup_other (i := 99) (by omega), mup_other (i := 99) (by omega), y99] at hwa
            obtain ⟨r1, r2⟩ := hu w a hwa
            subst r1
            subst r2
            refine T_M_token_281 ?_
            rw [show mup (mup (mup (mup (mup (mup (mup Y 98 7 (s : Int)) 98 10 (s : Int)) 98 9 c) 98 7 ((s + 1 : Nat) : Int)) 98 7 (a0 : Int)) 98 8 5) 98 9 w = tY Y (a0 : Int) 5 w (s : Int) by
              funext b j; unfold tY; simp only [mup_app]; grind]
            exact hQ
          have cC : ∀ (k kf : Int) (af : Nat), sgk (X 6 s) = k → (s + 1 < N → k = 11 → X 6 (s + 1) = 61 → kf = 12 ∧ af = s + 2) → (s + 1 < N → k = 11 → X 6 (s + 1) = 62 → kf = 14 ∧ af = s + 2) → (s + 1 < N → k = 16 → X 6 (s + 1) = 61 → kf = 15 ∧ af = s + 2) → (¬ (s + 1 < N ∧ ((k = 11 ∧ (X 6 (s + 1) = 61 ∨ X 6 (s + 1) = 62)) ∨ (k = 16 ∧ X 6 (s + 1) = 61))) → kf = k ∧ af = s + 1) → ∀ Q, Q [] (mem Ls p (tX X (af : Int) kf (s : Int) (X 5 6) (X 5 7)) L) → m_Call i_Tokens_advance [.inr (.inr 5)] (mem Ls p X L) Q := fun k kf af hk u1 u2 u3 u4 Q hQ => by
            rw [← tXe] at hQ
            refine cS Q ?_
            rw [hk]
            refine q_sign (N := N) (s := s) hN hs x2 x3 ?_ ?_ ?_ ?_
            · rw [x6]; exact fun h1 h2 h3 => by obtain ⟨r1, r2⟩ := u1 h1 h2 h3; subst r1; subst r2; exact hQ
            · rw [x6]; exact fun h1 h2 h3 => by obtain ⟨r1, r2⟩ := u2 h1 h2 h3; subst r1; subst r2; exact hQ
            · rw [x6]; exact fun h1 h2 h3 => by obtain ⟨r1, r2⟩ := u3 h1 h2 h3; subst r1; subst r2; exact hQ
            · rw [x6]; exact fun h1 => by obtain ⟨r1, r2⟩ := u4 h1; subst r1; subst r2; exact hQ
          have n61 := hnx 61 (by omega)
          have n62 := hnx 62 (by omega)
          rcases hcmp with h60 | h61 | h62
          · have hk : sgk (X 6 s) = 11 := by rw [(hsg 60 (by omega)).mpr h60]; rfl
            by_cases d1 : s + 1 < N ∧ Y 99 (s + 1) = 61
            · refine ⟨s + 2, s, 12, X 5 6, X 5 7, 5, 1, cC 11 12 (s + 2) hk (fun _ _ _ => ⟨rfl, rfl⟩) (fun h1 _ h3 => ?_) (fun _ h _ => by omega) (fun h => absurd ⟨d1.1, Or.inl ⟨rfl, Or.inl ((n61 d1.1).mpr d1.2)⟩⟩ h), mC 1 (s + 2) (fun w a h => ?_), by omega, by omega, fun _ => by omega, Or.inr (Or.inr (Or.inr (Or.inr (Or.inr (Or.inl ⟨rfl, by omega, by omega, by omega⟩)))))⟩
              · rw [(n61 h1).mpr d1.2] at h3; omega
              · rcases h with h | h | h | h | h | h <;> omega
            · by_cases d2 : s + 1 < N ∧ Y 99 (s + 1) = 62
              · refine ⟨s + 2, s, 14, X 5 6, X 5 7, 5, 3, cC 11 14 (s + 2) hk (fun h1 _ h3 => ?_) (fun _ _ _ => ⟨rfl, rfl⟩) (fun _ h _ => by omega) (fun h => absurd ⟨d2.1, Or.inl ⟨rfl, Or.inr ((n62 d2.1).mpr d2.2)⟩⟩ h), mC 3 (s + 2) (fun w a h => ?_), by omega, by omega, fun _ => by omega, Or.inr (Or.inr (Or.inr (Or.inr (Or.inr (Or.inl ⟨rfl, by omega, by omega, by omega⟩)))))⟩
                · rw [(n62 h1).mpr d2.2] at h3; omega
                · rcases h with h | h | h | h | h | h <;> omega
              · refine ⟨s + 1, s, 11, X 5 6, X 5 7, 5, 0, cC 11 11 (s + 1) hk (fun h1 _ h3 => absurd ⟨h1, (n61 h1).mp h3⟩ d1) (fun h1 _ h3 => absurd ⟨h1, (n62 h1).mp h3⟩ d2) (fun _ h _ => by omega) (fun _ => ⟨rfl, rfl⟩), mC 0 (s + 1) (fun w a h => ?_), by omega, by omega, fun _ => by omega, Or.inr (Or.inr (Or.inr (Or.inr (Or.inr (Or.inl ⟨rfl, by omega, by omega, by omega⟩)))))⟩
                rcases h with h | h | h | h | h | h <;> omega
          · have hk : sgk (X 6 s) = 13 := by rw [(hsg 61 (by omega)).mpr h61]; rfl
            refine ⟨s + 1, s, 13, X 5 6, X 5 7, 5, 2, cC 13 13 (s + 1) hk (fun _ h _ => by omega) (fun _ h _ => by omega) (fun _ h _ => by omega) (fun _ => ⟨rfl, rfl⟩), mC 2 (s + 1) (fun w a h => ?_), by omega, by omega, fun _ => by omega, Or.inr (Or.inr (Or.inr (Or.inr (Or.inr (Or.inl ⟨rfl, by omega, by omega, by omega⟩)))))⟩
            rcases h with h | h | h | h | h | h <;> omega
          · have hk : sgk (X 6 s) = 16 := by rw [(hsg 62 (by omega)).mpr h62]; rfl
            by_cases d1 : s + 1 < N ∧ Y 99 (s + 1) = 61
            · refine ⟨s + 2, s, 15, X 5 6, X 5 7, 5, 4, cC 16 15 (s + 2) hk (fun _ h _ => by omega) (fun _ h _ => by omega) (fun _ _ _ => ⟨rfl, rfl⟩) (fun h => absurd ⟨d1.1, Or.inr ⟨rfl, (n61 d1.1).mpr d1.2⟩⟩ h), mC 4 (s + 2) (fun w a h => ?_), by omega, by omega, fun _ => by omega, Or.inr (Or.inr (Or.inr (Or.inr (Or.inr (Or.inl ⟨rfl, by omega, by omega, by omega⟩)))))⟩
              rcases h with h | h | h | h | h | h <;> omega
            · refine ⟨s + 1, s, 16, X 5 6, X 5 7, 5, 5, cC 16 16 (s + 1) hk (fun _ h _ => by omega) (fun _ h _ => by omega) (fun h1 _ h3 => absurd ⟨h1, (n61 h1).mp h3⟩ d1) (fun _ => ⟨rfl, rfl⟩), mC 5 (s + 1) (fun w a h => ?_), by omega, by omega, fun _ => by omega, Or.inr (Or.inr (Or.inr (Or.inr (Or.inr (Or.inl ⟨rfl, by omega, by omega, by omega⟩)))))⟩
              rcases h with h | h | h | h | h | h <;> omega
        · -- no comparing
          have n60 : ¬ X 6 s = 60 := fun h => hcmp (Or.inl ((hsg 60 (by omega)).mp h))
          have n61 : ¬ X 6 s = 61 := fun h => hcmp (Or.inr (Or.inl ((hsg 61 (by omega)).mp h)))
          have n62 : ¬ X 6 s = 62 := fun h => hcmp (Or.inr (Or.inr ((hsg 62 (by omega)).mp h)))
          have cN : ∀ k : Int, sgk (X 6 s) = k → k ≠ 11 → k ≠ 16 → ∀ Q, Q [] (mem Ls p (tX X ((s + 1 : Nat) : Int) k (s : Int) (X 5 6) (X 5 7)) L) → m_Call i_Tokens_advance [.inr (.inr 5)] (mem Ls p X L) Q := fun k hk k1 k2 Q hQ => by
            rw [← tXe] at hQ
            refine cS Q ?_
            rw [hk]
            exact q_sign (N := N) (s := s) hN hs x2 x3 (fun _ h _ => absurd h k1) (fun _ h _ => absurd h k1) (fun _ h _ => absurd h k2) (fun _ => hQ)
          have mN : ∀ m : Int, (c = 59 ∨ c = 40 ∨ c = 41 ∨ c = 43 ∨ c = 45 ∨ c = 42 ∨ c = 47 ∨ c = 37 → m = 4) → (¬ (c = 59 ∨ c = 40 ∨ c = 41 ∨ c = 43 ∨ c = 45 ∨ c = 42 ∨ c = 47 ∨ c = 37) → m = 6) → ∀ Q, Q [] (mem Ls pp (tY Y ((s + 1 : Nat) : Int) m c (s : Int)) K) → m_Call i_M_token [.inr (.inr 98)] (mem Ls pp Y K) Q := fun m u1 u2 Q hQ => by
            have tYe : ∀ m : Int, mup (mup (mup (mup (mup Y 98 7 (s : Int)) 98 10 (s : Int)) 98 9 c) 98 7 ((s + 1 : Nat) : Int)) 98 8 m = tY Y ((s + 1 : Nat) : Int) m c (s : Int) := fun m => by
              funext b j; unfold tY; simp only [mup_app]; grind
            rw [← tYe] at hQ
            exact mS Q (r_sign (c := c) (by omega) y7 (by rw [y99]; exact hc) (fun h => absurd h hcmp) (fun h => T_M_token_281 (by rw [u1 h] at hQ; exact hQ)) (fun _ h => T_M_token_281 (by rw [u2 h] at hQ; exact hQ)))
          have wrap : ∀ k m : Int, sgk (X 6 s) = k → k ≠ 11 → k ≠ 16 → (c = 59 ∨ c = 40 ∨ c = 41 ∨ c = 43 ∨ c = 45 ∨ c = 42 ∨ c = 47 ∨ c = 37 → m = 4) → (¬ (c = 59 ∨ c = 40 ∨ c = 41 ∨ c = 43 ∨ c = 45 ∨ c = 42 ∨ c = 47 ∨ c = 37) → m = 6) → KR k (X 5 6) (X 5 7) m c → ∃ (a' pl : Nat) (k nm lt m w : Int), (∀ Q, Q [] (mem Ls p (tX X (a' : Int) k (pl : Int) nm lt) L) → m_Call i_Tokens_advance [.inr (.inr 5)] (mem Ls p X L) Q) ∧ (∀ Q, Q [] (mem Ls pp (tY Y (a' : Int) m w (pl : Int)) K) → m_Call i_M_token [.inr (.inr 98)] (mem Ls pp Y K) Q) ∧ a ≤ a' ∧ a' ≤ N ∧ (k ≠ 0 → a < a') ∧ KR k nm lt m w := fun k m hk k1 k2 u1 u2 hKR => ⟨s + 1, s, k, X 5 6, X 5 7, m, c, cN k hk k1 k2, mN m u1 u2, by omega, by omega, fun _ => by omega, hKR⟩
          by_cases h40 : c = 40
          · exact wrap 5 4 (by rw [(hsg 40 (by omega)).mpr h40]; rfl) (by omega) (by omega) (fun _ => rfl) (fun h => absurd (Or.inr (Or.inl h40)) h) (Or.inr (Or.inr (Or.inr (Or.inr (Or.inl ⟨rfl, Or.inr (Or.inl ⟨rfl, h40⟩)⟩)))))
          by_cases h41 : c = 41
          · exact wrap 6 4 (by rw [(hsg 41 (by omega)).mpr h41]; rfl) (by omega) (by omega) (fun _ => rfl) (fun h => absurd (Or.inr (Or.inr (Or.inl h41))) h) (Or.inr (Or.inr (Or.inr (Or.inr (Or.inl ⟨rfl, Or.inr (Or.inr (Or.inl ⟨rfl, h41⟩))⟩)))))
          by_cases h42 : c = 42
          · exact wrap 9 4 (by rw [(hsg 42 (by omega)).mpr h42]; rfl) (by omega) (by omega) (fun _ => rfl) (fun h => absurd (Or.inr (Or.inr (Or.inr (Or.inr (Or.inr (Or.inl h42)))))) h) (Or.inr (Or.inr (Or.inr (Or.inr (Or.inl ⟨rfl, Or.inr (Or.inr (Or.inr (Or.inr (Or.inr (Or.inl ⟨rfl, h42⟩)))))⟩)))))
          by_cases h43 : c = 43
          · exact wrap 7 4 (by rw [(hsg 43 (by omega)).mpr h43]; rfl) (by omega) (by omega) (fun _ => rfl) (fun h => absurd (Or.inr (Or.inr (Or.inr (Or.inl h43)))) h) (Or.inr (Or.inr (Or.inr (Or.inr (Or.inl ⟨rfl, Or.inr (Or.inr (Or.inr (Or.inl ⟨rfl, h43⟩)))⟩)))))
          by_cases h45 : c = 45
          · exact wrap 8 4 (by rw [(hsg 45 (by omega)).mpr h45]; rfl) (by omega) (by omega) (fun _ => rfl) (fun h => absurd (Or.inr (Or.inr (Or.inr (Or.inr (Or.inl h45))))) h) (Or.inr (Or.inr (Or.inr (Or.inr (Or.inl ⟨rfl, Or.inr (Or.inr (Or.inr (Or.inr (Or.inl ⟨rfl, h45⟩))))⟩)))))
          by_cases h47 : c = 47
          · exact wrap 10 4 (by rw [(hsg 47 (by omega)).mpr h47]; rfl) (by omega) (by omega) (fun _ => rfl) (fun h => absurd (Or.inr (Or.inr (Or.inr (Or.inr (Or.inr (Or.inr (Or.inl h47))))))) h) (Or.inr (Or.inr (Or.inr (Or.inr (Or.inl ⟨rfl, Or.inr (Or.inr (Or.inr (Or.inr (Or.inr (Or.inr ⟨rfl, h47⟩)))))⟩)))))
          by_cases h59 : c = 59
          · exact wrap 4 4 (by rw [(hsg 59 (by omega)).mpr h59]; rfl) (by omega) (by omega) (fun _ => rfl) (fun h => absurd (Or.inl h59) h) (Or.inr (Or.inr (Or.inr (Or.inr (Or.inl ⟨rfl, Or.inl ⟨rfl, h59⟩⟩)))))
          have hk1 : sgk (X 6 s) = 1 := by
            unfold sgk
            rw [if_neg (fun h => h40 ((hsg 40 (by omega)).mp h)), if_neg (fun h => h41 ((hsg 41 (by omega)).mp h)), if_neg (fun h => h42 ((hsg 42 (by omega)).mp h)), if_neg (fun h => h43 ((hsg 43 (by omega)).mp h)), if_neg (fun h => h45 ((hsg 45 (by omega)).mp h)), if_neg (fun h => h47 ((hsg 47 (by omega)).mp h)), if_neg (fun h => h59 ((hsg 59 (by omega)).mp h)), if_neg n60, if_neg n61, if_neg n62]
          by_cases h37 : c = 37
          · exact wrap 1 4 hk1 (by omega) (by omega) (fun _ => rfl) (fun h => absurd (Or.inr (Or.inr (Or.inr (Or.inr (Or.inr (Or.inr (Or.inr h37))))))) h) (Or.inr (Or.inl ⟨rfl, Or.inr ⟨rfl, h37⟩⟩))
          · exact wrap 1 6 hk1 (by omega) (by omega) (fun h => by omega) (fun _ => rfl) (Or.inr (Or.inl ⟨rfl, Or.inl rfl⟩))
end V11
