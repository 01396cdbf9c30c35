/-! ===== phase 2: a token of the two ===== -/
def KR (k nm lt m w : Int) : Prop := (k = 0 ∧ m = 0) ∨ (k = 1 ∧ (m = 6 ∨ (m = 4 ∧ w = 37))) ∨ (k = 2 ∧ m = 3 ∧ NR nm w) ∨ (k = 3 ∧ m = 2 ∧ w = lt) ∨ (m = 4 ∧ ((k = 4 ∧ w = 59) ∨ (k = 5 ∧ w = 40) ∨ (k = 6 ∧ w = 41) ∨ (k = 7 ∧ w = 43) ∨ (k = 8 ∧ w = 45) ∨ (k = 9 ∧ w = 42) ∨ (k = 10 ∧ w = 47))) ∨ (m = 5 ∧ 11 ≤ k ∧ k ≤ 16 ∧ w = k - 11) ∨ (m = 1 ∧ 17 ≤ k ∧ k ≤ 36 ∧ w = if k = 27 then 11 else if k = 28 then 10 else k - 17)
theorem pk_congr {f g : Nat → Int} {s : Nat} : ∀ n : Nat, (∀ j, j < n → f (s + j) = g (s + j)) → pk f s n = pk g s n
  | 0, _ => rfl
  | n + 1, h => by rw [pk, pk, pk_congr n (fun j hj => h j (by omega)), h n (by omega)]
/-- all letters of a word, however long -/
def wlF (f : Nat → Int) (s : Nat) : Nat → Int
  | 0 => 0
  | n + 1 => m_or (m_shl (wlF f s n) 5) (f (s + n) - 97 + 1)
section V9
variable {Ls p kc ks kc' ks' c : Nat} {I J K L X Y Z : Nat → Nat → Int} {Q : List mV → mM → Prop}
theorem rw_end {N s e : Nat} {l : Int} (hse : s < e) (heN : e ≤ 700) (h55 : X 5 5 = (s : Int)) (hl : e - s ≤ 6 → l = ((pk (X 6) s (e - s) : Nat) : Int)) (hlt : ∀ j, s ≤ j → j < e → isLt (X 6 j)) (hA : e - s ≤ 6 → m_Call i_Tokens_wordKind [.inr (.inr 5)] (mem Ls p (mup (mup X 5 3 (e : Int)) 5 7 (pk6 (X 6) s (e - s))) L) (fun v M' => m_Wp i_Tokens_readWord 109 kc ks [(0, .inr (.inr 5)), (1, .inl ((e : Int) - (s : Int)))] (v ++ [.inr (.inr 5)]) M' Q)) (hB : ¬ (e - s ≤ 6) → Q [] (mem Ls p (mup (mup (mup X 5 7 l) 5 3 (e : Int)) 5 4 1) L)) :
    ((wr ((mup (mup X 5 7 l) 5 3 (e : Int) 5 3) - (mup (mup X 5 7 l) 5 3 (e : Int) 5 5))) ≤ (6 : Int) →
      m_Call i_Tokens_wordKind [.inr (.inr 5)] (mem Ls p (mup (mup (mup X 5 7 l) 5 3 (e : Int)) 5 7 (m_shl (mup (mup X 5 7 l) 5 3 (e : Int) 5 7) (wr (5 * (wr (6 - (wr ((mup (mup X 5 7 l) 5 3 (e : Int) 5 3) - (mup (mup X 5 7 l) 5 3 (e : Int) 5 5))))))))) L) (fun v M' =>
        m_Wp i_Tokens_readWord 109 kc ks [(0, .inr (.inr 5)), (1, .inl (wr ((mup (mup X 5 7 l) 5 3 (e : Int) 5 3) - (mup (mup X 5 7 l) 5 3 (e : Int) 5 5))))] (v ++ [.inr (.inr 5)]) M' Q)) ∧
     (¬ ((wr ((mup (mup X 5 7 l) 5 3 (e : Int) 5 3) - (mup (mup X 5 7 l) 5 3 (e : Int) 5 5))) ≤ (6 : Int)) →
      Q [] (mem Ls p (mup (mup (mup X 5 7 l) 5 3 (e : Int)) 5 4 1) L)) := by
  have e3 : mup (mup X 5 7 l) 5 3 (e : Int) 5 3 = (e : Int) := mup_eq rfl rfl
  have e5 : mup (mup X 5 7 l) 5 3 (e : Int) 5 5 = (s : Int) := by rw [mup_ne (by omega), mup_ne (by omega), h55]
  have e7 : mup (mup X 5 7 l) 5 3 (e : Int) 5 7 = l := by rw [mup_ne (by omega), mup_eq rfl rfl]
  rw [e3, e5, e7, wr_of (z := (e : Int) - (s : Int)) (by omega) (by omega)]
  refine ⟨fun z => ?_, fun z => hB (by omega)⟩
  have hA' := hA (by omega)
  rw [wr_of (z := 6 - ((e : Int) - (s : Int))) (by omega) (by omega), wr_of (z := 5 * (6 - ((e : Int) - (s : Int)))) (by omega) (by omega), hl (by omega)]
  have hpl := pkn_lt (f := X 6) (s := s) (e - s) (fun j hj => hlt (s + j) (by omega) (by omega))
  have hsh : m_shl ((pk (X 6) s (e - s) : Nat) : Int) (5 * (6 - ((e : Int) - (s : Int)))) = pk6 (X 6) s (e - s) := by
    obtain ⟨n, hn⟩ : ∃ n : Nat, n = e - s := ⟨_, rfl⟩
    rw [show 5 * (6 - ((e : Int) - (s : Int))) = 5 * (6 - (n : Int)) by omega]
    rw [← hn] at hpl ⊢
    have hc : n = 1 ∨ n = 2 ∨ n = 3 ∨ n = 4 ∨ n = 5 ∨ n = 6 := by omega
    unfold pk6
    rcases hc with rfl | rfl | rfl | rfl | rfl | rfl
    · exact m_shl_25 (by omega)
    · exact m_shl_20 (by omega)
    · exact m_shl_15 (by omega)
    · exact m_shl_10 (by omega)
    · exact m_shl_5 (by omega)
    · exact m_shl_0 (by omega)
  rw [hsh, mup_comm (J := mup X 5 7 _) (by omega), mup_mup, mup_comm (J := X) (k := 7) (k' := 3) (by omega)]
  exact hA'
theorem rw_loop {N s e : Nat} (hse : s < e) (hN : N ≤ 700) (heN : e ≤ N) (h2 : X 5 2 = (N : Int)) (h55 : X 5 5 = (s : Int)) (hlt : ∀ j, s ≤ j → j < e → isLt (X 6 j)) (hstop : e < N → ¬ isLt (X 6 e)) (hA : e - s ≤ 6 → m_Call i_Tokens_wordKind [.inr (.inr 5)] (mem Ls p (mup (mup X 5 3 (e : Int)) 5 7 (pk6 (X 6) s (e - s))) L) (fun v M' => m_Wp i_Tokens_readWord 109 kc ks [(0, .inr (.inr 5)), (1, .inl ((e : Int) - (s : Int)))] (v ++ [.inr (.inr 5)]) M' Q)) (hB : ¬ (e - s ≤ 6) → Q [] (mem Ls p (mup (mup (mup X 5 7 (wlF (X 6) s (e - s))) 5 3 (e : Int)) 5 4 1) L)) : ∀ (t i : Nat) (l : Int), i + t = e → s ≤ i → (i - s ≤ 6 → l = ((pk (X 6) s (i - s) : Nat) : Int)) → l = wlF (X 6) s (i - s) → m_Wp i_Tokens_readWord 5 kc ks [(0, .inr (.inr 5))] [] (mem Ls p (mup (mup X 5 7 l) 5 3 (i : Int)) L) Q := by
  intro t
  induction t with
  | zero =>
    intro i l hi hsi hl hlw
    have : i = e := by omega
    subst this
    have fin := rw_end (kc := kc) (ks := ks) (N := N) hse (by omega) h55 hl hlt hA (fun z => by rw [hlw]; exact hB z)
    refine T_Tokens_readWord_5 ⟨fun _ => fin, fun z => ?_⟩
    have e3 : mup (mup X 5 7 l) 5 3 (i : Int) 5 3 = (i : Int) := mup_eq rfl rfl
    have e2 : mup (mup X 5 7 l) 5 3 (i : Int) 5 2 = (N : Int) := by rw [mup_ne (by omega), mup_ne (by omega), h2]
    rw [e2, e3] at z
    have e6 : mup (mup X 5 7 l) 5 3 (i : Int) 6 = X 6 := by rw [mup_other (by omega), mup_other (by omega)]
    have hgo := q_isLetter (Ls := Ls) (p := p) (L := L) (X := mup (mup X 5 7 l) 5 3 (i : Int)) (i := i) (Q := fun v M' => m_Wp i_Tokens_readWord 24 kc ks [(0, .inr (.inr 5))] (v ++ []) M' Q) (by omega) (fun h => absurd (by rw [e6] at h; exact h) (hstop (by omega))) (fun _ => T_Tokens_readWord_24 ⟨fun _ => fin, fun z => absurd rfl z⟩)
    rw [e3]
    exact hgo
  | succ t ih =>
    intro i l hi hsi hl hlw
    have hli := hlt i (by omega) (by omega)
    have e3 : mup (mup X 5 7 l) 5 3 (i : Int) 5 3 = (i : Int) := mup_eq rfl rfl
    have e2 : mup (mup X 5 7 l) 5 3 (i : Int) 5 2 = (N : Int) := by rw [mup_ne (by omega), mup_ne (by omega), h2]
    have e6 : mup (mup X 5 7 l) 5 3 (i : Int) 6 = X 6 := by rw [mup_other (by omega), mup_other (by omega)]
    have e7 : mup (mup X 5 7 l) 5 3 (i : Int) 5 7 = l := by rw [mup_ne (by omega), mup_eq rfl rfl]
    refine T_Tokens_readWord_5 ?_
    rw [e2, e3]
    refine ⟨fun z => by omega, fun _ => q_isLetter (by omega) (fun _ => T_Tokens_readWord_24 ⟨fun z => by omega, fun _ => ?_⟩) (fun h => absurd (by rw [e6]; exact hli) h)⟩
    rw [e3, e7, e6, Int.toNat_natCast]
    unfold isLt at hli
    rw [wr_of (z := (i : Int) + 1) (by omega) (by omega), wr_of (z := X 6 i - 97) (by omega) (by omega), wr_of (z := X 6 i - 97 + 1) (by omega) (by omega), mup_comm (J := mup X 5 7 l) (by omega), mup_mup, mup_mup, show (i : Int) + 1 = ((i + 1 : Nat) : Int) by omega]
    refine ⟨by omega, ih (i + 1) _ (by omega) (by omega) (fun h6 => ?_) (by rw [show i + 1 - s = (i - s) + 1 by omega, wlF, show s + (i - s) = i by omega, hlw])⟩
    have hl' := hl (by omega)
    have hpl := pkn_lt (f := X 6) (s := s) (i - s) (fun j hj => hlt (s + j) (by omega) (by omega))
    have h4 : 32 ^ (i - s) ≤ 32 ^ 5 := Nat.pow_le_pow_right (by omega) (by omega)
    have h5 : (32 : Nat) ^ 5 = 33554432 := rfl
    rw [hl', show X 6 i - 97 + 1 = (((X 6 i - 96).toNat : Nat) : Int) by omega, pk_step (by omega) (by omega), show i + 1 - s = (i - s) + 1 by omega, pk, show s + (i - s) = i by omega]
theorem q_readWord {N s e : Nat} (hse : s < e) (hN : N ≤ 700) (heN : e ≤ N) (h2 : X 5 2 = (N : Int)) (h3 : X 5 3 = (s : Int)) (h55 : X 5 5 = (s : Int)) (hW : ∀ k : Nat, k < 20 → X 7 k = words7.getD k 0) (hlt : ∀ j, s ≤ j → j < e → isLt (X 6 j)) (hstop : e < N → ¬ isLt (X 6 e)) (h1 : e - s ≤ 6 → ∀ k : Nat, k < 20 → words7.getD k 0 = pk6 (X 6) s (e - s) → Q [] (mem Ls p (mup (mup (mup X 5 3 (e : Int)) 5 7 (pk6 (X 6) s (e - s))) 5 4 (17 + (k : Int))) L)) (h0 : e - s ≤ 6 → (∀ k : Nat, k < 20 → words7.getD k 0 ≠ pk6 (X 6) s (e - s)) → Q [] (mem Ls p (mup (mup (mup X 5 3 (e : Int)) 5 7 (pk6 (X 6) s (e - s))) 5 4 3) L)) (hB : ¬ (e - s ≤ 6) → Q [] (mem Ls p (mup (mup (mup X 5 7 (wlF (X 6) s (e - s))) 5 3 (e : Int)) 5 4 1) L)) : m_Call i_Tokens_readWord [.inr (.inr 5)] (mem Ls p X L) Q := by
  refine E_Tokens_readWord ?_
  have h := rw_loop (kc := 0) (ks := 0) (Q := Q) (L := L) (Ls := Ls) (p := p) hse hN heN h2 h55 hlt hstop (fun h6 => E_Tokens_wordKind (wk_loop (P := pk6 (X 6) s (e - s)) (fun k hk => by rw [mup_other (by omega), mup_other (by omega)]; exact hW k hk) (mup_eq rfl rfl) (fun k hk hP _ => T_Tokens_readWord_109 (h1 h6 k hk hP)) (fun hP => T_Tokens_readWord_109 (h0 h6 hP)) 20 0 (by omega) (fun j hj => by omega))) hB (e - s) s 0 (by omega) (by omega) (fun _ => by rw [Nat.sub_self]; rfl) (by rw [Nat.sub_self]; rfl)
  rw [mup_same (J := mup X 5 7 0) (k := 5) (j := 3) (by rw [mup_ne (by omega), h3])] at h
  exact h
theorem tw_loop {N s e : Nat} (hN : N ≤ 700) (heN : e ≤ N) (h6 : Y 98 6 = (N : Int)) (hlt : ∀ j, s ≤ j → j < e → isLt (Y 99 j)) (hstop : e < N → ¬ isLt (Y 99 e)) (hQ : m_Call i_M_wordAt [.inr (.inr 98), .inl (Y 98 10), .inl (e : Int)] (mem Ls p (mup Y 98 7 (e : Int)) L) (fun v M' => m_Wp i_M_token 127 kc ks [(0, .inr (.inr 98))] (v ++ [.inr (.inr 98)]) M' Q)) : ∀ (t i : Nat), i + t = e → s ≤ i → m_Wp i_M_token 90 kc ks [(0, .inr (.inr 98))] [] (mem Ls p (mup Y 98 7 (i : Int)) L) Q := by
  have y6 : ∀ i : Int, mup Y 98 7 i 98 6 = (N : Int) := fun i => by rw [mup_ne (by omega), h6]
  have y99 : ∀ i : Int, mup Y 98 7 i 99 = Y 99 := fun i => mup_other (by omega)
  intro t
  induction t with
  | zero =>
    intro i hi hsi
    have : i = e := by omega
    subst this
    refine T_M_token_90 ?_
    rw [mup_eq rfl rfl]
    refine r_isSmall hN (y6 _) (fun h1 h => absurd (by rw [y99] at h; exact h) (hstop h1)) (fun _ => T_M_token_98 ⟨fun _ => ?_, fun z => absurd rfl z⟩)
    rw [mup_eq rfl rfl, mup_ne (by omega)]
    exact hQ
  | succ t ih =>
    intro i hi hsi
    refine T_M_token_90 ?_
    rw [mup_eq rfl rfl]
    refine r_isSmall hN (y6 _) (fun _ _ => T_M_token_98 ⟨fun z => by omega, fun _ => ?_⟩) (fun h => absurd ⟨by omega, by rw [y99]; exact hlt i hsi (by omega)⟩ h)
    rw [mup_eq rfl rfl, wr_of (z := (i : Int) + 1) (by omega) (by omega), mup_mup, show (i : Int) + 1 = ((i + 1 : Nat) : Int) by omega]
    exact ih (i + 1) (by omega) (by omega)
end V9
