/-! ===== phase 2: words ===== -/
def offsL : List Nat := [0, 4, 9, 14, 19, 25, 30, 34, 39, 44, 50, 54, 57, 61, 67, 73, 77, 82, 88, 93]
def lensL : List Nat := [3, 4, 4, 4, 5, 4, 3, 4, 4, 5, 3, 2, 3, 5, 5, 3, 4, 5, 4, 6]
def wof (k : Nat) : Nat := offsL.getD k 0
def wln (k : Nat) : Nat := lensL.getD k 0
def wch (k i : Nat) : Int := words100.getD (wof k + i) 0
def wcd (k i : Nat) : Int := if i < wln k then wch k i - 96 else 0
def wpm (k : Nat) : Nat := if k = 10 then 11 else if k = 11 then 10 else k
theorem w_tab : ∀ k : Nat, k < 20 → (2 ≤ wln k ∧ wln k ≤ 6) ∧ wof k + wln k < 100 ∧ words100.getD (wof k + wln k) 0 = 32 ∧ (wof k + wln k + 1 = if k = 19 then 100 else wof (k + 1)) ∧ (∀ i : Nat, i < wln k → 97 ≤ wch k i ∧ wch k i ≤ 122) ∧ words7.getD (wpm k) 0 = wcd k 0 * 33554432 + wcd k 1 * 1048576 + wcd k 2 * 32768 + wcd k 3 * 1024 + wcd k 4 * 32 + wcd k 5 := by decide
theorem dig6 {a0 a1 a2 a3 a4 a5 b0 b1 b2 b3 b4 b5 : Int} (ha0 : 0 ≤ a0 ∧ a0 < 32) (ha1 : 0 ≤ a1 ∧ a1 < 32) (ha2 : 0 ≤ a2 ∧ a2 < 32) (ha3 : 0 ≤ a3 ∧ a3 < 32) (ha4 : 0 ≤ a4 ∧ a4 < 32) (ha5 : 0 ≤ a5 ∧ a5 < 32) (hb0 : 0 ≤ b0 ∧ b0 < 32) (hb1 : 0 ≤ b1 ∧ b1 < 32) (hb2 : 0 ≤ b2 ∧ b2 < 32) (hb3 : 0 ≤ b3 ∧ b3 < 32) (hb4 : 0 ≤ b4 ∧ b4 < 32) (hb5 : 0 ≤ b5 ∧ b5 < 32) (h : a0 * 33554432 + a1 * 1048576 + a2 * 32768 + a3 * 1024 + a4 * 32 + a5 = b0 * 33554432 + b1 * 1048576 + b2 * 32768 + b3 * 1024 + b4 * 32 + b5) : a0 = b0 ∧ a1 = b1 ∧ a2 = b2 ∧ a3 = b3 ∧ a4 = b4 ∧ a5 = b5 := by
  have h0 : a0 = b0 := by omega
  subst h0
  have h1 : a1 = b1 := by omega
  subst h1
  have h2 : a2 = b2 := by omega
  subst h2
  have h3 : a3 = b3 := by omega
  subst h3
  have h4 : a4 = b4 := by omega
  exact ⟨rfl, rfl, rfl, rfl, h4, by omega⟩
/-- the letters of a word, six of them -/
def ltr (f : Nat → Int) (s n i : Nat) : Int := if i < n then f (s + i) - 96 else 0
def pk6 (f : Nat → Int) (s n : Nat) : Int := ((pk f s n * 32 ^ (6 - n) : Nat) : Int)
theorem pk6_eq {f : Nat → Int} {s n : Nat} (hn : 1 ≤ n ∧ n ≤ 6) (h : ∀ j, j < n → isLt (f (s + j))) : pk6 f s n = ltr f s n 0 * 33554432 + ltr f s n 1 * 1048576 + ltr f s n 2 * 32768 + ltr f s n 3 * 1024 + ltr f s n 4 * 32 + ltr f s n 5 := by
  have hc : n = 1 ∨ n = 2 ∨ n = 3 ∨ n = 4 ∨ n = 5 ∨ n = 6 := by omega
  unfold isLt at h
  unfold pk6 ltr
  rcases hc with rfl | rfl | rfl | rfl | rfl | rfl
  · have h0 := h 0 (by omega)
    simp only [pk, Nat.add_zero] at *; simp; omega
  · have h0 := h 0 (by omega)
    have h1 := h 1 (by omega)
    simp only [pk, Nat.add_zero] at *; simp; omega
  · have h0 := h 0 (by omega)
    have h1 := h 1 (by omega)
    have h2 := h 2 (by omega)
    simp only [pk, Nat.add_zero] at *; simp; omega
  · have h0 := h 0 (by omega)
    have h1 := h 1 (by omega)
    have h2 := h 2 (by omega)
    have h3 := h 3 (by omega)
    simp only [pk, Nat.add_zero] at *; simp; omega
  · have h0 := h 0 (by omega)
    have h1 := h 1 (by omega)
    have h2 := h 2 (by omega)
    have h3 := h 3 (by omega)
    have h4 := h 4 (by omega)
    simp only [pk, Nat.add_zero] at *; simp; omega
  · have h0 := h 0 (by omega)
    have h1 := h 1 (by omega)
    have h2 := h 2 (by omega)
    have h3 := h 3 (by omega)
    have h4 := h 4 (by omega)
    have h5 := h 5 (by omega)
    simp only [pk, Nat.add_zero] at *; simp; omega
/-- the word k stands there -/
def MT (f : Nat → Int) (s n k : Nat) : Prop := wln k = n ∧ ∀ i, i < n → wch k i = f (s + i)
theorem MT_iff {f : Nat → Int} {s n k : Nat} (hn : 1 ≤ n ∧ n ≤ 6) (h : ∀ j, j < n → isLt (f (s + j))) (hk : k < 20) : MT f s n k ↔ words7.getD (wpm k) 0 = pk6 f s n := by
  obtain ⟨t1, t2, t3, t4, t5, t6⟩ := w_tab k hk
  rw [t6, pk6_eq hn h]
  have hl : ∀ i, 0 ≤ ltr f s n i ∧ ltr f s n i < 32 := fun i => by
    unfold ltr
    by_cases hi : i < n
    · rw [if_pos hi]; have := h i hi; unfold isLt at this; omega
    · rw [if_neg hi]; omega
  have hw : ∀ i, 0 ≤ wcd k i ∧ wcd k i < 32 := fun i => by
    unfold wcd
    by_cases hi : i < wln k
    · rw [if_pos hi]; have := t5 i hi; omega
    · rw [if_neg hi]; omega
  constructor
  · intro ⟨h1, h2⟩
    have e : ∀ i, wcd k i = ltr f s n i := fun i => by
      unfold wcd ltr
      by_cases hi : i < n
      · rw [if_pos (by omega), if_pos hi, h2 i hi]
      · rw [if_neg (by omega), if_neg hi]
    rw [e, e, e, e, e, e]
  · intro he
    obtain ⟨d0, d1, d2, d3, d4, d5⟩ := dig6 (hw 0) (hw 1) (hw 2) (hw 3) (hw 4) (hw 5) (hl 0) (hl 1) (hl 2) (hl 3) (hl 4) (hl 5) he
    have e : ∀ i, i < 6 → wcd k i = ltr f s n i := fun i hi => by
      have : i = 0 ∨ i = 1 ∨ i = 2 ∨ i = 3 ∨ i = 4 ∨ i = 5 := by omega
      rcases this with rfl | rfl | rfl | rfl | rfl | rfl <;> assumption
    have hlen : wln k = n := by
      have p1 : ∀ i, i < 6 → (i < wln k ↔ i < n) := fun i hi => by
        have e1 := e i hi
        unfold wcd ltr at e1
        constructor
        · intro a
          have := t5 i a
          rw [if_pos a] at e1
          by_cases hin : i < n
          · exact hin
          · rw [if_neg hin] at e1; omega
        · intro a
          have := h i a
          unfold isLt at this
          rw [if_pos a] at e1
          by_cases hin : i < wln k
          · exact hin
          · rw [if_neg hin] at e1; omega
      have q1 := p1 (n - 1) (by omega)
      by_cases h6 : n = 6
      · omega
      · have q2 := p1 n (by omega); omega
    refine ⟨hlen, fun i hi => ?_⟩
    have e1 := e i (by omega)
    unfold wcd ltr at e1
    rw [if_pos (by omega), if_pos hi] at e1
    omega
section V8
variable {Ls p kc ks kc' ks' c : Nat} {I J K L X Y Z : Nat → Nat → Int} {Q : List mV → mM → Prop}
theorem wk_loop {P : Int} (hW : ∀ k : Nat, k < 20 → X 7 k = words7.getD k 0) (h7 : X 5 7 = P) (h1 : ∀ k : Nat, k < 20 → words7.getD k 0 = P → (∀ j, j < k → words7.getD j 0 ≠ P) → Q [.inl (17 + (k : Int))] (mem Ls p X L)) (h0 : (∀ k : Nat, k < 20 → words7.getD k 0 ≠ P) → Q [.inl 3] (mem Ls p X L)) : ∀ (t k : Nat), k + t = 20 → (∀ j, j < k → words7.getD j 0 ≠ P) → m_Wp i_Tokens_wordKind 2 kc ks [(0, .inr (.inr 5)), (1, .inl (k : Int))] [] (mem Ls p X L) Q := by
  intro t
  induction t with
  | zero =>
    intro k hk hj
    exact T_Tokens_wordKind_2 ⟨fun _ => h0 (fun j hj2 => hj j (by omega)), fun z => by omega⟩
  | succ t ih =>
    intro k hk hj
    refine T_Tokens_wordKind_2 ⟨fun z => by omega, fun _ => ⟨by omega, ?_⟩⟩
    rw [Int.toNat_natCast, hW k (by omega), h7, wr_of (z := (k : Int) + 1) (by omega) (by omega), wr_of (z := 17 + (k : Int)) (by omega) (by omega)]
    refine ⟨fun z => ih (k + 1) (by omega) (fun j hj2 => ?_), fun z => h1 k (by omega) (Classical.not_not.mp z) hj⟩
    by_cases hjk : j = k
    · subst hjk; exact z
    · exact hj j (by omega)
theorem wd57_loop {k s n : Nat} {e : Int} (hk : k < 20) (hW : ∀ j : Nat, j < 100 → Y 100 j = words100.getD j 0) (hs : s + n ≤ 700) (hl : wln k = n) (h1 : MT (Y 99) s n k → Q [.inl (k : Int)] (mem Ls p Y L)) (h0 : ¬ MT (Y 99) s n k → m_Wp i_M_wordAt 5 kc ks [(0, .inr (.inr 98)), (1, .inl (s : Int)), (2, .inl e), (3, .inl ((k : Int) + 1)), (4, .inl ((wof k + wln k + 1 : Nat) : Int))] [] (mem Ls p Y L) Q) : ∀ (t i : Nat), i + t = n → (∀ j, j < i → wch k j = Y 99 (s + j)) → m_Wp i_M_wordAt 57 kc ks [(0, .inr (.inr 98)), (1, .inl (s : Int)), (2, .inl e), (3, .inl (k : Int)), (4, .inl (wof k : Int)), (5, .inl (n : Int)), (6, .inl 1), (7, .inl (i : Int))] [] (mem Ls p Y L) Q := by
  obtain ⟨t1, t2, t3, t4, t5, t6⟩ := w_tab k hk
  have stop : ∀ i : Nat, i ≤ n → ¬ MT (Y 99) s n k → m_Wp i_M_wordAt 57 kc ks [(0, .inr (.inr 98)), (1, .inl (s : Int)), (2, .inl e), (3, .inl (k : Int)), (4, .inl (wof k : Int)), (5, .inl (n : Int)), (6, .inl 0), (7, .inl (i : Int))] [] (mem Ls p Y L) Q := fun i hi hm => by
    have h0' := h0 hm
    refine T_M_wordAt_57 ?_
    rw [wr_of (z := (k : Int) + 1) (by omega) (by omega), wr_of (z := (n : Int) + 1) (by omega) (by omega), wr_of (z := (wof k : Int) + ((n : Int) + 1)) (by omega) (by omega), show (wof k : Int) + ((n : Int) + 1) = ((wof k + wln k + 1 : Nat) : Int) by omega]
    exact ⟨fun _ => ⟨fun _ => h0', fun z => absurd rfl z⟩, fun _ => ⟨fun _ => ⟨fun _ => h0', fun z => absurd rfl z⟩, fun z => absurd rfl z⟩⟩
  intro t
  induction t with
  | zero =>
    intro i hi hj
    refine T_M_wordAt_57 ⟨fun _ => ⟨fun z => by omega, fun _ => h1 ⟨hl, fun j hj2 => hj j (by omega)⟩⟩, fun z => by omega⟩
  | succ t ih =>
    intro i hi hj
    refine T_M_wordAt_57 ⟨fun z => by omega, fun _ => ⟨fun z => by omega, fun _ => ?_⟩⟩
    rw [wr_of (z := (wof k : Int) + (i : Int)) (by omega) (by omega), wr_of (z := (s : Int) + (i : Int)) (by omega) (by omega), wr_of (z := (i : Int) + 1) (by omega) (by omega), show ((wof k : Int) + (i : Int)).toNat = wof k + i by omega, show ((s : Int) + (i : Int)).toNat = s + i by omega, hW (wof k + i) (by omega), show (i : Int) + 1 = ((i + 1 : Nat) : Int) by omega]
    refine ⟨by omega, by omega, fun z => stop (i + 1) (by omega) (fun hm => z (hm.2 i (by omega))), fun z => ih (i + 1) (by omega) (fun j hj2 => ?_)⟩
    by_cases hji : j = i
    · subst hji; exact Classical.not_not.mp z
    · exact hj j (by omega)
theorem wd18_loop {k s n : Nat} (hk : k < 20) (hW : ∀ j : Nat, j < 100 → Y 100 j = words100.getD j 0) (hs : s + n ≤ 700) (h1 : MT (Y 99) s n k → Q [.inl (k : Int)] (mem Ls p Y L)) (h0 : ¬ MT (Y 99) s n k → m_Wp i_M_wordAt 5 kc ks [(0, .inr (.inr 98)), (1, .inl (s : Int)), (2, .inl ((s + n : Nat) : Int)), (3, .inl ((k : Int) + 1)), (4, .inl ((wof k + wln k + 1 : Nat) : Int))] [] (mem Ls p Y L) Q) : ∀ (t i : Nat), i + t = wln k → m_Wp i_M_wordAt 18 kc ks [(0, .inr (.inr 98)), (1, .inl (s : Int)), (2, .inl ((s + n : Nat) : Int)), (3, .inl (k : Int)), (4, .inl (wof k : Int)), (5, .inl (i : Int))] [] (mem Ls p Y L) Q := by
  obtain ⟨t1, t2, t3, t4, t5, t6⟩ := w_tab k hk
  intro t
  induction t with
  | zero =>
    intro i hi
    have : i = wln k := by omega
    subst this
    refine T_M_wordAt_18 ?_
    rw [wr_of (z := (wof k : Int) + ((wln k : Nat) : Int)) (by omega) (by omega), show ((wof k : Int) + ((wln k : Nat) : Int)).toNat = wof k + wln k by omega, hW _ (by omega), t3, wr_of (z := ((s + n : Nat) : Int) - (s : Int)) (by omega) (by omega)]
    refine ⟨by omega, fun _ => ⟨fun z => ?_, fun z => ?_⟩, fun z => absurd rfl z⟩
    · have h0' := h0 (fun hm => z (by rw [hm.1]; omega))
      refine T_M_wordAt_57 ?_
      rw [wr_of (z := (k : Int) + 1) (by omega) (by omega), wr_of (z := ((wln k : Nat) : Int) + 1) (by omega) (by omega), wr_of (z := (wof k : Int) + (((wln k : Nat) : Int) + 1)) (by omega) (by omega), show (wof k : Int) + (((wln k : Nat) : Int) + 1) = ((wof k + wln k + 1 : Nat) : Int) by omega]
      exact ⟨fun _ => ⟨fun _ => h0', fun z => absurd rfl z⟩, fun _ => ⟨fun _ => ⟨fun _ => h0', fun z => absurd rfl z⟩, fun z => absurd rfl z⟩⟩
    · have hl : wln k = n := by omega
      have := wd57_loop (kc := kc) (ks := ks) (e := ((s + n : Nat) : Int)) hk hW hs hl h1 h0 n 0 (by omega) (fun j hj => by omega)
      rw [hl]; exact this
  | succ t ih =>
    intro i hi
    refine T_M_wordAt_18 ?_
    have h5 := t5 i (by omega)
    rw [wr_of (z := (wof k : Int) + (i : Int)) (by omega) (by omega), show ((wof k : Int) + (i : Int)).toNat = wof k + i by omega, hW _ (by omega), wr_of (z := (i : Int) + 1) (by omega) (by omega), show (i : Int) + 1 = ((i + 1 : Nat) : Int) by omega]
    refine ⟨by omega, fun z => ?_, fun _ => ih (i + 1) (by omega)⟩
    unfold wch at h5; omega
theorem wd_loop {s n : Nat} (hW : ∀ j : Nat, j < 100 → Y 100 j = words100.getD j 0) (hs : s + n ≤ 700) (h1 : ∀ k : Nat, k < 20 → MT (Y 99) s n k → Q [.inl (k : Int)] (mem Ls p Y L)) (h0 : (∀ k : Nat, k < 20 → ¬ MT (Y 99) s n k) → Q [.inl (-1)] (mem Ls p Y L)) : ∀ (t k : Nat), k + t = 20 → (∀ j, j < k → ¬ MT (Y 99) s n j) → m_Wp i_M_wordAt 5 kc ks [(0, .inr (.inr 98)), (1, .inl (s : Int)), (2, .inl ((s + n : Nat) : Int)), (3, .inl (k : Int)), (4, .inl ((if k = 20 then 100 else wof k : Nat) : Int))] [] (mem Ls p Y L) Q := by
  intro t
  induction t with
  | zero =>
    intro k hk hj
    have : k = 20 := by omega
    subst this
    refine T_M_wordAt_5 ?_
    rw [if_pos rfl]
    exact ⟨fun _ => h0 (fun j hj2 => hj j hj2), fun z => by omega⟩
  | succ t ih =>
    intro k hk hj
    obtain ⟨t1, t2, t3, t4, t5, t6⟩ := w_tab k (by omega)
    refine T_M_wordAt_5 ?_
    rw [if_neg (by omega)]
    refine ⟨fun z => by omega, fun _ => wd18_loop (by omega) hW hs (h1 k (by omega)) (fun hm => ?_) (wln k) 0 (by omega)⟩
    have := ih (k + 1) (by omega) (fun j hj2 => by
      by_cases hjk : j = k
      · subst hjk; exact hm
      · exact hj j (by omega))
    rw [t4]
    by_cases h19 : k = 19
    · subst h19; exact this
    · rw [if_neg (by omega)] at this
      rw [if_neg h19]; exact this
theorem r_wordAt {s n : Nat} (hW : ∀ j : Nat, j < 100 → Y 100 j = words100.getD j 0) (hs : s + n ≤ 700) (h1 : ∀ k : Nat, k < 20 → MT (Y 99) s n k → Q [.inl (k : Int)] (mem Ls p Y L)) (h0 : (∀ k : Nat, k < 20 → ¬ MT (Y 99) s n k) → Q [.inl (-1)] (mem Ls p Y L)) : m_Call i_M_wordAt [.inr (.inr 98), .inl (s : Int), .inl ((s + n : Nat) : Int)] (mem Ls p Y L) Q :=
  E_M_wordAt (wd_loop hW hs h1 h0 20 0 (by omega) (fun j hj => by omega))
theorem packed_loop {s n : Nat} (hn : 1 ≤ n ∧ n ≤ 6) (hs : s + n ≤ 700) (h : ∀ j, j < n → isLt (Y 99 (s + j))) (hQ : Q [.inl (pk6 (Y 99) s n)] (mem Ls p Y L)) : ∀ (t i : Nat), i + t = 6 → m_Wp i_M_packed 5 kc ks [(0, .inr (.inr 98)), (1, .inl (s : Int)), (2, .inl ((s + n : Nat) : Int)), (3, .inl ((if i ≤ n then pk (Y 99) s i else pk (Y 99) s n * 32 ^ (i - n) : Nat) : Int)), (4, .inl ((s + i : Nat) : Int))] [] (mem Ls p Y L) Q := by
  have hlt := pkn_lt n h
  intro t
  induction t with
  | zero =>
    intro i hi
    have : i = 6 := by omega
    subst this
    refine T_M_packed_5 ?_
    rw [wr_of (z := (s : Int) + 6) (by omega) (by omega)]
    refine ⟨fun _ => ?_, fun z => by omega⟩
    unfold pk6 at hQ
    by_cases h6 : n = 6
    · subst h6; rw [if_pos (by omega)]; simpa using hQ
    · rw [if_neg (by omega)]; exact hQ
  | succ t ih =>
    intro i hi
    refine T_M_packed_5 ?_
    have := ih (i + 1) (by omega)
    rw [wr_of (z := (s : Int) + 6) (by omega) (by omega), wr_of (z := ((s + i : Nat) : Int) + 1) (by omega) (by omega), show ((s + i : Nat) : Int) + 1 = ((s + (i + 1) : Nat) : Int) by omega, Int.toNat_natCast]
    refine ⟨fun z => by omega, fun _ => ⟨fun z => ?_, fun z => ⟨by omega, ?_⟩⟩⟩
    · have hin : n ≤ i := by omega
      have e1 : (if i ≤ n then pk (Y 99) s i else pk (Y 99) s n * 32 ^ (i - n)) = pk (Y 99) s n * 32 ^ (i - n) := by
        by_cases hni : i = n
        · subst hni; rw [if_pos (by omega), Nat.sub_self, Nat.pow_zero, Nat.mul_one]
        · rw [if_neg (by omega)]
      have e2 : pk (Y 99) s n * 32 ^ (i - n) * 32 < 1073741824 := by
        have h3 : pk (Y 99) s n * 32 ^ (i - n) < 32 ^ n * 32 ^ (i - n) := Nat.mul_lt_mul_of_pos_right hlt (Nat.pow_pos (by omega))
        rw [← Nat.pow_add, show n + (i - n) = i by omega] at h3
        have h4 : 32 ^ i ≤ 32 ^ 5 := Nat.pow_le_pow_right (by omega) (by omega)
        have h5 : (32 : Nat) ^ 5 = 33554432 := rfl
        omega
      rw [if_neg (by omega), show i + 1 - n = (i - n) + 1 by omega, Nat.pow_succ, ← Nat.mul_assoc] at this
      rw [e1, show m_or (m_shl ((pk (Y 99) s n * 32 ^ (i - n) : Nat) : Int) 5) 0 = ((pk (Y 99) s n * 32 ^ (i - n) * 32 : Nat) : Int) from by have := pk_step (a := pk (Y 99) s n * 32 ^ (i - n)) (v := 0) e2 (by omega); simpa using this]
      exact this
    · have hin : i < n := by omega
      have hc := h i hin
      unfold isLt at hc
      have hlt2 := pkn_lt i (fun j hj => h j (by omega))
      have h4 : 32 ^ i ≤ 32 ^ 5 := Nat.pow_le_pow_right (by omega) (by omega)
      have h5 : (32 : Nat) ^ 5 = 33554432 := rfl
      rw [if_pos (show i + 1 ≤ n by omega), pk] at this
      rw [if_pos (show i ≤ n by omega), wr_of (z := Y 99 (s + i) - 96) (by omega) (by omega), show Y 99 (s + i) - 96 = (((Y 99 (s + i) - 96).toNat : Nat) : Int) by omega, pk_step (by omega) (by omega)]
      exact this
theorem r_packed {s n : Nat} (hn : 1 ≤ n ∧ n ≤ 6) (hs : s + n ≤ 700) (h : ∀ j, j < n → isLt (Y 99 (s + j))) (hQ : Q [.inl (pk6 (Y 99) s n)] (mem Ls p Y L)) : m_Call i_M_packed [.inr (.inr 98), .inl (s : Int), .inl ((s + n : Nat) : Int)] (mem Ls p Y L) Q := by
  have := packed_loop (kc := 0) (ks := 0) hn hs h hQ 6 0 (by omega)
  rw [if_pos (by omega)] at this
  exact E_M_packed this
end V8
