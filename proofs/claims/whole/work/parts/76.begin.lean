/-! ===== phase 2: a day begins ===== -/
def BGH (P M s : Int) (d : Nat → Nat → Int) : Prop := d 0 8 = P ∧ d 0 9 = M ∧ d 0 10 = 0 ∧ d 0 11 = 0 ∧ d 0 12 = -1 ∧ d 0 13 = 0 ∧ d 0 14 = s ∧ d 0 15 = 0
def BGP (o : Nat → Int) (d : Nat → Nat → Int) (n : Nat) : Prop := ∀ q : Nat, q < n → d 1 q = o q ∧ d 2 q = 0 ∧ d 3 q = 0
def BGM (t : Nat → Int) (d : Nat → Nat → Int) (n : Nat) : Prop := ∀ m : Nat, m < n → d 5 m = t m ∧ d 6 m = -1 ∧ d 7 m = -1 ∧ d 8 m = 0
def BG (P M s : Int) (o t : Nat → Int) (d : Nat → Nat → Int) : Prop := BGH P M s d ∧ BGP o d P.toNat ∧ BGM t d M.toNat
section V1
variable {Ls p kc ks c : Nat} {P M : Int} {I I0 I1 I2 J K L L1 L2 K2 X X1 X2 Y Z d d' e : Nat → Nat → Int} {Q : List mV → mM → Prop} {x : Int}
theorem begin_loopM {P M : Nat} {s : Int} {o t : Nat → Int} (hp : isPlan p) (hc : isDay c) (hP : P ≤ 6) (hM : M ≤ 6) (h10 : I (p + 10) = t) (hQ : ∀ d, BG P M s o t d → Q [] (mem Ls p (dput I c d) L)) : ∀ (n k : Nat) (d : Nat → Nat → Int), k + n = M → BGH P M s d → BGP o d P → BGM t d k → m_Wp i_Day_begin 93 kc ks [(0, .inr (.inr c)), (1, .inr (.inr p)), (2, .inl (k : Int))] [] (mem Ls p (dput I c d) L) Q := by
  have hp' := hp
  have hc' := hc
  unfold isPlan at hp'
  unfold isDay at hc'
  intro n
  induction n with
  | zero =>
    intro k d hk h1 h2 h3
    have : k = M := by omega
    subst this
    refine T_Day_begin_93 hp' hc' ?_
    rw [show dput I c d c = d 0 from dput_c, h1.2.1]
    exact ⟨fun _ => hQ d ⟨h1, by rw [Int.toNat_natCast]; exact h2, by rw [Int.toNat_natCast]; exact h3⟩, fun z => by omega⟩
  | succ n ih =>
    intro k d hk h1 h2 h3
    refine T_Day_begin_93 hp' hc' ?_
    rw [show dput I c d c = d 0 from dput_c, h1.2.1, wr_of (z := (k : Int) + 1) (by omega) (by omega), Int.toNat_natCast, dput_out (a := p + 10) (by omega), h10, (dW (c := c) I).2.2.2.2.2.1, (dW (c := c) I).2.2.2.2.2.2.1, (dW (c := c) I).2.2.2.2.2.2.2.1, (dW (c := c) I).2.2.2.2.2.2.2.2]
    refine ⟨fun z => by omega, fun _ => ⟨by omega, by omega, by omega, by omega, by omega, ih (k + 1) _ (by omega) ?_ (fun q hq => ?_) (fun q hq => ?_)⟩⟩
    · unfold BGH; rw [mup_other (by omega), mup_other (by omega), mup_other (by omega), mup_other (by omega)]; exact h1
    · have := h2 q hq; simp only [mup_app]; simpa using this
    · by_cases hqk : q = k
      · subst hqk; simp [mup_app]
      · have := h3 q (by omega); simp [mup_app, hqk, this]
theorem begin_loopP {P M : Nat} {s : Int} {o t : Nat → Int} (hp : isPlan p) (hc : isDay c) (hP : P ≤ 6) (hM : M ≤ 6) (h4 : I (p + 4) = o) (h10 : I (p + 10) = t) (hQ : ∀ d, BG P M s o t d → Q [] (mem Ls p (dput I c d) L)) : ∀ (n k : Nat) (d : Nat → Nat → Int), k + n = P → BGH P M s d → BGP o d k → m_Wp i_Day_begin 51 kc ks [(0, .inr (.inr c)), (1, .inr (.inr p)), (2, .inl (k : Int))] [] (mem Ls p (dput I c d) L) Q := by
  have hp' := hp
  have hc' := hc
  unfold isPlan at hp'
  unfold isDay at hc'
  intro n
  induction n with
  | zero =>
    intro k d hk h1 h2
    have : k = P := by omega
    subst this
    refine T_Day_begin_51 hp' hc' ?_
    rw [show dput I c d c = d 0 from dput_c, h1.1]
    exact ⟨fun _ => begin_loopM hp hc hP hM h10 hQ M 0 d (by omega) h1 h2 (fun q hq => by omega), fun z => by omega⟩
  | succ n ih =>
    intro k d hk h1 h2
    refine T_Day_begin_51 hp' hc' ?_
    rw [show dput I c d c = d 0 from dput_c, h1.1, wr_of (z := (k : Int) + 1) (by omega) (by omega), Int.toNat_natCast, dput_out (a := p + 4) (by omega), h4, (dW (c := c) I).2.1, (dW (c := c) I).2.2.1, (dW (c := c) I).2.2.2.1]
    refine ⟨fun z => by omega, fun _ => ⟨by omega, by omega, by omega, by omega, ih (k + 1) _ (by omega) ?_ (fun q hq => ?_)⟩⟩
    · unfold BGH; rw [mup_other (by omega), mup_other (by omega), mup_other (by omega)]; exact h1
    · by_cases hqk : q = k
      · subst hqk; simp [mup_app]
      · have := h2 q (by omega); simp [mup_app, hqk, this]
theorem q_begin (hp : isPlan p) (hc : isDay c) (hP : 0 ≤ I p 13 ∧ I p 13 ≤ 6) (hM : 0 ≤ I p 15 ∧ I p 15 ≤ 6) (hQ : ∀ d, BG (I p 13) (I p 15) (I p 18) (I (p + 4)) (I (p + 10)) d → Q [] (mem Ls p (dput I c d) L)) : m_Call i_Day_begin [.inr (.inr c), .inr (.inr p)] (mem Ls p I L) Q := by
  have hp' := hp
  have hc' := hc
  unfold isPlan at hp'
  unfold isDay at hc'
  obtain ⟨P, hP'⟩ : ∃ P : Nat, I p 13 = (P : Int) := ⟨(I p 13).toNat, by omega⟩
  obtain ⟨M, hM'⟩ : ∃ M : Nat, I p 15 = (M : Int) := ⟨(I p 15).toNat, by omega⟩
  rw [hP', hM'] at hQ
  refine E_Day_begin hp' hc' ?_
  have hI : mup (mup (mup (mup (mup (mup (mup (mup I c 8 (I p 13)) c 9 (I p 15)) c 10 0) c 11 0) c 12 (-1)) c 13 0) c 14 (I p 18)) c 15 0 = dput I c (mup (mup (mup (mup (mup (mup (mup (mup (dat I c) 0 8 (I p 13)) 0 9 (I p 15)) 0 10 0) 0 11 0) 0 12 (-1)) 0 13 0) 0 14 (I p 18)) 0 15 0) := by
    have h0 := (dput_dat I c).symm
    rw [← (dW (c := c) I).1, ← (dW (c := c) I).1, ← (dW (c := c) I).1, ← (dW (c := c) I).1, ← (dW (c := c) I).1, ← (dW (c := c) I).1, ← (dW (c := c) I).1, ← (dW (c := c) I).1, ← h0]
  rw [hI]
  refine begin_loopP hp hc (by omega) (by omega) rfl rfl hQ P 0 _ (by omega) ?_ (fun q hq => by omega)
  unfold BGH
  simp [mup_app, hP', hM']
theorem BG_DOK {s : Int} {o t : Nat → Int} (hP : 0 ≤ P ∧ P ≤ 6) (hM : 0 ≤ M ∧ M ≤ 6) (hs : 0 ≤ s ∧ s ≤ 99999) (ho : ∀ q : Nat, (q : Int) < P → -30 ≤ o q ∧ o q ≤ 30) (h : BG P M s o t d) : DOK P M d := by
  obtain ⟨⟨h1, h2, h3, h4, h5, h6, h7, h8⟩, hp, hm⟩ := h
  unfold DOK
  rw [h1, h2, h3, h4, h5, h6, h7]
  refine ⟨⟨rfl, rfl⟩, by omega, by omega, Or.inl rfl, by omega, by omega, fun q hq => ?_, fun k hk => by omega, fun j k _ hk => by omega, fun k hk => by omega, fun m hm' => ?_⟩
  · have a := hp q (by omega)
    have b := ho q hq
    rw [a.1, a.2.1, a.2.2]
    refine ⟨by omega, by omega, by omega, by omega, ?_⟩
    unfold big; omega
  · have a := hm m (by omega)
    rw [a.2.1, a.2.2.1, a.2.2.2]
    exact ⟨True.intro, by omega, by omega, by omega⟩
/-- the reference's day at first -/
def AFT (o t : Nat → Int) (P M : Int) (e : Nat → Nat → Int) : Prop := e 5 0 = 0 ∧ e 6 0 = -1 ∧ e 11 0 = 0 ∧ e 12 0 = 0 ∧ (∀ q : Nat, (q : Int) < P → e 0 q = 0 ∧ e 1 q = 0 ∧ e 2 q = o q ∧ e 3 q = 0) ∧ (∀ m : Nat, (m : Int) < M → e 8 m = t m ∧ e 10 m = 0 ∧ e 9 (2 * m) = -1 ∧ e 9 (2 * m + 1) = -1)
theorem BG_DR {s : Int} {o t : Nat → Int} (hP : 0 ≤ P ∧ P ≤ 6) (hM : 0 ≤ M ∧ M ≤ 6) (h : BG P M s o t d) (he : AFT o t P M e) : DR P M d e := by
  obtain ⟨⟨h1, h2, h3, h4, h5, h6, h7, h8⟩, hp, hm⟩ := h
  obtain ⟨e1, e2, e3, e4, e5, e6⟩ := he
  unfold DR
  rw [h3, h4, h5, h8]
  refine ⟨e3, e1, e2, fun z => absurd rfl z, e4, fun q hq => ?_, fun k hk => by omega, fun m hm' => ?_⟩
  · have a := hp q (by omega)
    have b := e5 q hq
    rw [(dMode_iff).2.2 (by rw [h5]; omega) (fun k hk => by rw [h4] at hk; omega)]
    exact ⟨by rw [b.2.2.1, a.1], by rw [b.2.1, a.2.1], by rw [b.2.2.2, a.2.2], b.1⟩
  · have a := hm m (by omega)
    have b := e6 m hm'
    exact ⟨by rw [b.1, a.1], by rw [b.2.2.1, a.2.1], by rw [b.2.2.2, a.2.2.1], by rw [b.2.1, a.2.2.2]⟩
/-- rows of the reference's first day, as far as k -/
def AFR (X Z : Nat → Nat → Int) (b k : Nat) : Prop := (∀ a, a < 125 ∨ 137 < a → Z a = X a) ∧ (∀ r j, r ≤ 12 → ¬ (b * jlen r ≤ j ∧ j < (b + 1) * jlen r) → Z (125 + r) j = X (125 + r) j) ∧ (∀ q, q < k → Z 125 (6 * b + q) = 0 ∧ Z 126 (6 * b + q) = 0 ∧ Z 127 (6 * b + q) = X 106 q ∧ Z 128 (6 * b + q) = 0 ∧ Z 133 (6 * b + q) = X 112 q ∧ Z 135 (6 * b + q) = 0 ∧ Z 134 (12 * b + 2 * q) = -1 ∧ Z 134 (12 * b + 2 * q + 1) = -1)
theorem atFirst_loop {b : Nat} (hb : b ≤ 1) (hQ : ∀ Z, AFR X Z b 6 → Z 130 b = 0 → Z 131 b = -1 → Z 136 b = 0 → Z 137 b = 0 → Q [] (mem Ls p Z L)) : ∀ (n k : Nat) (Z : Nat → Nat → Int), k + n = 6 → AFR X Z b k → m_Wp i_M_atFirst 2 kc ks [(0, .inr (.inr 98)), (1, .inl (b : Int)), (2, .inl (k : Int))] [] (mem Ls p Z L) Q := by
  intro n
  induction n with
  | zero =>
    intro k Z hk h
    have : k = 6 := by omega
    subst this
    obtain ⟨h1, h2, h3⟩ := h
    refine T_M_atFirst_2 ⟨fun _ => ⟨by omega, by omega, by omega, by omega, by omega, ?_⟩, fun z => by omega⟩
    rw [Int.toNat_natCast]
    refine hQ _ ⟨fun a ha => ?_, fun r j hr hj => ?_, fun q hq => ?_⟩ ?_ ?_ ?_ ?_
    · rw [mup_other (by omega), mup_other (by omega), mup_other (by omega), mup_other (by omega), mup_other (by omega)]; exact h1 a ha
    · have hjl : ∀ r', r' = 5 ∨ r' = 6 ∨ r' = 7 ∨ r' = 11 ∨ r' = 12 → r = r' → j ≠ b := fun r' hr' hrr hjb => by
        apply hj
        rw [hrr, hjb, show jlen r' = 1 by unfold jlen; rcases hr' with rfl | rfl | rfl | rfl | rfl <;> rfl]; omega
      have g5 := hjl 5 (by omega)
      have g6 := hjl 6 (by omega)
      have g7 := hjl 7 (by omega)
      have g11 := hjl 11 (by omega)
      have g12 := hjl 12 (by omega)
      rw [mup_ne (by omega), mup_ne (by omega), mup_ne (by omega), mup_ne (by omega), mup_ne (by omega)]
      exact h2 r j hr hj
    · have := h3 q hq
      simp only [mup_app, show ¬ (125 : Nat) = 137 by omega, show ¬ (125 : Nat) = 136 by omega, show ¬ (125 : Nat) = 132 by omega, show ¬ (125 : Nat) = 131 by omega, show ¬ (125 : Nat) = 130 by omega, show ¬ (126 : Nat) = 137 by omega, show ¬ (126 : Nat) = 136 by omega, show ¬ (126 : Nat) = 132 by omega, show ¬ (126 : Nat) = 131 by omega, show ¬ (126 : Nat) = 130 by omega, show ¬ (127 : Nat) = 137 by omega, show ¬ (127 : Nat) = 136 by omega, show ¬ (127 : Nat) = 132 by omega, show ¬ (127 : Nat) = 131 by omega, show ¬ (127 : Nat) = 130 by omega, show ¬ (128 : Nat) = 137 by omega, show ¬ (128 : Nat) = 136 by omega, show ¬ (128 : Nat) = 132 by omega, show ¬ (128 : Nat) = 131 by omega, show ¬ (128 : Nat) = 130 by omega, show ¬ (133 : Nat) = 137 by omega, show ¬ (133 : Nat) = 136 by omega, show ¬ (133 : Nat) = 132 by omega, show ¬ (133 : Nat) = 131 by omega, show ¬ (133 : Nat) = 130 by omega, show ¬ (134 : Nat) = 137 by omega, show ¬ (134 : Nat) = 136 by omega, show ¬ (134 : Nat) = 132 by omega, show ¬ (134 : Nat) = 131 by omega, show ¬ (134 : Nat) = 130 by omega, show ¬ (135 : Nat) = 137 by omega, show ¬ (135 : Nat) = 136 by omega, show ¬ (135 : Nat) = 132 by omega, show ¬ (135 : Nat) = 131 by omega, show ¬ (135 : Nat) = 130 by omega, false_and, if_false]
      exact this
    · simp [mup_app]
    · simp [mup_app]
    · simp [mup_app]
    · simp [mup_app]
  | succ n ih =>
    intro k Z hk h
    obtain ⟨h1, h2, h3⟩ := h
    refine T_M_atFirst_2 ⟨fun z => by omega, fun _ => ?_⟩
    rw [wr_of (z := 6 * (b : Int)) (by omega) (by omega), wr_of (z := 6 * (b : Int) + (k : Int)) (by omega) (by omega), wr_of (z := 12 * (b : Int)) (by omega) (by omega), wr_of (z := 2 * (k : Int)) (by omega) (by omega), wr_of (z := 12 * (b : Int) + 2 * (k : Int)) (by omega) (by omega), wr_of (z := 12 * (b : Int) + 2 * (k : Int) + 1) (by omega) (by omega), wr_of (z := (k : Int) + 1) (by omega) (by omega), show (6 * (b : Int) + (k : Int)).toNat = 6 * b + k by omega, show (12 * (b : Int) + 2 * (k : Int)).toNat = 12 * b + 2 * k by omega, show (12 * (b : Int) + 2 * (k : Int) + 1).toNat = 12 * b + 2 * k + 1 by omega, Int.toNat_natCast, h1 106 (by omega), h1 112 (by omega)]
    refine ⟨by omega, by omega, by omega, by omega, by omega, by omega, by omega, by omega, by omega, by omega, ih (k + 1) _ (by omega) ⟨fun a ha => ?_, fun r j hr hj => ?_, fun q hq => ?_⟩⟩
    · rw [mup_other (by omega), mup_other (by omega), mup_other (by omega), mup_other (by omega), mup_other (by omega), mup_other (by omega), mup_other (by omega), mup_other (by omega)]; exact h1 a ha
    · have g6 : r = 0 ∨ r = 1 ∨ r = 2 ∨ r = 3 ∨ r = 8 ∨ r = 10 → j ≠ 6 * b + k := fun hr' hjb => by
        apply hj
        rw [hjb, show jlen r = 6 by unfold jlen; rcases hr' with rfl | rfl | rfl | rfl | rfl | rfl <;> rfl]; omega
      have g9 : r = 9 → j ≠ 12 * b + 2 * k ∧ j ≠ 12 * b + 2 * k + 1 := fun hr' => by
        subst hr'
        rw [show jlen 9 = 12 from rfl] at hj; omega
      rw [mup_ne (by omega), mup_ne (by omega), mup_ne (by omega), mup_ne (by omega), mup_ne (by omega), mup_ne (by omega), mup_ne (by omega), mup_ne (by omega)]
      exact h2 r j hr hj
    · by_cases hqk : q = k
      · subst hqk; simp [mup_app]
      · have := h3 q (by omega)
        have d1 : ¬ 6 * b + q = 6 * b + k := by omega
        have d2 : ¬ 12 * b + 2 * q = 12 * b + 2 * k := by omega
        have d3 : ¬ 12 * b + 2 * q + 1 = 12 * b + 2 * k + 1 := by omega
        have d4 : ¬ 12 * b + 2 * q = 12 * b + 2 * k + 1 := by omega
        have d5 : ¬ 12 * b + 2 * q + 1 = 12 * b + 2 * k := by omega
        simp only [mup_app, d1, d2, d3, d4, d5, and_false, if_false]
        exact this
theorem r_atFirst {b : Nat} (hb : b ≤ 1) (hQ : ∀ Z, AFR X Z b 6 → Z 130 b = 0 → Z 131 b = -1 → Z 136 b = 0 → Z 137 b = 0 → Q [] (mem Ls p Z L)) : m_Call i_M_atFirst [.inr (.inr 98), .inl (b : Int)] (mem Ls p X L) Q :=
  E_M_atFirst (atFirst_loop hb hQ 6 0 X (by omega) ⟨fun _ _ => rfl, fun _ _ _ _ => rfl, fun q hq => by omega⟩)
theorem AFR_AFT {b : Nat} (hP : P ≤ 6) (hM : M ≤ 6) (h : AFR X Z b 6) (h1 : Z 130 b = 0) (h2 : Z 131 b = -1) (h3 : Z 136 b = 0) (h4 : Z 137 b = 0) : AFT (X 106) (X 112) P M (jat Z b) := by
  have j0 : ∀ r k, r ≤ 12 → k < jlen r → jat Z b r k = Z (125 + r) (b * jlen r + k) := fun r k h1 h2 => jat_at h1 h2
  refine ⟨?_, ?_, ?_, ?_, fun q hq => ?_, fun m hm => ?_⟩
  · rw [j0 5 0 (by omega) (by decide), show b * jlen 5 + 0 = b from Nat.mul_one b]; exact h1
  · rw [j0 6 0 (by omega) (by decide), show b * jlen 6 + 0 = b from Nat.mul_one b]; exact h2
  · rw [j0 11 0 (by omega) (by decide), show b * jlen 11 + 0 = b from Nat.mul_one b]; exact h3
  · rw [j0 12 0 (by omega) (by decide), show b * jlen 12 + 0 = b from Nat.mul_one b]; exact h4
  · have a := h.2.2 q (by omega)
    rw [j0 0 q (by omega) (by show q < 6; omega), j0 1 q (by omega) (by show q < 6; omega), j0 2 q (by omega) (by show q < 6; omega), j0 3 q (by omega) (by show q < 6; omega), show b * jlen 0 + q = 6 * b + q from congrArg (· + q) (Nat.mul_comm b 6), show b * jlen 1 + q = 6 * b + q from congrArg (· + q) (Nat.mul_comm b 6), show b * jlen 2 + q = 6 * b + q from congrArg (· + q) (Nat.mul_comm b 6), show b * jlen 3 + q = 6 * b + q from congrArg (· + q) (Nat.mul_comm b 6)]
    exact ⟨a.1, a.2.1, a.2.2.1, a.2.2.2.1⟩
  · have a := h.2.2 m (by omega)
    rw [j0 8 m (by omega) (by show m < 6; omega), j0 10 m (by omega) (by show m < 6; omega), j0 9 (2 * m) (by omega) (by show 2 * m < 12; omega), j0 9 (2 * m + 1) (by omega) (by show 2 * m + 1 < 12; omega), show b * jlen 8 + m = 6 * b + m from congrArg (· + m) (Nat.mul_comm b 6), show b * jlen 10 + m = 6 * b + m from congrArg (· + m) (Nat.mul_comm b 6), show b * jlen 9 + 2 * m = 12 * b + 2 * m from congrArg (· + 2 * m) (Nat.mul_comm b 12), show b * jlen 9 + (2 * m + 1) = 12 * b + 2 * m + 1 by rw [show b * jlen 9 = 12 * b from Nat.mul_comm b 12]; omega]
    exact ⟨a.2.2.2.2.1, a.2.2.2.2.2.1, a.2.2.2.2.2.2.1, a.2.2.2.2.2.2.2⟩
end V1
