/-! ===== phase 2: the value of a law, by the reference ===== -/
theorem mup_same {J : Nat → Nat → Int} {k j : Nat} {v : Int} (h : J k j = v) : mup J k j v = J := by
  funext a b
  rw [mup_app]
  split
  · next h1 => rw [h1.1, h1.2, h]
  · rfl
theorem mup_mup {J : Nat → Nat → Int} {k j : Nat} {v w : Int} : mup (mup J k j v) k j w = mup J k j w := by
  funext a b
  simp only [mup_app]
  split <;> rfl
/-- a sign of the class and the kind of knot that it is -/
def kMap (s k : Int) : Prop := (s = 28 ∧ k = 3) ∨ (s = 27 ∧ k = 4) ∨ (11 ≤ s ∧ s ≤ 16 ∧ k = s - 6) ∨ (7 ≤ s ∧ s ≤ 10 ∧ k = s + 4)
theorem much_iff {a b : Int} : (b ≠ 0 ∧ Int.tdiv 1000000000000 b.natAbs < a.natAbs) ↔ (a ≠ 0 ∧ b ≠ 0 ∧ Int.tdiv 1000000000000 a.natAbs < b.natAbs) := by
  have key : ∀ x y : Nat, 0 < y → ((Int.tdiv 1000000000000 (y : Int) < (x : Int)) ↔ 1000000000000 < x * y) := by
    intro x y hy
    rw [Int.tdiv_eq_ediv_of_nonneg (by omega), show (1000000000000 : Int) / (y : Int) = ((1000000000000 / y : Nat) : Int) from rfl]
    have := Nat.div_lt_iff_lt_mul (x := 1000000000000) (y := x) hy
    omega
  constructor
  · rintro ⟨hb, h⟩
    have h1 := (key a.natAbs b.natAbs (by omega)).mp h
    have ha : a ≠ 0 := fun h0 => by subst h0; simp at h1
    exact ⟨ha, hb, (key b.natAbs a.natAbs (by omega)).mpr (by rw [Nat.mul_comm]; exact h1)⟩
  · rintro ⟨ha, hb, h⟩
    have h1 := (key b.natAbs a.natAbs (by omega)).mp h
    exact ⟨hb, (key a.natAbs b.natAbs (by omega)).mpr (by rw [Nat.mul_comm]; exact h1)⟩
section V1
variable {Ls p kc ks : Nat} {J K : Nat → Nat → Int} {Q : List mV → mM → Prop}
theorem r_bounded {x : Int} (he : J 98 52 = 0 ∨ J 98 52 = 1) (h1 : (J 98 52 = 1 ∨ ¬ big x) → Q [.inr (.inl 0)] (mem Ls p (mup J 98 52 1) K)) (h2 : J 98 52 = 0 → big x → Q [.inr (.inl x)] (mem Ls p (mup J 98 52 0) K)) : m_Call i_M_bounded [.inr (.inr 98), .inr (.inl x)] (mem Ls p J K) Q := by
  apply E_M_bounded
  unfold big at *
  rw [lcmp_pos, lcmp_nonneg]
  refine ⟨fun h => ⟨by omega, fun h3 => by omega, fun _ => h1 (by omega)⟩, fun h => ⟨fun h3 => ⟨by omega, fun h4 => by omega, fun _ => h1 (by omega)⟩, fun h3 => ⟨fun h4 => ⟨by omega, fun _ => h2 (by omega) (by omega), fun h5 => by omega⟩, fun h4 => ⟨by omega, fun h5 => by omega, fun _ => h1 (by omega)⟩⟩⟩⟩
theorem r_times {a b : Int} (ha : big a) (hb : big b) (he : J 98 52 = 0 ∨ J 98 52 = 1) (h1 : (J 98 52 = 1 ∨ (b ≠ 0 ∧ Int.tdiv 1000000000000 b.natAbs < a.natAbs)) → Q [.inr (.inl 0)] (mem Ls p (mup J 98 52 1) K)) (h2 : J 98 52 = 0 → ¬ (b ≠ 0 ∧ Int.tdiv 1000000000000 b.natAbs < a.natAbs) → Q [.inr (.inl (a * b))] (mem Ls p (mup J 98 52 0) K)) : m_Call i_M_times [.inr (.inr 98), .inr (.inl a), .inr (.inl b)] (mem Ls p J K) Q := by
  have hmul : J 98 52 = 0 → ¬ (b ≠ 0 ∧ Int.tdiv 1000000000000 b.natAbs < a.natAbs) → Q [.inr (.inl (wl (a * b)))] (mem Ls p (mup J 98 52 0) K) := fun h0 h => by
    have h3 := @mul_le_big a b (fun hb => by omega)
    unfold big at h3
    rw [wl_of (by omega) (by omega)]
    exact h2 h0 h
  have e1 : m_Wp i_M_times 69 0 0 [(0, .inr (.inr 98)), (1, .inr (.inl a)), (3, .inr (.inl b))] [.inl 0, .inr (.inr 98)] (mem Ls p J K) Q ↔ m_Wp i_M_times 69 0 0 [(0, .inr (.inr 98)), (1, .inr (.inl a)), (3, .inr (.inl b))] [.inl 0, .inr (.inr 98)] (mem Ls p J K) Q := Iff.rfl
  -- behind 'much'
  have fin : ∀ y : Int, (y = 0 ∧ ¬ (b ≠ 0 ∧ Int.tdiv 1000000000000 b.natAbs < a.natAbs)) ∨ (y = 1 ∧ (b ≠ 0 ∧ Int.tdiv 1000000000000 b.natAbs < a.natAbs)) → m_Wp i_M_times 49 0 0 [(0, .inr (.inr 98)), (1, .inr (.inl a)), (3, .inr (.inl b))] [.inl y] (mem Ls p J K) Q := by
    intro y hy
    refine T_M_times_49 ⟨fun h => T_M_times_64 (T_M_times_69 ⟨by omega, fun h3 => by omega, fun _ => T_M_times_86 (h1 (by omega))⟩), fun h => ⟨fun h3 => T_M_times_69 ⟨by omega, fun _ => T_M_times_86 (hmul (by omega) (by omega)), fun h4 => by omega⟩, fun h3 => T_M_times_64 (T_M_times_69 ⟨by omega, fun h3 => by omega, fun _ => T_M_times_86 (h1 (by omega))⟩)⟩⟩
  have hn : ∀ x : Int, big x → wl (-x) = -x := fun x hx => by unfold big at hx; exact wl_of (by omega) (by omega)
  have mid : ∀ y : Int, y = (b.natAbs : Int) → a ≠ 0 → b ≠ 0 → m_Wp i_M_times 24 0 0 [(0, .inr (.inr 98)), (1, .inr (.inl a)), (3, .inr (.inl b))] [.inr (.inl y)] (mem Ls p J K) Q := by
    intro y hy ha0 hb0
    have go : ∀ z : Int, z = (a.natAbs : Int) → m_Wp i_M_times 39 0 0 [(0, .inr (.inr 98)), (1, .inr (.inl a)), (3, .inr (.inl b))] [.inr (.inl z), .inr (.inl 1000000000000), .inr (.inl y)] (mem Ls p J K) Q := by
      intro z hz
      have hd := @tdiv_big 1000000000000 z ⟨by omega, by omega⟩
      unfold big at hd
      refine T_M_times_39 ⟨by omega, ?_⟩
      rw [lcmp_nonpos, wl_of (by omega) (by omega)]
      refine ⟨fun h => T_M_times_48 (fin 0 (Or.inl ⟨rfl, fun h3 => ?_⟩)), fun h => fin 1 (Or.inr ⟨rfl, ?_⟩)⟩
      · have := (much_iff.mp h3).2.2
        rw [← hz, ← hy] at this; omega
      · refine much_iff.mpr ⟨ha0, hb0, ?_⟩
        rw [← hz, ← hy]; omega
    refine T_M_times_24 ?_
    rw [lcmp_nonneg, hn a ha]
    exact ⟨fun h => go _ (by omega), fun h => go _ (by omega)⟩
  apply E_M_times
  rw [lcmp_zero a, lcmp_zero b, lcmp_nonneg, hn b hb]
  refine ⟨fun h => T_M_times_48 (fin 0 (Or.inl ⟨rfl, fun h3 => (much_iff.mp h3).1 h⟩)), fun h => ⟨fun h3 => T_M_times_48 (fin 0 (Or.inl ⟨rfl, fun h4 => h4.1 h3⟩)), fun h3 => ⟨fun h4 => mid _ (by omega) h h3, fun h4 => mid _ (by omega) h h3⟩⟩⟩
theorem r_compares {k a b : Int} (hk : 5 ≤ k ∧ k ≤ 10) (h : Q [.inl (jn (k + 6) a b)] (mem Ls p J K)) : m_Call i_M_compares [.inl k, .inr (.inl a), .inr (.inl b)] (mem Ls p J K) Q := by
  apply E_M_compares
  simp only [lcmp_zero, lcmp_pos, lcmp_nonneg, lcmp_neg, lcmp_nonpos]
  have h6 : k = 5 ∨ k = 6 ∨ k = 7 ∨ k = 8 ∨ k = 9 ∨ k = 10 := by omega
  rcases h6 with rfl | rfl | rfl | rfl | rfl | rfl <;> simp [jn] at h ⊢ <;> grind
/-- a knot that is a number or a name -/
theorem r_leaf {i : Nat} {v : Int} (hi : i < 64) (h0 : J 118 i = 0 → v = J 119 i) (h1 : J 118 i = 1 → 0 ≤ J 119 i ∧ J 119 i < 7 ∧ v = K 123 (J 119 i).toNat) (hk : J 118 i = 0 ∨ J 118 i = 1) (h : Q [.inr (.inl v)] (mem Ls p J K)) : m_Call i_M_valueOf [.inr (.inr 98), .inl (i : Int)] (mem Ls p J K) Q := by
  apply E_M_valueOf
  rw [Int.toNat_natCast]
  refine ⟨by omega, fun h2 => ⟨by omega, fun h3 => absurd h3 (by omega), fun _ => ⟨by omega, ?_, ?_⟩⟩, fun h2 => ⟨by omega, ?_⟩⟩
  · have := h1 (by omega); omega
  · have := h1 (by omega); rw [← this.2.2]; exact h
  · rw [← h0 (by omega)]; exact h
theorem r_not {i a : Nat} (hi : i < 64) (hk : J 118 i = 2) (hp : J 119 i = (a : Int)) (ha : a < 64) (h : Q [.inr (.inl (if K 124 a = 0 then 1 else 0))] (mem Ls p J K)) : m_Call i_M_valueOf [.inr (.inr 98), .inl (i : Int)] (mem Ls p J K) Q := by
  apply E_M_valueOf
  rw [Int.toNat_natCast, hp, Int.toNat_natCast]
  rw [lcmp_zero]
  refine ⟨by omega, fun _ => ⟨by omega, fun _ => ⟨by omega, by omega, by omega, fun h2 => absurd hk h2, fun _ => ⟨fun h3 => ?_, fun h3 => ?_⟩⟩, fun h2 => by omega⟩, fun h2 => by omega⟩
  · rw [if_neg h3] at h; exact h
  · rw [if_pos (Classical.not_not.mp h3)] at h; exact h
/-- a knot of two: with an error there is one behind it; else the value of the class, or its error -/
theorem r_bin {i a b : Nat} {s : Int} (hi : i < 64) (hk : kMap s (J 118 i)) (hp : J 119 i = (a : Int)) (ho : J 120 i = (b : Int)) (ha : a < 64) (hb : b < 64) (hA : big (K 124 a)) (hB : big (K 124 b)) (he : J 98 52 = 0 ∨ J 98 52 = 1)
    (h : ∀ e v, (e = 0 ∨ e = 1) → big v → (J 98 52 = 1 → e = 1) → (J 98 52 = 0 → big (jn s (K 124 a) (K 124 b)) → e = 0 ∧ v = jn s (K 124 a) (K 124 b)) → (J 98 52 = 0 → ¬ big (jn s (K 124 a) (K 124 b)) → e = 1) → Q [.inr (.inl v)] (mem Ls p (mup J 98 52 e) K)) : m_Call i_M_valueOf [.inr (.inr 98), .inl (i : Int)] (mem Ls p J K) Q := by
  have z : big 0 := by unfold big; omega
  have o : big 1 := by unfold big; omega
  have same : ∀ v, (J 98 52 = 0 → v = jn s (K 124 a) (K 124 b)) → (v = 0 ∨ v = 1) → Q [.inr (.inl v)] (mem Ls p J K) := by
    intro v hv h01
    have := h (J 98 52) v he (by rcases h01 with rfl | rfl; exact z; exact o) (fun h => h) (fun h0 _ => ⟨h0, hv h0⟩) (fun h0 hb => by
      exfalso; apply hb; rw [← hv h0]; rcases h01 with rfl | rfl; exact z; exact o)
    rw [mup_same rfl] at this
    exact this
  have bA := hA
  have bB := hB
  unfold big at bA bB
  apply E_M_valueOf
  rw [Int.toNat_natCast, hp, ho, Int.toNat_natCast, Int.toNat_natCast]
  rw [lcmp_zero (K 124 a), lcmp_zero (K 124 b)]
  rw [wl_of (z := K 124 a + K 124 b) (by omega) (by omega), wl_of (z := K 124 a - K 124 b) (by omega) (by omega)]
  have hdv := @tdiv_big (K 124 a) (K 124 b) hA
  have hdv' := hdv
  unfold big at hdv'
  rw [wl_of (z := Int.tdiv (K 124 a) (K 124 b)) (by omega) (by omega)]
  have hkk := hk
  unfold kMap at hkk
  refine ⟨by omega, fun _ => ⟨by omega, fun _ => ⟨by omega, by omega, by omega, fun _ => ⟨by omega, by omega, by omega, ?_⟩, fun h2 => by omega⟩, fun h2 => by omega⟩, fun h2 => by omega⟩
  refine ⟨fun h3 => ?_, fun h3 => ⟨fun h4 => ?_, fun h4 => ⟨fun h11 => ?_, fun h11 => ⟨fun h12 => ?_, fun h12 => ⟨fun h13 => ?_, fun h13 => ⟨fun h14 => ?_, fun h14 => ⟨by omega, ?_⟩⟩⟩⟩⟩⟩⟩
  · have hs : s = 28 := by omega
    subst hs
    refine ⟨fun h5 => same 0 (fun _ => ?_) (Or.inl rfl), fun h5 => ⟨fun h6 => same 0 (fun _ => ?_) (Or.inl rfl), fun h6 => same 1 (fun _ => ?_) (Or.inr rfl)⟩⟩ <;> simp [jn] <;> omega
  · have hs : s = 27 := by omega
    subst hs
    refine ⟨fun h5 => same 1 (fun _ => ?_) (Or.inr rfl), fun h5 => ⟨fun h6 => same 0 (fun _ => ?_) (Or.inl rfl), fun h6 => same 1 (fun _ => ?_) (Or.inr rfl)⟩⟩ <;> simp [jn] <;> omega
  · have hs : s = 7 := by omega
    subst hs
    have hj : jn 7 (K 124 a) (K 124 b) = K 124 a + K 124 b := rfl
    rw [hj] at h
    exact r_bounded he (fun h5 => T_M_valueOf_202 (h 1 0 (Or.inr rfl) z (fun _ => rfl) (fun h6 h7 => by rcases h5 with h5 | h5; omega; exact absurd h7 h5) (fun _ _ => rfl))) (fun h5 h6 => T_M_valueOf_202 (h 0 _ (Or.inl rfl) h6 (fun h7 => by omega) (fun _ _ => ⟨rfl, rfl⟩) (fun _ h7 => absurd h6 h7)))
  · have hs : s = 8 := by omega
    subst hs
    have hj : jn 8 (K 124 a) (K 124 b) = K 124 a - K 124 b := rfl
    rw [hj] at h
    exact r_bounded he (fun h5 => T_M_valueOf_211 (h 1 0 (Or.inr rfl) z (fun _ => rfl) (fun h6 h7 => by rcases h5 with h5 | h5; omega; exact absurd h7 h5) (fun _ _ => rfl))) (fun h5 h6 => T_M_valueOf_211 (h 0 _ (Or.inl rfl) h6 (fun h7 => by omega) (fun _ _ => ⟨rfl, rfl⟩) (fun _ h7 => absurd h6 h7)))
  · have hs : s = 9 := by omega
    subst hs
    have hj : jn 9 (K 124 a) (K 124 b) = if K 124 b ≠ 0 ∧ Int.tdiv 1000000000000 (K 124 b).natAbs < (K 124 a).natAbs then -9223372036854775808 else K 124 a * K 124 b := by unfold jn; rw [if_neg (by omega), if_neg (by omega), if_pos rfl]
    rw [hj] at h
    refine r_times hA hB he (fun h5 => T_M_valueOf_219 (h 1 0 (Or.inr rfl) z (fun _ => rfl) (fun h6 h7 => ?_) (fun _ _ => rfl))) (fun h5 h6 => T_M_valueOf_219 (h 0 _ (Or.inl rfl) ?_ (fun h7 => by omega) (fun _ _ => ⟨rfl, by rw [if_neg h6]⟩) (fun _ h7 => ?_)))
    · rcases h5 with h5 | h5
      · omega
      · rw [if_pos h5] at h7; unfold big at h7; omega
    · exact mul_le_big (fun hb => by omega)
    · rw [if_neg h6] at h7; exact absurd (mul_le_big (fun hb => by omega)) h7
  · have hs : s = 10 := by omega
    subst hs
    have hj : jn 10 (K 124 a) (K 124 b) = if K 124 b = 0 then -9223372036854775808 else Int.tdiv (K 124 a) (K 124 b) := by simp [jn]
    rw [hj] at h
    refine ⟨fun h5 => ⟨by omega, fun h6 => by omega, fun _ => h 1 0 (Or.inr rfl) z (fun _ => rfl) (fun h6 => by omega) (fun _ _ => rfl)⟩, fun h5 => ⟨fun h6 => ⟨by omega, fun _ => ⟨h6, h 0 _ (Or.inl rfl) hdv (fun h7 => by omega) (fun _ _ => ⟨rfl, by rw [if_neg h6]⟩) (fun _ h7 => ?_)⟩, fun h7 => by omega⟩, fun h6 => ⟨by omega, fun h7 => by omega, fun _ => h 1 0 (Or.inr rfl) z (fun _ => rfl) (fun h7 h8 => ?_) (fun _ _ => rfl)⟩⟩⟩
    · rw [if_neg h6] at h7; exact absurd hdv h7
    · rw [if_pos (Classical.not_not.mp h6)] at h8; unfold big at h8; omega
  · have hs : s = J 118 i + 6 := by omega
    subst hs
    refine r_compares (by omega) (T_M_valueOf_271 ?_)
    have h01 : jn (J 118 i + 6) (K 124 a) (K 124 b) = 0 ∨ jn (J 118 i + 6) (K 124 a) (K 124 b) = 1 := by
      have h6 : J 118 i = 5 ∨ J 118 i = 6 ∨ J 118 i = 7 ∨ J 118 i = 8 ∨ J 118 i = 9 ∨ J 118 i = 10 := by omega
      rcases h6 with h6 | h6 | h6 | h6 | h6 | h6 <;> rw [h6] <;> simp [jn] <;> omega
    refine ⟨fun h5 => same 0 (fun _ => h5.symm) (Or.inl rfl), fun h5 => same 1 (fun _ => ?_) (Or.inr rfl)⟩
    omega
end V1
