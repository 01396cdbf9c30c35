/-! ===== phase 2: the plan and the way of the two; a law by names ===== -/
def PR (I : Nat → Nat → Int) (p : Nat) (J : Nat → Nat → Int) : Prop :=
  (J 98 12 = I p 13 ∧ J 98 13 = I p 14 ∧ J 98 14 = I p 15 ∧ J 98 15 = I p 16 ∧ J 102 0 = I p 17 ∧ J 102 1 = I p 18) ∧
  (∀ q : Nat, (q : Int) < I p 13 → J 103 q = I (p + 1) q ∧ J 104 q = I (p + 2) q ∧ J 105 q = I (p + 3) q ∧ J 106 q = I (p + 4) q ∧ J 107 q = I (p + 5) q) ∧
  (∀ r : Nat, (r : Int) < I p 14 → J 108 r = I (p + 6) r ∧ J 109 r = I (p + 7) r) ∧
  (∀ m : Nat, (m : Int) < I p 15 → J 110 m = I (p + 8) m ∧ J 111 m = I (p + 9) m ∧ J 112 m = I (p + 10) m) ∧
  (∀ k : Nat, (k : Int) < I p 16 → J 113 k = I (p + 11) k ∧ J 114 k = I (p + 12) k) ∧
  (∀ law : Nat, law < 3 → (J 115 law = 0 ∧ I (p + 16) law = I (p + 17) law) ∨ (J 115 law = 1 ∧ ∃ fr to : Nat, I (p + 16) law = (fr : Int) ∧ I (p + 17) law = (to : Int) ∧ J 116 law = (fr : Int) ∧ J 117 law = (to : Int) ∧ LawH (I (p + 14)) (I (p + 15)) (J 118) (J 119) (J 120) fr to)) ∧
  J 98 16 = I (p + 13) 6
def WR (I : Nat → Nat → Int) (p : Nat) (J : Nat → Nat → Int) : Prop :=
  ((J 98 68 = 0 ∧ I 64 4 = I p 17) ∨ (J 98 68 ≠ 0 ∧ I 64 4 = 0)) ∧ ((J 98 69 = 0 ∧ I 64 5 = I p 16) ∨ (J 98 69 ≠ 0 ∧ I 64 5 = 0)) ∧ (I 64 7 = 0 ↔ J 98 70 ≠ 0) ∧ I 64 6 = J 98 72 ∧ I 64 8 = J 98 67 ∧
  (∀ q : Nat, (q : Int) < I p 13 → I 65 q = if J 98 71 = 0 then I (p + 3) q else 30) ∧ (∀ q : Nat, (q : Int) < I p 13 → I 66 q = if (q : Int) = J 98 73 then J 98 74 else I (p + 5) q)
/-- the reference's memory: a day b, and whether there was an error -/
def jm (J : Nat → Nat → Int) (b : Nat) (e : Nat → Nat → Int) (x : Int) : Nat → Nat → Int := jput (mup J 98 52 x) b e
theorem jm_lo {J e : Nat → Nat → Int} {b a : Nat} {x : Int} (h : a < 125) (h2 : a ≠ 98) : jm J b e x a = J a := by
  unfold jm; rw [jput_out (by omega), mup_other h2]
theorem jm_98 {J e : Nat → Nat → Int} {b k : Nat} {x : Int} (h : k ≠ 52) : jm J b e x 98 k = J 98 k := by
  unfold jm; rw [jput_out (by omega), mup_ne (Or.inr h)]
theorem jm_52 {J e : Nat → Nat → Int} {b : Nat} {x : Int} : jm J b e x 98 52 = x := by
  unfold jm; rw [jput_out (by omega), mup_eq rfl rfl]
theorem jm_up {J e : Nat → Nat → Int} {b : Nat} {x y : Int} : mup (jm J b e x) 98 52 y = jm J b e y := by
  unfold jm; rw [mup_jput_out (by omega), mup_mup]
/-- longs but for the names, the values -/
def KF (K K' : Nat → Nat → Int) : Prop := ∀ a, a ≠ 123 → a ≠ 124 → K' a = K a
theorem KF.rfl' {K : Nat → Nat → Int} : KF K K := fun _ _ _ => rfl
theorem KF.tr {K K' K2 : Nat → Nat → Int} (h : KF K K') (h2 : KF K' K2) : KF K K2 := fun a h3 h4 => by rw [h2 a h3 h4, h a h3 h4]
section N1
variable {Ls pp p b : Nat} {I J K d e : Nat → Nat → Int} {Q : List mV → mM → Prop} {x : Int}
theorem r_waitsOf {q : Int} (hR : PR I p J) (hW : WR I p J) (hpl : planOK I p) (hq : 0 ≤ q ∧ q < I p 13) (h : Q [.inl (I 65 q.toNat)] (mem Ls pp (jm J b e x) K)) : m_Call i_M_waitsOf [.inr (.inr 98), .inl q] (mem Ls pp (jm J b e x) K) Q := by
  have h6 := hpl.1
  have h1 := hW.2.2.2.2.2.1 q.toNat (by omega)
  have h2 := (hR.2.1 q.toNat (by omega)).2.2.1
  apply E_M_waitsOf
  rw [jm_98 (by omega), jm_lo (by omega) (by omega), h2]
  refine ⟨fun h3 => ⟨by omega, ?_⟩, fun h3 => ?_⟩
  · rw [if_pos h3] at h1; rw [← h1]; exact h
  · rw [if_neg h3] at h1; rw [h1] at h; exact h
theorem r_rateIn {q : Int} (hR : PR I p J) (hW : WR I p J) (hpl : planOK I p) (hq : 0 ≤ q ∧ q < I p 13) (h : Q [.inl (I 66 q.toNat)] (mem Ls pp (jm J b e x) K)) : m_Call i_M_rateIn [.inr (.inr 98), .inl q] (mem Ls pp (jm J b e x) K) Q := by
  have h6 := hpl.1
  have h1 := hW.2.2.2.2.2.2 q.toNat (by omega)
  have h2 := (hR.2.1 q.toNat (by omega)).2.2.2.2
  apply E_M_rateIn
  rw [jm_98 (by omega), jm_lo (by omega) (by omega), h2, jm_98 (by omega)]
  refine ⟨fun h3 => ⟨by omega, ?_⟩, fun h3 => ?_⟩
  · rw [if_neg (by omega)] at h1; rw [← h1]; exact h
  · rw [if_pos (by omega)] at h1; rw [h1] at h; exact h
theorem r_layNames {q n : Int} (hb : b ≤ 1) (hR : PR I p J) (hW : WR I p J) (hpl : planOK I p) (hq : 0 ≤ q ∧ q < I p 13) (h2 : e 2 q.toNat = d 1 q.toNat) (h3 : e 3 q.toNat = d 3 q.toNat) (h11 : e 11 0 = d 0 10)
    (h : ∀ K2, (∀ a, a ≠ 123 → K2 a = K a) → (∀ j, j < 7 → K2 123 j = nmv I p d q n j) → Q [] (mem Ls pp (jm J b e x) K2)) : m_Call i_M_layNames [.inr (.inr 98), .inl (b : Int), .inl q, .inl n] (mem Ls pp (jm J b e x) K) Q := by
  have h6 := hpl.1
  have ht := (hR.2.1 q.toNat (by omega)).2.1
  obtain ⟨j0, j1, j2, j3, j4, j5, j6, j7, j8, j9, j10, j11, j12⟩ := jS (b := b) (mup J 98 52 x) e
  refine E_M_layNames ⟨by omega, by omega, r_waitsOf hR hW hpl hq (T_M_layNames_23 ⟨by omega, ?_⟩)⟩
  rw [ix6 hb (by omega), Int.toNat_natCast]
  refine ⟨by omega, by omega, r_rateIn hR hW hpl hq (T_M_layNames_53 ⟨by omega, by omega, ?_⟩)⟩
  rw [ix6 hb (by omega), Int.toNat_natCast, Int.toNat_natCast]
  refine ⟨by omega, by omega, by omega, by omega, h _ (fun a ha => ?_) (fun j hj => ?_)⟩
  · simp only [mup_other ha]
  · rw [jm_lo (by omega) (by omega), ht]
    have e2 : jm J b e x 127 (6 * b + q.toNat) = d 1 q.toNat := by rw [← h2]; exact j2 _ (by omega)
    have e3 : jm J b e x 128 (6 * b + q.toNat) = d 3 q.toNat := by rw [← h3]; exact j3 _ (by omega)
    have e11 : jm J b e x 136 b = d 0 10 := by rw [← h11]; exact j11
    rw [e2, e3, e11]
    have h7 : j = 0 ∨ j = 1 ∨ j = 2 ∨ j = 3 ∨ j = 4 ∨ j = 5 ∨ j = 6 := by omega
    rcases h7 with rfl | rfl | rfl | rfl | rfl | rfl | rfl <;> simp [mup_app, nmv]
/-- a law within bounds; what goes without it -/
def bl (l w lo hi : Int) : Int := if l = -9223372036854775808 then w else wth l lo hi
theorem r_boundLaw {law : Nat} {w lo hi : Int} {nm : Nat → Int} (hl : law < 3) (hR : PR I p J) (hpl : planOK I p) (hlh : lo ≤ hi) (hlo : -100 ≤ lo) (hhi : hi ≤ 100) (hnm : ∀ j, j < 7 → K 123 j = nm j ∧ big (nm j))
    (h : ∀ x2 K2, (∀ a, a ≠ 124 → K2 a = K a) → Q [.inl (bl (lv I (p + 13) law nm) w lo hi)] (mem Ls pp (jm J b e x2) K2)) : m_Call i_M_boundLaw [.inr (.inr 98), .inl (law : Int), .inl w, .inl lo, .inl hi] (mem Ls pp (jm J b e x) K) Q := by
  have hok := hpl.2.2.2.2.2.2.2.2.2
  unfold bl lv at h
  refine E_M_boundLaw ⟨by omega, ?_⟩
  rw [jm_lo (by omega) (by omega), Int.toNat_natCast]
  rcases hR.2.2.2.2.2.1 law hl with ⟨h0, h1⟩ | ⟨h0, fr, to, hf, ht, hf', ht', hH⟩
  · refine ⟨fun h2 => absurd h0 h2, fun _ => ?_⟩
    have := h x K (fun _ _ => rfl)
    rw [show p + 13 + 3 = p + 16 from rfl, show p + 13 + 4 = p + 17 from rfl, h1, Int.sub_self] at this
    rw [if_pos (by rfl)] at this
    exact this
  · refine ⟨fun _ => ?_, fun h2 => by omega⟩
    have hlv : lvR (I (p + 13 + 1)) (I (p + 13 + 2)) nm (I (p + 13 + 4) law - I (p + 13 + 3) law).toNat (I (p + 13 + 3) law).toNat [] = lvR (I (p + 14)) (I (p + 15)) nm (to - fr) fr [] := by
      rw [show p + 13 + 3 = p + 16 from rfl, show p + 13 + 4 = p + 17 from rfl, hf, ht, show ((to : Int) - (fr : Int)).toNat = to - fr by omega, Int.toNat_natCast]
    rw [hlv] at h
    refine r_lawOf (st := I (p + 14)) (nu := I (p + 15)) (nm := nm) (fr := fr) (to := to) (by omega) (by rw [jm_lo (by omega) (by omega)]; exact hf') (by rw [jm_lo (by omega) (by omega)]; exact ht') (by rw [jm_lo (by omega) (by omega), jm_lo (by omega) (by omega), jm_lo (by omega) (by omega)]; exact hH) hnm (fun i hi => hok.1 law hl i (by show (i : Int) < I (p + 17) law; rw [ht]; omega)) ?_
    intro y v K2 hK2 hv
    rw [jm_up]
    have hh := h y K2 hK2
    refine T_M_boundLaw_16 ?_
    rw [jm_52, lcmp_nonneg, lcmp_nonpos]
    rcases hv with ⟨h1, h2⟩ | ⟨h1, h2, h3⟩
    · rw [if_pos h1] at hh
      exact ⟨fun h4 => by omega, fun _ => hh⟩
    · rw [← h2] at hh
      unfold big at h3
      rw [if_neg (by omega)] at hh
      unfold wth at hh
      refine ⟨fun _ => ⟨fun h4 => ⟨fun h5 => ?_, fun h5 => ?_⟩, fun h4 => ?_⟩, fun h4 => absurd h1 h4⟩
      · rw [if_neg (by omega), if_neg (by omega)] at hh
        rw [wr_of (by omega) (by omega)]; exact hh
      · rw [if_neg (by omega), if_pos (by omega)] at hh; exact hh
      · rw [if_pos (by omega)] at hh; exact hh
theorem rcold_loop {t : Int} {kc ks : Nat} (hR : PR I p J) (hpl : planOK I p) : ∀ (n k : Nat), (k : Int) + n = I p 16 → Q [.inl (coldF I p t k n)] (mem Ls pp (jm J b e x) K) → m_Wp i_M_isCold 11 kc ks [(0, .inr (.inr 98)), (1, .inl t), (2, .inl (k : Int))] [] (mem Ls pp (jm J b e x) K) Q := by
  have h3 := hpl.2.2.2.1
  intro n
  induction n with
  | zero =>
    intro k hk hQ
    refine T_M_isCold_11 ?_
    rw [jm_98 (by omega), hR.1.2.2.2.1]
    exact ⟨fun _ => ⟨by omega, hQ⟩, fun h => absurd (show I p 16 ≤ (k : Int) by omega) h⟩
  | succ n ih =>
    intro k hk hQ
    have hw : wr ((k : Int) + 1) = ((k + 1 : Nat) : Int) := by rw [wr_of] <;> omega
    have hc := hR.2.2.2.2.1 k (by omega)
    rw [coldF] at hQ
    refine T_M_isCold_11 ?_
    rw [jm_98 (by omega), hR.1.2.2.2.1, jm_lo (by omega) (by omega), jm_lo (by omega) (by omega), Int.toNat_natCast, hc.1, hc.2]
    refine ⟨fun h => by omega, fun _ => ⟨by omega, by omega, E_M_isIn ⟨fun h => ⟨by omega, T_M_isCold_35 ⟨fun _ => ?_, fun h2 => by omega⟩⟩, fun h => ⟨fun h2 => ⟨by omega, T_M_isCold_35 ⟨fun _ => ?_, fun h2 => by omega⟩⟩, fun h2 => ⟨by omega, T_M_isCold_35 ⟨fun h2 => by omega, fun _ => ⟨by omega, ?_⟩⟩⟩⟩⟩⟩⟩
    · rw [if_neg (by omega)] at hQ; rw [hw]; exact ih (k + 1) (by omega) hQ
    · rw [if_neg (by omega)] at hQ; rw [hw]; exact ih (k + 1) (by omega) hQ
    · rw [if_pos (by omega)] at hQ; exact hQ
theorem r_isCold {t : Int} (hR : PR I p J) (hW : WR I p J) (hpl : planOK I p) (h : Q [.inl (coldF I p t 0 (I 64 5).toNat)] (mem Ls pp (jm J b e x) K)) : m_Call i_M_isCold [.inr (.inr 98), .inl t] (mem Ls pp (jm J b e x) K) Q := by
  have h3 := hpl.2.2.2.1
  apply E_M_isCold
  rw [jm_98 (by omega)]
  rcases hW.2.1 with ⟨h1, h2⟩ | ⟨h1, h2⟩
  · rw [h2] at h
    exact ⟨fun _ => rcold_loop hR hpl (I p 16).toNat 0 (by omega) h, fun h4 => absurd h1 h4⟩
  · rw [h2] at h
    exact ⟨fun h4 => absurd h4 h1, fun _ => ⟨by omega, h⟩⟩
end N1
