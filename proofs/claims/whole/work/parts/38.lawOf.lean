/-- a knot over the knots that are held: what is held behind it -/
def hSt (kn pa ot : Nat → Int) (i : Nat) (h h' : List Nat) : Prop :=
  ((kn i = 0 ∨ kn i = 1) ∧ h' = i :: h) ∨ (kn i = 2 ∧ ∃ (a : Nat) (t : List Nat), h = a :: t ∧ pa i = (a : Int) ∧ h' = i :: t) ∨ (3 ≤ kn i ∧ ∃ (a b : Nat) (t : List Nat), h = b :: a :: t ∧ pa i = (a : Int) ∧ ot i = (b : Int) ∧ h' = i :: t)
/-- a step of the class and a knot -/
def kRel (st nu kn pa : Nat → Int) (i : Nat) : Prop := (st i = 2 ∧ kn i = 0 ∧ pa i = nu i) ∨ (30 ≤ st i ∧ st i < 37 ∧ kn i = 1 ∧ pa i = st i - 30) ∨ (st i = 29 ∧ kn i = 2) ∨ kMap (st i) (kn i)
/-- the steps of a law of the class are the knots of the reference's -/
def LawH (st nu kn pa ot : Nat → Int) (fr to : Nat) : Prop := fr < to ∧ to ≤ 64 ∧ (∀ i, fr ≤ i → i < to → kRel st nu kn pa i) ∧ ∃ H : Nat → List Nat, H fr = [] ∧ (∀ i, fr ≤ i → i < to → hSt kn pa ot i (H i) (H (i + 1))) ∧ H to = [to - 1]
theorem held_lt {kn pa ot : Nat → Int} {fr to : Nat} {H : Nat → List Nat} (h0 : H fr = []) (hs : ∀ i, fr ≤ i → i < to → hSt kn pa ot i (H i) (H (i + 1))) : ∀ n, fr + n ≤ to → ∀ a ∈ H (fr + n), a < fr + n := by
  intro n
  induction n with
  | zero => intro _ a ha; rw [show fr + 0 = fr from rfl, h0] at ha; simp at ha
  | succ n ih =>
    intro hn a ha
    have ih := ih (by omega)
    rcases hs (fr + n) (by omega) (by omega) with ⟨_, h⟩ | ⟨_, x, t, h1, _, h⟩ | ⟨_, x, y, t, h1, _, _, h⟩
    · rw [show fr + (n + 1) = fr + n + 1 from rfl, h] at ha
      rcases List.mem_cons.mp ha with rfl | ha
      · omega
      · have := ih a ha; omega
    · rw [show fr + (n + 1) = fr + n + 1 from rfl, h] at ha
      rcases List.mem_cons.mp ha with rfl | ha
      · omega
      · have := ih a (by rw [h1]; simp [ha]); omega
    · rw [show fr + (n + 1) = fr + n + 1 from rfl, h] at ha
      rcases List.mem_cons.mp ha with rfl | ha
      · omega
      · have := ih a (by rw [h1]; simp [ha]); omega
theorem map_up {K : Nat → Nat → Int} {i : Nat} {v : Int} {t : List Nat} (h : ∀ a ∈ t, a < i) : t.map (mup K 124 i v 124) = t.map (K 124) := by
  apply List.map_congr_left
  intro a ha
  have := h a ha
  rw [mup_ne (Or.inr (by omega))]
section V2
variable {Ls p kc ks : Nat} {J K : Nat → Nat → Int} {Q : List mV → mM → Prop}
theorem lawOf_loop {st nu nm : Nat → Int} {law fr to : Nat} {H : Nat → List Nat} (hl : law < 6) (hto : J 117 law = (to : Int)) (h64 : to ≤ 64) (hft : fr < to) (hnm : ∀ j, j < 7 → K 123 j = nm j ∧ big (nm j)) (hnu : ∀ i : Nat, i < to → st i = 2 → big (nu i))
    (hk : ∀ i, fr ≤ i → i < to → kRel st nu (J 118) (J 119) i) (h0 : H fr = []) (hs : ∀ i, fr ≤ i → i < to → hSt (J 118) (J 119) (J 120) i (H i) (H (i + 1))) (hend : H to = [to - 1]) :
    ∀ (n i : Nat) (e : Int) (K' : Nat → Nat → Int), i + n = to → fr ≤ i → (e = 0 ∨ e = 1) → (∀ a, a ≠ 124 → K' a = K a) → (∀ a ∈ H i, big (K' 124 a)) →
      (∀ e' v K2, (∀ a, a ≠ 124 → K2 a = K a) → (e' = 0 ∨ e' = 1) → (e = 1 → e' = 1) → (e = 0 → (lvR st nu nm n i ((H i).map (K' 124)) = -9223372036854775808 ∧ e' = 1) ∨ (e' = 0 ∧ v = lvR st nu nm n i ((H i).map (K' 124)) ∧ big v)) → Q [.inr (.inl v)] (mem Ls p (mup J 98 52 e') K2)) →
      m_Wp i_M_lawOf 12 kc ks [(0, .inr (.inr 98)), (1, .inl (law : Int)), (2, .inl (i : Int))] [] (mem Ls p (mup J 98 52 e) K') Q := by
  intro n
  induction n with
  | zero =>
    intro i e K' hi hf he hK hb P
    have hit : i = to := by omega
    subst hit
    refine T_M_lawOf_12 ?_
    rw [Int.toNat_natCast, mup_other (by omega), hto, mup_eq rfl rfl, wr_of (by omega) (by omega), show ((i : Int) - 1).toNat = i - 1 by omega]
    refine ⟨by omega, fun _ => ⟨fun h => ⟨by omega, by omega, ?_⟩, fun h => ?_⟩, fun h => by omega⟩
    · refine P e _ K' hK he (fun h => h) (fun _ => Or.inr ⟨h, ?_, ?_⟩)
      · rw [hend]; rfl
      · exact hb _ (by rw [hend]; simp)
    · exact P e _ K' hK he (fun h => h) (fun h1 => absurd h1 h)
  | succ n ih =>
    intro i e K' hi hf he hK hb P
    have hlt := held_lt h0 hs (i - fr) (by omega)
    rw [show fr + (i - fr) = i by omega] at hlt
    have hkr := hk i hf (by omega)
    have hst := hs i hf (by omega)
    have e118 : mup J 98 52 e 118 = J 118 := mup_other (by omega)
    have e119 : mup J 98 52 e 119 = J 119 := mup_other (by omega)
    have e120 : mup J 98 52 e 120 = J 120 := mup_other (by omega)
    have e98 : mup J 98 52 e 98 52 = e := mup_eq rfl rfl
    have hkt : (i : Int).toNat = i := Int.toNat_natCast i
    have hwi : wr ((i : Int) + 1) = ((i + 1 : Nat) : Int) := by rw [wr_of (by omega) (by omega)]; omega
    -- behind the value
    have nxt : ∀ (e2 v : Int), (e2 = 0 ∨ e2 = 1) → (e = 1 → e2 = 1) → big v → H (i + 1) = i :: (H (i + 1)).tail → (∀ a ∈ (H (i + 1)).tail, a ∈ H i) → (e = 0 → (e2 = 0 ∧ lvS st nu nm i ((H i).map (K' 124)) = some (v :: ((H (i + 1)).tail).map (K' 124))) ∨ (e2 = 1 ∧ lvS st nu nm i ((H i).map (K' 124)) = none)) → m_Wp i_M_lawOf 32 kc ks [(0, .inr (.inr 98)), (1, .inl (law : Int)), (2, .inl (i : Int))] [.inr (.inl v), .inl (i : Int), .inr (.inr 124)] (mem Ls p (mup J 98 52 e2) K') Q := by
      intro e2 v he2 hee hv hH hsub hS
      refine T_M_lawOf_32 ⟨by omega, ?_⟩
      rw [hwi, hkt]
      have hmap : (H (i + 1)).map (mup K' 124 i v 124) = v :: ((H (i + 1)).tail).map (K' 124) := by
        rw [hH, List.map_cons, List.tail_cons, map_up (fun a ha => hlt a (hsub a ha)), mup_eq rfl rfl]
      refine ih (i + 1) e2 _ (by omega) (by omega) he2 (fun a ha => by rw [mup_other ha]; exact hK a ha) ?_ ?_
      · intro a ha
        rw [hH] at ha
        rcases List.mem_cons.mp ha with rfl | ha
        · rw [mup_eq rfl rfl]; exact hv
        · have h1 := hsub a ha
          have h2 := hlt a h1
          rw [mup_ne (Or.inr (by omega))]; exact hb a h1
      · intro e' v' K2 h1 h2 h3 h4
        rw [hmap] at h4
        refine P e' v' K2 h1 h2 (fun h => h3 (hee h)) (fun h => ?_)
        rcases hS h with ⟨h5, h6⟩ | ⟨h5, h6⟩
        · rw [lvR_some h6]; exact h4 h5
        · rw [lvR_none h6]; exact Or.inl ⟨rfl, h3 h5⟩
    refine T_M_lawOf_12 ⟨by omega, fun h => absurd h (by rw [Int.toNat_natCast, mup_other (by omega), hto]; omega), fun _ => ?_⟩
    rcases hst with ⟨hleaf, hH⟩ | ⟨hk2, a, t, hHi, hpa, hH⟩ | ⟨hk3, a, b, t, hHi, hpa, hot, hH⟩
    · -- a number or a name
      have hv : ∃ v, (J 118 i = 0 → v = J 119 i) ∧ (J 118 i = 1 → 0 ≤ J 119 i ∧ J 119 i < 7 ∧ v = K' 123 (J 119 i).toNat) ∧ big v ∧ lvS st nu nm i ((H i).map (K' 124)) = some (v :: (H i).map (K' 124)) := by
        unfold kRel kMap at hkr
        rcases hkr with ⟨h1, h2, h3⟩ | ⟨h1, h2, h3, h4⟩ | h1 | h1
        · exact ⟨nu i, fun _ => h3.symm, fun h => by omega, hnu i (by omega) h1, by unfold lvS; rw [if_pos h1]⟩
        · refine ⟨nm (st i - 30).toNat, fun h => by omega, fun _ => ⟨by omega, by omega, ?_⟩, (hnm _ (by omega)).2, by unfold lvS; rw [if_neg (by omega), if_pos (by omega)]⟩
          rw [hK 123 (by omega), h4, (hnm _ (by omega)).1]
        · omega
        · omega
      obtain ⟨v, hv0, hv1, hvb, hvS⟩ := hv
      refine r_leaf (v := v) (by omega) (by rw [e118, e119]; exact hv0) (by rw [e118, e119]; exact hv1) (by rw [e118]; exact hleaf) ?_
      refine nxt e v he (fun h => h) hvb (by rw [hH]; rfl) (by rw [hH]; exact fun a ha => ha) (fun h => ?_)
      rw [hH]
      rcases he with h5 | h5
      · exact Or.inl ⟨h5, hvS⟩
      · omega
    · -- a NOT
      have hs29 : st i = 29 := by unfold kRel kMap at hkr; omega
      have ha := hlt a (by rw [hHi]; simp)
      refine r_not (a := a) (by omega) (by rw [e118]; exact hk2) (by rw [e119]; exact hpa) (by omega) ?_
      refine nxt e _ he (fun h => h) (by unfold big; split <;> omega) (by rw [hH]; rfl) (by rw [hH, hHi]; intro x hx; simp at hx ⊢; exact Or.inr hx) (fun h => Or.inl ⟨h, ?_⟩)
      unfold lvS
      rw [hs29, if_neg (by omega), if_neg (by omega), hHi, hH]
      rfl
    · -- a sign between two
      have hkm : kMap (st i) (J 118 i) := by
        unfold kRel at hkr
        rcases hkr with h1 | h1 | h1 | h1
        · omega
        · omega
        · omega
        · exact h1
      have ha := hlt a (by rw [hHi]; simp)
      have hb' := hlt b (by rw [hHi]; simp)
      refine r_bin (a := a) (b := b) (s := st i) (by omega) (by rw [e118]; exact hkm) (by rw [e119]; exact hpa) (by rw [e120]; exact hot) (by omega) (by omega) (hb a (by rw [hHi]; simp)) (hb b (by rw [hHi]; simp)) (by rw [e98]; exact he) ?_
      intro e2 v h1 h2 h3 h4 h5
      rw [e98] at h3 h4 h5
      rw [mup_mup]
      refine nxt e2 v h1 h3 h2 (by rw [hH]; rfl) (by rw [hH, hHi]; intro x hx; simp at hx ⊢; exact Or.inr (Or.inr hx)) (fun h => ?_)
      have hlT : lvS st nu nm i ((H i).map (K' 124)) = if 1000000000000 < jn (st i) (K' 124 a) (K' 124 b) ∨ jn (st i) (K' 124 a) (K' 124 b) < -1000000000000 then none else some (jn (st i) (K' 124 a) (K' 124 b) :: t.map (K' 124)) := by
        unfold lvS
        unfold kMap at hkm
        rw [if_neg (by omega), if_neg (by omega), hHi]
        simp only [List.map_cons, lvT]
        rw [if_neg (by omega)]
      rw [hlT, hH]
      by_cases hbg : big (jn (st i) (K' 124 a) (K' 124 b))
      · have h6 := h4 h hbg
        unfold big at hbg
        rw [if_neg (by omega), h6.2]
        exact Or.inl ⟨h6.1, rfl⟩
      · have h6 := h5 h hbg
        unfold big at hbg
        rw [if_pos (by omega)]
        exact Or.inr ⟨h6, rfl⟩
/-- the value of a law that is told -/
theorem r_lawOf {st nu nm : Nat → Int} {law fr to : Nat} (hl : law < 6) (hfr : J 116 law = (fr : Int)) (hto : J 117 law = (to : Int)) (hH : LawH st nu (J 118) (J 119) (J 120) fr to) (hnm : ∀ j, j < 7 → K 123 j = nm j ∧ big (nm j)) (hnu : ∀ i : Nat, i < to → st i = 2 → big (nu i))
    (P : ∀ e v K2, (∀ a, a ≠ 124 → K2 a = K a) → (lvR st nu nm (to - fr) fr [] = -9223372036854775808 ∧ e = 1) ∨ (e = 0 ∧ v = lvR st nu nm (to - fr) fr [] ∧ big v) → Q [.inr (.inl v)] (mem Ls p (mup J 98 52 e) K2)) : m_Call i_M_lawOf [.inr (.inr 98), .inl (law : Int)] (mem Ls p J K) Q := by
  obtain ⟨h1, h2, h3, H, h4, h5, h6⟩ := hH
  refine E_M_lawOf ⟨by omega, by omega, ?_⟩
  rw [Int.toNat_natCast, hfr]
  refine lawOf_loop (st := st) (nu := nu) (nm := nm) hl hto h2 h1 hnm hnu h3 h4 h5 h6 (to - fr) fr 0 K (by omega) (by omega) (Or.inl rfl) (fun _ _ => rfl) (by rw [h4]; simp) ?_
  intro e v K2 a1 a2 a3 a4
  have := a4 rfl
  rw [h4] at this
  exact P e v K2 a1 this
end V2
