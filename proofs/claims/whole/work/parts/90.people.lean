/-! ===== phase 2: a person; the LINES man, ring, meet, cold: both in step ===== -/
def half (a : Nat) : Nat := if a = 102 then 2 else if 103 ≤ a ∧ a ≤ 107 then 6 else if a = 108 ∨ a = 109 then 10 else if 110 ≤ a ∧ a ≤ 112 then 6 else if 113 ≤ a ∧ a ≤ 117 then 3 else if 118 ≤ a ∧ a ≤ 120 then 64 else 0
/-- what a LINE leaves alone: rows from lo to hi and the count c may change -/
def LFX (o lo hi c : Nat) (X X' : Nat → Nat → Int) : Prop := (∀ a, a ≠ 3 → a ≠ 5 → a ≠ o → ¬ (lo ≤ a ∧ a ≤ hi) → X' a = X a) ∧ (∀ k, k ≠ c → X' o k = X o k) ∧ (∀ k, k ≠ 4 → k ≠ 5 → k ≠ 6 → X' 3 k = X 3 k)
def LFY (lo hi c : Nat) (Y Y' : Nat → Nat → Int) : Prop := (∀ a, a ≠ 98 → ¬ (lo ≤ a ∧ a ≤ hi) → Y' a = Y a) ∧ (∀ k, k ≠ 4 → k ≠ 5 → k ≠ c → (k < 7 ∨ 11 < k) → Y' 98 k = Y 98 k) ∧ (∀ a k, lo ≤ a → a ≤ hi → k < half a → Y' a k = Y a k)
section K2
variable {X X' X2 Y Y' Y2 : Nat → Nat → Int} {o lo hi c : Nat}
theorem LFX.tr (h : LFX o lo hi c X X') (g : LFX o lo hi c X' X2) : LFX o lo hi c X X2 := ⟨fun a h1 h2 h3 h4 => by rw [g.1 a h1 h2 h3 h4, h.1 a h1 h2 h3 h4], fun k h1 => by rw [g.2.1 k h1, h.2.1 k h1], fun k h1 h2 h3 => by rw [g.2.2 k h1 h2 h3, h.2.2 k h1 h2 h3]⟩
theorem LFY.tr (h : LFY lo hi c Y Y') (g : LFY lo hi c Y' Y2) : LFY lo hi c Y Y2 := ⟨fun a h1 h2 => by rw [g.1 a h1 h2, h.1 a h1 h2], fun k h1 h2 h3 h4 => by rw [g.2.1 k h1 h2 h3 h4, h.2.1 k h1 h2 h3 h4], fun a k h1 h2 h3 => by rw [g.2.2 a k h1 h2 h3, h.2.2 a k h1 h2 h3]⟩
theorem LFX.sx (ho : o = 9 ∨ o = 68) (h : SX X X') : LFX o lo hi c X X' := ⟨fun a h1 h2 _ _ => h.1 a h1 h2, fun k _ => by rw [h.1 o (by omega) (by omega)], h.2⟩
theorem LFY.sy (hl : 98 < lo) (h : SY Y Y') : LFY lo hi c Y Y' := ⟨fun a h1 _ => h.1 a h1, fun k h1 h2 _ h4 => h.2 k h1 h2 h4, fun a k h1 _ _ => by rw [h.1 a (by omega)]⟩
theorem LFX.up {a k : Nat} {v : Int} (ho : o = 9 ∨ o = 68) (h1 : lo ≤ a) (h2 : a ≤ hi) (h3 : o < lo) : LFX o lo hi c X (mup X a k v) := ⟨fun b _ _ _ h => mup_other (by omega), fun j _ => mup_ne (by omega), fun j _ _ _ => mup_ne (by omega)⟩
theorem LFY.up {a k : Nat} {v : Int} (h1 : lo ≤ a) (h2 : a ≤ hi) (h3 : 98 < lo) (h4 : half a ≤ k) : LFY lo hi c Y (mup Y a k v) := ⟨fun b _ h => mup_other (by omega), fun j _ _ _ _ => mup_ne (by omega), fun b j _ _ h => by
  by_cases hb : b = a
  · subst hb; exact mup_ne (by omega)
  · exact mup_ne (by omega)⟩
theorem LFX.cnt {v : Int} (ho : o = 9 ∨ o = 68) (h3 : o < lo) : LFX o lo hi c X (mup X o c v) := ⟨fun b _ _ h _ => mup_other h, fun j h => mup_ne (by omega), fun j _ _ _ => mup_ne (by omega)⟩
theorem LFY.cnt {v : Int} (h3 : 98 < lo) : LFY lo hi c Y (mup Y 98 c v) := ⟨fun b h _ => mup_other h, fun j _ _ h _ => mup_ne (by omega), fun b j h _ _ => mup_ne (by omega)⟩
end K2
theorem pOf_ge {f : Nat → Int} {x : Int} : ∀ (n k : Nat), pOf f x k n = -1 ∨ ((k : Int) ≤ pOf f x k n ∧ pOf f x k n < (k : Int) + n) := by
  intro n
  induction n with
  | zero => intro k; left; rw [pOf]
  | succ n ih =>
    intro k
    rw [pOf]
    split
    · right; omega
    · rcases ih (k + 1) with h | h
      · left; exact h
      · right; omega
/-- the names told so far -/
def NMR (o : Nat) (X Y : Nat → Nat → Int) : Prop := X o 13 = Y 98 17 ∧ (0 ≤ X o 13 ∧ X o 13 ≤ 6) ∧ ∀ q : Nat, (q : Int) < X o 13 → X (o + 1) q = Y 103 (6 + q)
section K3
variable {Ls p pp o kc ks : Nat} {K L X Y : Nat → Nat → Int} {Q : List mV → mM → Prop}
theorem nof_loop {y : Int} (hp : (p = 68 ∧ o = 9) ∨ (p = 9 ∧ o = 68)) (h6 : X o 13 ≤ 6) : ∀ (n k : Nat), (k : Int) + n = X o 13 → Q [.inl (pOf (X (o + 1)) y k n)] (mem Ls p X L) → m_Wp i_Plan_numberOf 2 kc ks [(0, .inr (.inr o)), (1, .inl y), (2, .inl (k : Int))] [] (mem Ls p X L) Q := by
  intro n
  induction n with
  | zero => intro k hk hQ; exact T_Plan_numberOf_2_o hp ⟨fun _ => hQ, fun h => by omega⟩
  | succ n ih =>
    intro k hk hQ
    rw [pOf] at hQ
    refine T_Plan_numberOf_2_o hp ?_
    rw [Int.toNat_natCast, show wr ((k : Int) + 1) = ((k + 1 : Nat) : Int) by rw [wr_of] <;> omega]
    refine ⟨fun h => by omega, fun _ => ⟨by omega, fun h => ?_, fun h => ?_⟩⟩
    · rw [if_neg h] at hQ; exact ih (k + 1) (by omega) hQ
    · rw [if_pos (Classical.not_not.mp h)] at hQ; exact hQ
theorem k_nof {y : Int} (hp : (p = 68 ∧ o = 9) ∨ (p = 9 ∧ o = 68)) (hN : NMR o X Y) : RN Ls p L i_Plan_numberOf [.inr (.inr o), .inl y] X [.inl (pOf (X (o + 1)) y 0 (X o 13).toNat)] X :=
  fun Q h => E_Plan_numberOf_o hp (nof_loop hp hN.2.1.2 (X o 13).toNat 0 (by have := hN.2.1; omega) h)
theorem k_find {y : Int} (hN : NMR o X Y) : RN Ls pp K i_M_find [.inr (.inr 103), .inl 6, .inl (Y 98 17), .inl y] Y [.inl (pOf (X (o + 1)) y 0 (X o 13).toNat)] Y := fun Q h => by
  rw [← hN.1]
  exact E_M_find (find_loop (b := 6) (Or.inr rfl) hN.2.1.2 (f := X (o + 1)) (fun k hk => (hN.2.2 k hk).symm) (X o 13).toNat 0 (by have := hN.2.1; omega) h)
/-- a person that is told -/
theorem k_person {N a : Nat} (hp : (p = 68 ∧ o = 9) ∨ (p = 9 ∧ o = 68)) (hT : TK X Y N a) (hF : FE X Y) (hN : NMR o X Y) : ∃ v X' Y', RN Ls p L i_LineReader_readsPerson [.inr (.inr 3)] X [.inl v] X' ∧ RN Ls pp K i_M_manThere [.inr (.inr 98)] Y [.inl v] Y' ∧ FE X' Y' ∧ SX X X' ∧ SY Y Y' ∧ ((v = 0 ∧ (X 5 4 ≠ 3 ∨ pOf (X (o + 1)) (X 5 7) 0 (X o 13).toNat = -1)) ∨ (v = 1 ∧ X 5 4 = 3 ∧ ∃ a', TK X' Y' N a' ∧ AD X' a a' ∧ X' 3 6 = Y' 98 11 ∧ X' 3 6 = pOf (X (o + 1)) (X 5 7) 0 (X o 13).toNat ∧ 0 ≤ X' 3 6 ∧ X' 3 6 < X o 13)) := by
  have hK := hT.2.2.2.2.1
  by_cases h3 : X 5 4 = 3
  · have h2 : Y 98 8 = 2 ∧ Y 98 9 = X 5 7 := by unfold KR at hK; omega
    obtain ⟨r, hr⟩ : ∃ r, pOf (X (o + 1)) (X 5 7) 0 (X o 13).toNat = r := ⟨_, rfl⟩
    have rn := k_nof (Ls := Ls) (L := L) (y := X 5 7) hp hN
    have rf := k_find (Ls := Ls) (pp := pp) (K := K) (y := Y 98 9) hN
    rw [h2.2] at rf
    rw [hr] at rn rf
    have hge := pOf_ge (f := X (o + 1)) (x := X 5 7) (X o 13).toNat 0
    rw [hr] at hge
    have h13 := hN.2.1
    have hT1 : TK (mup X 3 6 r) Y N a := hT.congr (mup_other (by omega)) (mup_other (by omega)) (mup_other (by omega)) (fun k h1 h2 => rfl) rfl rfl
    by_cases hr1 : r = -1
    · obtain ⟨X', Y', f1, f2, f3, f4, f5⟩ := k_fail (Ls := Ls) (p := p) (pp := pp) (K := K) (L := L) hT1 4
      refine ⟨0, X', Y', fun Q h => E_LineReader_readsPerson hp ⟨fun _ => rn _ (T_LineReader_readsPerson_32 ⟨fun z => absurd hr1 z, fun _ => f1 _ (T_LineReader_readsPerson_48 ⟨Or.inl rfl, h⟩)⟩), fun z => absurd h3 z⟩, fun Q h => E_M_manThere ⟨fun _ => ?_, fun z => absurd h2.1 z⟩, f3, SX.tr ⟨fun b h1 _ => mup_other h1, fun k _ _ h1 => mup_ne (by omega)⟩ f4, f5, Or.inl ⟨rfl, Or.inr (by rw [hr]; exact hr1)⟩⟩
      rw [h2.2]
      exact rf _ (T_M_manThere_31 ⟨fun z => by omega, fun _ => f2 _ (T_M_manThere_41 ⟨Or.inl rfl, h⟩)⟩)
    · have hF1 : FE (mup X 3 6 r) Y := by
        unfold FE at *
        rw [mup_ne (by omega), mup_ne (by omega)]; exact hF
      obtain ⟨X', Y', a', r1, r2, r3, r4, r5, r6, r7, r8, r9⟩ := k_adv (Ls := Ls) (p := p) (pp := pp) (K := K) (L := L) hT1 hF1
      refine ⟨1, X', mup Y' 98 11 r, fun Q h => E_LineReader_readsPerson hp ⟨fun _ => rn _ (T_LineReader_readsPerson_32 ⟨fun _ => r1 _ (T_LineReader_readsPerson_56 ⟨Or.inr rfl, h⟩), fun z => absurd hr1 z⟩), fun z => absurd h3 z⟩, fun Q h => E_M_manThere ⟨fun _ => ?_, fun z => absurd h2.1 z⟩, ?_, SX.tr ⟨fun b h1 _ => mup_other h1, fun k _ _ h1 => mup_ne (by omega)⟩ r6, r7.tr ⟨fun b h1 => mup_other h1, fun k _ _ h1 => mup_ne (by omega)⟩, Or.inr ⟨rfl, h3, a', ?_, r4, ?_, ?_, ?_, ?_⟩⟩
      · rw [h2.2]
        exact rf _ (T_M_manThere_31 ⟨fun _ => r2 _ (T_M_manThere_46 ⟨Or.inr rfl, h⟩), fun z => by omega⟩)
      · unfold FE at *
        rw [mup_ne (by omega), mup_ne (by omega)]; exact r5
      · exact r3.congr rfl rfl rfl (fun k h1 h2 => mup_ne (by omega)) (mup_other (by omega)) (mup_other (by omega))
      · rw [r8, mup_eq rfl rfl, mup_eq rfl rfl]
      · rw [r8, mup_eq rfl rfl, hr]
      · rw [r8, mup_eq rfl rfl]; omega
      · rw [r8, mup_eq rfl rfl]; omega
  · have h2 : ¬ Y 98 8 = 2 := by unfold KR at hK; omega
    obtain ⟨X', Y', f1, f2, f3, f4, f5⟩ := k_fail (Ls := Ls) (p := p) (pp := pp) (K := K) (L := L) hT 1
    exact ⟨0, X', Y', fun Q h => E_LineReader_readsPerson hp ⟨fun z => absurd z h3, fun _ => f1 _ (T_LineReader_readsPerson_16 ⟨Or.inl rfl, h⟩)⟩, fun Q h => E_M_manThere ⟨fun z => absurd z h2, fun _ => f2 _ (T_M_manThere_13 ⟨Or.inl rfl, h⟩)⟩, f3, f4, f5, Or.inl ⟨rfl, Or.inl h3⟩⟩
theorem NMR.congr {X' Y' : Nat → Nat → Int} (h : NMR o X Y) (h1 : X' o 13 = X o 13) (h2 : ∀ q : Nat, (q : Int) < X o 13 → X' (o + 1) q = X (o + 1) q) (h3 : Y' 98 17 = Y 98 17) (h4 : ∀ q : Nat, (q : Int) < X o 13 → Y' 103 (6 + q) = Y 103 (6 + q)) : NMR o X' Y' := by
  refine ⟨by rw [h1, h3]; exact h.1, by rw [h1]; exact h.2.1, fun q hq => ?_⟩
  rw [h1] at hq
  rw [h2 q hq, h4 q hq]; exact h.2.2 q hq
end K3
