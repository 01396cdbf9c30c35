/-! ===== the law's loop ===== -/
theorem law_bnd {Ls i : Nat} (h1 : i + 6 ≤ Ls) (hL : Ls ≤ 3072) : ∀ j : Int, 0 ≤ j → j ≤ 5 → 0 ≤ wr (((i : Nat) : Int) + j) ∧ wr (((i : Nat) : Int) + j) < ((Ls : Nat) : Int) := by
  intro j h2 h3
  rw [wr_of (by omega) (by omega)]
  omega
theorem law_end {Ls kc ks p i : Nat} {I L : Nat → Nat → Int} {Q : List mV → mM → Prop} (hL : Ls ≤ 3072) (hi : Ls < i + 6) (h : Q [.inl 1] (mem Ls p I L)) : m_Wp i_L_law 23 kc ks [(0, .inr (.inr 1)), (1, .inr (.inr 2)), (2, .inr (.inr 98)), (3, .inr (.inr 143)), (4, .inl (i : Nat))] [] (mem Ls p I L) Q := by
  refine LW_23 (RR := R0 p) (LW_26 hL (LW_27 ⟨fun _ => ⟨Or.inr rfl, h⟩, fun z => absurd ?_ z⟩))
  rw [wr_of (by omega) (by omega)]
  omega
set_option maxHeartbeats 4000000 in
theorem law_loop {Ls : Nat} (hL : Ls ≤ 3072) : ∀ (d i kc ks p : Nat) (I L : Nat → Nat → Int), Ls ≤ i + 5 + 6 * d → 6 * kc ≤ 852 + i → ks ≤ 4964 + i → i ≤ 3072 → INV p I L → (∀ j, wr (I 1 j) = I 1 j) → m_Wp i_L_law 23 kc ks [(0, .inr (.inr 1)), (1, .inr (.inr 2)), (2, .inr (.inr 98)), (3, .inr (.inr 143)), (4, .inl (i : Nat))] [] (mem Ls p I L) (fun v _ => v = [.inl 1]) := by
  intro d
  induction d with
  | zero => intro i kc ks p I L h1 h2 h3 h4 hI hw; exact law_end hL (by omega) rfl
  | succ d ih =>
    intro i kc ks p I L h1 h2 h3 h4 hI hw
    by_cases hlt : Ls < i + 6
    · exact law_end hL hlt rfl
    · have hb := law_bnd (Ls := Ls) (i := i) (by omega) hL
      have hk1 : kc + 1 ≤ 1168 := by omega
      have hk2 : ks + 6 ≤ 13168 := by omega
      have next : ∀ (kc' ks' p' : Nat) (I' L' : Nat → Nat → Int), kc' ≤ kc + 1 → ks' ≤ ks + 6 → INV p' I' L' → I' 1 = I 1 → m_Wp i_L_law 1497 kc' ks' [(0, .inr (.inr 1)), (1, .inr (.inr 2)), (2, .inr (.inr 98)), (3, .inr (.inr 143)), (4, .inl (i : Nat))] [] (mem Ls p' I' L') (fun v _ => v = [.inl 1]) := by
        intro kc' ks' p' I' L' g1 g2 hI' hr
        refine LW_1497 (RR := R0 p') ?_
        rw [show wr (((i : Nat) : Int) + 6) = ((i + 6 : Nat) : Int) by rw [wr_of (by omega) (by omega)]; omega]
        exact ih (i + 6) kc' ks' p' I' L' (by omega) (by omega) (by omega) (by omega) hI' (fun j => by rw [hr]; exact hw j)
      refine LW_23 (RR := R0 p) (LW_26 hL (LW_27 ⟨fun z => absurd z ?_, fun _ => ⟨by omega, ?_⟩⟩))
      · rw [wr_of (by omega) (by omega)]
        omega
      · exact ⟨fun _ => LC_0 hI hb hw hk1 hk2 next, fun _ => ⟨fun _ => LC_1 hI hb hw hk1 hk2 next, fun _ => ⟨fun _ => LC_2 hI hb hw hk1 hk2 next, fun _ => ⟨fun _ => LC_3 hI hb hw hk1 hk2 next, fun _ => ⟨fun _ => LC_4 hI hb hw hk1 hk2 next, fun _ => ⟨fun _ => LC_5 hI hb hw hk1 hk2 next, fun _ => ⟨fun _ => LC_6 hI hb hw hk1 hk2 next, fun _ => ⟨fun _ => LC_7 hI hb hw hk1 hk2 next, fun _ => ⟨fun _ => LC_8 hI hb hw hk1 hk2 next, fun _ => ⟨fun _ => LC_9 hI hb hw hk1 hk2 next, fun _ => ⟨fun _ => LC_10 hI hb hw hk1 hk2 next, fun _ => ⟨fun _ => LC_11 hI hb hw hk1 hk2 next, fun _ => ⟨fun _ => LC_12 hI hb hw hk1 hk2 next, fun _ => ⟨fun _ => LC_13 hI hb hw hk1 hk2 next, fun _ => ⟨fun _ => LC_14 hI hb hw hk1 hk2 next, fun _ => ⟨fun _ => LC_15 hI hb hw hk1 hk2 next, fun _ => ⟨fun _ => LC_16 hI hb hw hk1 hk2 next, fun _ => ⟨fun _ => LC_17 hI hb hw hk1 hk2 next, fun _ => ⟨fun _ => LC_18 hI hb hw hk1 hk2 next, fun _ => ⟨fun _ => LC_19 hI hb hw hk1 hk2 next, fun _ => ⟨fun _ => LC_20 hI hb hw hk1 hk2 next, fun _ => ⟨fun _ => LC_21 hI hb hw hk1 hk2 next, fun _ => ⟨fun _ => LC_22 hI hb hw hk1 hk2 next, fun _ => ⟨fun _ => LC_23 hI hb hw hk1 hk2 next, fun _ => ⟨fun _ => LC_24 hI hb hw hk1 hk2 next, fun _ => ⟨fun _ => LC_25 hI hb hw hk1 hk2 next, fun _ => ⟨fun _ => LC_26 hI hb hw hk1 hk2 next, fun _ => ⟨fun _ => LC_27 hI hb hw hk1 hk2 next, fun _ => ⟨fun _ => LC_28 hI hb hw hk1 hk2 next, fun _ => ⟨fun _ => LC_29 hI hb hw hk1 hk2 next, fun _ => ⟨fun _ => LC_30 hI hb hw hk1 hk2 next, fun _ => ⟨fun _ => LC_31 hI hb hw hk1 hk2 next, fun _ => ⟨fun _ => LC_32 hI hb hw hk1 hk2 next, fun _ => ⟨fun _ => LC_33 hI hb hw hk1 hk2 next, fun _ => ⟨fun _ => LC_34 hI hb hw hk1 hk2 next, fun _ => ⟨fun _ => LC_35 hI hb hw hk1 hk2 next, fun _ => ⟨fun _ => LC_36 hI hb hw hk1 hk2 next, fun _ => ⟨fun _ => LC_37 hI hb hw hk1 hk2 next, fun _ => ⟨fun _ => LC_38 hI hb hw hk1 hk2 next, fun _ => ⟨fun _ => LC_39 hI hb hw hk1 hk2 next, fun _ => ⟨fun _ => LC_40 hI hb hw hk1 hk2 next, fun _ => next kc ks p I L (by omega) (by omega) hI rfl⟩⟩⟩⟩⟩⟩⟩⟩⟩⟩⟩⟩⟩⟩⟩⟩⟩⟩⟩⟩⟩⟩⟩⟩⟩⟩⟩⟩⟩⟩⟩⟩⟩⟩⟩⟩⟩⟩⟩⟩⟩
