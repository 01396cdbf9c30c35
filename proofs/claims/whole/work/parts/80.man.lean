/-! ===== phase 2: man ===== -/
def manV (I : Nat → Nat → Int) (p : Nat) (a b : Int) : Int := if b = 0 then I (p + 2) a.toNat else if b = 1 then I (p + 3) a.toNat else if b = 2 then I 29 a.toNat else if b = 3 then I (p + 5) a.toNat else if b = 4 then dMode (dat I 28) a else if b = 5 then I 30 a.toNat else if b = 6 then I 31 a.toNat else dPl (dat I 28) a
section V5
variable {Ls p kc ks c : Nat} {P M : Int} {I I0 I0' I1 I2 J K L L1 L2 K2 X X1 X2 Y Z d d' e : Nat → Nat → Int} {Q : List mV → mM → Prop} {x : Int}
theorem c_man {a b : Int} (hI : INV p I L) (ha : 0 ≤ a ∧ a < I p 13) (hb : 0 ≤ b ∧ b ≤ 7) (hQ : Q [.inl (manV I p a b)] (mem Ls p I K)) : m_Call i_C_man [.inr (.inr 2), .inl a, .inl b] (mem Ls p I K) Q := by
  have hp := hI.1
  have hp' := hp
  unfold isPlan at hp'
  have h6 := hI.2.1.1
  have hn := hI.2.2.2.1.1.2.2.1
  unfold manV at hQ
  refine E_C_man (q_isPerson hp ?_)
  rw [b01_one.mpr ha]
  refine T_C_man_5 hp' ⟨fun _ => ⟨fun e => ⟨by omega, ?_⟩, fun n0 => ⟨fun e => ⟨by omega, ?_⟩, fun n1 => ⟨fun e => ⟨by omega, ?_⟩, fun n2 => ⟨fun e => ⟨by omega, ?_⟩, fun n3 => ⟨fun e => ?_, fun n4 => ⟨fun e => ⟨by omega, ?_⟩, fun n5 => ⟨fun e => ⟨by omega, ?_⟩, fun n6 => ⟨fun e => ?_, fun n7 => by omega⟩⟩⟩⟩⟩⟩⟩⟩, fun z => absurd (show ¬ (1 : Int) = 0 by omega) z⟩
  · rw [if_pos e] at hQ; exact hQ
  · rw [if_neg n0, if_pos e] at hQ; exact hQ
  · rw [if_neg n0, if_neg n1, if_pos e] at hQ; exact hQ
  · rw [if_neg n0, if_neg n1, if_neg n2, if_pos e] at hQ; exact hQ
  · rw [if_neg n0, if_neg n1, if_neg n2, if_neg n3, if_pos e] at hQ
    have := q_modeOf (Ls := Ls) (p := p) (L := K) (c := 28) (I := I) (d := dat I 28) (x := a) (Q := fun v M' => m_Wp i_C_man 112 0 0 [(0, .inr (.inr 2)), (1, .inl a), (2, .inl b)] (v ++ []) M' Q) (Or.inl rfl) hn (by rw [dput_dat]; exact T_C_man_112 hQ)
    rw [dput_dat] at this; exact this
  · rw [if_neg n0, if_neg n1, if_neg n2, if_neg n3, if_neg n4, if_pos e] at hQ; exact hQ
  · rw [if_neg n0, if_neg n1, if_neg n2, if_neg n3, if_neg n4, if_neg n5, if_pos e] at hQ; exact hQ
  · rw [if_neg n0, if_neg n1, if_neg n2, if_neg n3, if_neg n4, if_neg n5, if_neg n6] at hQ
    have := q_placeOf (Ls := Ls) (p := p) (L := K) (c := 28) (I := I) (d := dat I 28) (x := a) (Q := fun v M' => m_Wp i_C_man 141 0 0 [(0, .inr (.inr 2)), (1, .inl a), (2, .inl b)] (v ++ []) M' Q) (Or.inl rfl) hn (by rw [dput_dat]; exact T_C_man_141 hQ)
    rw [dput_dat] at this; exact this
theorem r_fails {v : Int} (hQ : Q [.inl 0] (mem Ls p (mup I 98 2 v) K)) : m_Call i_M_fails [.inr (.inr 98), .inl v] (mem Ls p I K) Q := E_M_fails hQ
theorem r_man {a b : Int} (hI : INV p I L) (h0 : (0 ≤ a ∧ a < I p 13) → (0 ≤ b ∧ b ≤ 7) → Q [.inl (manV I p a b)] (mem Ls p (mup I 98 2 0) K)) (h1 : ¬ (0 ≤ a ∧ a < I p 13) → Q [.inl 0] (mem Ls p (mup I 98 2 1) K)) (h2 : (0 ≤ a ∧ a < I p 13) → ¬ (0 ≤ b ∧ b ≤ 7) → Q [.inl 0] (mem Ls p (mup I 98 2 2) K)) : m_Call i_M_man [.inr (.inr 98), .inl a, .inl b] (mem Ls p I K) Q := by
  have h6 := hI.2.1.1
  have h12 : I 98 12 = I p 13 := hI.2.2.1.1.1
  have hnow := now_eq hI
  have hn := hI.2.2.2.1.1.2.2.1
  have e11 : dat I 28 0 11 = I 28 11 := rfl
  refine E_M_man (r_isMan ?_)
  rw [mup_ne (by omega), h12]
  by_cases ha : 0 ≤ a ∧ a < I p 13
  · rw [b01_one.mpr ha]
    have hq := hnow.2.2.2.2.1 a.toNat (by omega)
    rw [show ((a.toNat : Nat) : Int) = a by omega] at hq
    have hpr := hI.2.2.1.2.1 a.toNat (by omega)
    refine T_M_man_10 ⟨fun _ => ?_, fun z => absurd (show ¬ (1 : Int) = 0 by omega) z⟩
    rw [mup_other (i := 104) (by omega), mup_other (i := 105) (by omega), mup_other (i := 127) (by omega), mup_other (i := 107) (by omega), mup_other (i := 125) (by omega), mup_other (i := 126) (by omega), mup_other (i := 128) (by omega), hpr.2.1, hpr.2.2.1, hpr.2.2.2.2, hq.1, hq.2.1, hq.2.2.1, hq.2.2.2]
    unfold manV at h0
    refine ⟨fun e => ⟨by omega, ?_⟩, fun n0 => ⟨fun e => ⟨by omega, ?_⟩, fun n1 => ⟨fun e => ⟨by omega, ?_⟩, fun n2 => ⟨fun e => ⟨by omega, ?_⟩, fun n3 => ⟨fun e => ⟨by omega, ?_⟩, fun n4 => ⟨fun e => ⟨by omega, ?_⟩, fun n5 => ⟨fun e => ⟨by omega, ?_⟩, fun n6 => ⟨fun e => ?_, fun n7 => r_fails (T_M_man_128 ?_)⟩⟩⟩⟩⟩⟩⟩⟩
    · have := h0 ha (by omega); rw [if_pos e] at this; exact this
    · have := h0 ha (by omega); rw [if_neg n0, if_pos e] at this; exact this
    · have := h0 ha (by omega); rw [if_neg n0, if_neg n1, if_pos e] at this; exact this
    · have := h0 ha (by omega); rw [if_neg n0, if_neg n1, if_neg n2, if_pos e] at this; exact this
    · have := h0 ha (by omega); rw [if_neg n0, if_neg n1, if_neg n2, if_neg n3, if_pos e] at this; exact this
    · have := h0 ha (by omega); rw [if_neg n0, if_neg n1, if_neg n2, if_neg n3, if_neg n4, if_pos e] at this; exact this
    · have := h0 ha (by omega); rw [if_neg n0, if_neg n1, if_neg n2, if_neg n3, if_neg n4, if_neg n5, if_pos e] at this; exact this
    · have := h0 ha (by omega); rw [if_neg n0, if_neg n1, if_neg n2, if_neg n3, if_neg n4, if_neg n5, if_neg n6] at this
      refine E_M_placeOf (mPlace_loop (n := (I 28 11).toNat) (f := dat I 28 4) (by rw [mup_ne (by omega), hnow.2.1]; omega) (by omega) (fun j hj => by rw [mup_ne (by omega)]; exact hnow.2.2.2.2.2.1 j (by omega)) (by omega) (I 28 11).toNat 0 (by omega) (T_M_man_122 this))
    · rw [mup_mup]; exact h2 ha (by omega)
  · rw [b01_zero.mpr ha]
    refine T_M_man_10 ⟨fun z => absurd rfl z, fun _ => r_fails (T_M_man_18 ?_)⟩
    rw [mup_mup]; exact h1 ha
end V5
