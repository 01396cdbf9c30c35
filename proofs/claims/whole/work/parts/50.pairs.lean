/-! ===== phase 2: pairs of calls: trials ===== -/
theorem kC_trial {p : Nat} {I d : Nat → Nat → Int} {v : Int} : ∀ a, a < 46 ∨ 67 ≤ a → dput (flw I p v) 46 d a = I a := fun a ha => by
  rw [dput_out (by omega), flw_out (by omega)]
def J2 (I : Nat → Nat → Int) : Nat → Nat → Int := plainJ (mup I 98 2 0)
theorem INV_thrown {p : Nat} {I L : Nat → Nat → Int} {v : Int} (h : INV p I L) : INV p (mup I 98 2 v) L :=
  INV_keeps h ⟨fun a ha => mup_other (by omega), fun k h1 _ _ => mup_ne (Or.inr h1), fun a h1 _ => mup_other (by omega), fun r k _ _ => mup_ne (by omega), fun a h1 _ => mup_other (by omega), rfl, rfl⟩
section Q1
variable {Ls p kc ks : Nat} {I I1 L L1 K2 d e : Nat → Nat → Int} {Q : List mV → mM → Prop} {x : Int}
theorem flw_p {v : Int} (hp : isPlan p) : flw I p v p = I p := flw_out (by unfold isPlan at hp; omega)
theorem c_start (hI : INV p I L) (h : ∀ d, agr (dat I 28) d → DOK (I p 13) (I p 15) d → d 0 10 ≤ 9000 → Q [] (mem Ls p (dput (flw I p 0) 46 d) L)) : m_Call i_C_startTrial [.inr (.inr 2)] (mem Ls p I L) Q := by
  have hp := hI.1
  have hpl := hI.2.1
  refine E_C_startTrial (q_follow hp (Or.inl rfl) (T_C_startTrial_8 (q_copy (Or.inl ⟨rfl, rfl⟩) (fun d hd => T_C_startTrial_19 ?_))))
  rw [show dat (flw I p 0) 28 = dat I 28 from dat_congr (fun j hj => flw_out (by omega))] at hd
  refine h d hd (DOK_agr hpl.1.2 hpl.2.2.1.2 hd hI.2.2.2.1.1) ?_
  rw [hd.1 10 (by omega) (by omega), dat_at (by omega)]
  exact hI.2.2.2.1.2.2.2
theorem m_rel (hI : INV p I L) (hk : ∀ a, a < 46 ∨ 67 ≤ a → I1 a = I a) {v : Int} : PR (flw I p v) p (J2 I1) := by
  have hp := hI.1
  have hp' := hp
  unfold isPlan at hp'
  refine PR_congr (fun k hk => flw_out (by omega)) (fun k h1 h2 => ?_) (fun a h1 h2 => ?_) hI.2.2.1
  · unfold J2; rw [plainJ_98 (by omega), mup_ne (by omega), hk 98 (by omega)]
  · unfold J2; rw [plainJ_out (by omega), mup_other (by omega), hk a (by omega)]
theorem m_start (hI : INV p I L) (hk : ∀ a, a < 46 ∨ 67 ≤ a → I1 a = I a) (hd : agr (dat I 28) d) (h : ∀ e, DR (I p 13) (I p 15) d e → Q [] (mem Ls p (jm (J2 I1) 1 e (J2 I1 98 52)) L1)) : m_Call i_M_layTried [.inr (.inr 98)] (mem Ls p (mup I1 98 2 0) L1) Q := by
  have hpl := hI.2.1
  have hD := hI.2.2.2.1
  refine r_layTried (fun e he => ?_)
  rw [jput_jm]
  refine h e (DR_agrE hpl.1.2 hpl.2.2.1.2 ?_ (fun r k hr hk' => ?_) (DR_agr hpl.1.2 hpl.2.2.1.2 hd hD.1.2.2.1 hD.2.1))
  · rw [hd.1 11 (by omega) (by omega)]; exact hD.1.2.2.1
  · rw [he r k hr hk', mup_other (by omega), hk _ (by omega), jat_at hr hk', Nat.zero_mul, Nat.zero_add]
theorem keeps_trial (hk : ∀ a, a < 46 ∨ 67 ≤ a → I1 a = I a) (hL : lkeep L L1) (hG : KG (J2 I1) L1 K2 d) (h67 : J2 I1 98 67 = 0) : keeps I (jm (J2 I1) 1 e x) L K2 := by
  have o : ∀ a, a < 125 ∨ 137 < a → a ≠ 98 → jm (J2 I1) 1 e x a = I1 a := fun a h1 h2 => by
    unfold jm J2; rw [jput_out (by omega), mup_other h2, plainJ_out h2, mup_other h2]
  refine ⟨fun a ha => by rw [o a (by omega) (by omega), hk a (by omega)], fun k h1 h2 h3 => ?_, fun a h1 h2 => by rw [o a (by omega) (by omega), hk a (by omega)], fun r k hr hk' => ?_, fun a h1 h2 => by rw [o a (by omega) (by omega), hk a (by omega)], ?_, ?_⟩
  · rw [jm_98 h2]; unfold J2; rw [plainJ_98 h3, mup_ne (Or.inr h1), hk 98 (by omega)]
  · unfold jm J2; rw [jput1_lo hk', mup_other (by omega), plainJ_out (by omega), mup_other (by omega), hk _ (by omega)]
  · rw [hG.2.2.1 h67, hL 98 (by omega)]
  · rw [hG.2.1 84 (by omega), hL 98 (by omega)]
theorem m_end (hI : INV p I L) (hk : ∀ a, a < 46 ∨ 67 ≤ a → I1 a = I a) (hL : lkeep L L1) (hG : KG (J2 I1) L1 K2 d) : OKM Ls (mem Ls p (jm (J2 I1) 1 e x) K2) :=
  ⟨p, _, _, rfl, INV_keeps hI (keeps_trial hk hL hG plainJ_fl.1)⟩
theorem KG0 {J K : Nat → Nat → Int} (h : J 98 67 = 0) : KG J K K d := ⟨fun _ _ _ _ => rfl, fun _ _ => rfl, fun _ => rfl, fun z => absurd h z⟩
theorem J2_67 : J2 I 98 67 = 0 := plainJ_fl.1
/-- is it one of the people, one of the meetings -/
def b01 (P : Prop) [Decidable P] : Int := if P then 1 else 0
theorem q_isPerson {q : Int} (hp : isPlan p) (h : Q [.inl (b01 (0 ≤ q ∧ q < I p 13))] (mem Ls p I L)) : m_Call i_C_isPerson [.inr (.inr 2), .inl q] (mem Ls p I L) Q := by
  unfold b01 at h
  refine E_C_isPerson hp ?_
  refine ⟨fun h1 => ⟨by omega, ?_⟩, fun h1 => ⟨fun h2 => ⟨by omega, ?_⟩, fun h2 => ⟨by omega, ?_⟩⟩⟩ <;> first | (rw [if_pos (by omega)] at h; exact h) | (rw [if_neg (by omega)] at h; exact h)
theorem q_isMeeting {q : Int} (hp : isPlan p) (h : Q [.inl (b01 (0 ≤ q ∧ q < I p 15))] (mem Ls p I L)) : m_Call i_C_isMeeting [.inr (.inr 2), .inl q] (mem Ls p I L) Q := by
  unfold b01 at h
  refine E_C_isMeeting hp ?_
  refine ⟨fun h1 => ⟨by omega, ?_⟩, fun h1 => ⟨fun h2 => ⟨by omega, ?_⟩, fun h2 => ⟨by omega, ?_⟩⟩⟩ <;> first | (rw [if_pos (by omega)] at h; exact h) | (rw [if_neg (by omega)] at h; exact h)
theorem r_isMan {q : Int} (h : Q [.inl (b01 (0 ≤ q ∧ q < I 98 12))] (mem Ls p I L)) : m_Call i_M_isMan [.inr (.inr 98), .inl q] (mem Ls p I L) Q := by
  unfold b01 at h
  refine E_M_isMan ?_
  refine ⟨fun h1 => ⟨by omega, ?_⟩, fun h1 => ⟨fun h2 => ⟨by omega, ?_⟩, fun h2 => ⟨by omega, ?_⟩⟩⟩ <;> first | (rw [if_pos (by omega)] at h; exact h) | (rw [if_neg (by omega)] at h; exact h)
theorem r_isMeeting {q : Int} (h : Q [.inl (b01 (0 ≤ q ∧ q < I 98 14))] (mem Ls p I L)) : m_Call i_M_isMeeting [.inr (.inr 98), .inl q] (mem Ls p I L) Q := by
  unfold b01 at h
  refine E_M_isMeeting ?_
  refine ⟨fun h1 => ⟨by omega, ?_⟩, fun h1 => ⟨fun h2 => ⟨by omega, ?_⟩, fun h2 => ⟨by omega, ?_⟩⟩⟩ <;> first | (rw [if_pos (by omega)] at h; exact h) | (rw [if_neg (by omega)] at h; exact h)
theorem r_isIn {q lo hi : Int} (h : Q [.inl (b01 (lo ≤ q ∧ q ≤ hi))] (mem Ls p I L)) : m_Call i_M_isIn [.inl q, .inl lo, .inl hi] (mem Ls p I L) Q := by
  unfold b01 at h
  refine E_M_isIn ?_
  refine ⟨fun h1 => ⟨by omega, ?_⟩, fun h1 => ⟨fun h2 => ⟨by omega, ?_⟩, fun h2 => ⟨by omega, ?_⟩⟩⟩ <;> first | (rw [if_pos (by omega)] at h; exact h) | (rw [if_neg (by omega)] at h; exact h)
theorem b01_zero {P : Prop} [Decidable P] : b01 P = 0 ↔ ¬ P := by unfold b01; split <;> simp_all
theorem b01_one {P : Prop} [Decidable P] : b01 P = 1 ↔ P := by unfold b01; split <;> simp_all
end Q1
