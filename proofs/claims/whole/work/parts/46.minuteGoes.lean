/-! ===== phase 2: numbers by chance; the reference's minute is fMin ===== -/
theorem m_and_31 (z : Int) : m_and z 2147483647 = z % 2147483648 := by
  unfold m_and
  have h : (Int32.ofInt z &&& Int32.ofInt 2147483647).toInt = ((BitVec.ofInt 32 z &&& 2147483647#32).toInt) := rfl
  have h2 : (BitVec.ofInt 32 z &&& 2147483647#32).toNat = (z % 4294967296).toNat % 2147483648 := by
    rw [BitVec.toNat_and, BitVec.toNat_ofInt, show (2147483647#32).toNat = 2 ^ 31 - 1 from rfl, Nat.and_two_pow_sub_one_eq_mod]; rfl
  rw [h, BitVec.toInt_eq_toNat_of_lt (by omega), h2]
  omega
theorem m_land_31 (z : Int) : m_land z 2147483647 = z % 2147483648 := by
  unfold m_land
  have h : (Int64.ofInt z &&& Int64.ofInt 2147483647).toInt = ((BitVec.ofInt 64 z &&& 2147483647#64).toInt) := rfl
  have h2 : (BitVec.ofInt 64 z &&& 2147483647#64).toNat = (z % 18446744073709551616).toNat % 2147483648 := by
    rw [BitVec.toNat_and, BitVec.toNat_ofInt, show (2147483647#64).toNat = 2 ^ 31 - 1 from rfl, Nat.and_two_pow_sub_one_eq_mod]; rfl
  rw [h, BitVec.toInt_eq_toNat_of_lt (by omega), h2]
  omega
theorem wr_mod (z : Int) : wr z % 2147483648 = z % 2147483648 := by
  unfold wr
  rw [Int32.toInt_ofInt, show Int32.size = 4294967296 from rfl]
  have := @Int.bmod_emod z 4294967296
  omega
theorem wl_mod (z : Int) : wl z % 2147483648 = z % 2147483648 := by
  unfold wl
  rw [Int64.toInt_ofInt, show Int64.size = 18446744073709551616 from rfl]
  have := @Int.bmod_emod z 18446744073709551616
  omega
theorem drawn_eq (n : Int) : drawn n = (n * 1103515245 + 12345) % 2147483648 := by
  unfold drawn
  rw [m_and_31, wr_mod]
  have := wr_mod (n * 1103515245)
  omega
theorem drawn_l (n : Int) : m_land (wl (wl (n * 1103515245) + 12345)) 2147483647 = drawn n := by
  rw [drawn_eq, m_land_31, wl_mod]
  have := wl_mod (n * 1103515245)
  omega
theorem drawn_100 (n : Int) : wr (Int.tmod (wl (Int.tdiv (drawn n) 65536)) 100) = Int.tmod (wr (Int.tdiv (drawn n) 65536)) 100 := by
  have h := drawn_range n
  have h1 : Int.tdiv (drawn n) 65536 = drawn n / 65536 := Int.tdiv_eq_ediv_of_nonneg h.1
  rw [h1, wl_of (by omega) (by omega), wr_of (z := drawn n / 65536) (by omega) (by omega), Int.tmod_eq_emod_of_nonneg (by omega), wr_of (by omega) (by omega)]
/-- longs of the reference behind minutes -/
def KG (J K K' d : Nat → Nat → Int) : Prop := (∀ a, a ≠ 98 → a ≠ 123 → a ≠ 124 → K' a = K a) ∧ (∀ k, k ≠ 66 → K' 98 k = K 98 k) ∧ (J 98 67 = 0 → K' 98 66 = K 98 66) ∧ (J 98 67 ≠ 0 → K' 98 66 = d 0 14)
section R6
variable {Ls pp p b kc ks : Nat} {M : Int} {I J K d e : Nat → Nat → Int} {Q : List mV → mM → Prop} {x : Int}
theorem r_isStranger (hR : PR I p J) (hW : WR I p J) (hpl : planOK I p) (hdr : J 98 67 ≠ 0 → K 98 66 = d 0 14) (hQ : ∀ K', KG J K K' (fDr I d) → Q [.inl (strF I d)] (mem Ls pp (jm J b e x) K')) : m_Call i_M_isStranger [.inr (.inr 98)] (mem Ls pp (jm J b e x) K) Q := by
  have h67 := hW.2.2.2.2.1
  have hc := hR.1.2.2.2.2.1
  unfold strF at hQ
  have same : (J 98 67 = 0 ∨ I 64 4 = 0 ∨ I 64 4 = 100) → KG J K K (fDr I d) := fun h => by
    refine ⟨fun _ _ _ _ => rfl, fun _ _ => rfl, fun _ => rfl, fun h2 => ?_⟩
    unfold fDr
    rw [if_neg (by omega)]; exact hdr h2
  have e102 : jm J b e x 102 = J 102 := jm_lo (by omega) (by omega)
  refine E_M_isStranger ?_
  rw [jm_98 (by omega), jm_98 (by omega), e102, hc]
  rcases hW.1 with ⟨h1, h2⟩ | ⟨h1, h2⟩
  · rw [← h2]
    refine ⟨fun h3 => absurd h1 h3, fun _ => ⟨by omega, fun h3 => ⟨by omega, fun h4 => ⟨fun h5 => ⟨by omega, fun h6 => ⟨by omega, ?_⟩, fun h6 => ⟨by omega, ?_⟩⟩, fun h5 => E_M_number1 ⟨by omega, by omega, T_M_isStranger_44 ?_⟩⟩, fun h4 => ⟨by omega, ?_⟩⟩, fun h3 => ⟨by omega, ?_⟩⟩⟩
    · have := hQ K (same (Or.inl h5))
      rw [if_pos (by omega), if_neg (by omega)] at this; exact this
    · have := hQ K (same (Or.inl h5))
      rw [if_pos (by omega), if_pos (by omega)] at this; exact this
    · rw [e102, hc, ← h2, hdr h5, drawn_l, drawn_100]
      have := hQ (mup K 98 66 (drawn (d 0 14))) (by
        refine ⟨fun a h6 _ _ => mup_other h6, fun k hk => mup_ne (Or.inr hk), fun h6 => absurd h6 h5, fun _ => ?_⟩
        unfold fDr dDraw
        rw [if_pos ⟨by omega, h3, h4⟩, mup_eq rfl rfl, mup_eq rfl rfl])
      rw [if_neg (by omega), if_neg h3, if_neg h4] at this
      refine ⟨by omega, fun h6 => ⟨by omega, ?_⟩, fun h6 => ⟨by omega, ?_⟩⟩
      · rw [if_neg (by omega)] at this; exact this
      · rw [if_pos (by omega)] at this; exact this
    · have := hQ K (same (Or.inr (Or.inr (by omega))))
      by_cases h5 : I 64 8 = 0
      · rw [if_pos h5, if_pos (by omega)] at this; exact this
      · rw [if_neg h5, if_neg h3, if_pos (by omega)] at this; exact this
    · have := hQ K (same (Or.inr (Or.inl (by omega))))
      by_cases h5 : I 64 8 = 0
      · rw [if_pos h5, if_neg (by omega)] at this; exact this
      · rw [if_neg h5, if_pos (by omega)] at this; exact this
  · refine ⟨fun _ => ⟨by omega, ?_⟩, fun h3 => absurd h1 h3⟩
    have := hQ K (same (Or.inr (Or.inl h2)))
    by_cases h5 : I 64 8 = 0
    · rw [if_pos h5, if_neg (by omega)] at this; exact this
    · rw [if_neg h5, if_pos (by omega)] at this; exact this
/-- meetings, the end of a minute -/
theorem r_meets_loop (hb : b ≤ 1) (hR : PR I p J) (hW : WR I p J) (hpl : planOK I p) (hM : I p 15 = M) : ∀ (n k : Nat) (d e : Nat → Nat → Int), (k : Int) + n = I p 15 → DOK (I p 13) M d → DR (I p 13) M d e → d 0 10 ≤ 20000 →
    (∀ e', DR (I p 13) M (mup (lp (fMeet I p) k n d) 0 10 (d 0 10 + 1)) e' → Q [] (mem Ls pp (jm J b e' x) K)) → m_Wp i_M_minuteGoes 198 kc ks [(0, .inr (.inr 98)), (1, .inl (b : Int)), (2, .inl (k : Int))] [] (mem Ls pp (jm J b e x) K) Q := by
  have h15 := hpl.2.2.1
  intro n
  induction n with
  | zero =>
    intro k d e hk hd h hm hQ
    have h10 := hd.2.1
    have e136 : jm J b e x 136 b = d 0 10 := by unfold jm; rw [(jS (b := b) (mup J 98 52 x) e).2.2.2.2.2.2.2.2.2.2.2.1]; exact h.1
    have hmem : ∀ v, mup (jm J b e x) 136 b v = jm J b (mup e 11 0 v) x := fun v => by unfold jm; rw [(jW (b := b) (mup J 98 52 x)).2.2.2.2.2.2.2.2.2.2.2.1]
    refine T_M_minuteGoes_198 ?_
    rw [jm_98 (by omega), hR.1.2.2.1, Int.toNat_natCast, e136, wr_of (by omega) (by omega), hmem]
    exact ⟨fun _ => ⟨by omega, by omega, hQ _ (DR_minute h)⟩, fun h2 => absurd (show I p 15 ≤ (k : Int) by omega) h2⟩
  | succ n ih =>
    intro k d e hk hd h hm hQ
    have hw : wr ((k : Int) + 1) = ((k + 1 : Nat) : Int) := by rw [wr_of] <;> omega
    have hkt : (k : Int).toNat = k := Int.toNat_natCast k
    have hv := (h.2.2.2.2.2.2.2 k (by omega)).2.2.2
    have e135 : jm J b e x 135 (6 * b + k) = d 8 k := by unfold jm; rw [(jS (b := b) (mup J 98 52 x) e).2.2.2.2.2.2.2.2.2.2.1 _ (by omega)]; exact hv
    rw [lp] at hQ
    have nxt : ∀ e', DR (I p 13) M (fMeet I p k d) e' → m_Wp i_M_minuteGoes 226 kc ks [(0, .inr (.inr 98)), (1, .inl (b : Int)), (2, .inl (k : Int))] [] (mem Ls pp (jm J b e' x) K) Q := by
      intro e' h'
      refine T_M_minuteGoes_226 ?_
      rw [hw]
      exact ih (k + 1) _ e' (by omega) (DOK_meet hd) h' (by rw [meet_minute]; exact hm) (by rw [meet_minute]; exact hQ)
    unfold fMeet at nxt
    refine T_M_minuteGoes_198 ?_
    rw [jm_98 (by omega), hR.1.2.2.1, ix6 hb (by omega), hkt, Int.toNat_natCast, Int.toNat_natCast, e135]
    refine ⟨fun h2 => by omega, fun _ => ⟨by omega, fun h2 => ?_, fun h2 => ?_⟩⟩
    · rw [if_neg h2] at nxt; exact nxt e h
    · rw [if_pos (Classical.not_not.mp h2)] at nxt
      exact r_meets hb hR hW hpl hM hd h hm (by omega) (fun e' h' => nxt e' h')
theorem fMin_num : fMin I p d 0 14 = fDr I (fRings I p d) 0 14 := by
  have h1 : ∀ d : Nat → Nat → Int, fMeets I p d 0 14 = d 0 14 := fun d => by
    unfold fMeets
    refine lp_inv (P := fun (s : Nat → Nat → Int) => s 0 14 = d 0 14) _ _ rfl (fun j s _ _ hs => ?_)
    unfold fMeet fKept fCome
    grind [mup_app]
  have h2 : ∀ d : Nat → Nat → Int, fD I p d 0 14 = d 0 14 := fun d => by
    unfold fD
    split
    · have : fDrift I p d 0 = d 0 := by
        unfold fDrift
        exact lp_inv (P := fun (s : Nat → Nat → Int) => s 0 = d 0) _ _ rfl (fun j s _ _ hs => by rw [fDrift1_minute]; exact hs)
      rw [this]
    · rfl
  have h3 : ∀ d : Nat → Nat → Int, fC I p d 0 14 = d 0 14 := fun d => by unfold fC fGoOn fTold; grind [mup_app]
  have h4 : ∀ d : Nat → Nat → Int, fB I p d 0 14 = d 0 14 := fun d => by unfold fB fStart dOut; split <;> simp [mup_app, rup_app]
  have h5 : ∀ d : Nat → Nat → Int, fStr I d 0 14 = fDr I d 0 14 := fun d => by unfold fStr dStr; grind [mup_app]
  unfold fMin fE
  rw [mup_ne (by omega), h1, h2, h3, h4]
  unfold fA
  rw [h5]
theorem rings_num : fRings I p d 0 14 = d 0 14 := by
  unfold fRings
  refine lp_inv (P := fun (s : Nat → Nat → Int) => s 0 14 = d 0 14) _ _ rfl (fun j s _ _ hs => ?_)
  unfold fRing dIn
  grind [mup_app]
/-- the reference's minute -/
theorem r_minuteGoes (hb : b ≤ 1) (hR : PR I p J) (hW : WR I p J) (hpl : planOK I p) (hwy : wayOK I (I p 13)) (hM : I p 15 = M) (hd : DOK (I p 13) M d) (h : DR (I p 13) M d e) (hm : d 0 10 ≤ 20000) (hdr : J 98 67 ≠ 0 → K 98 66 = d 0 14)
    (hQ : ∀ e' x' K', DR (I p 13) M (fMin I p d) e' → KG J K K' (fMin I p d) → Q [] (mem Ls pp (jm J b e' x') K')) : m_Call i_M_minuteGoes [.inr (.inr 98), .inl (b : Int)] (mem Ls pp (jm J b e x) K) Q := by
  have hnum := fMin_num (I := I) (p := p) (d := d)
  unfold fMin at hQ hnum
  have hP := hpl.1
  -- from behind: what K' must be
  have stE : ∀ (d e K1 : Nat → Nat → Int) (x : Int), DOK (I p 13) M d → DR (I p 13) M d e → d 0 10 ≤ 20000 → (∀ e' x' K2, DR (I p 13) M (fE I p d) e' → KF K1 K2 → Q [] (mem Ls pp (jm J b e' x') K2)) → m_Wp i_M_minuteGoes 196 0 0 [(0, .inr (.inr 98)), (1, .inl (b : Int))] [] (mem Ls pp (jm J b e x) K1) Q := by
    intro d e K1 x hd h hm hQ
    exact T_M_minuteGoes_196 (r_meets_loop hb hR hW hpl hM (I p 15).toNat 0 d e (by have := hpl.2.2.1; omega) hd h hm (fun e' h' => hQ e' x K1 h' KF.rfl'))
  have stD : ∀ (d e K1 : Nat → Nat → Int) (x : Int), DOK (I p 13) M d → DR (I p 13) M d e → d 0 10 ≤ 20000 → (∀ e' x' K2, DR (I p 13) M (fE I p (fD I p d)) e' → KF K1 K2 → Q [] (mem Ls pp (jm J b e' x') K2)) → m_Wp i_M_minuteGoes 170 0 0 [(0, .inr (.inr 98)), (1, .inl (b : Int))] [] (mem Ls pp (jm J b e x) K1) Q := by
    intro d e K1 x hd h hm hQ
    have h10 := hd.2.1
    have h7 := hW.2.2.1
    have e136 : jm J b e x 136 b = d 0 10 := by unfold jm; rw [(jS (b := b) (mup J 98 52 x) e).2.2.2.2.2.2.2.2.2.2.2.1]; exact h.1
    refine T_M_minuteGoes_170 ?_
    rw [jm_98 (by omega), Int.toNat_natCast, e136, wr_of (by omega) (by omega)]
    unfold fD at hQ
    refine ⟨by omega, by omega, fun h2 => ?_, fun h2 => ⟨fun h3 => ?_, fun h3 => ?_⟩⟩
    · rw [if_neg (by omega)] at hQ; exact stE d e K1 x hd h hm hQ
    · rw [if_neg (fun z => z.1 (h7.mpr h3))] at hQ; exact stE d e K1 x hd h hm hQ
    · rw [if_pos ⟨fun z => h3 (h7.mp z), Classical.not_not.mp h2⟩] at hQ
      refine r_drifts hb hR hW hpl hwy hd h hm (fun e' x' K2 h' hK => stE _ e' K2 x' (DOK_drift hd) h' ?_ (fun e2 x2 K3 h4 h5 => hQ e2 x2 K3 h4 (hK.tr h5)))
      have : fDrift I p d 0 = d 0 := by
        unfold fDrift
        exact lp_inv (P := fun (s : Nat → Nat → Int) => s 0 = d 0) _ _ rfl (fun j s _ _ hs => by rw [fDrift1_minute]; exact hs)
      rw [this]; exact hm
  have stC : ∀ (d e K1 : Nat → Nat → Int) (x : Int), DOK (I p 13) M d → DR (I p 13) M d e → d 0 10 ≤ 20000 → (∀ e' x' K2, DR (I p 13) M (fE I p (fD I p (fC I p d))) e' → KF K1 K2 → Q [] (mem Ls pp (jm J b e' x') K2)) → m_Wp i_M_minuteGoes 136 0 0 [(0, .inr (.inr 98)), (1, .inl (b : Int))] [] (mem Ls pp (jm J b e x) K1) Q := by
    intro d e K1 x hd h hm hQ
    have hlf := hd.2.2.2.2.1
    have h131 : e 6 0 = -1 ↔ d 0 12 = -1 := by rw [h.2.2.1]; unfold en; split <;> omega
    have e131 : jm J b e x 131 b = e 6 0 := by unfold jm; rw [(jS (b := b) (mup J 98 52 x) e).2.2.2.2.2.2.1]
    have hmem : ∀ v, mup (jm J b e x) 132 b v = jm J b (mup e 7 0 v) x := fun v => by unfold jm; rw [(jW (b := b) (mup J 98 52 x)).2.2.2.2.2.2.2.1]
    have e132 : jm J b e x 132 b = e 7 0 := by unfold jm; rw [(jS (b := b) (mup J 98 52 x) e).2.2.2.2.2.2.2.1]
    unfold fC at hQ
    refine T_M_minuteGoes_136 ?_
    rw [Int.toNat_natCast, e131, e132, mup_eq rfl rfl, hmem]
    refine ⟨by omega, fun h2 => ?_, fun h2 => ⟨by omega, by omega, by omega, ?_⟩⟩
    · rw [if_pos (h131.mp h2)] at hQ
      exact stD d e K1 x hd h hm hQ
    · have h3 : d 0 12 ≠ -1 := fun z => h2 (h131.mpr z)
      have h4 := h.2.2.2.1 h3
      rw [if_neg h3] at hQ
      rw [h4, wr_of (by omega) (by omega)]
      refine ⟨fun h5 => ?_, fun h5 => ?_⟩
      · have hg : fGoOn I p d = mup d 0 13 (d 0 13 - 1) := by unfold fGoOn; rw [if_pos (by omega)]
        have hdg := DOK_goOn (I := I) (p := p) hd h3
        rw [hg] at hQ hdg
        exact stD _ _ K1 x hdg (DR_left h) (by rw [mup_ne (by omega)]; exact hm) hQ
      · refine r_isTold hb hR hW hpl hwy hd h hm h3 (by omega) (fun e' x' K2 h' hK => stD _ e' K2 x' (DOK_goOn hd h3) h' ?_ (fun e2 x2 K3 h6 h7 => hQ e2 x2 K3 h6 (hK.tr h7)))
        have : fGoOn I p d 0 10 = d 0 10 := by unfold fGoOn fTold; grind [mup_app]
        rw [this]; exact hm
  have stB : ∀ (d e K1 : Nat → Nat → Int) (x : Int), DOK (I p 13) M d → DR (I p 13) M d e → d 0 10 ≤ 20000 → (∀ e' x' K2, DR (I p 13) M (fE I p (fD I p (fC I p (fB I p d)))) e' → KF K1 K2 → Q [] (mem Ls pp (jm J b e' x') K2)) → m_Wp i_M_minuteGoes 112 0 0 [(0, .inr (.inr 98)), (1, .inl (b : Int))] [] (mem Ls pp (jm J b e x) K1) Q := by
    intro d e K1 x hd h hm hQ
    have h131 : e 6 0 = -1 ↔ d 0 12 = -1 := by rw [h.2.2.1]; unfold en; split <;> omega
    have e131 : jm J b e x 131 b = e 6 0 := by unfold jm; rw [(jS (b := b) (mup J 98 52 x) e).2.2.2.2.2.2.1]
    have e130 : jm J b e x 130 b = d 0 11 := by unfold jm; rw [(jS (b := b) (mup J 98 52 x) e).2.2.2.2.2.1]; exact h.2.1
    unfold fB at hQ
    refine T_M_minuteGoes_112 ?_
    rw [Int.toNat_natCast, e131, e130]
    refine ⟨by omega, fun h2 => ?_, fun h2 => ⟨by omega, fun h3 => ?_, fun h3 => ?_⟩⟩
    · rw [if_neg (fun z => h2 (h131.mpr z.1))] at hQ; exact stC d e K1 x hd h hm hQ
    · rw [if_neg (by omega)] at hQ; exact stC d e K1 x hd h hm hQ
    · have h4 : d 0 12 = -1 := h131.mp (Classical.not_not.mp h2)
      rw [if_pos (by omega)] at hQ
      refine r_begins hb hR hW hpl hwy hd h hm h4 (by omega) (fun e' x' K2 h' hK => stC _ e' K2 x' (DOK_start hpl hd (by omega)) h' ?_ (fun e2 x2 K3 h6 h7 => hQ e2 x2 K3 h6 (hK.tr h7)))
      have : fStart I p d 0 10 = d 0 10 := by unfold fStart dOut; simp [mup_app, rup_app]
      rw [this]; exact hm
  have hm1 : fRings I p d 0 10 = d 0 10 := by
    unfold fRings
    refine lp_inv (P := fun (s : Nat → Nat → Int) => s 0 10 = d 0 10) _ _ rfl (fun j s _ _ hs => ?_)
    unfold fRing dIn
    grind [mup_app]
  have hm2 : fDr I (fRings I p d) 0 10 = d 0 10 := by rw [← hm1]; unfold fDr dDraw; split <;> simp [mup_app]
  have hd1 := DOK_rings hpl hd
  have hn14 := rings_num (I := I) (p := p) (d := d)
  -- behind the rings
  have stA : ∀ (e : Nat → Nat → Int), DR (I p 13) M (fRings I p d) e → ∀ x2, m_Call i_M_isStranger [.inr (.inr 98)] (mem Ls pp (jm J b e x) K) (fun v M' => m_Wp i_M_minuteGoes 60 0 0 [(0, .inr (.inr 98)), (1, .inl (b : Int)), (2, .inl x2)] (v ++ []) M' Q) := by
    intro e h x2
    have hd2 := DOK_dr (I := I) hd1
    have h2 := DR_dr (I := I) h
    refine r_isStranger (d := fRings I p d) hR hW hpl (fun z => by rw [hn14]; exact hdr z) (fun K1 hK1 => T_M_minuteGoes_60 ?_)
    have hK : ∀ K2, KF K1 K2 → KG J K K2 (fE I p (fD I p (fC I p (fB I p (fA I p d))))) := by
      intro K2 hF
      refine ⟨fun a h1 h2 h3 => by rw [hF a h2 h3, hK1.1 a h1 h2 h3], fun k hk => by rw [hF 98 (by omega) (by omega)]; exact hK1.2.1 k hk, fun z => by rw [hF 98 (by omega) (by omega)]; exact hK1.2.2.1 z, fun z => by rw [hF 98 (by omega) (by omega), hK1.2.2.2 z]; exact hnum.symm⟩
    unfold fA fStr at hQ hK
    have e130 : jm J b e x 130 b = fDr I (fRings I p d) 0 11 := by unfold jm; rw [(jS (b := b) (mup J 98 52 x) e).2.2.2.2.2.1]; exact h2.2.1
    have e137 : jm J b e x 137 b = e 12 0 := by unfold jm; rw [(jS (b := b) (mup J 98 52 x) e).2.2.2.2.2.2.2.2.2.2.2.2]
    have hn := hd2.2.2.1
    have hS := DR_str hd2 h2
    have hDS := DOK_str hd2
    generalize fDr I (fRings I p d) = d2 at *
    rw [Int.toNat_natCast, e130, e137]
    refine ⟨fun h3 => ?_, fun h3 => ⟨by omega, by omega, by omega, fun h4 => ?_, fun h4 => ⟨by omega, ?_⟩⟩⟩
    · rw [if_pos h3] at hQ hK
      exact stB _ e K1 x hd2 h2 (by rw [hm2]; exact hm) (fun e' x' K2 h' hF => hQ e' x' K2 h' (hK K2 hF))
    · rw [if_neg h3] at hQ hK
      rw [if_neg (by omega)] at hS
      have hmem : ∀ v, mup (jm J b e x) 137 b v = jm J b (mup e 12 0 v) x := fun v => by unfold jm; rw [(jW (b := b) (mup J 98 52 x)).2.2.2.2.2.2.2.2.2.2.2.2]
      rw [hmem]
      refine stB _ _ K1 x hDS hS ?_ (fun e' x' K2 h' hF => hQ e' x' K2 h' (hK K2 hF))
      have : dStr d2 0 10 = d2 0 10 := by unfold dStr; split <;> simp [mup_app]
      rw [this, hm2]; exact hm
    · rw [if_neg h3] at hQ hK
      rw [if_pos (by omega)] at hS
      rw [ix20 hb (by omega), Int.toNat_natCast, wr_of (z := d2 0 11 + 1) (by omega) (by omega)]
      have hmem : ∀ u v w, mup (mup (mup (jm J b e x) 137 b u) 129 (20 * b + (d2 0 11).toNat) v) 130 b w = jm J b (mup (mup (mup e 12 0 u) 4 (d2 0 11).toNat v) 5 0 w) x := fun u v w => by
        unfold jm
        obtain ⟨w0, w1, w2, w3, w4, w5, w6, w7, w8, w9, w10, w11, w12⟩ := jW (b := b) (mup J 98 52 x)
        rw [w12, w4 _ _ _ (by omega), w5]
      rw [hmem]
      refine ⟨by omega, by omega, by omega, ?_⟩
      refine stB _ _ K1 x hDS hS ?_ (fun e' x' K2 h' hF => hQ e' x' K2 h' (hK K2 hF))
      have : dStr d2 0 10 = d2 0 10 := by unfold dStr; split <;> simp [mup_app]
      rw [this, hm2]; exact hm
  -- the rings
  have lpR : ∀ (n k : Nat) (d1 e : Nat → Nat → Int), (k : Int) + n = I p 14 → DOK (I p 13) M d1 → DR (I p 13) M d1 e → d1 0 10 = d 0 10 → lp (fRing I p) k n d1 = fRings I p d → m_Wp i_M_minuteGoes 2 0 0 [(0, .inr (.inr 98)), (1, .inl (b : Int)), (2, .inl (k : Int))] [] (mem Ls pp (jm J b e x) K) Q := by
    have h14 := hpl.2.1
    intro n
    induction n with
    | zero =>
      intro k d1 e hk hd1 h h10 hE
      refine T_M_minuteGoes_2 ?_
      rw [jm_98 (by omega), hR.1.2.1]
      exact ⟨fun _ => stA e (by rw [← hE]; exact h) _, fun h2 => absurd (show I p 14 ≤ (k : Int) by omega) h2⟩
    | succ n ih =>
      intro k d1 e hk hd1 h h10 hE
      have hw : wr ((k : Int) + 1) = ((k + 1 : Nat) : Int) := by rw [wr_of] <;> omega
      have hr := hR.2.2.1 k (by omega)
      have hro := hpl.2.2.2.2.2.2.1 k (by omega)
      have e136 : jm J b e x 136 b = d1 0 10 := by unfold jm; rw [(jS (b := b) (mup J 98 52 x) e).2.2.2.2.2.2.2.2.2.2.2.1]; exact h.1
      have e108 : jm J b e x 108 = J 108 := jm_lo (by omega) (by omega)
      have e109 : jm J b e x 109 = J 109 := jm_lo (by omega) (by omega)
      have h6 := hW.2.2.2.1
      rw [lp] at hE
      unfold fRing at hE
      refine T_M_minuteGoes_2 ?_
      rw [jm_98 (by omega), jm_98 (by omega), hR.1.2.1, Int.toNat_natCast, Int.toNat_natCast, e136, e108, e109, hr.1, hr.2, ← h6]
      have nx : ∀ (d2 e2 : Nat → Nat → Int), DOK (I p 13) M d2 → DR (I p 13) M d2 e2 → d2 0 10 = d 0 10 → lp (fRing I p) (k + 1) n d2 = fRings I p d → m_Wp i_M_minuteGoes 50 0 0 [(0, .inr (.inr 98)), (1, .inl (b : Int)), (2, .inl (k : Int))] [] (mem Ls pp (jm J b e2 x) K) Q := by
        intro d2 e2 a1 a2 a3 a4
        refine T_M_minuteGoes_50 ?_
        rw [hw]
        exact ih (k + 1) d2 e2 (by omega) a1 a2 a3 a4
      refine ⟨fun h2 => by omega, fun _ => ⟨by omega, by omega, fun h2 => ?_, fun h2 => ⟨by omega, fun h3 => ?_, fun h3 => ⟨by omega, ?_⟩⟩⟩⟩
      · rw [if_neg (by omega)] at hE; exact nx d1 e hd1 h h10 hE
      · rw [if_neg (by omega)] at hE; exact nx d1 e hd1 h h10 hE
      · rw [if_pos (by omega)] at hE
        refine r_joins hb hP hd1 h hro (fun e' h' => T_M_minuteGoes_49 (nx _ e' (DOK_in hd1 hro) h' ?_ hE))
        rw [← h10]; unfold dIn; split <;> simp [mup_app]
  exact E_M_minuteGoes (lpR (I p 14).toNat 0 d e (by have := hpl.2.1; omega) hd h rfl rfl)
end R6
