/-! ===== phase 2: rates, the two of them ===== -/
def rb (g : Nat → Int) : Nat → Nat → Int → Int
  | _, 0, y => y
  | k, n + 1, y => rb g (k + 1) n (if g k = 0 then y else m_or y (m_shl 1 (k : Int)))
def bgD (P M s : Int) (o t : Nat → Int) : Nat → Nat → Int := fun j k => if j = 0 then (if k = 8 then P else if k = 9 then M else if k = 12 then -1 else if k = 14 then s else 0) else if j = 1 then o k else if j = 5 then t k else if j = 6 ∨ j = 7 then -1 else 0
theorem bgD_BG {P M s : Int} {o t : Nat → Int} : BG P M s o t (bgD P M s o t) := ⟨⟨rfl, rfl, rfl, rfl, rfl, rfl, rfl, rfl⟩, fun _ _ => ⟨rfl, rfl, rfl⟩, fun _ _ => ⟨rfl, rfl, rfl, rfl⟩⟩
def afD (o t : Nat → Int) : Nat → Nat → Int := fun r k => if r = 6 then -1 else if r = 2 then o k else if r = 8 then t k else if r = 9 then -1 else 0
theorem afD_AFT {P M : Int} {o t : Nat → Int} : AFT o t P M (afD o t) := ⟨rfl, rfl, rfl, rfl, fun _ _ => ⟨rfl, rfl, rfl, rfl⟩, fun _ _ => ⟨rfl, rfl, rfl, rfl⟩⟩
section V4
variable {Ls p kc ks c : Nat} {P M : Int} {I I0 I0' I1 I2 J K L L1 L2 K2 X X1 X2 Y Z d d' e : Nat → Nat → Int} {Q : List mV → mM → Prop} {x : Int} {cc cm : Nat → Int}
theorem INV_93 {f : Nat → Int} (h : INV p I L) : INV p (rup I 93 f) L := by
  obtain ⟨hp, hpl, hR, hD, hT, hF, hW, hS, hL, hI⟩ := h
  have hp' := hp
  unfold isPlan at hp'
  have g : ∀ a, a ≠ 93 → rup I 93 f a = I a := fun a ha => rup_other ha
  have gp : ∀ k, k < 19 → rup I 93 f (p + k) = I (p + k) := fun k hk => g _ (by omega)
  have gp0 : rup I 93 f p = I p := gp 0 (by omega)
  have d28 : dat (rup I 93 f) 28 = dat I 28 := dat_congr (fun j hj => g _ (by omega))
  have d37 : dat (rup I 93 f) 37 = dat I 37 := dat_congr (fun j hj => g _ (by omega))
  have j0 : jat (rup I 93 f) 0 = jat I 0 := jat_congr (fun r k h1 h2 => by rw [g _ (by omega)])
  unfold INV
  rw [gp0]
  refine ⟨hp, planOK_congr hp gp hpl, PR_congr gp (fun k h1 h2 => by rw [g 98 (by omega)]) (fun a h1 h2 => g a (by omega)) hR, ?_, ?_, ?_, ?_, ?_, ?_, ?_⟩
  · unfold DAY at *
    rw [d28, j0, g 28 (by omega)]; exact hD
  · unfold TPE at *
    rw [g 2 (by omega), g 98 (by omega), g 99 (by omega), g 6 (by omega)]; exact hT
  · rw [g 2 (by omega), g 98 (by omega)]; exact hF
  · unfold WDS at *
    rw [g 7 (by omega), g 100 (by omega)]; exact hW
  · unfold SEE at *
    rw [g 87 (by omega), g 88 (by omega), g 89 (by omega), g 90 (by omega), g 91 (by omega), g 92 (by omega), g 98 (by omega), g 138 (by omega)]; exact hS
  · unfold LOG at *
    rw [g 94 (by omega), g 95 (by omega), g 96 (by omega), g 97 (by omega), g 98 (by omega), g 140 (by omega), d28]; exact hL
  · unfold IMG at *
    rw [g 2 (by omega), g 37 (by omega), g 40 (by omega), g 43 (by omega), g 44 (by omega), g 45 (by omega), g 98 (by omega), g 141 (by omega), g 142 (by omega), d37]; exact hI
theorem eqv2_min (h : mIn p I I0 J M d e) (h' : mIn p I I0' J M d' e) (hm : d 0 10 ≤ 20000) (hP : I0 p 13 ≤ 6) (hPP : I0' p = I0 p) (hM : M ≤ 6) : ∃ e1, mIn p I I0 J M (fMin I0 p d) e1 ∧ mIn p I I0' J M (fMin I0' p d') e1 := by
  have hm' : d' 0 10 ≤ 20000 := by have a := h.2.2.2.2.1; have b := h'.2.2.2.2.1; omega
  have r1 := r_minT2 (Ls := 0) (K := fun _ _ => 0) (x := 0) h hm (Q := fun _ M1 => ∃ e' x' K', M1 = mem 0 p (jm J 1 e' x') K' ∧ mIn p I I0 J M (fMin I0 p d) e') (fun e' x' K' h1 _ => ⟨e', x', K', rfl, h1⟩)
  have r2 := r_minT2 (Ls := 0) (K := fun _ _ => 0) (x := 0) h' hm' (Q := fun _ M1 => ∃ e' x' K', M1 = mem 0 p (jm J 1 e' x') K' ∧ mIn p I I0' J M (fMin I0' p d') e') (fun e' x' K' h1 _ => ⟨e', x', K', rfl, h1⟩)
  obtain ⟨v, M1, ⟨e1, x1, K1, hM1, a1⟩, ⟨e2, x2, K2, hM2, a2⟩⟩ := m_Call_det r1 r2
  have hj := jm_inj (mem_inj (hM1.symm.trans hM2)).1
  refine ⟨e1, a1, a2.1, a2.2.1, a2.2.2.1, a2.2.2.2.1, DR_agrE (by rw [hPP]; exact hP) hM a2.1.2.2.2.2.2.2.2.1 (fun r k hr hk => (hj r k hr hk).symm) a2.2.2.2.2⟩
theorem eqv2_mins (hP : I0 p 13 ≤ 6) (hPP : I0' p = I0 p) (hM : M ≤ 6) : ∀ (n : Nat) {d d' e : Nat → Nat → Int}, mIn p I I0 J M d e → mIn p I I0' J M d' e → d 0 10 + n ≤ 20000 → ∃ e1, mIn p I I0 J M (mins I0 p n d) e1 ∧ mIn p I I0' J M (mins I0' p n d') e1
  | 0, _, _, e, h, h', _ => ⟨e, h, h'⟩
  | n + 1, d, d', e, h, h', hm => by
    obtain ⟨e1, a1, a2⟩ := eqv2_min h h' (by omega) hP hPP hM
    exact eqv2_mins hP hPP hM n a1 a2 (by rw [fMin_minute]; omega)
/-- one rate tried -/
def rtI (X : Nat → Nat → Int) (p : Nat) (a v : Int) : Nat → Nat → Int := mup (flw X p 0) 66 a.toNat v
def rtJ (Y : Nat → Nat → Int) (a v : Int) : Nat → Nat → Int := mup (mup (plainJ Y) 98 73 a) 98 74 v
theorem rt_base {a v : Int} (hp : isPlan p) (hpl : planOK I p) (hR : PR I p Y) (hX : ∀ b, b < 46 ∨ 67 ≤ b → X b = I b) (ha : 0 ≤ a ∧ a < I p 13) (hv : -9 ≤ v ∧ v ≤ 9) : (∀ k, k < 19 → rtI X p a v (p + k) = I (p + k)) ∧ planOK (rtI X p a v) p ∧ wayOK (rtI X p a v) (I p 13) ∧ PR (rtI X p a v) p (rtJ Y a v) ∧ WR (rtI X p a v) p (rtJ Y a v) ∧ rtJ Y a v 98 67 = 0 := by
  have hp' := hp
  unfold isPlan at hp'
  have hXp : ∀ k, k < 19 → X (p + k) = I (p + k) := fun k hk => hX _ (by omega)
  have hX0 : X p = I p := hXp 0 (by omega)
  have hplX : planOK X p := planOK_congr hp hXp hpl
  have gp : ∀ k, k < 19 → rtI X p a v (p + k) = I (p + k) := fun k hk => by unfold rtI; rw [mup_other (by omega), flw_out (by omega), hXp k hk]
  have gp0 : rtI X p a v p = I p := gp 0 (by omega)
  have hw := (flw_plan (v := 0) hp hplX).2
  have h6 := hpl.1
  have W := WR_plain (I := X) (J := Y) hp hplX
  have fp0 : flw X p 0 p = I p := by rw [flw_out (by omega), hX0]
  have fpk : ∀ k, k < 19 → flw X p 0 (p + k) = I (p + k) := fun k hk => by rw [flw_out (by omega), hXp k hk]
  have b := plainJ_fl (J := Y)
  have r98 : ∀ k, k ≠ 73 → k ≠ 74 → rtJ Y a v 98 k = plainJ Y 98 k := fun k h1 h2 => by unfold rtJ; rw [mup_ne (Or.inr h2), mup_ne (Or.inr h1)]
  have i66 : ∀ b, b ≠ 66 → rtI X p a v b = flw X p 0 b := fun b hb => by unfold rtI; exact mup_other hb
  refine ⟨gp, planOK_congr hp gp hpl, ?_, PR_congr gp (fun k h1 h2 => by rw [r98 k (by omega) (by omega)]; exact plainJ_98 (by omega)) (fun a' h1 h2 => by unfold rtJ; rw [mup_other (by omega), mup_other (by omega)]; exact plainJ_out (by omega)) hR, ?_, by rw [r98 67 (by omega) (by omega)]; exact b.1⟩
  · unfold wayOK at *
    rw [i66 64 (by omega), i66 65 (by omega), hX0] at *
    refine ⟨hw.1, fun q hq => ?_⟩
    have := hw.2 q hq
    unfold rtI
    rw [mup_app]
    by_cases hqa : q = a.toNat
    · rw [if_pos ⟨rfl, hqa⟩]; omega
    · rw [if_neg (fun z => hqa z.2)]; exact this
  · unfold WR at *
    rw [fp0, fpk 3 (by omega), fpk 5 (by omega)] at W
    rw [gp0, gp 3 (by omega), gp 5 (by omega), i66 64 (by omega), i66 65 (by omega), r98 67 (by omega) (by omega), r98 68 (by omega) (by omega), r98 69 (by omega) (by omega), r98 70 (by omega) (by omega), r98 71 (by omega) (by omega), r98 72 (by omega) (by omega)]
    obtain ⟨w1, w2, w3, w4, w5, w6, w7⟩ := W
    refine ⟨w1, w2, w3, w4, w5, w6, fun q hq => ?_⟩
    have e73 : rtJ Y a v 98 73 = a := by unfold rtJ; rw [mup_ne (by omega), mup_eq rfl rfl]
    have e74 : rtJ Y a v 98 74 = v := by unfold rtJ; rw [mup_eq rfl rfl]
    rw [e73, e74]
    unfold rtI
    rw [mup_app]
    by_cases hqa : q = a.toNat
    · rw [if_pos ⟨rfl, hqa⟩, if_pos (by omega)]
    · rw [if_neg (fun z => hqa z.2), if_neg (by omega), w7 q hq, b.2.2.2.2.2.2.1, if_neg (by omega)]
theorem rt_in {a v s : Int} {o t : Nat → Int} (hp : isPlan p) (hpl : planOK I p) (hR : PR I p Y) (hX : ∀ b, b < 46 ∨ 67 ≤ b → X b = I b) (ha : 0 ≤ a ∧ a < I p 13) (hv : -9 ≤ v ∧ v ≤ 9) (hd : BG (I p 13) (I p 15) (I p 18) (I (p + 4)) (I (p + 10)) d) (he : AFT (I (p + 4)) (I (p + 10)) (I p 13) (I p 15) e) : mIn p I (rtI X p a v) (rtJ Y a v) (I p 15) d e := by
  obtain ⟨g1, g2, g3, g4, g5, g6⟩ := rt_base hp hpl hR hX ha hv
  have g0 : rtI X p a v p = I p := g1 0 (by omega)
  refine ⟨⟨hp, g2, by rw [g0]; exact g3, by rw [g0], g0, ?_⟩, g4, g5, g6, ?_⟩
  · rw [g0]; exact BG_DOK hpl.1 hpl.2.2.1 hpl.2.2.2.2.2.1 (fun q hq => by have := hpl.2.2.2.2.2.2.2.2.1 q hq; omega) hd
  · rw [g0]; exact BG_DR hpl.1 hpl.2.2.1 hd he
theorem now_jm1 {Y : Nat → Nat → Int} : Y = jm Y 1 (jat Y 1) (Y 98 52) := by
  unfold jm; rw [mup_same (J := Y) (k := 98) (j := 52) rfl, jput_jat]
/-- what one rate comes to -/
def RT (I : Nat → Nat → Int) (p : Nat) (a : Int) (cm : Nat → Int) (N k : Nat) : Prop := ∀ s, 1 ≤ s → s ≤ 99 → SO I cm (mins (rtI I p a ((k : Int) - 4)) p s (bgD (I p 13) (I p 15) (I p 18) (I (p + 4)) (I (p + 10)))) N
theorem rates_c {a : Int} {N S : Nat} {g : Nat → Int} (hI : INV p I L) (ha : 0 ≤ a ∧ a < I p 13) (hs : I 87 6 = (S : Int)) (hNS : N ≤ S) (h93 : I 93 = cc) (c1 : ∀ k, k < N → I 91 k = -1 → cc k = cm k) (c2 : ∀ k, k < N → I 91 k ≠ -1 → cc k = 0) (c3 : ∀ k, N ≤ k → k < 24 → cc k = 0) (hg : ∀ k, (RT I p a cm N k → g k = 1) ∧ (¬ RT I p a cm N k → g k = 0)) : ∀ (n k : Nat) (X L' : Nat → Nat → Int) (y : Int), k + n = 10 → (∀ b, b < 46 ∨ 67 ≤ b → X b = I b) → lkeep L L' → (∀ X' L2, (∀ b, b < 46 ∨ 67 ≤ b → X' b = I b) → lkeep L L2 → Q [.inl (rb g k n y)] (mem Ls p X' L2)) → m_Wp i_C_rates 21 kc ks [(0, .inr (.inr 2)), (1, .inl a), (2, .inl y), (3, .inl (k : Int))] [] (mem Ls p X L') Q := by
  have hp := hI.1
  have hpl := hI.2.1
  have hR := hI.2.2.1
  have hS := hI.2.2.2.2.2.2.2.1
  have hp' := hp
  unfold isPlan at hp'
  have h6 := hpl.1
  have h66 := hpl.2.2.1
  have hcst : ∀ k, k < S → cc k ≠ 0 → I 91 k = -1 := fun k hk hz => by
    by_cases hkN : k < N
    · exact Classical.byContradiction (fun hne => hz (c2 k hkN hne))
    · exact absurd (c3 k (by omega) (by have := hS.1; omega)) hz
  intro n
  induction n with
  | zero =>
    intro k X L' y hk hX hL hQ
    exact T_C_rates_21 ⟨fun _ => hQ X L' hX hL, fun z => by omega⟩
  | succ n ih =>
    intro k X L' y hk hX hL hQ
    rw [rb] at hQ
    refine T_C_rates_21 ⟨fun z => by omega, fun _ => q_follow hp (Or.inl rfl) (T_C_rates_35 ⟨by omega, ?_⟩)⟩
    rw [wr_of (z := -4 + (k : Int)) (by omega) (by omega), show -4 + (k : Int) = (k : Int) - 4 by omega]
    show m_Call i_C_isAllSeenSo _ (mem Ls p (rtI X p a ((k : Int) - 4)) L') _
    have hv : -9 ≤ (k : Int) - 4 ∧ (k : Int) - 4 ≤ 9 := by omega
    obtain ⟨g1, g2, g3, g4, g5, g6⟩ := rt_base hp hpl hR hX ha hv
    have g0 : rtI X p a ((k : Int) - 4) p = I p := g1 0 (by omega)
    have gO : ∀ b, b < 46 ∨ 67 ≤ b → rtI X p a ((k : Int) - 4) b = I b := fun b hb => by unfold rtI; rw [mup_other (by omega), flw_out (by omega), hX b hb]
    have hout : ∀ d' b, b < 46 ∨ 67 ≤ b → dput (rtI X p a ((k : Int) - 4)) 46 d' b = I b := fun d' b hb => by rw [dput_out (by omega), gO b hb]
    refine E_C_isAllSeenSo hp' (q_begin hp (by unfold isDay; omega) (by rw [g0]; exact h6) (by rw [g0]; exact h66) (fun d hd => T_C_isAllSeenSo_11 (E_Seen_lastMinute ?_)))
    rw [g0, g1 4 (by omega), g1 10 (by omega)] at hd
    refine last_loop (I := I) (cc := cc) hS hs (fun b b1 b2 => hout d b (by omega)) (by rw [hout d 93 (by omega)]; exact h93) hcst (fun l hl hlast => T_C_isAllSeenSo_18 ?_) S 0 0 (by omega) (by omega) (fun j hj => by omega)
    have hmA := rt_in (s := 0) (o := fun _ => 0) (t := fun _ => 0) hp hpl hR hX ha hv hd afD_AFT
    have hmB := rt_in (s := 0) (o := fun _ => 0) (t := fun _ => 0) hp hpl hR (X := I) (fun _ _ => rfl) ha hv bgD_BG afD_AFT
    have gB := (rt_base hp hpl hR (X := I) (fun _ _ => rfl) ha hv).1 0 (by omega)
    have gB0 : rtI I p a ((k : Int) - 4) p = I p := gB
    have hd10 : d 0 10 = 0 := hd.1.2.2.1
    have key : (∀ s, 1 ≤ s → s ≤ l.toNat → SO I cc (mins (rtI X p a ((k : Int) - 4)) p s d) S) ↔ RT I p a cm N k := by
      have one : ∀ s, s ≤ 99 → (SO I cc (mins (rtI X p a ((k : Int) - 4)) p s d) S ↔ SO I cm (mins (rtI I p a ((k : Int) - 4)) p s (bgD (I p 13) (I p 15) (I p 18) (I (p + 4)) (I (p + 10)))) N) := fun s hs99 => by
        obtain ⟨e1, m1, m2⟩ := eqv2_mins (I0 := rtI X p a ((k : Int) - 4)) (I0' := rtI I p a ((k : Int) - 4)) (by rw [g0]; exact h6.2) (by rw [gB0, g0]) h66.2 s hmA hmB (by omega)
        have D1 := m1.2.2.2.2
        have D2 := m2.2.2.2.2
        rw [g0] at D1
        rw [gB0] at D2
        have t10 : mins (rtI X p a ((k : Int) - 4)) p s d 0 10 = mins (rtI I p a ((k : Int) - 4)) p s (bgD (I p 13) (I p 15) (I p 18) (I (p + 4)) (I (p + 10))) 0 10 := by rw [← D1.1, ← D2.1]
        have tq : ∀ q : Nat, (q : Int) < I p 13 → mins (rtI X p a ((k : Int) - 4)) p s d 1 q = mins (rtI I p a ((k : Int) - 4)) p s (bgD (I p 13) (I p 15) (I p 18) (I (p + 4)) (I (p + 10))) 1 q := fun q hq => by rw [← (D1.2.2.2.2.2.1 q hq).1, ← (D2.2.2.2.2.2.1 q hq).1]
        have clause : ∀ j, j < N → (CL I cc (mins (rtI X p a ((k : Int) - 4)) p s d) j ↔ CL I cm (mins (rtI I p a ((k : Int) - 4)) p s (bgD (I p 13) (I p 15) (I p 18) (I (p + 4)) (I (p + 10)))) j) := fun j hj => by
          unfold CL
          by_cases hst : I 91 j = -1
          · have hq : 0 ≤ I 89 j ∧ I 89 j < I p 13 := by
              rcases hS.2.2.2.2 j (by omega) with h | h
              · exact h.2.2.1
              · have := h.1; omega
            rw [c1 j hj hst, t10, tq (I 89 j).toNat (by omega)]
          · exact ⟨fun _ _ b => absurd b hst, fun _ _ b => absurd b hst⟩
        refine ⟨fun h j hj => (clause j hj).mp (h j (by omega)), fun h j hj => ?_⟩
        by_cases hjN : j < N
        · exact (clause j hjN).mpr (h j hjN)
        · exact fun hz => absurd (c3 j (by omega) (by have := hS.1; omega)) hz
      refine ⟨fun h s s1 s2 => ?_, fun h s s1 s2 => (one s (by omega)).mpr (h s s1 (by omega))⟩
      by_cases hsl : s ≤ l.toNat
      · exact (one s s2).mp (h s s1 hsl)
      · intro j hj hz hst hmin
        have hcj : cc j ≠ 0 := by rw [c1 j hj hst]; exact hz
        have h1 := hlast j (by omega) hcj
        rw [hmin, mins_minute] at h1
        have : bgD (I p 13) (I p 15) (I p 18) (I (p + 4)) (I (p + 10)) 0 10 = 0 := rfl
        omega
    have step : ∀ v, (v = 1 → RT I p a cm N k) → (v = 0 → ¬ RT I p a cm N k) → (v = 0 ∨ v = 1) → ∀ d' L2, lkeep L' L2 → m_Wp i_C_rates 52 kc ks [(0, .inr (.inr 2)), (1, .inl a), (2, .inl y), (3, .inl (k : Int))] [.inl v] (mem Ls p (dput (rtI X p a ((k : Int) - 4)) 46 d') L2) Q := fun v v1 v0 v01 d' L2 hL2 => by
      have hLL : lkeep L L2 := fun a ha => by rw [hL2 a ha, hL a ha]
      refine T_C_rates_52 ?_
      rw [show wr ((k : Int) + 1) = ((k + 1 : Nat) : Int) by rw [wr_of] <;> omega]
      refine ⟨fun z => ih (k + 1) _ L2 _ (by omega) (hout d') hLL ?_, fun z => ih (k + 1) _ L2 _ (by omega) (hout d') hLL ?_⟩
      · rw [if_pos ((hg k).2 (v0 z))] at hQ; exact hQ
      · rw [if_neg (by rw [(hg k).1 (v1 (by omega))]; omega)] at hQ; exact hQ
    refine q_seenSo (I := I) (L := L') (M := I p 15) (cc := cc) (S := S) (l := l) (by rw [g0]; exact h6.2) (by rw [g0]; exact hS) hs (fun b b1 b2 => gO b (by omega)) (by rw [gO 93 (by omega)]; exact h93) hcst hl.2 l.toNat 0 d L' (by omega) hmA.1 (by omega) (fun _ _ => rfl) (fun h d' L2 hL2 => step 1 (fun _ => key.mp h) (fun z => by omega) (Or.inr rfl) d' L2 hL2) (fun h d' L2 hL2 => step 0 (fun z => by omega) (fun _ h2 => h (key.mpr h2)) (Or.inl rfl) d' L2 hL2)
theorem rates_m {a : Int} {N : Nat} {g : Nat → Int} (hI : INV p I L) (ha : 0 ≤ a ∧ a < I p 13) (hN : kb I = (N : Int)) (hg : ∀ k, (RT I p a cm N k → g k = 1) ∧ (¬ RT I p a cm N k → g k = 0)) : ∀ (n k : Nat) (Y K' : Nat → Nat → Int) (y : Int), k + n = 10 → wr y = y → keeps I Y L K' → Y 139 = cm → (∀ Y' K2, keeps I Y' L K2 → Q [.inl (rb g k n y)] (mem Ls p Y' K2)) → m_Wp i_M_rates 95 kc ks [(0, .inr (.inr 98)), (1, .inl a), (2, .inl y), (3, .inl (k : Int))] [] (mem Ls p Y K') Q := by
  have hp := hI.1
  have hpl := hI.2.1
  have hR := hI.2.2.1
  have hS := hI.2.2.2.2.2.2.2.1
  have hp' := hp
  unfold isPlan at hp'
  have h6 := hpl.1
  have h66 := hpl.2.2.1
  intro n
  induction n with
  | zero =>
    intro k Y K' y hk hy hK h139 hQ
    refine T_M_rates_95 ⟨fun _ => r_plainTried (T_M_rates_132 (hQ _ K' (hK.tr ?_))), fun z => by omega⟩
    refine ⟨fun a ha => plainJ_out (by omega), fun k _ _ h => plainJ_98 h, fun a h1 h2 => plainJ_out (by omega), fun r k h1 h2 => by rw [plainJ_out (by omega)], fun a h1 h2 => plainJ_out (by omega), rfl, rfl⟩
  | succ n ih =>
    intro k Y K' y hk hy hK h139 hQ
    rw [rb] at hQ
    refine T_M_rates_95 ⟨fun z => by omega, fun _ => E_M_fits (r_atFirst (b := 1) (by omega) (fun Z hZ z1 z2 z3 z4 => T_M_fits_5 (r_plainTried (T_M_fits_9 ?_))))⟩
    rw [wr_of (z := (k : Int) - 4) (by omega) (by omega)]
    show m_Wp i_M_fits 21 0 0 _ [] (mem Ls p (rtJ Z a ((k : Int) - 4)) K') _
    have hv : -9 ≤ (k : Int) - 4 ∧ (k : Int) - 4 ≤ 9 := by omega
    obtain ⟨q1, q2, q3, q4, q5, q6, q7⟩ := hK
    have ZY : ∀ b, b < 125 ∨ 137 < b → Z b = Y b := hZ.1
    have hRZ : PR I p Z := PR_congr (fun _ _ => rfl) (fun j h1 h2 => by rw [ZY 98 (by omega), q2 j (by omega) (by omega) (by omega)]) (fun b h1 h2 => by rw [ZY b (by omega), q3 b (by omega) (by omega)]) hR
    have hjat : jat (rtJ Z a ((k : Int) - 4)) 1 = jat Z 1 := jat_congr (fun r j _ _ => by unfold rtJ; rw [mup_other (by omega), mup_other (by omega), plainJ_out (by omega)])
    have hA : AFT (I (p + 4)) (I (p + 10)) (I p 13) (I p 15) (jat Z 1) := by
      have h := AFR_AFT (P := I p 13) (M := I p 15) h6.2 h66.2 hZ z1 z2 z3 z4
      obtain ⟨a1, a2, a3, a4, a5, a6⟩ := h
      refine ⟨a1, a2, a3, a4, fun q hq => ?_, fun m hm => ?_⟩
      · have := a5 q hq
        have h2 := (hR.2.1 q hq).2.2.2.1
        rw [q3 106 (by omega) (by omega), h2] at this; exact this
      · have := a6 m hm
        have h2 := (hR.2.2.2.1 m hm).2.2
        rw [q3 112 (by omega) (by omega), h2] at this; exact this
    have hm := rt_in (s := 0) (o := fun _ => 0) (t := fun _ => 0) hp hpl hRZ (X := I) (fun _ _ => rfl) ha hv bgD_BG hA
    have gB0 : rtI I p a ((k : Int) - 4) p = I p := (rt_base hp hpl hR (X := I) (fun _ _ => rfl) ha hv).1 0 (by omega)
    have W98 : ∀ j, j < 67 ∨ 74 < j → j ≠ 2 → j ≠ 52 → rtJ Z a ((k : Int) - 4) 98 j = I 98 j := fun j h1 h2 h3 => by unfold rtJ; rw [mup_ne (by omega), mup_ne (by omega), plainJ_98 (by omega), ZY 98 (by omega), q2 j h2 h3 h1]
    have Wo : ∀ b, b ≠ 98 → rtJ Z a ((k : Int) - 4) b = Z b := fun b hb => by unfold rtJ; rw [mup_other hb, mup_other hb, plainJ_out hb]
    have hkeep : ∀ e' x' K2, KT K' K2 → keeps I (jm (rtJ Z a ((k : Int) - 4)) 1 e' x') L K2 := fun e' x' K2 hK2 => by
      refine ⟨fun b hb => ?_, fun j h1 h2 h3 => ?_, fun b h1 h2 => ?_, fun r j h1 h2 => ?_, fun b h1 h2 => ?_, ?_, ?_⟩
      · rw [jm_lo (by omega) (by omega), Wo b (by omega), ZY b (by omega), q1 b hb]
      · rw [jm_98 h2, W98 j h3 h1 h2]
      · rw [jm_lo (by omega) (by omega), Wo b (by omega), ZY b (by omega), q3 b h1 h2]
      · unfold jm
        rw [jput_app, if_neg (fun z => by have := z.2.1; rw [Nat.one_mul, show 125 + r - 125 = r by omega] at this; omega), mup_other (by omega), Wo _ (by omega), hZ.2.1 r j h1 (fun z => by have := z.1; rw [Nat.one_mul] at this; omega), q4 r j h1 h2]
      · rw [jm_hi (by omega), Wo b (by omega), ZY b (by omega), q5 b h1 h2]
      · rw [hK2.2 66, q6]
      · rw [hK2.2 84, q7]
    have h139' : ∀ e' x', jm (rtJ Z a ((k : Int) - 4)) 1 e' x' 139 = cm := fun e' x' => by rw [jm_hi (by omega), Wo 139 (by omega), ZY 139 (by omega), h139]
    have step : ∀ v, (v = 1 → RT I p a cm N k) → (v = 0 → ¬ RT I p a cm N k) → (v = 0 ∨ v = 1) → ∀ e' x' K2, KT K' K2 → m_Wp i_M_rates 110 kc ks [(0, .inr (.inr 98)), (1, .inl a), (2, .inl y), (3, .inl (k : Int))] ([.inl v] ++ [.inl y]) (mem Ls p (jm (rtJ Z a ((k : Int) - 4)) 1 e' x') K2) Q := fun v v1 v0 v01 e' x' K2 hK2 => by
      refine T_M_rates_110 ?_
      rw [show wr ((k : Int) + 1) = ((k + 1 : Nat) : Int) by rw [wr_of] <;> omega]
      refine ⟨fun z => ?_, fun z => ih (k + 1) _ K2 _ (by omega) (wr_or _ _) (hkeep e' x' K2 hK2) (h139' e' x') ?_⟩
      · rw [m_or_zero, hy]
        refine ih (k + 1) _ K2 _ (by omega) hy (hkeep e' x' K2 hK2) (h139' e' x') ?_
        rw [if_pos ((hg k).2 (v0 z))] at hQ; exact hQ
      · rw [if_neg (by rw [(hg k).1 (v1 (by omega))]; omega)] at hQ; exact hQ
    rw [← hjat] at hm
    rw [now_jm1 (Y := rtJ Z a ((k : Int) - 4))]
    refine r_fits (I := I) (I1 := I) (I0 := rtI I p a ((k : Int) - 4)) (J := rtJ Z a ((k : Int) - 4)) (K := K') (M := I p 15) (N := N) (cm := cm) (by rw [gB0]; exact h6.2) (by rw [gB0]; exact hS) hN (by rw [W98 75 (by omega) (by omega) (by omega)]; exact hS.2.1) (by rw [W98 76 (by omega) (by omega) (by omega)]; exact hS.2.2.1) (by rw [Wo 138 (by omega), ZY 138 (by omega), q5 138 (by omega) (by omega)]) (by rw [Wo 139 (by omega), ZY 139 (by omega), h139]) 99 1 _ _ K' _ (by omega) (by omega) hm rfl KT.rfl' (fun h e' x' K2 hK2 => step 1 (fun _ => h) (fun z => by omega) (Or.inr rfl) e' x' K2 hK2) (fun h e' x' K2 hK2 => step 0 (fun z => by omega) (fun _ => h) (Or.inl rfl) e' x' K2 hK2)
theorem pair_rates {a : Int} (hI : INV p I L) : PAIR Ls i_C_rates i_M_rates [.inl a] (mem Ls p I L) := by
  have h12 : I 98 12 = I p 13 := hI.2.2.1.1.1
  have hS := hI.2.2.2.2.2.2.2.1
  have hr := kb_range hS
  refine E_C_rates (q_isPerson hI.1 (T_C_rates_5 ⟨fun h => ?_, fun h => E_M_rates (r_isMan ?_)⟩))
  · rw [b01_zero] at h
    have ha : 0 ≤ a ∧ a < I p 13 := by omega
    obtain ⟨N, hN⟩ : ∃ N : Nat, kb I = (N : Int) := ⟨(kb I).toNat, by omega⟩
    obtain ⟨S, hs⟩ : ∃ S : Nat, I 87 6 = (S : Int) := ⟨(I 87 6).toNat, by omega⟩
    refine q_judge hS hN (T_C_rates_17 ?_)
    generalize hcc : jC (I 91) N (cI (I 93) N 24) = cc
    generalize hcm : jM (I 91) N (mI (I 139) N) = cm
    have hI' := INV_93 (f := cc) hI
    have hc := jCM (st := I 91) (N := N) (st_ok hS (by omega)) N (cI (I 93) N 24) (mI (I 139) N) (by omega) (fun k a b => by unfold cI mI; rw [if_pos (by omega), if_pos a, if_pos a]) (fun k a b => by omega) (fun k a a2 => by unfold cI; rw [if_pos a2, if_neg (by omega)])
    rw [hcc, hcm] at hc
    have r93 : ∀ b, b ≠ 93 → rup I 93 cc b = I b := fun b hb => rup_other hb
    have hpp := hI.1
    unfold isPlan at hpp
    have rp : rup I 93 cc p = I p := r93 p (by omega)
    obtain ⟨g, hg⟩ : ∃ g : Nat → Int, ∀ k, (RT (rup I 93 cc) p a cm N k → g k = 1) ∧ (¬ RT (rup I 93 cc) p a cm N k → g k = 0) :=
      ⟨fun k => @ite Int (RT (rup I 93 cc) p a cm N k) (Classical.propDecidable _) 1 0, fun k => ⟨fun h => if_pos h, fun h => if_neg h⟩⟩
    have hS' := hI'.2.2.2.2.2.2.2.1
    have hkb : kb (rup I 93 cc) = (N : Int) := by unfold kb; rw [r93 87 (by omega)]; exact hN
    refine rates_c (cc := cc) (cm := cm) (N := N) (S := S) (g := g) hI' (by rw [rp]; exact ha) (by rw [r93 87 (by omega)]; exact hs) (by omega) (rup_self _ _ _) (by rw [r93 91 (by omega)]; exact hc.1) (by rw [r93 91 (by omega)]; exact hc.2.1) hc.2.2 hg 10 0 _ L 0 (by omega) (fun _ _ => rfl) (fun _ _ => rfl) (fun X L2 hX hL2 => E_M_rates (r_isMan ?_))
    rw [mup_ne (by omega), hX 98 (by omega), r93 98 (by omega), h12, b01_one.mpr ha]
    refine T_M_rates_10 ⟨fun _ => ?_, fun z => absurd (show ¬ (1 : Int) = 0 by omega) z⟩
    have x98 : ∀ k, k ≠ 2 → mup X 98 2 0 98 k = rup I 93 cc 98 k := fun k hk => by rw [mup_ne (Or.inr hk), hX 98 (by omega)]
    have x138 : mup X 98 2 0 138 = rup I 93 cc 138 := by rw [mup_other (by omega), hX 138 (by omega)]
    have x139 : mup X 98 2 0 139 = I 139 := by rw [mup_other (by omega), hX 139 (by omega), r93 139 (by omega)]
    have hcB : ∀ f, f = jM (rup I 93 cc 91) N (mI (mup X 98 2 0 139) N) → f = cm := fun f hf => by rw [hf, x139, r93 91 (by omega), hcm]
    have hkp : keeps (rup I 93 cc) (rup (mup X 98 2 0) 139 cm) L L2 := by
      refine ⟨fun b hb => by rw [rup_other (by omega), mup_other (by omega), hX b (by omega)], fun k h1 h2 h3 => by rw [rup_other (by omega), x98 k h1], fun b h1 h2 => by rw [rup_other (by omega), mup_other (by omega), hX b (by omega)], fun r k h1 h2 => by rw [rup_other (by omega), mup_other (by omega), hX _ (by omega)], fun b h1 h2 => by rw [rup_other h2, mup_other (by omega), hX b (by omega)], by rw [hL2 98 (by omega)], by rw [hL2 98 (by omega)]⟩
    have cA := countA_loop (Ls := Ls) (p := p) (kc := 0) (ks := 0) (X := mup X 98 2 0) (I := rup I 93 cc) (L := L2) (P := rup I 93 cc p 13) (N := N) (a := a) (Q := fun w M2 => w = [.inl (rb g 0 10 0)] ∧ OKM Ls M2) (by rw [x98 75 (by omega)]; exact hS'.2.1) (by rw [x98 76 (by omega)]; exact hS'.2.2.1) hS' hkb (countB_loop (I := rup I 93 cc) (P := rup I 93 cc p 13) hS' x138 (by rw [r93 87 (by omega)]; omega) (fun f hf => ?_) N _ (by omega) rfl) N 0 (by omega)
    · rw [show mI (mup X 98 2 0 139) 0 = mup X 98 2 0 139 by funext z; unfold mI; rw [if_neg (by omega)], rup_id] at cA
      exact cA
    · rw [hcB f hf]
      exact rates_m (cm := cm) (N := N) (g := g) hI' (by rw [rp]; exact ha) hkb hg 10 0 _ L2 0 (by omega) rfl hkp (rup_self _ _ _) (fun Y' K2 hk => ⟨rfl, p, _, _, rfl, INV_keeps hI' hk⟩)
  · have h' := b01_zero.mp (Classical.not_not.mp h)
    rw [mup_ne (by omega), h12, b01_zero.mpr h']
    exact T_M_rates_10 ⟨fun z => absurd rfl z, fun _ => ⟨rfl, okT hI⟩⟩
end V4
