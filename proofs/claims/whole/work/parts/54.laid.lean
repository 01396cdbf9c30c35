/-! ===== phase 2: trials laid again and again; near, liars ===== -/
theorem mem_inj {Ls p : Nat} {I I' L L' : Nat → Nat → Int} (h : mem Ls p I L = mem Ls p I' L') : I = I' ∧ L = L' := by
  unfold mem at h
  injection h with _ h
  injection h with _ h
  injection h with _ h
  injection h with h1 h2
  exact ⟨h1, h2⟩
theorem jm_inj {J e e' : Nat → Nat → Int} {b : Nat} {x x' : Int} (h : jm J b e x = jm J b e' x') : ∀ r k, r ≤ 12 → k < jlen r → e' r k = e r k := fun r k hr hk => by
  have h1 : jm J b e x (125 + r) (b * jlen r + k) = e r k := jput_at hr hk rfl
  have h2 : jm J b e' x' (125 + r) (b * jlen r + k) = e' r k := jput_at hr hk rfl
  rw [← h1, ← h2, h]
/-- two days that the reference can't tell apart -/
def eqv (P M : Int) (d d' : Nat → Nat → Int) : Prop := ∃ e, DR P M d e ∧ DR P M d' e
section Q5
variable {Ls p kc ks : Nat} {P M : Int} {I I0 I1 J K L L1 K2 d d' e : Nat → Nat → Int} {Q : List mV → mM → Prop} {x : Int}
theorem eqv_min (h : mIn p I I0 J M d e) (h' : mIn p I I0 J M d' e) (hm : d 0 10 ≤ 20000) (hP : I0 p 13 ≤ 6) (hM : M ≤ 6) : ∃ e1, mIn p I I0 J M (fMin I0 p d) e1 ∧ mIn p I I0 J M (fMin I0 p d') e1 := by
  have hm' : d' 0 10 ≤ 20000 := by have a := h.2.2.2.2.1; have b := h'.2.2.2.2.1; omega
  have r1 := r_minT2 (Ls := 0) (K := fun _ _ => 0) (x := 0) h hm (Q := fun _ M1 => ∃ e' x' K', M1 = mem 0 p (jm J 1 e' x') K' ∧ mIn p I I0 J M (fMin I0 p d) e') (fun e' x' K' h1 _ => ⟨e', x', K', rfl, h1⟩)
  have r2 := r_minT2 (Ls := 0) (K := fun _ _ => 0) (x := 0) h' hm' (Q := fun _ M1 => ∃ e' x' K', M1 = mem 0 p (jm J 1 e' x') K' ∧ mIn p I I0 J M (fMin I0 p d') e') (fun e' x' K' h1 _ => ⟨e', x', K', rfl, h1⟩)
  obtain ⟨v, M1, ⟨e1, x1, K1, hM1, a1⟩, ⟨e2, x2, K2, hM2, a2⟩⟩ := m_Call_det r1 r2
  have hj := jm_inj (mem_inj (hM1.symm.trans hM2)).1
  refine ⟨e1, a1, a2.1, a2.2.1, a2.2.2.1, a2.2.2.2.1, DR_agrE hP hM a2.1.2.2.2.2.2.2.2.1 (fun r k hr hk => (hj r k hr hk).symm) a2.2.2.2.2⟩
theorem eqv_mins (hP : I0 p 13 ≤ 6) (hM : M ≤ 6) : ∀ (n : Nat) {d d' e : Nat → Nat → Int}, mIn p I I0 J M d e → mIn p I I0 J M d' e → d 0 10 + n ≤ 20000 → ∃ e1, mIn p I I0 J M (mins I0 p n d) e1 ∧ mIn p I I0 J M (mins I0 p n d') e1
  | 0, _, _, e, h, h', _ => ⟨e, h, h'⟩
  | n + 1, d, d', e, h, h', hm => by
    obtain ⟨e1, a1, a2⟩ := eqv_min h h' (by omega) hP hM
    exact eqv_mins hP hM n a1 a2 (by rw [fMin_minute]; omega)
theorem eqv_in {q : Int} (hq : 0 ≤ q ∧ q < I0 p 13) (h : mIn p I I0 J M d e) (h' : mIn p I I0 J M d' e) (hP : I0 p 13 ≤ 6) (hM : M ≤ 6) : ∃ e1, mIn p I I0 J M (dIn d q) e1 ∧ mIn p I I0 J M (dIn d' q) e1 := by
  have r1 := r_joinT (Ls := 0) (K := fun _ _ => 0) (x := 0) h hq (Q := fun _ M1 => ∃ e' x' K', M1 = mem 0 p (jm J 1 e' x') K' ∧ mIn p I I0 J M (dIn d q) e') (fun e' h1 => ⟨e', 0, fun _ _ => 0, rfl, h1⟩)
  have r2 := r_joinT (Ls := 0) (K := fun _ _ => 0) (x := 0) h' hq (Q := fun _ M1 => ∃ e' x' K', M1 = mem 0 p (jm J 1 e' x') K' ∧ mIn p I I0 J M (dIn d' q) e') (fun e' h1 => ⟨e', 0, fun _ _ => 0, rfl, h1⟩)
  obtain ⟨v, M1, ⟨e1, x1, K1, hM1, a1⟩, ⟨e2, x2, K2, hM2, a2⟩⟩ := m_Call_det r1 r2
  have hj := jm_inj (mem_inj (hM1.symm.trans hM2)).1
  refine ⟨e1, a1, a2.1, a2.2.1, a2.2.2.1, a2.2.2.2.1, DR_agrE hP hM a2.1.2.2.2.2.2.2.2.1 (fun r k hr hk => (hj r k hr hk).symm) a2.2.2.2.2⟩
/-- the class's memory between trials -/
def stC (p : Nat) (I X : Nat → Nat → Int) : Prop := X = I ∨ ∃ d, X = dput (flw I p 0) 46 d
theorem stC.out {X : Nat → Nat → Int} (h : stC p I X) : ∀ a, a < 46 ∨ 67 ≤ a → X a = I a := by
  rcases h with rfl | ⟨d, rfl⟩
  · exact fun _ _ => rfl
  · exact kC_trial
theorem flw_flw (hp : isPlan p) : dput (flw (dput (flw I p 0) 46 d') p 0) 46 d = dput (flw I p 0) 46 d := by
  have hp' := hp
  unfold isPlan at hp'
  funext a
  by_cases ha : a < 46 ∨ 55 ≤ a
  · rw [dput_out (by omega), dput_out (by omega)]
    by_cases h1 : a < 64 ∨ 66 < a
    · rw [flw_out h1, dput_out (by omega)]
    · have ep : ∀ k, k < 19 → dput (flw I p 0) 46 d' (p + k) = I (p + k) := fun k hk => kC_trial _ (by omega)
      have ep0 : dput (flw I p 0) 46 d' p = I p := ep 0 (by omega)
      have e64 : dput (flw I p 0) 46 d' 64 = flw I p 0 64 := dput_out (by omega)
      have e65 : dput (flw I p 0) 46 d' 65 = flw I p 0 65 := dput_out (by omega)
      have e66 : dput (flw I p 0) 46 d' 66 = flw I p 0 66 := dput_out (by omega)
      have h3 : a = 64 ∨ a = 65 ∨ a = 66 := by omega
      funext k
      rcases h3 with rfl | rfl | rfl
      · obtain ⟨a1, a2, a3, a4, a5⟩ := flw_64 (I := dput (flw I p 0) 46 d') (v := 0) hp
        obtain ⟨b1, b2, b3, b4, b5⟩ := flw_64 (I := I) (v := 0) hp
        by_cases hk : k = 4 ∨ k = 5 ∨ k = 6 ∨ k = 7 ∨ k = 8
        · rcases hk with rfl | rfl | rfl | rfl | rfl
          · rw [a1, b1, ep0]
          · rw [a2, b2, ep0]
          · rw [a3, b3]
          · rw [a4, b4]
          · rw [a5, b5]
        · have g : ∀ X : Nat → Nat → Int, flw X p 0 64 k = X 64 k := fun X => by
            unfold flw mcpy
            rw [if_neg (by omega), if_neg (by omega), mup_ne (by omega), mup_ne (by omega), mup_ne (by omega), mup_ne (by omega), mup_ne (by omega)]
          rw [g (dput (flw I p 0) 46 d'), e64]
      · by_cases hk : k < 6
        · rw [(flw_65 hp hk).1, (flw_65 hp hk).1, ep 3 (by omega)]
        · have g : ∀ X : Nat → Nat → Int, flw X p 0 65 k = X 65 k := fun X => by
            unfold flw mcpy
            rw [if_neg (by omega), if_pos rfl, mup_other (by omega), mup_other (by omega), mup_other (by omega), mup_other (by omega), mup_other (by omega)]
            exact if_neg hk
          rw [g (dput (flw I p 0) 46 d'), e65]
      · by_cases hk : k < 6
        · rw [(flw_65 hp hk).2, (flw_65 hp hk).2, ep 5 (by omega)]
        · have g : ∀ X : Nat → Nat → Int, flw X p 0 66 k = X 66 k := fun X => by
            unfold flw mcpy
            rw [if_pos rfl]
            refine (if_neg hk).trans ?_
            rw [if_neg (by omega), mup_other (by omega), mup_other (by omega), mup_other (by omega), mup_other (by omega), mup_other (by omega)]
          rw [g (dput (flw I p 0) 46 d'), e66]
  · have e : a = 46 + (a - 46) := by omega
    rw [e, dput_at (by omega), dput_at (by omega)]
theorem c_start3 {X L' : Nat → Nat → Int} (hI : INV p I L) (hX : stC p I X) (hL : lkeep L L') (h : ∀ d, agr (dat I 28) d → cIn p I (flw I p 0) (I p 15) d → d 0 10 ≤ 9000 → Q [] (mem Ls p (dput (flw I p 0) 46 d) L')) : m_Call i_C_startTrial [.inr (.inr 2)] (mem Ls p X L') Q := by
  have t := tf (v := 0) hI.1 hI.2.1
  have hk : ∀ a, a < 46 ∨ 67 ≤ a → X a = I a := hX.out
  have hIX : INV p X L' := INV_keeps hI ⟨fun a ha => hk a (by omega), fun k _ _ _ => by rw [hk 98 (by omega)], fun a h1 _ => hk a (by omega), fun r k _ _ => by rw [hk _ (by omega)], fun a h1 _ => hk a (by omega), by rw [hL 98 (by omega)], by rw [hL 98 (by omega)]⟩
  have hXp : X p = I p := hk p (by have := hI.1; unfold isPlan at this; omega)
  refine c_start hIX (fun d h1 h2 h3 => ?_)
  rw [dat_congr (fun j hj => hk _ (by omega))] at h1
  rw [hXp] at h2
  have hg := h d h1 ⟨hI.1, t.1, t.2.1, by rw [t.2.2], t.2.2, by rw [t.2.2]; exact h2⟩ h3
  rcases hX with rfl | ⟨d', rfl⟩
  · exact hg
  · rw [flw_flw hI.1]; exact hg
/-- the reference's memory between trials -/
def stM (I1 X : Nat → Nat → Int) : Prop := X = mup I1 98 2 0 ∨ ∃ e x, X = jm (J2 I1) 1 e x
theorem plain_plain {Y : Nat → Nat → Int} (h : Y 98 67 = 0 ∧ Y 98 68 = 0 ∧ Y 98 69 = 0 ∧ Y 98 70 = 0 ∧ Y 98 71 = 0 ∧ Y 98 72 = -1 ∧ Y 98 73 = -1 ∧ Y 98 74 = 0) : plainJ Y = Y := by
  obtain ⟨h1, h2, h3, h4, h5, h6, h7, h8⟩ := h
  unfold plainJ
  rw [mup_same h1, mup_same h2, mup_same h3, mup_same h4, mup_same h5, mup_same h6, mup_same h7, mup_same h8]
theorem jput_jput {b : Nat} {e e' : Nat → Nat → Int} : jput (jput J b e) b e' = jput J b e' := by
  funext a k
  rw [jput_app, jput_app, jput_app]
  split
  · rfl
  · rfl
theorem m_start3 {X : Nat → Nat → Int} (hI : INV p I L) (hk : ∀ a, a < 46 ∨ 67 ≤ a → I1 a = I a) (hX : stM I1 X) (hd : agr (dat I 28) d) (hc : cIn p I (flw I p 0) (I p 15) d) (h : ∀ e x, mIn p I (flw I p 0) (J2 I1) (I p 15) d e → Q [] (mem Ls p (jm (J2 I1) 1 e x) K)) : m_Call i_M_layTried [.inr (.inr 98)] (mem Ls p X K) Q := by
  rcases hX with rfl | ⟨e0, x0, rfl⟩
  · exact m_start2 hI hk hd hc (fun e he => h e _ he)
  · refine r_layTried (fun e he => ?_)
    have hpl := hI.2.1
    have hD := hI.2.2.2.1
    have hpp : plainJ (jm (J2 I1) 1 e0 x0) = jm (J2 I1) 1 e0 x0 := plain_plain (by
      rw [jm_98 (by omega), jm_98 (by omega), jm_98 (by omega), jm_98 (by omega), jm_98 (by omega), jm_98 (by omega), jm_98 (by omega), jm_98 (by omega)]
      exact plainJ_fl)
    rw [hpp]
    unfold jm
    rw [jput_jput]
    refine h e x0 ⟨hc, m_rel hI hk, WR_plain hI.1 hI.2.1, J2_67, ?_⟩
    rw [hc.2.2.2.2.1]
    refine DR_agrE hpl.1.2 hpl.2.2.1.2 ?_ (fun r k hr hk' => ?_) (DR_agr hpl.1.2 hpl.2.2.1.2 hd hD.1.2.2.1 hD.2.1)
    · rw [hd.1 11 (by omega) (by omega)]; exact hD.1.2.2.1
    · rw [he r k hr hk']
      unfold jm J2
      rw [jput1_lo hk', mup_other (by omega), plainJ_out (by omega), mup_other (by omega), hk _ (by omega), jat_at hr hk', Nat.zero_mul, Nat.zero_add]
/-- any two days laid from now are alike for the reference -/
theorem laid_eqv (hI : INV p I L) (hd : agr (dat I 28) d) (hc : cIn p I (flw I p 0) (I p 15) d) : mIn p I (flw I p 0) (J2 I) (I p 15) d (jat I 0) := by
  have hpl := hI.2.1
  have hD := hI.2.2.2.1
  refine ⟨hc, m_rel hI (fun _ _ => rfl), WR_plain hI.1 hI.2.1, J2_67, ?_⟩
  rw [hc.2.2.2.2.1]
  exact DR_agr hpl.1.2 hpl.2.2.1.2 hd hD.1.2.2.1 hD.2.1
end Q5
