/-! ===== phase 2: the log ===== -/
/-- two days alike in all that counts, the row as far as it goes -/
def agw (d d' : Nat → Nat → Int) : Prop := (∀ k, 8 ≤ k → k ≤ 15 → d' 0 k = d 0 k) ∧ (∀ j k, 1 ≤ j → j ≤ 8 → j ≠ 4 → k < 6 → d' j k = d j k) ∧ (∀ k : Nat, (k : Int) < d 0 11 → d' 4 k = d 4 k)
section W3
variable {P M : Int} {d d' d2 e : Nat → Nat → Int} {f f' : Nat → Int}
theorem agw.of (h : agr d d') (hn : d 0 11 ≤ 20) : agw d d' := ⟨h.1, fun j k h1 h2 _ h4 => h.row h1 h2 h4, fun k hk => h.four (by omega)⟩
theorem DOK_agw (hP : P ≤ 6) (hM : M ≤ 6) (h : agw d d') (hd : DOK P M d) : DOK P M d' := by
  have h8 := h.1 8 (by omega) (by omega)
  have h9 := h.1 9 (by omega) (by omega)
  have h10 := h.1 10 (by omega) (by omega)
  have h11 := h.1 11 (by omega) (by omega)
  have h12 := h.1 12 (by omega) (by omega)
  have h13 := h.1 13 (by omega) (by omega)
  have h14 := h.1 14 (by omega) (by omega)
  unfold DOK at *
  rw [h8, h9, h10, h11, h12, h13, h14]
  obtain ⟨a1, a2, a3, a4, a5, a6, a7, a8, a9, a10, a11⟩ := hd
  refine ⟨a1, a2, a3, a4, a5, a6, fun q hq => ?_, fun k hk => ?_, fun j k hj hk => ?_, fun k hk => ?_, fun m hm => ?_⟩
  · rw [h.2.1 1 q (by omega) (by omega) (by omega) (by omega), h.2.1 2 q (by omega) (by omega) (by omega) (by omega), h.2.1 3 q (by omega) (by omega) (by omega) (by omega)]; exact a7 q hq
  · rw [h.2.2 k hk]; exact a8 k hk
  · rw [h.2.2 j (by omega), h.2.2 k hk]; exact a9 j k hj hk
  · rw [h.2.2 k hk]; exact a10 k hk
  · rw [h.2.1 6 m (by omega) (by omega) (by omega) (by omega), h.2.1 7 m (by omega) (by omega) (by omega) (by omega), h.2.1 8 m (by omega) (by omega) (by omega) (by omega)]; exact a11 m hm
theorem dPl_agw {x : Int} (h : agw d d') : dPl d' x = dPl d x := by
  unfold dPl
  rw [h.1 11 (by omega) (by omega)]
  exact pOf_congr _ _ (fun j _ hj => h.2.2 j (by omega))
theorem dMode_agw {x : Int} (h : agw d d') : dMode d' x = dMode d x := by
  unfold dMode
  rw [h.1 12 (by omega) (by omega), dPl_agw h]
theorem DR_agw (hP : P ≤ 6) (hM : M ≤ 6) (h : agw d d') (hr : DR P M d e) : DR P M d' e := by
  have h10 := h.1 10 (by omega) (by omega)
  have h11 := h.1 11 (by omega) (by omega)
  have h12 := h.1 12 (by omega) (by omega)
  have h13 := h.1 13 (by omega) (by omega)
  have h15 := h.1 15 (by omega) (by omega)
  unfold DR at *
  rw [h10, h11, h12, h13, h15]
  obtain ⟨a1, a2, a3, a4, a5, a6, a7, a8⟩ := hr
  refine ⟨a1, a2, a3, a4, a5, fun q hq => ?_, fun k hk => ?_, fun m hm => ?_⟩
  · rw [dMode_agw h, h.2.1 1 q (by omega) (by omega) (by omega) (by omega), h.2.1 2 q (by omega) (by omega) (by omega) (by omega), h.2.1 3 q (by omega) (by omega) (by omega) (by omega)]; exact a6 q hq
  · rw [h.2.2 k hk]; exact a7 k hk
  · rw [h.2.1 5 m (by omega) (by omega) (by omega) (by omega), h.2.1 6 m (by omega) (by omega) (by omega) (by omega), h.2.1 7 m (by omega) (by omega) (by omega) (by omega), h.2.1 8 m (by omega) (by omega) (by omega) (by omega)]; exact a8 m hm
theorem SNP_agw {i : Nat} (hP : P ≤ 6) (hM : M ≤ 6) (h : agw d d') (hr : SNP f i P M d) : SNP f i P M d' := by
  have h11 := h.1 11 (by omega) (by omega)
  have h12 := h.1 12 (by omega) (by omega)
  have h13 := h.1 13 (by omega) (by omega)
  unfold SNP at *
  rw [h11, h12, h13]
  obtain ⟨a1, a2, a3, a4, a5, a6⟩ := hr
  refine ⟨fun q hq => ?_, fun m hm => ?_, fun k hk => ?_, a4, a5, a6⟩
  · rw [dMode_agw h, h.2.1 1 q (by omega) (by omega) (by omega) (by omega), h.2.1 2 q (by omega) (by omega) (by omega) (by omega)]; exact a1 q hq
  · rw [h.2.1 5 m (by omega) (by omega) (by omega) (by omega)]; exact a2 m hm
  · rw [h.2.2 k hk]; exact a3 k hk
theorem SNP_congr {i i' : Nat} (hP : P ≤ 6) (hM : M ≤ 6) (hn : d 0 11 ≤ 20) (h : ∀ j, j < 47 → f' (i' + j) = f (i + j)) (hr : SNP f i P M d) : SNP f' i' P M d := by
  unfold SNP at *
  obtain ⟨a1, a2, a3, a4, a5, a6⟩ := hr
  refine ⟨fun q hq => ?_, fun m hm => ?_, fun k hk => ?_, ?_, ?_, ?_⟩
  · rw [h q (by omega), Nat.add_assoc, h (6 + q) (by omega), Nat.add_assoc, h (12 + q) (by omega), ← Nat.add_assoc, ← Nat.add_assoc]; exact a1 q hq
  · rw [Nat.add_assoc, h (18 + m) (by omega), ← Nat.add_assoc]; exact a2 m hm
  · rw [Nat.add_assoc, h (24 + k) (by omega), ← Nat.add_assoc]; exact a3 k hk
  · rw [h 44 (by omega)]; exact a4
  · rw [h 45 (by omega)]; exact a5
  · rw [h 46 (by omega)]; exact a6
theorem uOK_agw {a w o : Int} (h : agw d d') (hu : uOK P M d a w o) : uOK P M d' a w o := by
  unfold uOK at *
  rw [dPl_agw h, h.1 11 (by omega) (by omega)]; exact hu
theorem und_agw {a w o : Int} (hP : P ≤ 6) (hM : M ≤ 6) (hd : DOK P M d) (hu : uOK P M d a w o) (h : agw d d') : agw (und d a w o) (und d' a w o) := by
  have hn := hd.2.2.1
  have h11 := h.1 11 (by omega) (by omega)
  unfold und
  rw [dPl_agw h]
  by_cases a0 : a = 0
  · rw [if_pos a0, if_pos a0]
    unfold dOut rowOut
    rw [h11]
    refine ⟨fun k h1 h2 => ?_, fun j k h1 h2 h3 h4 => ?_, fun k hk => ?_⟩
    · simp only [mup_app, rup_app]; have := h.1 k h1 h2; grind
    · simp only [mup_app, rup_app]; have := h.2.1 j k h1 h2 h3 h4; grind
    · have hk' : (k : Int) < d 0 11 - 1 := by simpa [mup_app] using hk
      simp only [mup_app, rup_app]
      have b1 := h.2.2 k (by omega)
      have b2 := h.2.2 (k + 1) (by omega)
      grind
  · rw [if_neg a0, if_neg a0]
    by_cases a1 : a = 1
    · rw [if_pos a1, if_pos a1]
      unfold uOK at hu
      unfold dPut rowIn
      rw [h11]
      refine ⟨fun k h1 h2 => ?_, fun j k h1 h2 h3 h4 => ?_, fun k hk => ?_⟩
      · simp only [mup_app, rup_app]; have := h.1 k h1 h2; grind
      · simp only [mup_app, rup_app]; have := h.2.1 j k h1 h2 h3 h4; grind
      · have hk' : (k : Int) < d 0 11 + 1 := by simpa [mup_app] using hk
        rw [mup_ne (by omega), mup_ne (by omega), rup_self, rup_self]
        show (if k = o.toNat then w else if o.toNat < k ∧ k ≤ (d 0 11).toNat then d' 4 (k - 1) else d' 4 k) = (if k = o.toNat then w else if o.toNat < k ∧ k ≤ (d 0 11).toNat then d 4 (k - 1) else d 4 k)
        by_cases c1 : k = o.toNat
        · rw [if_pos c1, if_pos c1]
        · rw [if_neg c1, if_neg c1]
          by_cases c2 : o.toNat < k ∧ k ≤ (d 0 11).toNat
          · rw [if_pos c2, if_pos c2, h.2.2 (k - 1) (by omega)]
          · rw [if_neg c2, if_neg c2, h.2.2 k (by omega)]
    · rw [if_neg a1, if_neg a1]
      have gen : ∀ (j : Nat) (k : Nat) (v : Int) {e e' : Nat → Nat → Int}, ¬ (j = 0 ∧ k = 11) → j ≠ 4 → agw e e' → agw (mup e j k v) (mup e' j k v) := fun j k v e e' h1 h2 h3 => by
        refine ⟨fun k' b1 b2 => ?_, fun j' k' b1 b2 b3 b4 => ?_, fun k' hk => ?_⟩
        · simp only [mup_app]; rw [h3.1 k' b1 b2]
        · simp only [mup_app]; rw [h3.2.1 j' k' b1 b2 b3 b4]
        · rw [mup_ne (by omega)] at hk
          rw [mup_ne (by omega), mup_ne (by omega)]; exact h3.2.2 k' hk
      by_cases a2 : a = 2
      · rw [if_pos a2, if_pos a2]; exact gen _ _ _ (by omega) (by omega) (gen _ _ _ (by omega) (by omega) h)
      · rw [if_neg a2, if_neg a2]
        by_cases a3 : a = 3
        · rw [if_pos a3, if_pos a3]; exact gen _ _ _ (by omega) (by omega) h
        · rw [if_neg a3, if_neg a3]; exact gen _ _ _ (by omega) (by omega) h
theorem LGP_agw {ac wh od f : Nat → Int} (hP : P ≤ 6) (hM : M ≤ 6) : ∀ (n : Nat) {d d' : Nat → Nat → Int}, DOK P M d → agw d d' → LGP ac wh od f P M n d → LGP ac wh od f P M n d'
  | 0, _, _, _, _, _ => True.intro
  | n + 1, d, d', hd, h, hl => by
    rw [LGP] at hl ⊢
    obtain ⟨h1, h2, h3, h4⟩ := hl
    have hu := und_agw hP hM hd h1 h
    exact ⟨uOK_agw h h1, DOK_agw hP hM hu h2, SNP_agw hP hM hu h3, LGP_agw hP hM n h2 hu h4⟩
/-- rows otherwise written, s entries on -/
theorem LGP_shift {ac wh od f ac' wh' od' f' : Nat → Int} {s : Nat} (hP : P ≤ 6) (hM : M ≤ 6) : ∀ (n : Nat) {d : Nat → Nat → Int}, (∀ k, k < n → ac' k = ac (k + s) ∧ wh' k = wh (k + s) ∧ od' k = od (k + s)) → (∀ k j, k < n → j < 47 → f' (47 * k + j) = f (47 * (k + s) + j)) → LGP ac wh od f P M (n + s) d → LGP ac' wh' od' f' P M n d
  | 0, _, _, _, _ => True.intro
  | n + 1, d, hr, hf, hl => by
    rw [show n + 1 + s = (n + s) + 1 by omega, LGP] at hl
    rw [LGP]
    obtain ⟨h1, h2, h3, h4⟩ := hl
    have e := hr n (by omega)
    rw [e.1, e.2.1, e.2.2]
    exact ⟨h1, h2, SNP_congr hP hM h2.2.2.1.2 (fun j hj => hf n j (by omega) hj) h3, LGP_shift hP hM n (fun k hk => hr k (by omega)) (fun k j hk hj => hf k j (by omega) hj) h4⟩
/-- a deed more -/
theorem LGP_push {ac wh od f ac' wh' od' f' : Nat → Int} {n n1 s : Nat} {a w o : Int} (hP : P ≤ 6) (hM : M ≤ 6) (hn : n1 + s = n) (hd : DOK P M d) (hl : LGP ac wh od f P M n d) (hr : ∀ k, k < n1 → ac' k = ac (k + s) ∧ wh' k = wh (k + s) ∧ od' k = od (k + s)) (hf : ∀ k j, k < n1 → j < 47 → f' (47 * k + j) = f (47 * (k + s) + j)) (h1 : ac' n1 = a ∧ wh' n1 = w ∧ od' n1 = o) (hag : agw d (und d2 a w o)) (hu : uOK P M d2 a w o) (hs : SNP f' (47 * n1) P M d) : LGP ac' wh' od' f' P M (n1 + 1) d2 := by
  subst hn
  rw [LGP, h1.1, h1.2.1, h1.2.2]
  exact ⟨hu, DOK_agw hP hM hag hd, SNP_agw hP hM hag hs, LGP_agw hP hM n1 hd hag (LGP_shift hP hM n1 hr hf hl)⟩
end W3
section W4
variable {Ls p kc ks : Nat} {P M : Int} {I I0 I1 I2 J K L L1 L2 K2 X Y Z d d' e : Nat → Nat → Int} {Q : List mV → mM → Prop} {x : Int}
/-- what the class notes -/
def NTD (X X2 : Nat → Nat → Int) (n n1 s : Nat) (a w o : Int) : Prop := (∀ b, b ≠ 94 → b ≠ 95 → b ≠ 96 → b ≠ 97 → X2 b = X b) ∧ X2 94 3 = ((n1 + 1 : Nat) : Int) ∧ n1 + s = n ∧ n1 < 20 ∧ (∀ k, k < n1 → X2 95 k = X 95 (k + s) ∧ X2 96 k = X 96 (k + s) ∧ X2 97 k = X 97 (k + s)) ∧ X2 95 n1 = a ∧ X2 96 n1 = w ∧ X2 97 n1 = o
theorem note_loop {a w o : Int} (h94 : X 94 3 = 20) (hQ : ∀ X2, NTD X X2 20 19 1 a w o → Q [] (mem Ls p X2 L)) : ∀ (t k : Nat) (X' : Nat → Nat → Int), k + t = 20 → 1 ≤ k → (∀ b, b ≠ 95 → b ≠ 96 → b ≠ 97 → X' b = X b) → (∀ j, j + 1 < k → X' 95 j = X 95 (j + 1) ∧ X' 96 j = X 96 (j + 1) ∧ X' 97 j = X 97 (j + 1)) → (∀ j, k ≤ j + 1 → X' 95 j = X 95 j ∧ X' 96 j = X 96 j ∧ X' 97 j = X 97 j) → m_Wp i_Log_note 12 kc ks [(0, .inr (.inr 94)), (1, .inl a), (2, .inl w), (3, .inl o), (4, .inl (k : Int))] [] (mem Ls p X' L) Q := by
  intro t
  induction t with
  | zero =>
    intro k X' hk hk1 h1 h2 h3
    refine T_Log_note_12 ⟨fun _ => ⟨by omega, by omega, by omega, ?_⟩, fun h => by omega⟩
    refine hQ _ ⟨fun b b1 b2 b3 b4 => ?_, ?_, rfl, by omega, fun j hj => ?_, ?_, ?_, ?_⟩
    · rw [mup_other b1, mup_other b4, mup_other b3, mup_other b2, mup_other b1]; exact h1 b b2 b3 b4
    · rw [mup_eq rfl rfl, wr_of (by omega) (by omega)]; rfl
    · have := h2 j (by omega)
      have hj19 : ¬ j = 19 := by omega
      simp [mup_app, hj19, this]
    · simp [mup_app]
    · simp [mup_app]
    · simp [mup_app]
  | succ t ih =>
    intro k X' hk hk1 h1 h2 h3
    refine T_Log_note_12 ⟨fun h => by omega, fun _ => ?_⟩
    rw [wr_of (z := (k : Int) - 1) (by omega) (by omega), wr_of (z := (k : Int) + 1) (by omega) (by omega), Int.toNat_natCast, show ((k : Int) - 1).toNat = k - 1 by omega]
    have e := h3 k (by omega)
    refine ⟨by omega, by omega, by omega, by omega, by omega, by omega, ih (k + 1) _ (by omega) (by omega) (fun b b1 b2 b3 => ?_) (fun j hj => ?_) (fun j hj => ?_)⟩
    · rw [mup_other b3, mup_other b2, mup_other b1]; exact h1 b b1 b2 b3
    · by_cases hjk : j = k - 1
      · subst hjk
        rw [show k - 1 + 1 = k by omega]
        simp [mup_app, e]
      · have := h2 j (by omega)
        simp [mup_app, hjk, this]
    · have hjk : ¬ j = k - 1 := by omega
      have := h3 j (by omega)
      simp [mup_app, hjk, this]
theorem q_note {a w o : Int} {n : Nat} (hn : X 94 3 = (n : Int)) (h20 : n ≤ 20) (hQ : ∀ X2 n1 s, NTD X X2 n n1 s a w o → (s = 0 ∨ n = 20) → (s = 1 ∨ n < 20) → Q [] (mem Ls p X2 L)) : m_Call i_Log_note [.inr (.inr 94), .inl a, .inl w, .inl o] (mem Ls p X L) Q := by
  refine E_Log_note ?_
  rw [hn, Int.toNat_natCast]
  refine ⟨fun h => ⟨by omega, by omega, by omega, ?_⟩, fun h => ?_⟩
  · refine hQ _ n 0 ⟨fun b b1 b2 b3 b4 => ?_, ?_, by omega, by omega, fun k hk => ?_, ?_, ?_, ?_⟩ (Or.inl rfl) (Or.inr (by omega))
    · rw [mup_other b1, mup_other b4, mup_other b3, mup_other b2]
    · rw [mup_eq rfl rfl, wr_of (by omega) (by omega)]; omega
    · have hkn : ¬ k = n := by omega
      simp [mup_app, hkn]
    · simp [mup_app]
    · simp [mup_app]
    · simp [mup_app]
  · have h20' : n = 20 := by omega
    subst h20'
    exact note_loop hn (fun X2 hX2 => hQ X2 19 1 hX2 (Or.inr rfl) (Or.inl rfl)) 19 1 X (by omega) (by omega) (fun _ _ _ _ => rfl) (fun j hj => by omega) (fun j _ => ⟨rfl, rfl, rfl⟩)
end W4
