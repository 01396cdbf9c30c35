/-! the first of the smallest sets -/
def srI (g pc : Nat → Int) (y s : Int) : Nat → Nat → Int
  | _, 0 => -1
  | k, n + 1 => if pc k = s ∧ g k ≤ y then (k : Int) else srI g pc y s (k + 1) n
def srO (g pc : Nat → Int) (y : Int) (N : Nat) (z : Int) : Nat → Nat → Int
  | _, 0 => z
  | s, m + 1 => if srI g pc y (s : Int) 0 N = -1 then srO g pc y N z (s + 1) m else srI g pc y (s : Int) 0 N
def srB (g pc : Nat → Int) (y : Int) : Nat → Nat → Int → Int
  | _, 0, b => b
  | k, n + 1, b => srB g pc y (k + 1) n (if (b < 0 ∨ pc k < pc b.toNat) ∧ g k ≤ y then (k : Int) else b)
def isB (g pc : Nat → Int) (y : Int) (N : Nat) (z b : Int) : Prop := (b = z ∧ ∀ r : Nat, r < N → ¬ g r ≤ y) ∨ ∃ r : Nat, b = (r : Int) ∧ r < N ∧ g r ≤ y ∧ ∀ r' : Nat, r' < N → g r' ≤ y → pc r < pc r' ∨ (pc r = pc r' ∧ r ≤ r')
theorem isB_one {g pc : Nat → Int} {y : Int} {N : Nat} {z b b' : Int} (h : isB g pc y N z b) (h' : isB g pc y N z b') : b = b' := by
  rcases h with ⟨h1, h2⟩ | ⟨r, h1, h2, h3, h4⟩
  · rcases h' with ⟨a1, a2⟩ | ⟨r', a1, a2, a3, a4⟩
    · rw [h1, a1]
    · exact absurd a3 (h2 r' a2)
  · rcases h' with ⟨a1, a2⟩ | ⟨r', a1, a2, a3, a4⟩
    · exact absurd h3 (a2 r h2)
    · have b1 := h4 r' a2 a3
      have b2 := a4 r h2 h3
      rw [h1, a1]; omega
theorem srI_spec {g pc : Nat → Int} {y s : Int} : ∀ n k : Nat, (srI g pc y s k n = -1 ∧ ∀ r : Nat, k ≤ r → r < k + n → ¬ (pc r = s ∧ g r ≤ y)) ∨ ∃ r : Nat, srI g pc y s k n = (r : Int) ∧ k ≤ r ∧ r < k + n ∧ pc r = s ∧ g r ≤ y ∧ ∀ r' : Nat, k ≤ r' → r' < r → ¬ (pc r' = s ∧ g r' ≤ y)
  | 0, k => Or.inl ⟨rfl, fun r h1 h2 => by omega⟩
  | n + 1, k => by
    rw [srI]
    by_cases h : pc k = s ∧ g k ≤ y
    · rw [if_pos h]
      exact Or.inr ⟨k, rfl, by omega, by omega, h.1, h.2, fun r' h1 h2 => by omega⟩
    · rw [if_neg h]
      rcases srI_spec (g := g) (pc := pc) (y := y) (s := s) n (k + 1) with ⟨h1, h2⟩ | ⟨r, h1, h2, h3, h4, h5, h6⟩
      · refine Or.inl ⟨h1, fun r h3 h4 => ?_⟩
        by_cases hr : r = k
        · subst hr; exact h
        · exact h2 r (by omega) (by omega)
      · refine Or.inr ⟨r, h1, by omega, by omega, h4, h5, fun r' a1 a2 => ?_⟩
        by_cases hr : r' = k
        · subst hr; exact h
        · exact h6 r' (by omega) a2
theorem srO_spec {g pc : Nat → Int} {y : Int} {N : Nat} {z : Int} {T : Nat} (hpc : ∀ r : Nat, r < N → 0 ≤ pc r ∧ pc r ≤ T) : ∀ m s : Nat, s + m = T + 1 → (∀ r : Nat, r < N → g r ≤ y → (s : Int) ≤ pc r) → isB g pc y N z (srO g pc y N z s m)
  | 0, s, hs, h => by
    rw [srO]
    exact Or.inl ⟨rfl, fun r hr hg => by have := h r hr hg; have := hpc r hr; omega⟩
  | m + 1, s, hs, h => by
    rw [srO]
    rcases srI_spec (g := g) (pc := pc) (y := y) (s := (s : Int)) N 0 with ⟨h1, h2⟩ | ⟨r, h1, h2, h3, h4, h5, h6⟩
    · rw [if_pos h1]
      refine srO_spec hpc m (s + 1) (by omega) (fun r hr hg => ?_)
      have a1 := h r hr hg
      have a2 := h2 r (by omega) (by omega)
      by_cases hp : pc r = (s : Int)
      · exact absurd ⟨hp, hg⟩ a2
      · omega
    · rw [if_neg (by rw [h1]; omega), h1]
      refine Or.inr ⟨r, rfl, by omega, h5, fun r' hr' hg => ?_⟩
      have a1 := h r' hr' hg
      by_cases hp : pc r' = (s : Int)
      · right
        refine ⟨by omega, ?_⟩
        by_cases hlt : r' < r
        · exact absurd ⟨hp, hg⟩ (h6 r' (by omega) hlt)
        · omega
      · left; omega
theorem srB_spec {g pc : Nat → Int} {y : Int} {z : Int} (hz : z < 0) : ∀ (n k : Nat) (b : Int), isB g pc y k z b → isB g pc y (k + n) z (srB g pc y k n b)
  | 0, k, b, h => h
  | n + 1, k, b, h => by
    rw [srB, show k + (n + 1) = k + 1 + n by omega]
    refine srB_spec hz n (k + 1) _ ?_
    by_cases hg : g k ≤ y
    · rcases h with ⟨h1, h2⟩ | ⟨r, h1, h2, h3, h4⟩
      · rw [if_pos ⟨Or.inl (by omega), hg⟩]
        refine Or.inr ⟨k, rfl, by omega, hg, fun r' hr' hg' => ?_⟩
        by_cases hr : r' = k
        · subst hr; omega
        · exact absurd hg' (h2 r' (by omega))
      · subst h1
        by_cases hp : pc k < pc r
        · rw [if_pos ⟨Or.inr (by rw [Int.toNat_natCast]; exact hp), hg⟩]
          refine Or.inr ⟨k, rfl, by omega, hg, fun r' hr' hg' => ?_⟩
          by_cases hr : r' = k
          · subst hr; omega
          · have := h4 r' (by omega) hg'; omega
        · rw [if_neg (by rw [Int.toNat_natCast]; omega)]
          refine Or.inr ⟨r, rfl, by omega, h3, fun r' hr' hg' => ?_⟩
          by_cases hr : r' = k
          · subst hr; omega
          · exact h4 r' (by omega) hg'
    · rw [if_neg (fun h => hg h.2)]
      rcases h with ⟨h1, h2⟩ | ⟨r, h1, h2, h3, h4⟩
      · refine Or.inl ⟨h1, fun r hr => ?_⟩
        by_cases hrk : r = k
        · subst hrk; exact hg
        · exact h2 r (by omega)
      · refine Or.inr ⟨r, h1, by omega, h3, fun r' hr' hg' => ?_⟩
        by_cases hr : r' = k
        · subst hr; exact absurd hg' hg
        · exact h4 r' (by omega) hg'
/-- how many bits, by the class and by the reference -/
def moF (z : Int) : Nat → Nat → Int → Int
  | _, 0, y => y
  | k, n + 1, y => moF z (k + 1) n (wr (y + m_and (m_shr z (k : Int)) 1))
theorem bc_mo : ∀ z : Fin 64, moF (z.val : Int) 0 6 0 = bcE (z.val : Int) ∧ 0 ≤ bcE (z.val : Int) := by decide +kernel
theorem bc_le : ∀ P : Fin 7, ∀ z : Fin 64, z.val < 2 ^ P.val → bcE (z.val : Int) ≤ (P.val : Int) := by decide +kernel
theorem all_eq : ∀ P : Fin 7, wr (m_shl 1 (P.val : Int) - 1) = (2 ^ P.val : Nat) - 1 ∧ m_shl 1 (P.val : Int) = ((2 ^ P.val : Nat) : Int) := by decide +kernel
theorem two_pow_le {n : Nat} (h : n ≤ 6) : 2 ^ n ≤ 64 ∧ 1 ≤ 2 ^ n := by
  have h7 : n = 0 ∨ n = 1 ∨ n = 2 ∨ n = 3 ∨ n = 4 ∨ n = 5 ∨ n = 6 := by omega
  rcases h7 with rfl | rfl | rfl | rfl | rfl | rfl | rfl <;> decide
section Q6
variable {Ls p kc ks : Nat} {P M : Int} {I I0 I1 J K L L1 K2 d d' e : Nat → Nat → Int} {Q : List mV → mM → Prop} {x : Int}
theorem now_jm {Y : Nat → Nat → Int} : Y = jm Y 0 (jat Y 0) (Y 98 52) := by
  unfold jm; rw [mup_same (J := Y) (k := 98) (j := 52) rfl, jput_jat]
theorem now_jm2 {v : Int} : mup I 98 2 v = jm (mup I 98 2 v) 0 (jat I 0) (mup I 98 2 v 98 52) := by
  have h := now_jm (Y := mup I 98 2 v)
  have h2 : jat (mup I 98 2 v) 0 = jat I 0 := jat_congr (fun r k _ _ => mup_ne (by omega))
  rw [h2] at h; exact h
theorem q_bitCount {z : Nat} (h : Q [.inl (bcE (z : Int))] (mem Ls p I L)) : m_Call i_J_bitCount [.inl (z : Int)] (mem Ls p I L) Q := E_J_bitCount h
theorem r_manyOf {z : Nat} (hz : z < 64) (h : Q [.inl (bcE (z : Int))] (mem Ls p I L)) : m_Call i_M_manyOf [.inl (z : Int)] (mem Ls p I L) Q := by
  rw [← (bc_mo ⟨z, hz⟩).1] at h
  refine E_M_manyOf ?_
  have key : ∀ (n k : Nat) (y : Int), k + n = 6 → Q [.inl (moF (z : Int) k n y)] (mem Ls p I L) → m_Wp i_M_manyOf 4 0 0 [(0, .inl (z : Int)), (1, .inl y), (2, .inl (k : Int))] [] (mem Ls p I L) Q := by
    intro n
    induction n with
    | zero => intro k y hk hQ; exact T_M_manyOf_4 ⟨fun _ => hQ, fun h => by omega⟩
    | succ n ih =>
      intro k y hk hQ
      rw [moF] at hQ
      refine T_M_manyOf_4 ⟨fun h => by omega, fun _ => ?_⟩
      rw [show wr ((k : Int) + 1) = ((k + 1 : Nat) : Int) by rw [wr_of] <;> omega]
      exact ih (k + 1) _ (by omega) hQ
  exact key 6 0 0 (by omega) h
/-! liars: clocks as they are -/
theorem bt_wo : ∀ P : Fin 7, ∀ w : Fin 64, ∀ k : Fin 6, w.val < 2 ^ P.val → k.val < P.val → (bt (m_and (wr (m_shl 1 (P.val : Int) - 1)) (m_xor (w.val : Int) (-1))) k.val ↔ ¬ bt (w.val : Int) k.val) := by decide +kernel
def liG (f : Nat → Int) (P : Int) (w : Nat) : Int := spF f (fun j => b01 (¬ bt (w : Int) j)) 0 P.toNat 0 0 0
theorem li_sp {f : Nat → Int} {w : Nat} (hP : 0 ≤ P ∧ P ≤ 6) (hw : w < 2 ^ P.toNat) : spF f (fun j => b01 (bt (m_and (wr (m_shl 1 P - 1)) (m_xor (w : Int) (-1))) j)) 0 P.toNat 0 0 0 = liG f P w := by
  have h2 := (two_pow_le (n := P.toNat) (by omega)).1
  refine spF_congr _ _ _ _ _ (fun j _ hj => ?_)
  have h1 := bt_wo ⟨P.toNat, by omega⟩ ⟨w, by omega⟩ ⟨j, by omega⟩ hw (by show j < P.toNat; omega)
  simp only at h1
  rw [show ((P.toNat : Nat) : Int) = P by omega] at h1
  rw [b01_one, b01_one]; exact h1
theorem bt_full : ∀ P : Fin 7, ∀ k : Fin 6, k.val < P.val → bt ((2 ^ P.val - 1 : Nat) : Int) k.val := by decide +kernel
theorem liG_full {f : Nat → Int} (hP : 0 ≤ P ∧ P ≤ 6) : liG f P (2 ^ P.toNat - 1) = 0 := by
  unfold liG
  have key : ∀ (n k : Nat), k + n = P.toNat → spF f (fun j => b01 (¬ bt ((2 ^ P.toNat - 1 : Nat) : Int) j)) k n 0 0 0 = 0 := by
    intro n
    induction n with
    | zero => intro k hk; rfl
    | succ n ih =>
      intro k hk
      have h1 := bt_full ⟨P.toNat, by omega⟩ ⟨k, by omega⟩ (by show k < P.toNat; omega)
      rw [spF, if_neg (fun z => (b01_one.mp z) h1)]
      exact ih (k + 1) (by omega)
  exact key P.toNat 0 (by omega)
theorem liars_c {y : Int} (hI : INV p I L) : ∀ (m s : Nat), (s : Int) + m = I p 13 + 1 → Q [.inl (srO (liG (I 29) (I p 13)) (fun k => bcE (k : Int)) y (2 ^ (I p 13).toNat) (wr (m_shl 1 (I p 13) - 1)) s m)] (mem Ls p I L) → m_Wp i_C_liars 26 kc ks [(0, .inr (.inr 2)), (1, .inl y), (2, .inl (wr (m_shl 1 (I p 13) - 1))), (3, .inl (s : Int))] [] (mem Ls p I L) Q := by
  have hp := hI.1
  have h6 := hI.2.1.1
  have hal := all_eq ⟨(I p 13).toNat, by omega⟩
  simp only at hal
  rw [show (((I p 13).toNat : Nat) : Int) = I p 13 by omega] at hal
  have h2 := two_pow_le (n := (I p 13).toNat) (by omega)
  -- the inner loop
  have inner : ∀ (s : Nat) (V : Int), (s : Int) ≤ 6 → (srI (liG (I 29) (I p 13)) (fun k => bcE (k : Int)) y (s : Int) 0 (2 ^ (I p 13).toNat) = -1 → m_Wp i_C_liars 26 kc ks [(0, .inr (.inr 2)), (1, .inl y), (2, .inl (wr (m_shl 1 (I p 13) - 1))), (3, .inl ((s + 1 : Nat) : Int))] [] (mem Ls p I L) Q) → (srI (liG (I 29) (I p 13)) (fun k => bcE (k : Int)) y (s : Int) 0 (2 ^ (I p 13).toNat) = V → V ≠ -1 → Q [.inl V] (mem Ls p I L)) → ∀ (n k : Nat), k + n = 2 ^ (I p 13).toNat → srI (liG (I 29) (I p 13)) (fun k => bcE (k : Int)) y (s : Int) 0 (2 ^ (I p 13).toNat) = srI (liG (I 29) (I p 13)) (fun k => bcE (k : Int)) y (s : Int) k n → (V = srI (liG (I 29) (I p 13)) (fun k => bcE (k : Int)) y (s : Int) k n) → m_Wp i_C_liars 40 kc ks [(0, .inr (.inr 2)), (1, .inl y), (2, .inl (wr (m_shl 1 (I p 13) - 1))), (3, .inl (s : Int)), (4, .inl (k : Int))] [] (mem Ls p I L) Q := by
    intro s V hs K1 K2 n
    induction n with
    | zero =>
      intro k hk hE hV
      refine T_C_liars_40 ?_
      rw [hal.1, show wr ((s : Int) + 1) = ((s + 1 : Nat) : Int) by rw [wr_of] <;> omega]
      rw [hal.1] at K1
      exact ⟨fun _ => K1 hE, fun h => by omega⟩
    | succ n ih =>
      intro k hk hE hV
      rw [srI] at hE hV
      refine T_C_liars_40 ⟨fun h => by rw [hal.1] at h; omega, fun _ => q_bitCount (T_C_liars_51 ?_)⟩
      have hw : wr ((k : Int) + 1) = ((k + 1 : Nat) : Int) := by rw [wr_of] <;> omega
      rw [hw]
      refine ⟨fun h => ?_, fun h => ?_⟩
      · rw [if_neg (fun z => h z.1)] at hE hV; exact ih (k + 1) (by omega) hE hV
      · have hd28 := hI.2.2.2.1.1
        have hq := q_spread (Ls := Ls) (p := p) (c := 28) (I := I) (L := L) (z := m_and (wr (m_shl 1 (I p 13) - 1)) (m_xor (k : Int) (-1))) (d := dat I 28) (Q := fun v M' => m_Wp i_C_liars 68 kc ks [(0, .inr (.inr 2)), (1, .inl y), (2, .inl (wr (m_shl 1 (I p 13) - 1))), (3, .inl (s : Int)), (4, .inl (k : Int))] (v ++ []) M' Q) (Or.inl rfl) h6 hd28
        rw [dput_dat] at hq
        refine hq ?_
        rw [li_sp h6 (by omega), dat_at (by omega), show 28 + 1 = 29 from rfl]
        refine T_C_liars_68 ⟨fun h3 => ?_, fun h3 => ?_⟩
        · rw [if_neg (fun z => by have := z.2; omega)] at hE hV
          rw [hw]; exact ih (k + 1) (by omega) hE hV
        · rw [if_pos ⟨Classical.not_not.mp h, by omega⟩] at hE hV
          rw [← hV]
          exact K2 (by rw [hE, hV]) (by rw [hV]; omega)
  intro m
  induction m with
  | zero =>
    intro s hs hQ
    exact T_C_liars_26 hp ⟨fun _ => hQ, fun h => by omega⟩
  | succ m ih =>
    intro s hs hQ
    rw [srO] at hQ
    refine T_C_liars_26 hp ⟨fun h => by omega, fun _ => ?_⟩
    refine inner s _ (by omega) (fun h => ?_) (fun h h3 => ?_) (2 ^ (I p 13).toNat) 0 (by omega) rfl rfl
    · rw [if_pos h] at hQ; exact ih (s + 1) (by omega) hQ
    · rw [if_neg (by rw [h]; exact h3), h] at hQ; rw [← h]; rw [h]; exact hQ
theorem liars_m {y : Int} (hI : INV p I L) : ∀ (n k : Nat) (b : Int), k + n = 2 ^ (I p 13).toNat → (b = -1 ∨ (0 ≤ b ∧ b < ((2 ^ (I p 13).toNat : Nat) : Int))) → Q [.inl (srB (liG (I 29) (I p 13)) (fun k => bcE (k : Int)) y k n b)] (mem Ls p (mup I 98 2 0) L) → m_Wp i_M_liars 21 kc ks [(0, .inr (.inr 98)), (1, .inl y), (2, .inl b), (3, .inl (k : Int))] [] (mem Ls p (mup I 98 2 0) L) Q := by
  have h6 := hI.2.1.1
  have h12 : I 98 12 = I p 13 := hI.2.2.1.1.1
  have hal := all_eq ⟨(I p 13).toNat, by omega⟩
  simp only at hal
  rw [show (((I p 13).toNat : Nat) : Int) = I p 13 by omega] at hal
  have h2 := two_pow_le (n := (I p 13).toNat) (by omega)
  intro n
  induction n with
  | zero =>
    intro k b hk hb hQ
    refine T_M_liars_21 ?_
    rw [mup_ne (by omega), h12, hal.2]
    exact ⟨fun _ => hQ, fun h => by omega⟩
  | succ n ih =>
    intro k b hk hb hQ
    have hw : wr ((k : Int) + 1) = ((k + 1 : Nat) : Int) := by rw [wr_of] <;> omega
    rw [srB] at hQ
    -- a try
    have tr : (b < 0 ∨ bcE (k : Int) < bcE ((b.toNat : Nat) : Int)) → m_Call i_M_spread [.inr (.inr 98), .inl 0, .inl (k : Int)] (mem Ls p (mup I 98 2 0) L) (fun v M' => m_Wp i_M_liars 55 kc ks [(0, .inr (.inr 98)), (1, .inl y), (2, .inl b), (3, .inl (k : Int))] (v ++ []) M' Q) := fun hor => by
      have e0 : mup I 98 2 0 = jm (mup I 98 2 0) 0 (jat I 0) (mup I 98 2 0 98 52) := now_jm2
      have hr := r_spread (Ls := Ls) (p := p) (b := 0) (J := mup I 98 2 0) (K := L) (e := jat I 0) (x := mup I 98 2 0 98 52) (z := (k : Int)) (d := dat I 28) (Q := fun v M' => m_Wp i_M_liars 55 kc ks [(0, .inr (.inr 98)), (1, .inl y), (2, .inl b), (3, .inl (k : Int))] (v ++ []) M' Q) (by omega) h6 (by rw [mup_ne (by omega), h12]) hI.2.2.2.1.1 hI.2.2.2.1.2.1
      rw [← e0] at hr
      refine hr ?_
      rw [dat_at (by omega), show 28 + 1 = 29 from rfl]
      refine T_M_liars_55 ?_
      rw [hw]
      refine ⟨fun h => ?_, fun h => ?_⟩
      · rw [if_neg (fun z => by have := z.2; unfold liG at this; omega)] at hQ; exact ih (k + 1) b (by omega) hb hQ
      · rw [if_pos ⟨hor, by unfold liG; omega⟩] at hQ; exact ih (k + 1) _ (by omega) (Or.inr ⟨by omega, by omega⟩) hQ
    refine T_M_liars_21 ?_
    rw [mup_ne (by omega), h12, hal.2]
    refine ⟨fun h => by omega, fun _ => ⟨fun h => tr (Or.inl h), fun h => r_manyOf (by omega) (T_M_liars_39 ?_)⟩⟩
    rw [show b = ((b.toNat : Nat) : Int) by omega] at tr ⊢
    refine r_manyOf (by omega) (T_M_liars_43 ⟨fun h3 => tr (Or.inr h3), fun h3 => ?_⟩)
    rw [hw]
    rw [if_neg (fun z => by have := z.1; omega)] at hQ
    rw [← show b = ((b.toNat : Nat) : Int) by omega]
    exact ih (k + 1) b (by omega) hb hQ
theorem pair_liars {a : Int} (hI : INV p I L) : PAIR Ls i_C_liars i_M_liars [.inl a] (mem Ls p I L) := by
  have h6 := hI.2.1.1
  have h2 := two_pow_le (n := (I p 13).toNat) (by omega)
  have ref : ¬ (0 ≤ a ∧ a ≤ 60) → m_Call i_M_liars [.inr (.inr 98), .inl a] (mem Ls p I L) (fun w M2 => w = [.inl (-1)] ∧ OKM Ls M2) := fun h => by
    refine E_M_liars (r_isIn (T_M_liars_12 ⟨fun h2 => absurd (b01_zero.mpr h) h2, fun _ => ⟨rfl, p, _, _, rfl, INV_thrown hI⟩⟩))
  refine E_C_liars hI.1 ⟨fun h => ref (by omega), fun h => ⟨fun h2 => ?_, fun h2 => ref (by omega)⟩⟩
  refine liars_c hI ((I p 13).toNat + 1) 0 (by omega) ?_
  refine E_M_liars (r_isIn (T_M_liars_12 ⟨fun h3 => ?_, fun h3 => absurd (b01_zero.mp (Classical.not_not.mp h3)) (fun z => z (by omega))⟩))
  refine liars_m hI (2 ^ (I p 13).toNat) 0 (-1) (by omega) (Or.inl rfl) ⟨?_, p, _, _, rfl, INV_thrown hI⟩
  have hpc : ∀ r : Nat, r < 2 ^ (I p 13).toNat → 0 ≤ bcE (r : Int) ∧ bcE (r : Int) ≤ ((I p 13).toNat : Int) := fun r hr => ⟨(bc_mo ⟨r, by omega⟩).2, bc_le ⟨(I p 13).toNat, by omega⟩ ⟨r, by omega⟩ hr⟩
  have b1 := srO_spec (g := liG (I 29) (I p 13)) (pc := fun k => bcE (k : Int)) (y := a) (N := 2 ^ (I p 13).toNat) (z := wr (m_shl 1 (I p 13) - 1)) (T := (I p 13).toNat) hpc ((I p 13).toNat + 1) 0 (by omega) (fun r hr _ => (hpc r hr).1)
  have b2 := srB_spec (g := liG (I 29) (I p 13)) (pc := fun k => bcE (k : Int)) (y := a) (z := -1) (by omega) (2 ^ (I p 13).toNat) 0 (-1) (Or.inl ⟨rfl, fun r hr => by omega⟩)
  rw [Nat.zero_add] at b2
  have hfull : liG (I 29) (I p 13) (2 ^ (I p 13).toNat - 1) ≤ a := by rw [liG_full h6]; omega
  have b1' : isB (liG (I 29) (I p 13)) (fun k => bcE (k : Int)) a (2 ^ (I p 13).toNat) (-1) (srO (liG (I 29) (I p 13)) (fun k => bcE (k : Int)) a (2 ^ (I p 13).toNat) (wr (m_shl 1 (I p 13) - 1)) 0 ((I p 13).toNat + 1)) := by
    rcases b1 with ⟨_, c2⟩ | c
    · exact absurd hfull (c2 _ (by omega))
    · exact Or.inr c
  rw [isB_one b2 b1']
end Q6
