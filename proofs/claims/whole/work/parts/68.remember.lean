/-! ===== phase 2: what the reference remembers ===== -/
/-- the 47 ints of now -/
def snp (X : Nat → Nat → Int) (j : Nat) : Int := if j < 6 then X 125 j else if j < 12 then X 126 (j - 6) else if j < 18 then X 127 (j - 12) else if j < 24 then X 133 (j - 18) else if j < 44 then X 129 (j - 24) else if j = 44 then X 130 0 else if j = 45 then X 131 0 else X 132 0
def putA (X : Nat → Nat → Int) (f : Nat → Int) (i k : Nat) : Nat → Int := fun z => if i ≤ z ∧ z < i + 24 ∧ (z - i) % 6 < k then snp X (z - i) else f z
def putB (X : Nat → Nat → Int) (f : Nat → Int) (i k : Nat) : Nat → Int := fun z => if i ≤ z ∧ z < i + 24 + k then snp X (z - i) else f z
section W5
variable {Ls p kc ks : Nat} {P M : Int} {I I0 I1 I2 J K L L1 L2 K2 X Y Z d d' e : Nat → Nat → Int} {Q : List mV → mM → Prop} {x : Int}
theorem rup_mup {k i : Nat} {f : Nat → Int} {v : Int} : mup (rup X k f) k i v = rup X k (fun z => if z = i then v else f z) := by
  funext a b; rw [mup_app, rup_app, rup_app]; by_cases h : a = k
  · subst h; by_cases h2 : b = i
    · simp [h2]
    · simp [h2]
  · simp [h]
theorem rup_rup {k : Nat} {f g : Nat → Int} : rup (rup X k f) k g = rup X k g := by
  funext a; unfold rup; split <;> rfl
theorem putA_step {f : Nat → Int} {i k : Nat} (hk : k < 6) : (fun z => if z = i + 18 + k then X 133 k else if z = i + 12 + k then X 127 k else if z = i + 6 + k then X 126 k else if z = i + k then X 125 k else putA X f i k z) = putA X f i (k + 1) := by
  funext z
  unfold putA snp
  by_cases h1 : z = i + k
  · subst h1
    rw [if_neg (show ¬ i + k = i + 18 + k by omega), if_neg (show ¬ i + k = i + 12 + k by omega), if_neg (show ¬ i + k = i + 6 + k by omega), if_pos rfl, if_pos (show i ≤ i + k ∧ i + k < i + 24 ∧ (i + k - i) % 6 < k + 1 by omega), if_pos (show i + k - i < 6 by omega), show i + k - i = k by omega]
  · by_cases h2 : z = i + 6 + k
    · subst h2
      rw [if_neg (show ¬ i + 6 + k = i + 18 + k by omega), if_neg (show ¬ i + 6 + k = i + 12 + k by omega), if_pos rfl, if_pos (show i ≤ i + 6 + k ∧ i + 6 + k < i + 24 ∧ (i + 6 + k - i) % 6 < k + 1 by omega), if_neg (show ¬ i + 6 + k - i < 6 by omega), if_pos (show i + 6 + k - i < 12 by omega), show i + 6 + k - i - 6 = k by omega]
    · by_cases h3 : z = i + 12 + k
      · subst h3
        rw [if_neg (show ¬ i + 12 + k = i + 18 + k by omega), if_pos rfl, if_pos (show i ≤ i + 12 + k ∧ i + 12 + k < i + 24 ∧ (i + 12 + k - i) % 6 < k + 1 by omega), if_neg (show ¬ i + 12 + k - i < 6 by omega), if_neg (show ¬ i + 12 + k - i < 12 by omega), if_pos (show i + 12 + k - i < 18 by omega), show i + 12 + k - i - 12 = k by omega]
      · by_cases h4 : z = i + 18 + k
        · subst h4
          rw [if_pos rfl, if_pos (show i ≤ i + 18 + k ∧ i + 18 + k < i + 24 ∧ (i + 18 + k - i) % 6 < k + 1 by omega), if_neg (show ¬ i + 18 + k - i < 6 by omega), if_neg (show ¬ i + 18 + k - i < 12 by omega), if_neg (show ¬ i + 18 + k - i < 18 by omega), if_pos (show i + 18 + k - i < 24 by omega), show i + 18 + k - i - 18 = k by omega]
        · rw [if_neg h4, if_neg h3, if_neg h2, if_neg h1]
          by_cases h5 : i ≤ z ∧ z < i + 24 ∧ (z - i) % 6 < k
          · rw [if_pos h5, if_pos (show i ≤ z ∧ z < i + 24 ∧ (z - i) % 6 < k + 1 by omega)]
          · rw [if_neg h5, if_neg (show ¬ (i ≤ z ∧ z < i + 24 ∧ (z - i) % 6 < k + 1) by omega)]
theorem putB_step {f : Nat → Int} {i k : Nat} (hk : k < 20) : (fun z => if z = i + 24 + k then X 129 k else putB X f i k z) = putB X f i (k + 1) := by
  funext z
  unfold putB snp
  by_cases h1 : z = i + 24 + k
  · subst h1
    rw [if_pos rfl, if_pos (show i ≤ i + 24 + k ∧ i + 24 + k < i + 24 + (k + 1) by omega), if_neg (show ¬ i + 24 + k - i < 6 by omega), if_neg (show ¬ i + 24 + k - i < 12 by omega), if_neg (show ¬ i + 24 + k - i < 18 by omega), if_neg (show ¬ i + 24 + k - i < 24 by omega), if_pos (show i + 24 + k - i < 44 by omega), show i + 24 + k - i - 24 = k by omega]
  · rw [if_neg h1]
    by_cases h5 : i ≤ z ∧ z < i + 24 + k
    · rw [if_pos h5, if_pos (show i ≤ z ∧ z < i + 24 + (k + 1) by omega)]
    · rw [if_neg h5, if_neg (show ¬ (i ≤ z ∧ z < i + 24 + (k + 1)) by omega)]
theorem putC_step {f : Nat → Int} {i : Nat} : (fun z => if z = i + 46 then X 132 0 else if z = i + 45 then X 131 0 else if z = i + 44 then X 130 0 else putB X f i 20 z) = putB X f i 23 := by
  funext z
  unfold putB snp
  by_cases h1 : z = i + 46
  · subst h1
    rw [if_pos rfl, if_pos (show i ≤ i + 46 ∧ i + 46 < i + 24 + 23 by omega), show i + 46 - i = 46 by omega]; rfl
  · by_cases h2 : z = i + 45
    · subst h2
      rw [if_neg h1, if_pos rfl, if_pos (show i ≤ i + 45 ∧ i + 45 < i + 24 + 23 by omega), show i + 45 - i = 45 by omega]; rfl
    · by_cases h3 : z = i + 44
      · subst h3
        rw [if_neg h1, if_neg h2, if_pos rfl, if_pos (show i ≤ i + 44 ∧ i + 44 < i + 24 + 23 by omega), show i + 44 - i = 44 by omega]; rfl
      · rw [if_neg h1, if_neg h2, if_neg h3]
        by_cases h5 : i ≤ z ∧ z < i + 24 + 20
        · rw [if_pos h5, if_pos (show i ≤ z ∧ z < i + 24 + 23 by omega)]
        · rw [if_neg h5, if_neg (show ¬ (i ≤ z ∧ z < i + 24 + 23) by omega)]
theorem putAB {f : Nat → Int} {i : Nat} : putA X f i 6 = putB X f i 0 := by
  funext z
  unfold putA putB
  by_cases h5 : i ≤ z ∧ z < i + 24
  · rw [if_pos (show i ≤ z ∧ z < i + 24 ∧ (z - i) % 6 < 6 by omega), if_pos (by omega)]
  · rw [if_neg (by omega), if_neg (by omega)]
theorem putA0 {f : Nat → Int} {i : Nat} : putA X f i 0 = f := by
  funext z
  unfold putA
  rw [if_neg (by omega)]
theorem putB_loop_140 {i : Nat} (hi : i + 47 ≤ 940) (hQ : Q [] (mem Ls p (rup X 140 (putB X (X 140) i 23)) L)) : ∀ (t k : Nat), k + t = 20 → m_Wp i_M_put 69 kc ks [(0, .inr (.inr 98)), (1, .inr (.inr 140)), (2, .inl (i : Int)), (3, .inl (k : Int))] [] (mem Ls p (rup X 140 (putB X (X 140) i k)) L) Q := by
  intro t
  induction t with
  | zero =>
    intro k hk
    have : k = 20 := by omega
    subst this
    refine T_M_put_69_r140 ⟨fun _ => ?_, fun h => by omega⟩
    rw [wr_of (z := (i : Int) + 44) (by omega) (by omega), wr_of (z := (i : Int) + 45) (by omega) (by omega), wr_of (z := (i : Int) + 46) (by omega) (by omega), show ((i : Int) + 44).toNat = i + 44 by omega, show ((i : Int) + 45).toNat = i + 45 by omega, show ((i : Int) + 46).toNat = i + 46 by omega, rup_mup, rup_mup, rup_mup, rup_other (by omega), rup_other (by omega), rup_other (by omega), putC_step]
    exact ⟨by omega, by omega, by omega, by omega, by omega, by omega, hQ⟩
  | succ t ih =>
    intro k hk
    refine T_M_put_69_r140 ⟨fun h => by omega, fun _ => ?_⟩
    rw [wr_of (z := (i : Int) + 24) (by omega) (by omega), wr_of (z := (i : Int) + 24 + (k : Int)) (by omega) (by omega), wr_of (z := (k : Int) + 1) (by omega) (by omega), show ((i : Int) + 24 + (k : Int)).toNat = i + 24 + k by omega, Int.toNat_natCast, rup_mup, rup_other (by omega), putB_step (by omega)]
    exact ⟨by omega, by omega, ih (k + 1) (by omega)⟩
theorem putA_loop_140 {i : Nat} (hi : i + 47 ≤ 940) (hQ : Q [] (mem Ls p (rup X 140 (putB X (X 140) i 23)) L)) : ∀ (t k : Nat), k + t = 6 → m_Wp i_M_put 2 kc ks [(0, .inr (.inr 98)), (1, .inr (.inr 140)), (2, .inl (i : Int)), (3, .inl (k : Int))] [] (mem Ls p (rup X 140 (putA X (X 140) i k)) L) Q := by
  intro t
  induction t with
  | zero =>
    intro k hk
    have : k = 6 := by omega
    subst this
    refine T_M_put_2_r140 ⟨fun _ => ?_, fun h => by omega⟩
    rw [putAB]
    exact putB_loop_140 hi hQ 20 0 (by omega)
  | succ t ih =>
    intro k hk
    refine T_M_put_2_r140 ⟨fun h => by omega, fun _ => ?_⟩
    rw [wr_of (z := (i : Int) + (k : Int)) (by omega) (by omega), wr_of (z := (i : Int) + 6) (by omega) (by omega), wr_of (z := (i : Int) + 6 + (k : Int)) (by omega) (by omega), wr_of (z := (i : Int) + 12) (by omega) (by omega), wr_of (z := (i : Int) + 12 + (k : Int)) (by omega) (by omega), wr_of (z := (i : Int) + 18) (by omega) (by omega), wr_of (z := (i : Int) + 18 + (k : Int)) (by omega) (by omega), wr_of (z := (k : Int) + 1) (by omega) (by omega), show ((i : Int) + (k : Int)).toNat = i + k by omega, show ((i : Int) + 6 + (k : Int)).toNat = i + 6 + k by omega, show ((i : Int) + 12 + (k : Int)).toNat = i + 12 + k by omega, show ((i : Int) + 18 + (k : Int)).toNat = i + 18 + k by omega, Int.toNat_natCast, rup_mup, rup_mup, rup_mup, rup_mup, rup_other (by omega), rup_other (by omega), rup_other (by omega), rup_other (by omega), putA_step (by omega)]
    exact ⟨by omega, by omega, by omega, by omega, by omega, by omega, by omega, by omega, ih (k + 1) (by omega)⟩
theorem r_put_140 {i : Nat} (hi : i + 47 ≤ 940) (hQ : Q [] (mem Ls p (rup X 140 (putB X (X 140) i 23)) L)) : m_Call i_M_put [.inr (.inr 98), .inr (.inr 140), .inl (i : Int)] (mem Ls p X L) Q := by
  have h := putA_loop_140 (kc := 0) (ks := 0) hi hQ 6 0 (by omega)
  rw [putA0, rup_id] at h
  exact E_M_put_r140 h
theorem putB_loop_141 {i : Nat} (hi : i + 47 ≤ 47) (hQ : Q [] (mem Ls p (rup X 141 (putB X (X 141) i 23)) L)) : ∀ (t k : Nat), k + t = 20 → m_Wp i_M_put 69 kc ks [(0, .inr (.inr 98)), (1, .inr (.inr 141)), (2, .inl (i : Int)), (3, .inl (k : Int))] [] (mem Ls p (rup X 141 (putB X (X 141) i k)) L) Q := by
  intro t
  induction t with
  | zero =>
    intro k hk
    have : k = 20 := by omega
    subst this
    refine T_M_put_69_r141 ⟨fun _ => ?_, fun h => by omega⟩
    rw [wr_of (z := (i : Int) + 44) (by omega) (by omega), wr_of (z := (i : Int) + 45) (by omega) (by omega), wr_of (z := (i : Int) + 46) (by omega) (by omega), show ((i : Int) + 44).toNat = i + 44 by omega, show ((i : Int) + 45).toNat = i + 45 by omega, show ((i : Int) + 46).toNat = i + 46 by omega, rup_mup, rup_mup, rup_mup, rup_other (by omega), rup_other (by omega), rup_other (by omega), putC_step]
    exact ⟨by omega, by omega, by omega, by omega, by omega, by omega, hQ⟩
  | succ t ih =>
    intro k hk
    refine T_M_put_69_r141 ⟨fun h => by omega, fun _ => ?_⟩
    rw [wr_of (z := (i : Int) + 24) (by omega) (by omega), wr_of (z := (i : Int) + 24 + (k : Int)) (by omega) (by omega), wr_of (z := (k : Int) + 1) (by omega) (by omega), show ((i : Int) + 24 + (k : Int)).toNat = i + 24 + k by omega, Int.toNat_natCast, rup_mup, rup_other (by omega), putB_step (by omega)]
    exact ⟨by omega, by omega, ih (k + 1) (by omega)⟩
theorem putA_loop_141 {i : Nat} (hi : i + 47 ≤ 47) (hQ : Q [] (mem Ls p (rup X 141 (putB X (X 141) i 23)) L)) : ∀ (t k : Nat), k + t = 6 → m_Wp i_M_put 2 kc ks [(0, .inr (.inr 98)), (1, .inr (.inr 141)), (2, .inl (i : Int)), (3, .inl (k : Int))] [] (mem Ls p (rup X 141 (putA X (X 141) i k)) L) Q := by
  intro t
  induction t with
  | zero =>
    intro k hk
    have : k = 6 := by omega
    subst this
    refine T_M_put_2_r141 ⟨fun _ => ?_, fun h => by omega⟩
    rw [putAB]
    exact putB_loop_141 hi hQ 20 0 (by omega)
  | succ t ih =>
    intro k hk
    refine T_M_put_2_r141 ⟨fun h => by omega, fun _ => ?_⟩
    rw [wr_of (z := (i : Int) + (k : Int)) (by omega) (by omega), wr_of (z := (i : Int) + 6) (by omega) (by omega), wr_of (z := (i : Int) + 6 + (k : Int)) (by omega) (by omega), wr_of (z := (i : Int) + 12) (by omega) (by omega), wr_of (z := (i : Int) + 12 + (k : Int)) (by omega) (by omega), wr_of (z := (i : Int) + 18) (by omega) (by omega), wr_of (z := (i : Int) + 18 + (k : Int)) (by omega) (by omega), wr_of (z := (k : Int) + 1) (by omega) (by omega), show ((i : Int) + (k : Int)).toNat = i + k by omega, show ((i : Int) + 6 + (k : Int)).toNat = i + 6 + k by omega, show ((i : Int) + 12 + (k : Int)).toNat = i + 12 + k by omega, show ((i : Int) + 18 + (k : Int)).toNat = i + 18 + k by omega, Int.toNat_natCast, rup_mup, rup_mup, rup_mup, rup_mup, rup_other (by omega), rup_other (by omega), rup_other (by omega), rup_other (by omega), putA_step (by omega)]
    exact ⟨by omega, by omega, by omega, by omega, by omega, by omega, by omega, by omega, ih (k + 1) (by omega)⟩
theorem r_put_141 {i : Nat} (hi : i + 47 ≤ 47) (hQ : Q [] (mem Ls p (rup X 141 (putB X (X 141) i 23)) L)) : m_Call i_M_put [.inr (.inr 98), .inr (.inr 141), .inl (i : Int)] (mem Ls p X L) Q := by
  have h := putA_loop_141 (kc := 0) (ks := 0) hi hQ 6 0 (by omega)
  rw [putA0, rup_id] at h
  exact E_M_put_r141 h
/-- what the reference remembers -/
def RMD (X X2 : Nat → Nat → Int) (n1 s : Nat) : Prop := (∀ b, b ≠ 98 → b ≠ 140 → X2 b = X b) ∧ (∀ k, k ≠ 79 → X2 98 k = X 98 k) ∧ X2 98 79 = ((n1 + 1 : Nat) : Int) ∧ (∀ k j, k < n1 → j < 47 → X2 140 (47 * k + j) = X 140 (47 * (k + s) + j)) ∧ (∀ j, j < 47 → X2 140 (47 * n1 + j) = snp X j)
theorem RMD_put {n1 s : Nat} {f : Nat → Int} (h1 : ∀ k j, k < n1 → j < 47 → f (47 * k + j) = X 140 (47 * (k + s) + j)) (hY : ∀ b, b ≠ 98 → b ≠ 140 → Y b = X b) (hY2 : ∀ k, k ≠ 79 → Y 98 k = X 98 k) (hY3 : Y 140 = f) {v : Int} (hv : v = ((n1 + 1 : Nat) : Int)) : RMD X (mup (rup Y 140 (putB Y (Y 140) (47 * n1) 23)) 98 79 v) n1 s := by
  refine ⟨fun b b1 b2 => ?_, fun k hk => ?_, ?_, fun k j hk hj => ?_, fun j hj => ?_⟩
  · rw [mup_other b1, rup_other b2]; exact hY b b1 b2
  · rw [mup_ne (Or.inr hk), rup_other (by omega)]; exact hY2 k hk
  · rw [mup_eq rfl rfl]; exact hv
  · rw [mup_ne (by omega), rup_self]
    unfold putB
    rw [if_neg (by omega), hY3]; exact h1 k j hk hj
  · rw [mup_ne (by omega), rup_self]
    unfold putB
    rw [if_pos (by omega), show 47 * n1 + j - 47 * n1 = j by omega]
    unfold snp
    rw [hY 125 (by omega) (by omega), hY 126 (by omega) (by omega), hY 127 (by omega) (by omega), hY 133 (by omega) (by omega), hY 129 (by omega) (by omega), hY 130 (by omega) (by omega), hY 131 (by omega) (by omega), hY 132 (by omega) (by omega)]
def shf (f : Nat → Int) (k : Nat) : Nat → Int := fun z => if z < k then f (z + 47) else f z
theorem remember_loop (hQ : m_Wp i_M_remember 11 kc ks [(0, .inr (.inr 98)), (1, .inl 893)] [] (mem Ls p (rup X 140 (shf (X 140) 893)) L) Q) : ∀ (t k : Nat), k + t = 893 → m_Wp i_M_remember 11 kc ks [(0, .inr (.inr 98)), (1, .inl (k : Int))] [] (mem Ls p (rup X 140 (shf (X 140) k)) L) Q := by
  intro t
  induction t with
  | zero =>
    intro k hk
    have : k = 893 := by omega
    subst this
    exact hQ
  | succ t ih =>
    intro k hk
    refine T_M_remember_11 ⟨fun h => by omega, fun _ => ?_⟩
    rw [wr_of (z := (k : Int) + 47) (by omega) (by omega), wr_of (z := (k : Int) + 1) (by omega) (by omega), show ((k : Int) + 47).toNat = k + 47 by omega, Int.toNat_natCast, rup_mup, rup_self, show (fun z => if z = k then shf (X 140) k (k + 47) else shf (X 140) k z) = shf (X 140) (k + 1) by
      funext z
      unfold shf
      by_cases h : z = k
      · subst h; rw [if_pos rfl, if_neg (by omega), if_pos (by omega)]
      · rw [if_neg h]
        by_cases h2 : z < k
        · rw [if_pos h2, if_pos (by omega)]
        · rw [if_neg h2, if_neg (by omega)]]
    exact ⟨by omega, by omega, ih (k + 1) (by omega)⟩
theorem r_remember {n n1 s : Nat} (hn : X 98 79 = (n : Int)) (h20 : n ≤ 20) (hns : n1 + s = n) (h1 : s = 0 ∨ n = 20) (h2 : s = 1 ∨ n < 20) (h3 : n1 < 20) (hQ : ∀ X2, RMD X X2 n1 s → Q [] (mem Ls p X2 L)) : m_Call i_M_remember [.inr (.inr 98)] (mem Ls p X L) Q := by
  refine E_M_remember ?_
  rw [hn, wr_of (z := 47 * (n : Int)) (by omega) (by omega), show 47 * (n : Int) = ((47 * n : Nat) : Int) by omega]
  refine ⟨fun h => r_put_140 (by omega) (T_M_remember_64 (hQ _ ?_)), fun h => ?_⟩
  · have : s = 0 := by omega
    subst this
    have : n = n1 := by omega
    subst this
    exact RMD_put (f := X 140) (fun _ _ _ _ => rfl) (fun _ _ _ => rfl) (fun _ _ => rfl) rfl (by rw [rup_other (by omega), hn, wr_of (by omega) (by omega)]; omega)
  · have : s = 1 := by omega
    subst this
    have : n1 = 19 := by omega
    subst this
    have hl := remember_loop (kc := 0) (ks := 0) (X := X) (L := L) (Ls := Ls) (p := p) (Q := Q) (T_M_remember_11 ⟨fun _ => ?_, fun h => by omega⟩) 893 0 (by omega)
    · rw [show shf (X 140) 0 = X 140 by funext z; unfold shf; rw [if_neg (by omega)], rup_id] at hl
      exact hl
    · rw [rup_other (by omega), hn, wr_of (z := (n : Int) - 1) (by omega) (by omega), wr_of (z := 47 * ((n : Int) - 1)) (by omega) (by omega), show 47 * ((n : Int) - 1) = ((47 * 19 : Nat) : Int) by omega]
      refine r_put_140 (by omega) (T_M_remember_64 (hQ _ ?_))
      refine RMD_put (f := shf (X 140) 893) (fun k j hk hj => ?_) (fun b b1 b2 => ?_) (fun k hk => ?_) ?_ ?_
      · unfold shf; rw [if_pos (by omega)]; congr 1; omega
      · rw [mup_other b1, rup_other b2]
      · rw [mup_ne (Or.inr hk), rup_other (by omega)]
      · rw [mup_other (by omega), rup_self]
      · rw [rup_other (by omega), mup_eq rfl rfl, wr_of (by omega) (by omega)]; omega
theorem SNP_snp {f : Nat → Int} {i : Nat} (hP : P ≤ 6) (hM : M ≤ 6) (hn : d 0 11 ≤ 20) (h : DR P M d (jat X 0)) (hf : ∀ j, j < 47 → f (i + j) = snp X j) : SNP f i P M d := by
  obtain ⟨a1, a2, a3, a4, a5, a6, a7, a8⟩ := h
  unfold SNP
  have j0 : ∀ r k, r ≤ 12 → k < jlen r → jat X 0 r k = X (125 + r) k := fun r k h1 h2 => by rw [jat_at h1 h2, Nat.zero_mul, Nat.zero_add]
  refine ⟨fun q hq => ?_, fun m hm => ?_, fun k hk => ?_, ?_, ?_, fun h12 => ?_⟩
  · have b := a6 q hq
    rw [j0 0 q (by omega) (by show q < 6; omega), j0 1 q (by omega) (by show q < 6; omega), j0 2 q (by omega) (by show q < 6; omega)] at b
    rw [hf q (by omega), Nat.add_assoc, hf (6 + q) (by omega), Nat.add_assoc, hf (12 + q) (by omega)]
    unfold snp
    rw [if_pos (show q < 6 by omega), if_neg (show ¬ 6 + q < 6 by omega), if_pos (show 6 + q < 12 by omega), if_neg (show ¬ 12 + q < 6 by omega), if_neg (show ¬ 12 + q < 12 by omega), if_pos (show 12 + q < 18 by omega), show 6 + q - 6 = q by omega, show 12 + q - 12 = q by omega]
    exact ⟨b.2.2.2, b.2.1, b.1⟩
  · have b := (a8 m hm).1
    rw [j0 8 m (by omega) (by show m < 6; omega)] at b
    rw [Nat.add_assoc, hf (18 + m) (by omega)]
    unfold snp
    rw [if_neg (show ¬ 18 + m < 6 by omega), if_neg (show ¬ 18 + m < 12 by omega), if_neg (show ¬ 18 + m < 18 by omega), if_pos (show 18 + m < 24 by omega), show 18 + m - 18 = m by omega]
    exact b
  · have b := a7 k hk
    rw [j0 4 k (by omega) (by show k < 20; omega)] at b
    rw [Nat.add_assoc, hf (24 + k) (by omega)]
    unfold snp
    rw [if_neg (show ¬ 24 + k < 6 by omega), if_neg (show ¬ 24 + k < 12 by omega), if_neg (show ¬ 24 + k < 18 by omega), if_neg (show ¬ 24 + k < 24 by omega), if_pos (show 24 + k < 44 by omega), show 24 + k - 24 = k by omega]
    exact b
  · rw [hf 44 (by omega)]; rw [j0 5 0 (by omega) (by decide)] at a2; exact a2
  · rw [hf 45 (by omega)]; rw [j0 6 0 (by omega) (by decide)] at a3; exact a3
  · have b := a4 h12
    rw [hf 46 (by omega)]; rw [j0 7 0 (by omega) (by decide)] at b; exact b
/-- the log behind a deed -/
theorem LOG_push {n n1 s : Nat} {a w o : Int} (hI : INV p I L) (hn : I 94 3 = (n : Int)) (hns : n1 + s = n) (h20 : n1 < 20) (z1 : Z 94 3 = ((n1 + 1 : Nat) : Int)) (z2 : Z 98 79 = ((n1 + 1 : Nat) : Int)) (hr : ∀ k, k < n1 → Z 95 k = I 95 (k + s) ∧ Z 96 k = I 96 (k + s) ∧ Z 97 k = I 97 (k + s)) (h1 : Z 95 n1 = a ∧ Z 96 n1 = w ∧ Z 97 n1 = o) (hf : ∀ k j, k < n1 → j < 47 → Z 140 (47 * k + j) = I 140 (47 * (k + s) + j)) (hs : ∀ j, j < 47 → Z 140 (47 * n1 + j) = snp I j) (hu : uOK (I p 13) (I p 15) (dat Z 28) a w o) (hag : agw (dat I 28) (und (dat Z 28) a w o)) : LOG Z (I p 13) (I p 15) := by
  have hpl := hI.2.1
  have hP : I p 13 ≤ 6 := hpl.1.2
  have hM : I p 15 ≤ 6 := hpl.2.2.1.2
  have hD := hI.2.2.2.1
  have hL := hI.2.2.2.2.2.2.2.2.1.2.2
  rw [hn, Int.toNat_natCast] at hL
  refine ⟨by omega, by omega, ?_⟩
  rw [z1, Int.toNat_natCast]
  exact LGP_push hP hM hns hD.1 hL hr hf h1 hag hu (SNP_snp hP hM hD.1.2.2.1.2 hD.2.1 hs)
/-- a deed: now and the log are otherwise -/
theorem INV_deed (hI : INV p I L) (h1 : ∀ a, a < 28 ∨ (37 ≤ a ∧ a < 46) ∨ (67 ≤ a ∧ a < 94) → Z a = I a) (hLZ : LOG Z (I p 13) (I p 15)) (h98 : ∀ k, k ≠ 2 → k ≠ 52 → k ≠ 79 → k < 67 ∨ 74 < k → Z 98 k = I 98 k) (h3 : ∀ a, 99 ≤ a → a < 125 → Z a = I a) (h5 : ∀ a, 138 ≤ a → a ≠ 139 → a ≠ 140 → Z a = I a) (hD : DAY Z K (I p 13) (I p 15)) (hL : K 98 84 = L 98 84) : INV p Z K := by
  obtain ⟨hp, hpl, hR, _, hT, hF, hW, hS, hLg, hIm⟩ := hI
  have hp' := hp
  unfold isPlan at hp'
  have gp : ∀ k, k < 19 → Z (p + k) = I (p + k) := fun k hk => h1 _ (by omega)
  have gp0 : Z p = I p := gp 0 (by omega)
  have d37 : dat Z 37 = dat I 37 := dat_congr (fun j hj => h1 _ (by omega))
  unfold INV
  rw [gp0]
  refine ⟨hp, planOK_congr hp gp hpl, PR_congr gp (fun k a b => h98 k (by omega) (by omega) (by omega) (by omega)) (fun a b c => h3 a (by omega) (by omega)) hR, hD, ?_, ?_, ?_, ?_, ?_, ?_⟩
  · unfold TPE at *
    rw [h1 2 (by omega), h98 1 (by omega) (by omega) (by omega) (by omega), h3 99 (by omega) (by omega), h1 6 (by omega)]; exact hT
  · rw [h1 2 (by omega), h98 4 (by omega) (by omega) (by omega) (by omega), h98 5 (by omega) (by omega) (by omega) (by omega)]; exact hF
  · unfold WDS at *
    rw [h1 7 (by omega), h3 100 (by omega) (by omega)]; exact hW
  · unfold SEE at *
    rw [h1 87 (by omega), h1 88 (by omega), h1 89 (by omega), h1 90 (by omega), h1 91 (by omega), h1 92 (by omega), h98 75 (by omega) (by omega) (by omega) (by omega), h98 76 (by omega) (by omega) (by omega) (by omega), h5 138 (by omega) (by omega) (by omega)]; exact hS
  · exact hLZ
  · unfold IMG at *
    rw [h1 2 (by omega), h1 37 (by omega), h1 40 (by omega), h1 43 (by omega), h1 44 (by omega), h1 45 (by omega), h98 81 (by omega) (by omega) (by omega) (by omega), h5 141 (by omega) (by omega) (by omega), h5 142 (by omega) (by omega) (by omega), d37, hL]; exact hIm
theorem dat_dput {c : Nat} (h : ∀ j, 9 ≤ j → d j = fun _ => 0) : dat (dput I c d) c = d := by
  funext j
  unfold dat
  split
  · next hj => rw [dput_at hj]
  · next hj => rw [h j (by omega)]
end W5
