/-! ===== phase 2: what holds between two calls ===== -/
def words7 : List Int := [437714944, 613882880, 441634816, 116789248, 120052864, 642945024, 404455424, 672541696, 404362240, 153393792, 522190848, 48365568, 486146048, 672542304, 773116512, 509804544, 605688832, 592630944, 687214592, 446125701]
def words100 : List Int := [109, 97, 110, 32, 114, 105, 110, 103, 32, 109, 101, 101, 116, 32, 99, 111, 108, 100, 32, 99, 114, 111, 119, 100, 32, 115, 101, 101, 100, 32, 108, 97, 119, 32, 116, 97, 108, 107, 32, 108, 97, 116, 101, 32, 100, 114, 105, 102, 116, 32, 97, 110, 100, 32, 111, 114, 32, 110, 111, 116, 32, 116, 97, 108, 107, 115, 32, 119, 97, 105, 116, 115, 32, 111, 102, 102, 32, 114, 97, 116, 101, 32, 113, 117, 101, 117, 101, 32, 116, 111, 108, 100, 32, 109, 105, 110, 117, 116, 101, 32]
/-- a byte of the tape, as the class keeps it -/
def sby (x : Int) : Int := if x < 128 then x else x - 256
def TPE (I : Nat → Nat → Int) : Prop := (0 ≤ I 2 10 ∧ I 2 10 ≤ 700) ∧ I 98 1 = I 2 10 ∧ ∀ j : Nat, j < 700 → (0 ≤ I 99 j ∧ I 99 j ≤ 255) ∧ I 6 j = sby (I 99 j)
def WDS (I : Nat → Nat → Int) : Prop := (∀ k : Nat, k < 20 → I 7 k = words7.getD k 0) ∧ (∀ k : Nat, k < 100 → I 100 k = words100.getD k 0)
def SEE (I : Nat → Nat → Int) (P : Int) : Prop := (0 ≤ I 87 6 ∧ I 87 6 ≤ 24) ∧ I 98 75 = I 87 6 ∧ I 98 76 = I 87 7 ∧ (-1 ≤ I 87 7 ∧ I 87 7 ≤ I 87 6) ∧
  ∀ k : Nat, (k : Int) < I 87 6 → (I 91 k = -1 ∧ (1 ≤ I 88 k ∧ I 88 k ≤ 99) ∧ (0 ≤ I 89 k ∧ I 89 k < P) ∧ (-200 ≤ I 90 k ∧ I 90 k ≤ 400) ∧ (I 92 k = 0 ∨ I 92 k = 1) ∧ I 138 (4 * k) = I 88 k ∧ I 138 (4 * k + 1) = I 89 k ∧ I 138 (4 * k + 2) = I 90 k ∧ I 138 (4 * k + 3) = I 92 k) ∨ ((0 ≤ I 91 k ∧ I 91 k < (k : Int)) ∧ I 138 (4 * k) = -1 ∧ I 138 (4 * k + 1) = I 91 k)
/-- a day as the reference puts it away: 47 ints from place i on -/
def SNP (f : Nat → Int) (i : Nat) (P M : Int) (d : Nat → Nat → Int) : Prop :=
  (∀ q : Nat, (q : Int) < P → f (i + q) = dMode d q ∧ f (i + 6 + q) = d 2 q ∧ f (i + 12 + q) = d 1 q) ∧ (∀ m : Nat, (m : Int) < M → f (i + 18 + m) = d 5 m) ∧ (∀ k : Nat, (k : Int) < d 0 11 → f (i + 24 + k) = en (d 4 k)) ∧ f (i + 44) = d 0 11 ∧ f (i + 45) = en (d 0 12) ∧ (d 0 12 ≠ -1 → f (i + 46) = d 0 13)
def rowIn (f : Nat → Int) (a n : Nat) (w : Int) : Nat → Int := fun k => if k = a then w else if a < k ∧ k ≤ n then f (k - 1) else f k
def dPut (d : Nat → Nat → Int) (a : Nat) (w : Int) : Nat → Nat → Int := mup (rup d 4 (rowIn (d 4) a (d 0 11).toNat w)) 0 11 (d 0 11 + 1)
/-- what is undone: rang, left the row, left her, set, put off -/
def und (d : Nat → Nat → Int) (a w o : Int) : Nat → Nat → Int :=
  if a = 0 then mup (dOut d (dPl d w).toNat) 2 w.toNat o else if a = 1 then dPut d o.toNat w else if a = 2 then mup (mup d 0 12 w) 0 13 o else if a = 3 then mup d 1 w.toNat o else mup d 5 w.toNat o
def uOK (P M : Int) (d : Nat → Nat → Int) (a w o : Int) : Prop :=
  (a = 0 ∧ (0 ≤ w ∧ w < P) ∧ dPl d w ≠ -1) ∨ (a = 1 ∧ (0 ≤ w ∧ w < P) ∧ (0 ≤ o ∧ o ≤ d 0 11) ∧ d 0 11 < 20) ∨ (a = 2 ∧ 0 ≤ w ∧ w < P) ∨ (a = 3 ∧ 0 ≤ w ∧ w < P) ∨ (a = 4 ∧ 0 ≤ w ∧ w < M)
/-- n deeds of the log, the last first, and the days put away -/
def LGP (ac wh od f : Nat → Int) (P M : Int) : Nat → (Nat → Nat → Int) → Prop
  | 0, _ => True
  | n + 1, d => uOK P M d (ac n) (wh n) (od n) ∧ DOK P M (und d (ac n) (wh n) (od n)) ∧ SNP f (47 * n) P M (und d (ac n) (wh n) (od n)) ∧ LGP ac wh od f P M n (und d (ac n) (wh n) (od n))
def LOG (I : Nat → Nat → Int) (P M : Int) : Prop := (0 ≤ I 94 3 ∧ I 94 3 ≤ 20) ∧ I 98 79 = I 94 3 ∧ LGP (I 95) (I 96) (I 97) (I 140) P M (I 94 3).toNat (dat I 28)
def IMG (I L : Nat → Nat → Int) (P M : Int) : Prop := (I 2 13 = 0 ∨ I 2 13 = 1) ∧ I 98 81 = I 2 13 ∧ (I 2 13 ≠ 0 → DOK P M (dat I 37) ∧ I 37 10 ≤ 9000 ∧ SNP (I 141) 0 P M (dat I 37) ∧ (∀ q : Nat, (q : Int) < P → I 142 q = I 40 q) ∧ (∀ m : Nat, (m : Int) < M → I 142 (6 + m) = I 45 m ∧ I 142 (12 + 2 * m) = I 43 m ∧ I 142 (12 + 2 * m + 1) = I 44 m) ∧ I 142 24 = I 37 10 ∧ I 142 25 = I 37 15 ∧ L 98 84 = I 37 14)
def DAY (I L : Nat → Nat → Int) (P M : Int) : Prop := DOK P M (dat I 28) ∧ DR P M (dat I 28) (jat I 0) ∧ L 98 66 = I 28 14 ∧ I 28 10 ≤ 9000
def INV (p : Nat) (I L : Nat → Nat → Int) : Prop := isPlan p ∧ planOK I p ∧ PR I p I ∧ DAY I L (I p 13) (I p 15) ∧ TPE I ∧ (I 2 11 = I 98 4 ∧ I 2 12 = I 98 5) ∧ WDS I ∧ SEE I (I p 13) ∧ LOG I (I p 13) (I p 15) ∧ IMG I L (I p 13) (I p 15)
/-- what INV does not speak of may change -/
def keeps (I I' L L' : Nat → Nat → Int) : Prop := (∀ a, a < 46 ∨ (67 ≤ a ∧ a < 98) → I' a = I a) ∧ (∀ k, k ≠ 2 → k ≠ 52 → k < 67 ∨ 74 < k → I' 98 k = I 98 k) ∧ (∀ a, 99 ≤ a → a < 125 → I' a = I a) ∧ (∀ r k, r ≤ 12 → k < jlen r → I' (125 + r) k = I (125 + r) k) ∧ (∀ a, 138 ≤ a → a ≠ 139 → I' a = I a) ∧ L' 98 66 = L 98 66 ∧ L' 98 84 = L 98 84
theorem keeps.rfl' {I L : Nat → Nat → Int} : keeps I I L L := ⟨fun _ _ => rfl, fun _ _ _ _ => rfl, fun _ _ _ => rfl, fun _ _ _ _ => rfl, fun _ _ _ => rfl, rfl, rfl⟩
theorem keeps.tr {I I' I2 L L' L2 : Nat → Nat → Int} (h : keeps I I' L L') (g : keeps I' I2 L' L2) : keeps I I2 L L2 :=
  ⟨fun a ha => by rw [g.1 a ha, h.1 a ha], fun k h1 h2 h3 => by rw [g.2.1 k h1 h2 h3, h.2.1 k h1 h2 h3], fun a h1 h2 => by rw [g.2.2.1 a h1 h2, h.2.2.1 a h1 h2], fun r k h1 h2 => by rw [g.2.2.2.1 r k h1 h2, h.2.2.2.1 r k h1 h2], fun a h1 h2 => by rw [g.2.2.2.2.1 a h1 h2, h.2.2.2.2.1 a h1 h2], by rw [g.2.2.2.2.2.1, h.2.2.2.2.2.1], by rw [g.2.2.2.2.2.2, h.2.2.2.2.2.2]⟩
theorem INV_keeps {p : Nat} {I I' L L' : Nat → Nat → Int} (h : INV p I L) (g : keeps I I' L L') : INV p I' L' := by
  obtain ⟨hp, hpl, hR, hD, hT, hF, hW, hS, hL, hI⟩ := h
  obtain ⟨g1, g2, g3, g4, g5, g6, g7⟩ := g
  have hp' := hp
  unfold isPlan at hp'
  have gp : ∀ k, k < 19 → I' (p + k) = I (p + k) := fun k hk => g1 _ (by omega)
  have gp0 : I' p = I p := gp 0 (by omega)
  have d28 : dat I' 28 = dat I 28 := dat_congr (fun j hj => g1 _ (by omega))
  have d37 : dat I' 37 = dat I 37 := dat_congr (fun j hj => g1 _ (by omega))
  have j0 : jat I' 0 = jat I 0 := jat_congr (fun r k h1 h2 => by rw [Nat.zero_mul, Nat.zero_add]; exact g4 r k h1 h2)
  unfold INV
  rw [gp0]
  refine ⟨hp, planOK_congr hp gp hpl, PR_congr gp (fun k h1 h2 => g2 k (by omega) (by omega) (by omega)) (fun a h1 h2 => g3 a (by omega) (by omega)) hR, ?_, ?_, ?_, ?_, ?_, ?_, ?_⟩
  · unfold DAY at *
    rw [d28, j0, g6, g1 28 (by omega)]; exact hD
  · unfold TPE at *
    rw [g1 2 (by omega), g2 1 (by omega) (by omega) (by omega), g3 99 (by omega) (by omega), g1 6 (by omega)]; exact hT
  · rw [g1 2 (by omega), g2 4 (by omega) (by omega) (by omega), g2 5 (by omega) (by omega) (by omega)]; exact hF
  · unfold WDS at *
    rw [g1 7 (by omega), g3 100 (by omega) (by omega)]; exact hW
  · unfold SEE at *
    rw [g1 87 (by omega), g1 88 (by omega), g1 89 (by omega), g1 90 (by omega), g1 91 (by omega), g1 92 (by omega), g2 75 (by omega) (by omega) (by omega), g2 76 (by omega) (by omega) (by omega), g5 138 (by omega) (by omega)]; exact hS
  · unfold LOG at *
    rw [g1 94 (by omega), g1 95 (by omega), g1 96 (by omega), g1 97 (by omega), g2 79 (by omega) (by omega) (by omega), g5 140 (by omega) (by omega), d28]; exact hL
  · unfold IMG at *
    rw [g1 2 (by omega), g1 37 (by omega), g1 40 (by omega), g1 43 (by omega), g1 44 (by omega), g1 45 (by omega), g2 81 (by omega) (by omega) (by omega), g5 141 (by omega) (by omega), g5 142 (by omega) (by omega), d37, g7]; exact hI
/-- a call of the class, the same call of the reference: one answer, and all holds again -/
def OKM (Ls : Nat) (M : mM) : Prop := ∃ p I L, M = mem Ls p I L ∧ INV p I L
def PAIR (Ls : Nat) (mc mr : Nat) (as : List mV) (M : mM) : Prop := m_Call mc (.inr (.inr 2) :: as) M (fun v M1 => m_Call mr (.inr (.inr 98) :: as) M1 (fun w M2 => w = v ∧ OKM Ls M2))
