/-! ===== phase 2: an E: signs that wait, knots that are held ===== -/
def lvl (a : Int) : Int := if a = 7 then 5 else if a = 8 then 5 else if a = 9 then 6 else if a = 10 then 6 else if 11 ≤ a ∧ a ≤ 16 then 4 else if a = 27 then 1 else if a = 28 then 2 else if a = 29 then 3 else 0
def rnk (a : Int) : Int := if 13 ≤ a then 6 else if 11 ≤ a then 5 else if 5 ≤ a then 4 else if a = 2 then 3 else if a = 3 then 2 else if a = 4 then 1 else 0
/-- what waits, of the two: '(' , not, a sign -/
def pRel (s k : Int) : Prop := (s = 5 ∧ k = 0) ∨ (s = 29 ∧ k = 2) ∨ kMap s k
theorem lvl_rnk {s k : Int} (h : pRel s k) : rnk k = lvl s := by
  unfold pRel kMap at h
  unfold rnk lvl
  repeat' split
  all_goals omega
theorem pRel_open {s k : Int} (h : pRel s k) (h0 : lvl s < 1) : s = 5 ∧ k = 0 := by
  unfold pRel kMap at h
  unfold lvl at h0
  repeat' split at h0
  all_goals omega
def nOp : List (Int × Int) → Nat
  | [] => 0
  | e :: r => (if e.1 = 5 then 1 else 0) + nOp r
def nBi : List (Int × Int) → Nat
  | [] => 0
  | e :: r => (if e.1 = 5 ∨ e.1 = 29 then 0 else 1) + nBi r
def tl : List (Int × Int) → Int
  | [] => 0
  | e :: _ => lvl e.1
theorem nOp_le : ∀ W : List (Int × Int), nOp W + nBi W ≤ W.length
  | [] => by simp [nOp, nBi]
  | e :: r => by
    have := nOp_le r
    simp only [nOp, nBi, List.length_cons]
    repeat' split
    all_goals omega
def PI (X Y : Nat → Nat → Int) (W : List (Int × Int)) : Prop := X 4 2 = (W.length : Int) ∧ Y 98 44 = (W.length : Int) ∧ stk (X 8) (W.map (fun e => e.1)) ∧ stk (Y 121) (W.map (fun e => e.2)) ∧ ∀ e ∈ W, pRel e.1 e.2
def OPN (X Y : Nat → Nat → Int) (n : Nat) : Prop := X 4 3 = (n : Int) ∧ Y 98 46 = (n : Int) ∧ n ≤ 8
def CNT (w : Nat) (X Y : Nat → Nat → Int) (s c : Nat) : Prop := X w 5 = (s : Int) ∧ Y 98 21 = (s : Int) ∧ X w 6 = (c : Int) ∧ Y 98 47 = (c : Int) ∧ c ≤ 64
def KN (Y : Nat → Nat → Int) (r : Nat) : Nat → Int := fun i => Y r (64 + i)
def HLD (w : Nat) (X Y : Nat → Nat → Int) (fr s : Nat) (Hs : List Nat) : Prop := Y 98 45 = (Hs.length : Int) ∧ stk (Y 122) (Hs.map (fun x : Nat => (x : Int))) ∧ fr ≤ s ∧ (∀ i, fr ≤ i → i < s → kRel (X (w + 1)) (X (w + 2)) (KN Y 118) (KN Y 119) i) ∧ (∀ i : Nat, i < s → X (w + 1) i = 2 → big (X (w + 2) i)) ∧ ∃ H : Nat → List Nat, H fr = [] ∧ (∀ i, fr ≤ i → i < s → hSt (KN Y 118) (KN Y 119) (KN Y 120) i (H i) (H (i + 1))) ∧ H s = Hs
theorem HLD.push {w fr s : Nat} {X X' Y Y' : Nat → Nat → Int} {Hs Hs' : List Nat} (h : HLD w X Y fr s Hs) (hx : ∀ i, i < s → X' (w + 1) i = X (w + 1) i ∧ X' (w + 2) i = X (w + 2) i) (hy : ∀ i, i < s → KN Y' 118 i = KN Y 118 i ∧ KN Y' 119 i = KN Y 119 i ∧ KN Y' 120 i = KN Y 120 i) (hk : kRel (X' (w + 1)) (X' (w + 2)) (KN Y' 118) (KN Y' 119) s) (hb : X' (w + 1) s = 2 → big (X' (w + 2) s)) (hh : hSt (KN Y' 118) (KN Y' 119) (KN Y' 120) s Hs Hs') (hl : Y' 98 45 = (Hs'.length : Int)) (hs : stk (Y' 122) (Hs'.map (fun x : Nat => (x : Int)))) : HLD w X' Y' fr (s + 1) Hs' := by
  obtain ⟨_, _, h3, h4, h5, H, h6, h7, h8⟩ := h
  refine ⟨hl, hs, by omega, fun i h1 h2 => ?_, fun i h1 h2 => ?_, fun i => if i = s + 1 then Hs' else H i, ?_, fun i h1 h2 => ?_, if_pos rfl⟩
  · by_cases e : i = s
    · subst e; exact hk
    · have := h4 i h1 (by omega)
      unfold kRel at this ⊢
      rw [(hx i (by omega)).1, (hx i (by omega)).2, (hy i (by omega)).1, (hy i (by omega)).2.1]; exact this
  · by_cases e : i = s
    · subst e; exact hb h2
    · rw [(hx i (by omega)).1] at h2
      rw [(hx i (by omega)).2]; exact h5 i (by omega) h2
  · show (if fr = s + 1 then Hs' else H fr) = []
    rw [if_neg (by omega)]; exact h6
  · show hSt _ _ _ i (if i = s + 1 then Hs' else H i) (if i + 1 = s + 1 then Hs' else H (i + 1))
    rw [if_neg (by omega)]
    by_cases e : i = s
    · subst e
      rw [if_pos rfl, h8]; exact hh
    · rw [if_neg (by omega)]
      have := h7 i h1 (by omega)
      unfold hSt at this ⊢
      rw [(hy i (by omega)).1, (hy i (by omega)).2.1, (hy i (by omega)).2.2]; exact this
theorem HLD.congr {w fr s : Nat} {X X' Y Y' : Nat → Nat → Int} {Hs : List Nat} (h : HLD w X Y fr s Hs) (h1 : X' (w + 1) = X (w + 1)) (h2 : X' (w + 2) = X (w + 2)) (g1 : Y' 118 = Y 118) (g2 : Y' 119 = Y 119) (g3 : Y' 120 = Y 120) (g4 : Y' 122 = Y 122) (g5 : Y' 98 45 = Y 98 45) : HLD w X' Y' fr s Hs := by
  unfold HLD KN at *
  rw [h1, h2, g1, g2, g3, g4, g5]; exact h
def LR (w : Nat) (X Y : Nat → Nat → Int) (fr s c : Nat) (W : List (Int × Int)) (Hs : List Nat) : Prop := PI X Y W ∧ OPN X Y (nOp W) ∧ CNT w X Y s c ∧ HLD w X Y fr s Hs ∧ s + W.length = c + nOp W
/-- what the signs that are done leave alone -/
def UX (w fr : Nat) (X X' : Nat → Nat → Int) : Prop := (∀ a, a ≠ 4 → a ≠ w → a ≠ w + 1 → a ≠ w + 2 → X' a = X a) ∧ (∀ k, k ≠ 2 → X' 4 k = X 4 k) ∧ (∀ i, i < fr → X' (w + 1) i = X (w + 1) i ∧ X' (w + 2) i = X (w + 2) i)
def UY (fr : Nat) (Y Y' : Nat → Nat → Int) : Prop := (∀ a, a ≠ 98 → a ≠ 118 → a ≠ 119 → a ≠ 120 → a ≠ 122 → Y' a = Y a) ∧ (∀ k, k ≠ 21 → k ≠ 44 → k ≠ 45 → Y' 98 k = Y 98 k) ∧ (∀ a i, a = 118 ∨ a = 119 ∨ a = 120 → i < 64 + fr → Y' a i = Y a i)
theorem UX.tr {w fr : Nat} {X X1 X2 : Nat → Nat → Int} (h : UX w fr X X1) (g : UX w fr X1 X2) : UX w fr X X2 := ⟨fun a h1 h2 h3 h4 => by rw [g.1 a h1 h2 h3 h4, h.1 a h1 h2 h3 h4], fun k h1 => by rw [g.2.1 k h1, h.2.1 k h1], fun i h1 => ⟨by rw [(g.2.2 i h1).1, (h.2.2 i h1).1], by rw [(g.2.2 i h1).2, (h.2.2 i h1).2]⟩⟩
theorem UY.tr {fr : Nat} {Y Y1 Y2 : Nat → Nat → Int} (h : UY fr Y Y1) (g : UY fr Y1 Y2) : UY fr Y Y2 := ⟨fun a h1 h2 h3 h4 h5 => by rw [g.1 a h1 h2 h3 h4 h5, h.1 a h1 h2 h3 h4 h5], fun k h1 h2 h3 => by rw [g.2.1 k h1 h2 h3, h.2.1 k h1 h2 h3], fun a i h1 h2 => by rw [g.2.2 a i h1 h2, h.2.2 a i h1 h2]⟩
theorem UX.rfl' {w fr : Nat} {X : Nat → Nat → Int} : UX w fr X X := ⟨fun _ _ _ _ _ => rfl, fun _ _ => rfl, fun _ _ => ⟨rfl, rfl⟩⟩
theorem UY.rfl' {fr : Nat} {Y : Nat → Nat → Int} : UY fr Y Y := ⟨fun _ _ _ _ _ _ => rfl, fun _ _ _ _ => rfl, fun _ _ _ _ => rfl⟩
section K7
variable {Ls p pp w kc ks : Nat} {K L X Y : Nat → Nat → Int} {Q : List mV → mM → Prop}
theorem q_levelOf {a : Int} (hQ : Q [.inl (lvl a)] (mem Ls p X L)) : m_Call i_LawReader_levelOf [.inl a] (mem Ls p X L) Q := by
  unfold lvl at hQ
  refine E_LawReader_levelOf ⟨fun z => ?_, fun n1 => ⟨fun z => ?_, fun n2 => ⟨fun z => ?_, fun n3 => ⟨fun z => ?_, fun n4 => ⟨fun z => ?_, fun n5 => ⟨fun z => ?_, fun n6 => ⟨fun z => ?_, fun n7 => ⟨fun z => ?_, fun n8 => ⟨fun z => ?_, fun n9 => ⟨fun z => ?_, fun n10 => ⟨fun z => ?_, fun n11 => ⟨fun z => ?_, fun n12 => ⟨fun z => ?_, fun n13 => ?_⟩⟩⟩⟩⟩⟩⟩⟩⟩⟩⟩⟩⟩
  · rw [if_pos z] at hQ; exact hQ
  · rw [if_neg n1, if_pos z] at hQ; exact hQ
  · rw [if_neg n1, if_neg n2, if_pos z] at hQ; exact hQ
  · rw [if_neg n1, if_neg n2, if_neg n3, if_pos z] at hQ; exact hQ
  · rw [if_neg n1, if_neg n2, if_neg n3, if_neg n4, if_pos (show 11 ≤ a ∧ a ≤ 16 by omega)] at hQ; exact hQ
  · rw [if_neg n1, if_neg n2, if_neg n3, if_neg n4, if_pos (show 11 ≤ a ∧ a ≤ 16 by omega)] at hQ; exact hQ
  · rw [if_neg n1, if_neg n2, if_neg n3, if_neg n4, if_pos (show 11 ≤ a ∧ a ≤ 16 by omega)] at hQ; exact hQ
  · rw [if_neg n1, if_neg n2, if_neg n3, if_neg n4, if_pos (show 11 ≤ a ∧ a ≤ 16 by omega)] at hQ; exact hQ
  · rw [if_neg n1, if_neg n2, if_neg n3, if_neg n4, if_pos (show 11 ≤ a ∧ a ≤ 16 by omega)] at hQ; exact hQ
  · rw [if_neg n1, if_neg n2, if_neg n3, if_neg n4, if_pos (show 11 ≤ a ∧ a ≤ 16 by omega)] at hQ; exact hQ
  · rw [if_neg n1, if_neg n2, if_neg n3, if_neg n4, if_neg (show ¬ (11 ≤ a ∧ a ≤ 16) by omega), if_pos z] at hQ; exact hQ
  · rw [if_neg n1, if_neg n2, if_neg n3, if_neg n4, if_neg (show ¬ (11 ≤ a ∧ a ≤ 16) by omega), if_neg n11, if_pos z] at hQ; exact hQ
  · rw [if_neg n1, if_neg n2, if_neg n3, if_neg n4, if_neg (show ¬ (11 ≤ a ∧ a ≤ 16) by omega), if_neg n11, if_neg n12, if_pos z] at hQ; exact hQ
  · rw [if_neg n1, if_neg n2, if_neg n3, if_neg n4, if_neg (show ¬ (11 ≤ a ∧ a ≤ 16) by omega), if_neg n11, if_neg n12, if_neg n13] at hQ; exact hQ
theorem r_rank {a : Int} (hQ : Q [.inl (rnk a)] (mem Ls p X L)) : m_Call i_M_rank [.inl a] (mem Ls p X L) Q := by
  unfold rnk at hQ
  refine E_M_rank ⟨fun z1 => ⟨fun z2 => ⟨fun z3 => ⟨fun z4 => ⟨fun z5 => ⟨fun z6 => ?_, fun z6 => ?_⟩, fun z5 => ?_⟩, fun z4 => ?_⟩, fun z3 => ?_⟩, fun z2 => ?_⟩, fun z1 => ?_⟩
  · rw [if_neg (show ¬ 13 ≤ a by omega), if_neg (show ¬ 11 ≤ a by omega), if_neg (show ¬ 5 ≤ a by omega), if_neg z4, if_neg z5, if_neg z6] at hQ; exact hQ
  · rw [if_neg (show ¬ 13 ≤ a by omega), if_neg (show ¬ 11 ≤ a by omega), if_neg (show ¬ 5 ≤ a by omega), if_neg z4, if_neg z5, if_pos (Classical.not_not.mp z6)] at hQ; exact hQ
  · rw [if_neg (show ¬ 13 ≤ a by omega), if_neg (show ¬ 11 ≤ a by omega), if_neg (show ¬ 5 ≤ a by omega), if_neg z4, if_pos (Classical.not_not.mp z5)] at hQ; exact hQ
  · rw [if_neg (show ¬ 13 ≤ a by omega), if_neg (show ¬ 11 ≤ a by omega), if_neg (show ¬ 5 ≤ a by omega), if_pos (Classical.not_not.mp z4)] at hQ; exact hQ
  · rw [if_neg (show ¬ 13 ≤ a by omega), if_neg (show ¬ 11 ≤ a by omega), if_pos (show 5 ≤ a by omega)] at hQ; exact hQ
  · rw [if_neg (show ¬ 13 ≤ a by omega), if_pos (show 11 ≤ a by omega)] at hQ; exact hQ
  · rw [if_pos (show 13 ≤ a by omega)] at hQ; exact hQ
/-- a knot grows -/
theorem r_grown {s n : Nat} {a b d : Int} (hs : Y 98 21 = (s : Int)) (h64 : s < 64) (hn : Y 98 45 = (n : Int)) (hn96 : n < 96) (hQ : Q [] (mem Ls pp (mup (mup (mup (mup (mup (mup Y 118 (64 + s) a) 119 (64 + s) b) 120 (64 + s) d) 122 n (s : Int)) 98 45 ((n + 1 : Nat) : Int)) 98 21 ((s + 1 : Nat) : Int)) K)) : m_Call i_M_grown [.inr (.inr 98), .inl a, .inl b, .inl d] (mem Ls pp Y K) Q := by
  refine E_M_grown ?_
  rw [hs, hn, show wr (64 + (s : Int)) = ((64 + s : Nat) : Int) by rw [wr_of (by omega) (by omega)]; omega, Int.toNat_natCast, Int.toNat_natCast, show wr ((n : Int) + 1) = ((n + 1 : Nat) : Int) by rw [wr_of (by omega) (by omega)]; omega, show wr ((s : Int) + 1) = ((s + 1 : Nat) : Int) by rw [wr_of (by omega) (by omega)]; omega]
  exact ⟨by omega, by omega, by omega, by omega, hQ⟩
theorem r_drop {n : Nat} (hn : Y 98 45 = ((n + 1 : Nat) : Int)) (hn96 : n < 96) (hQ : Q [.inl (Y 122 n)] (mem Ls pp (mup Y 98 45 (n : Int)) K)) : m_Call i_M_dropHeld [.inr (.inr 98)] (mem Ls pp Y K) Q := by
  refine E_M_dropHeld ?_
  rw [hn, show wr (((n + 1 : Nat) : Int) - 1) = (n : Int) by rw [wr_of (by omega) (by omega)]; omega, Int.toNat_natCast]
  exact ⟨by omega, hQ⟩
theorem q_add {s : Nat} {a b : Int} (hw : w = 22 ∨ w = 81) (hs : X w 5 = (s : Int)) (h64 : s < 64) (hQ : Q [] (mem Ls p (mup (mup (mup X (w + 1) s a) (w + 2) s b) w 5 ((s + 1 : Nat) : Int)) L)) : m_Call i_Laws_add [.inr (.inr w), .inl a, .inl b] (mem Ls p X L) Q := by
  refine E_Laws_add hw ?_
  rw [hs, Int.toNat_natCast, show wr ((s : Int) + 1) = ((s + 1 : Nat) : Int) by rw [wr_of (by omega) (by omega)]; omega]
  exact ⟨fun z => by omega, fun _ => ⟨by omega, by omega, hQ⟩⟩
end K7
