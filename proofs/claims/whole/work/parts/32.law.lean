/-! ===== phase 2: the value of a law, by the class ===== -/
/-- a stack in a row: the top is first in the list, last in the row -/
def stk (f : Nat → Int) : List Int → Prop
  | [] => True
  | a :: r => f r.length = a ∧ stk f r
theorem stk_congr {f g : Nat → Int} : ∀ {s : List Int}, (∀ j, j < s.length → f j = g j) → stk f s → stk g s
  | [], _, _ => True.intro
  | a :: r, h, k => ⟨by rw [← h r.length (by simp)]; exact k.1, stk_congr (fun j hj => h j (by simp only [List.length_cons]; omega)) k.2⟩
/-- two values joined by a sign of the class; the least long is an error -/
def jn (k a b : Int) : Int :=
  if k = 7 then a + b else if k = 8 then a - b else if k = 9 then (if b ≠ 0 ∧ Int.tdiv 1000000000000 b.natAbs < a.natAbs then -9223372036854775808 else a * b)
  else if k = 10 then (if b = 0 then -9223372036854775808 else Int.tdiv a b)
  else if k = 11 then (if a < b then 1 else 0) else if k = 12 then (if a ≤ b then 1 else 0) else if k = 13 then (if a = b then 1 else 0) else if k = 14 then (if a = b then 0 else 1)
  else if k = 15 then (if b ≤ a then 1 else 0) else if k = 16 then (if b < a then 1 else 0)
  else if k = 27 then (if a ≠ 0 ∨ b ≠ 0 then 1 else 0) else if k = 28 then (if a ≠ 0 ∧ b ≠ 0 then 1 else 0) else -9223372036854775808
/-- a sign over a stack; none is an error -/
def lvT (k : Int) : List Int → Option (List Int)
  | [] => some []
  | a :: r => if k = 29 then some ((if a = 0 then 1 else 0) :: r) else (match r with
    | [] => some [a]
    | b :: r => if 1000000000000 < jn k b a ∨ jn k b a < -1000000000000 then none else some (jn k b a :: r))
def lvS (st nu nm : Nat → Int) (i : Nat) (s : List Int) : Option (List Int) := if st i = 2 then some (nu i :: s) else if 30 ≤ st i ∧ st i < 37 then some (nm (st i - 30).toNat :: s) else lvT (st i) s
/-- the steps of a law over a stack -/
def lvR (st nu nm : Nat → Int) : Nat → Nat → List Int → Int
  | 0, _, s => (match s with | [v] => v | _ => -9223372036854775808)
  | t + 1, i, s => (match lvS st nu nm i s with
    | none => -9223372036854775808
    | some s => lvR st nu nm t (i + 1) s)
theorem lvR_some {st nu nm : Nat → Int} {t i : Nat} {s s' : List Int} (h : lvS st nu nm i s = some s') : lvR st nu nm (t + 1) i s = lvR st nu nm t (i + 1) s' := by rw [lvR, h]
theorem lvR_none {st nu nm : Nat → Int} {t i : Nat} {s : List Int} (h : lvS st nu nm i s = none) : lvR st nu nm (t + 1) i s = -9223372036854775808 := by rw [lvR, h]
def lv (I : Nat → Nat → Int) (w : Nat) (law : Nat) (nm : Nat → Int) : Int := lvR (I (w + 1)) (I (w + 2)) nm (I (w + 4) law - I (w + 3) law).toNat (I (w + 3) law).toNat []
def big (x : Int) : Prop := -1000000000000 ≤ x ∧ x ≤ 1000000000000
theorem lcmp_zero (x y : Int) : m_lcmp x y = 0 ↔ x = y := by unfold m_lcmp; split <;> (try split) <;> omega
theorem lcmp_pos (x y : Int) : 0 < m_lcmp x y ↔ y < x := by unfold m_lcmp; split <;> (try split) <;> omega
theorem lcmp_nonneg (x y : Int) : 0 ≤ m_lcmp x y ↔ y ≤ x := by unfold m_lcmp; split <;> (try split) <;> omega
theorem lcmp_neg (x y : Int) : m_lcmp x y < 0 ↔ x < y := by unfold m_lcmp; split <;> (try split) <;> omega
theorem lcmp_nonpos (x y : Int) : m_lcmp x y ≤ 0 ↔ x ≤ y := by unfold m_lcmp; split <;> (try split) <;> omega
theorem abs_as {x : Int} (h : big x) : (if 0 ≤ x then x else wl (0 - x)) = (x.natAbs : Int) := by
  unfold big at h
  split
  · omega
  · rw [wl_of (by omega) (by omega)]; omega
theorem mul_le_big {a b : Int} (h : b ≠ 0 → (a.natAbs : Int) ≤ Int.tdiv 1000000000000 b.natAbs) : big (a * b) := by
  unfold big
  by_cases hb : b = 0
  · subst hb; simp
  · have h1 := h hb
    have hb1 : (0 : Int) < (b.natAbs : Int) := by omega
    rw [Int.tdiv_eq_ediv_of_nonneg (by omega)] at h1
    have h2 : (a.natAbs : Int) * (b.natAbs : Int) ≤ 1000000000000 := by
      have := Int.ediv_mul_le 1000000000000 (show (b.natAbs : Int) ≠ 0 by omega)
      have h3 := Int.mul_le_mul_of_nonneg_right h1 (show 0 ≤ (b.natAbs : Int) by omega)
      omega
    have h4 : ((a * b).natAbs : Int) = (a.natAbs : Int) * (b.natAbs : Int) := by rw [Int.natAbs_mul]; omega
    omega
theorem tdiv_big {a b : Int} (h : big a) : big (Int.tdiv a b) := by
  unfold big at *
  have h1 : (Int.tdiv a b).natAbs ≤ a.natAbs := by rw [Int.natAbs_tdiv]; exact Nat.div_le_self _ _
  omega
theorem jn_range {k a b : Int} (ha : big a) (hb : big b) : (-2000000000000 ≤ jn k a b ∧ jn k a b ≤ 2000000000000) ∨ jn k a b = -9223372036854775808 := by
  have h1 := tdiv_big (b := b) ha
  have h2 := @mul_le_big a b
  unfold jn
  unfold big at *
  generalize Int.tdiv a b = q at *
  generalize Int.tdiv 1000000000000 (b.natAbs : Int) = r at *
  generalize a * b = m at *
  repeat' split
  all_goals first | omega | grind
section L1
variable {Ls p w kc ks : Nat} {I L : Nat → Nat → Int} {Q : List mV → mM → Prop}
theorem q_joined {k a b : Int} (ha : big a) (hb : big b) (h : Q [.inr (.inl (jn k a b))] (mem Ls p I L)) : m_Call i_Laws_joined [.inl k, .inr (.inl a), .inr (.inl b)] (mem Ls p I L) Q := by
  have hd : ∀ x : Int, big x → x ≠ 0 → wl (Int.tdiv 1000000000000 (x.natAbs : Int)) = Int.tdiv 1000000000000 (x.natAbs : Int) := fun x _ _ => by
    have := @tdiv_big 1000000000000 (x.natAbs : Int) ⟨by omega, by omega⟩
    unfold big at this
    exact wl_of (by omega) (by omega)
  have hq : wl (Int.tdiv a b) = Int.tdiv a b := by
    have := tdiv_big (b := b) ha
    unfold big at this
    exact wl_of (by omega) (by omega)
  have hm : ∀ (_ : ¬ (b ≠ 0 ∧ Int.tdiv 1000000000000 b.natAbs < a.natAbs)), wl (a * b) = a * b := fun h => by
    have := @mul_le_big a b (fun hb => by omega)
    unfold big at this
    exact wl_of (by omega) (by omega)
  have hp : wl (a + b) = a + b := by unfold big at ha hb; exact wl_of (by omega) (by omega)
  have hs : wl (a - b) = a - b := by unfold big at ha hb; exact wl_of (by omega) (by omega)
  unfold jn at h
  apply E_Laws_joined
  simp only [lcmp_zero, lcmp_pos, lcmp_nonneg, lcmp_neg, lcmp_nonpos, abs_as ha, abs_as hb, hp, hs, hq]
  generalize Int.tdiv a b = q at *
  generalize a * b = m at *
  by_cases hb0 : b = 0
  · grind (splits := 40)
  · rw [hd b hb hb0]
    generalize Int.tdiv 1000000000000 (b.natAbs : Int) = r at *
    grind (splits := 40)
end L1
section L2
variable {Ls p w kc ks : Nat} {I L : Nat → Nat → Int} {Q : List mV → mM → Prop}
theorem stk_push {f : Nat → Int} {s : List Int} {v : Int} {k : Nat} (hk : k = s.length) (h : stk f s) : stk (fun b => if b = k then v else f b) (v :: s) := by
  subst hk
  exact ⟨if_pos rfl, stk_congr (fun j hj => (if_neg (by omega)).symm) h⟩
theorem valueOf_loop {law to : Nat} {nm : Nat → Int} (hw : w = 22 ∨ w = 81) (hl : law < 3) (hto : I (w + 4) law = (to : Int)) (h64 : to ≤ 64) (hnu : ∀ i : Nat, i < to → I (w + 1) i = 2 → big (I (w + 2) i)) (hnm : ∀ j, j < 7 → L 67 j = nm j ∧ big (nm j)) :
    ∀ (t i : Nat) (s : List Int) (L' : Nat → Nat → Int), i + t = to → s.length ≤ i → (∀ x ∈ s, big x) → stk (L' (w + 5)) s → (∀ a, a ≠ w + 5 → L' a = L a) → (∀ L2, (∀ a, a ≠ w + 5 → L2 a = L a) → Q [.inr (.inl (lvR (I (w + 1)) (I (w + 2)) nm t i s))] (mem Ls p I L2)) → m_Wp i_Laws_valueOf 10 kc ks [(0, .inr (.inr w)), (1, .inl (law : Int)), (2, .inr (.inr 67)), (3, .inl (s.length : Int)), (4, .inl (i : Int))] [] (mem Ls p I L') Q := by
  intro t
  induction t with
  | zero =>
    intro i s L' hi hs hb hst hL K
    refine T_Laws_valueOf_10 hw ⟨by omega, fun _ => ⟨fun h => T_Laws_valueOf_228 ?_, fun h => ⟨by omega, T_Laws_valueOf_228 ?_⟩⟩, fun h => absurd (show I (w + 4) ((law : Int).toNat) ≤ (i : Int) by rw [Int.toNat_natCast, hto]; omega) h⟩
    · have := K L' hL
      match s, h with
      | [], _ => exact this
      | [a], h => exact absurd rfl h
      | a :: b :: r, _ => exact this
    · have := K L' hL
      match s, h, hst with
      | [], h, _ => simp at h
      | [a], h, hst => rw [show L' (w + 5) 0 = a from hst.1]; exact this
      | a :: b :: r, h, _ => simp only [List.length_cons] at h; omega
  | succ t ih =>
    intro i s L' hi hs hb hst hL K
    have h67 : ∀ j, j < 7 → L' 67 j = nm j := fun j hj => by rw [hL 67 (by omega)]; exact (hnm j hj).1
    have hni : (i : Int).toNat = i := Int.toNat_natCast i
    have hns : ((s.length : Nat) : Int).toNat = s.length := Int.toNat_natCast _
    have hwi : wr ((i : Int) + 1) = ((i + 1 : Nat) : Int) := by rw [wr_of (by omega) (by omega)]; omega
    -- the next step, from a stack s2 in L2
    have nxt : ∀ (s2 : List Int) (L2 : Nat → Nat → Int), s2.length ≤ i + 1 → (∀ x ∈ s2, big x) → stk (L2 (w + 5)) s2 → (∀ a, a ≠ w + 5 → L2 a = L a) → (∀ L2, (∀ a, a ≠ w + 5 → L2 a = L a) → Q [.inr (.inl (lvR (I (w + 1)) (I (w + 2)) nm t (i + 1) s2))] (mem Ls p I L2)) → m_Wp i_Laws_valueOf 205 kc ks [(0, .inr (.inr w)), (1, .inl (law : Int)), (2, .inr (.inr 67)), (3, .inl (s2.length : Int)), (4, .inl (i : Int))] [] (mem Ls p I L2) Q := by
      intro s2 L2 h1 h2 h3 h4 h5
      refine T_Laws_valueOf_205 hw ?_
      rw [hwi]
      exact ih (i + 1) s2 L2 (by omega) h1 h2 h3 h4 h5
    -- behind the two kinds that push
    have rest : (¬ I (w + 1) i = 2 ∧ ¬ (30 ≤ I (w + 1) i ∧ I (w + 1) i < 37)) → m_Wp i_Laws_valueOf 101 kc ks [(0, .inr (.inr w)), (1, .inl (law : Int)), (2, .inr (.inr 67)), (3, .inl (s.length : Int)), (4, .inl (i : Int)), (5, .inl (I (w + 1) i))] [] (mem Ls p I L') Q := by
      intro ⟨hk1, hk2⟩
      have hT : lvS (I (w + 1)) (I (w + 2)) nm i s = lvT (I (w + 1) i) s := by unfold lvS; rw [if_neg hk1, if_neg hk2]
      refine T_Laws_valueOf_101 hw ⟨fun h29 => ?_, fun h29 => ⟨fun h => ?_, fun h => ?_⟩⟩
      · refine T_Laws_valueOf_142 hw ⟨fun h => ?_, fun h => ?_⟩
        · match s, h with
          | [], _ => exact nxt [] L' (by simp) hb hst hL (by rw [lvR_some hT] at K; exact K)
          | [a], _ => exact nxt [a] L' (by simp) hb hst hL (by rw [lvR_some (s' := [a]) (by rw [hT]; exact if_neg h29)] at K; exact K)
          | a :: b :: r, h => simp only [List.length_cons] at h; omega
        · match s, h, hb, hst, K, hs, hT with
          | [], h, _, _, _, _, _ => simp at h
          | [a], h, _, _, _, _, _ => simp at h
          | a :: b :: r, h, hb, hst, K, hs, hT =>
            unfold lvT at hT
            simp only [if_neg h29] at hT
            simp only [List.length_cons] at hs
            have hla : wr (((a :: b :: r).length : Int) - 1) = ((r.length + 1 : Nat) : Int) := by rw [wr_of] <;> (try simp only [List.length_cons]) <;> omega
            have hlb : wr (((a :: b :: r).length : Int) - 2) = (r.length : Int) := by rw [wr_of] <;> (try simp only [List.length_cons]) <;> omega
            have hA : L' (w + 5) (r.length + 1) = a := hst.1
            have hB : L' (w + 5) r.length = b := hst.2.1
            have ba : big a := hb a (by simp)
            have bb : big b := hb b (by simp)
            rw [hla, hlb, Int.toNat_natCast, Int.toNat_natCast, hA, hB]
            refine ⟨by omega, by omega, q_joined bb ba ?_⟩
            have hlc : wr (((a :: b :: r).length : Int) + (-1)) = ((r.length + 1 : Nat) : Int) := by rw [wr_of] <;> (try simp only [List.length_cons]) <;> omega
            have hld : wr (((r.length + 1 : Nat) : Int) - 1) = (r.length : Int) := by rw [wr_of] <;> omega
            have jr := jn_range (k := I (w + 1) i) bb ba
            refine T_Laws_valueOf_168 hw ⟨fun h => T_Laws_valueOf_188 ?_, fun h => ⟨fun h' => ?_, fun h' => T_Laws_valueOf_188 ?_⟩⟩
            · rw [lcmp_pos] at h
              rw [if_pos (Or.inl h)] at hT
              rw [lvR_none hT] at K
              exact K L' hL
            · rw [lcmp_pos] at h
              rw [lcmp_nonneg] at h'
              rw [if_neg (by omega)] at hT
              rw [lvR_some hT] at K
              rw [hlc, hld, Int.toNat_natCast]
              refine ⟨by omega, ?_⟩
              refine nxt (jn (I (w + 1) i) b a :: r) _ (by simp only [List.length_cons]; omega) ?_ ?_ ?_ K
              · intro x hx
                rcases List.mem_cons.mp hx with rfl | hx
                · unfold big; omega
                · exact hb x (by simp [hx])
              · rw [mup_self]
                exact stk_push rfl hst.2.2
              · intro a' ha'
                rw [mup_other ha']; exact hL a' ha'
            · rw [lcmp_nonneg] at h'
              rw [if_pos (Or.inr (by omega))] at hT
              rw [lvR_none hT] at K
              exact K L' hL
      · -- a NOT without a value
        match s, h with
        | [], _ => exact T_Laws_valueOf_142 hw ⟨fun _ => nxt [] L' (by simp) hb hst hL (by rw [lvR_some hT] at K; exact K), fun h => by simp at h⟩
        | a :: r, h => simp only [List.length_cons] at h; omega
      · match s, h, hb, hst, K, hs, hT with
        | [], h, _, _, _, _, _ => simp at h
        | a :: r, h, hb, hst, K, hs, hT =>
          simp only [List.length_cons] at hs
          have hla : wr (((a :: r).length : Int) - 1) = (r.length : Int) := by rw [wr_of] <;> (try simp only [List.length_cons]) <;> omega
          rw [hla, Int.toNat_natCast, hst.1]
          simp only [lvT, if_pos (Classical.not_not.mp h29)] at hT
          rw [lvR_some hT] at K
          have go : ∀ v : Int, v = (if a = 0 then 1 else 0) → m_Wp i_Laws_valueOf 138 kc ks [(0, .inr (.inr w)), (1, .inl (law : Int)), (2, .inr (.inr 67)), (3, .inl ((a :: r).length : Int)), (4, .inl (i : Int))] [.inr (.inl v), .inl (r.length : Int), .inr (.inr (w + 5))] (mem Ls p I L') Q := by
            intro v hv
            refine T_Laws_valueOf_138 hw ⟨by omega, ?_⟩
            rw [Int.toNat_natCast]
            refine nxt (v :: r) _ (by simp only [List.length_cons]; omega) ?_ ?_ ?_ (by rw [hv]; exact K)
            · intro x hx
              rcases List.mem_cons.mp hx with rfl | hx
              · unfold big; rw [hv]; split <;> omega
              · exact hb x (by simp [hx])
            · rw [mup_self]; exact stk_push rfl hst.2
            · intro a' ha'; rw [mup_other ha']; exact hL a' ha'
          refine ⟨by omega, fun h => go 0 ?_, fun h => go 1 ?_⟩
          · rw [lcmp_zero] at h; rw [if_neg h]
          · rw [lcmp_zero] at h; rw [if_pos (Classical.not_not.mp h)]
    refine T_Laws_valueOf_10 hw ⟨by omega, fun h => absurd h (by rw [Int.toNat_natCast, hto]; omega), fun _ => ⟨by omega, fun h => by omega, fun h => ?_⟩⟩
    rw [hni, hns]
    refine ⟨fun h2 => ?_, fun h2 => ⟨by omega, by omega, ?_⟩⟩
    · refine T_Laws_valueOf_62 hw ⟨fun h => by omega, fun h => ⟨fun h3 => rest ⟨h2, by omega⟩, fun h3 => ⟨fun h4 => rest ⟨h2, by omega⟩, fun h4 => ?_⟩⟩⟩
      rw [lvR_some (s' := nm (I (w + 1) i - 30).toNat :: s) (by unfold lvS; rw [if_neg h2, if_pos (by omega)])] at K
      have hx : wr (I (w + 1) i - 30) = I (w + 1) i - 30 := wr_of (by omega) (by omega)
      rw [hx, hns, h67 _ (by omega)]
      refine ⟨by omega, by omega, ?_⟩
      rw [show wr ((s.length : Int) + 1) = ((nm (I (w + 1) i - 30).toNat :: s).length : Int) by rw [wr_of] <;> (try simp only [List.length_cons]) <;> omega]
      refine nxt (nm (I (w + 1) i - 30).toNat :: s) _ (by simp only [List.length_cons]; omega) ?_ ?_ ?_ K
      · intro x hx
        rcases List.mem_cons.mp hx with rfl | hx
        · exact (hnm _ (by omega)).2
        · exact hb x hx
      · rw [mup_self]; exact stk_push rfl hst
      · intro a' ha'; rw [mup_other ha']; exact hL a' ha'
    · rw [lvR_some (s' := I (w + 2) i :: s) (by unfold lvS; rw [if_pos (Classical.not_not.mp h2)])] at K
      rw [show wr ((s.length : Int) + 1) = ((I (w + 2) i :: s).length : Int) by rw [wr_of] <;> (try simp only [List.length_cons]) <;> omega]
      refine nxt (I (w + 2) i :: s) _ (by simp only [List.length_cons]; omega) ?_ ?_ ?_ K
      · intro x hx
        rcases List.mem_cons.mp hx with rfl | hx
        · exact hnu i (by omega) (Classical.not_not.mp h2)
        · exact hb x hx
      · rw [mup_self]; exact stk_push rfl hst
      · intro a' ha'; rw [mup_other ha']; exact hL a' ha'
end L2
section L3
variable {Ls p c kc ks : Nat} {I L d : Nat → Nat → Int} {Q : List mV → mM → Prop}
/-- a plan's laws as the class evaluates them: bounds -/
def lawOK (I : Nat → Nat → Int) (w : Nat) : Prop := (∀ law, law < 3 → ∀ i : Nat, (i : Int) < I (w + 4) law → I (w + 1) i = 2 → big (I (w + 2) i)) ∧ ∀ law, law < 3 → 0 ≤ I (w + 3) law ∧ I (w + 3) law ≤ I (w + 4) law ∧ I (w + 4) law ≤ 64
theorem q_valueOf {w law : Nat} {nm : Nat → Int} (hw : w = 22 ∨ w = 81) (hl : law < 3) (hok : lawOK I w) (hnm : ∀ j, j < 7 → L 67 j = nm j ∧ big (nm j)) (K : ∀ L2, (∀ a, a ≠ w + 5 → L2 a = L a) → Q [.inr (.inl (lv I w law nm))] (mem Ls p I L2)) : m_Call i_Laws_valueOf [.inr (.inr w), .inl (law : Int), .inr (.inr 67)] (mem Ls p I L) Q := by
  have h := hok.2 law hl
  refine E_Laws_valueOf hw ⟨by omega, ?_⟩
  rw [Int.toNat_natCast, show I (w + 3) law = ((I (w + 3) law).toNat : Int) by omega]
  exact valueOf_loop (to := (I (w + 4) law).toNat) (nm := nm) hw hl (by omega) (by omega) (fun i hi => hok.1 law hl i (by omega)) hnm (I (w + 4) law - I (w + 3) law).toNat (I (w + 3) law).toNat [] L (by omega) (by simp) (by simp) True.intro (fun _ _ => rfl) K
/-- the names of a law: talks, waits, off, rate, queue, told, minute -/
def nmv (I : Nat → Nat → Int) (p : Nat) (d : Nat → Nat → Int) (x queue : Int) : Nat → Int
  | 0 => I (p + 2) x.toNat
  | 1 => I 65 x.toNat
  | 2 => d 1 x.toNat
  | 3 => I 66 x.toNat
  | 4 => queue
  | 5 => d 3 x.toNat
  | _ => d 0 10
/-- longs that a law's value leaves -/
def lkeep (L L' : Nat → Nat → Int) : Prop := ∀ a, 98 ≤ a → L' a = L a
theorem q_lawOf {law : Nat} {x q : Int} (hp : isPlan p) (hc : isDay c) (hl : law < 3) (hok : lawOK I (p + 13)) (hx : 0 ≤ x ∧ x < 6) (hb : ∀ j, j < 7 → big (nmv I p d x q j)) (K : ∀ L2, lkeep L L2 → Q [.inr (.inl (lv I (p + 13) law (nmv I p d x q)))] (mem Ls p (dput I c d) L2)) : m_Call i_Way_lawOf [.inr (.inr 64), .inr (.inr c), .inl (law : Int), .inl x, .inl q] (mem Ls p (dput I c d) L) Q := by
  obtain ⟨⟨s0, s1, s2, s3, s4, s5, s6, s7, s8⟩, sp, spk, s64, s65, s66⟩ := dS hp hc I d
  have hlv : lv (dput I c d) (p + 13) law (nmv I p d x q) = lv I (p + 13) law (nmv I p d x q) := by
    unfold lv
    rw [spk 14 (by omega), spk 15 (by omega), spk 16 (by omega), spk 17 (by omega)]
  have hok' : lawOK (dput I c d) (p + 13) := by
    unfold lawOK
    rw [spk 14 (by omega), spk 15 (by omega), spk 16 (by omega), spk 17 (by omega)]
    exact hok
  refine E_Way_lawOf hp hc ⟨hx, by omega, hx, by omega, hx, by omega, hx, by omega, by omega, hx, by omega, by omega, ?_⟩
  refine q_valueOf (nm := nmv I p d x q) (by unfold isPlan at hp; omega) hl hok' ?_ (fun L2 h2 => T_Way_lawOf_104 hc ?_)
  · intro j hj
    refine ⟨?_, hb j hj⟩
    have h7 : j = 0 ∨ j = 1 ∨ j = 2 ∨ j = 3 ∨ j = 4 ∨ j = 5 ∨ j = 6 := by omega
    rcases h7 with rfl | rfl | rfl | rfl | rfl | rfl | rfl <;> simp [mup_app, nmv, s0, s1, s3, s65, s66, spk 2 (by omega)]
  · rw [hlv]
    refine K L2 (fun a ha => ?_)
    rw [h2 a (by unfold isPlan at hp; omega)]
    rw [mup_other (by omega), mup_other (by omega), mup_other (by omega), mup_other (by omega), mup_other (by omega), mup_other (by omega), mup_other (by omega)]
end L3
