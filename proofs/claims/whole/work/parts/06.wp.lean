/-! ===== what a run needs, by steps ===== -/
theorem m_man_mono {ex ex' : mF → mO} (h : ∀ f q, ex f = some q → ex' f = some q) {as : List mV} {M : mM} {q : List mV × mM} (hq : m_man ex as M = some q) : m_man ex' as M = some q := by
  unfold m_man at hq ⊢
  split at hq
  · next x a b o n sh R I L =>
    try dsimp only at hq ⊢
    cases c1 : (Nat.beq n 144 && Nat.beq (sh (x + 2)).1 13 && Nat.beq (sh (R (x + 2) 9)).1 9 && Nat.beq (sh (o + 2)).1 1 && Nat.beq (sh (o + 2)).2 1)
    · rw [c1] at hq; cases hq
    · rw [c1] at hq
      try dsimp only [cond_true] at hq ⊢
      cases c2 : decide (0 ≤ a ∧ a < I (R (x + 2) 9) 13)
      · rw [c2] at hq; exact hq
      · rw [c2] at hq
        try dsimp only [cond_true] at hq ⊢
        cases c3 : decide (0 ≤ b ∧ b ≤ 7)
        · rw [c3] at hq; exact hq
        · rw [c3] at hq
          try dsimp only [cond_true] at hq ⊢
          obtain ⟨z, h1, h2⟩ := Option.bind_eq_some_iff.mp hq
          exact Option.bind_eq_some_iff.mpr ⟨z, h _ _ h1, h2⟩
  · cases hq
theorem m_mono1 : ∀ (n m : Nat) (f : mF) (q : List mV × mM), m_exec n m f = some q → m_exec (n + 1) m f = some q := by
  intro n
  induction n with
  | zero => intro m f q h; cases h
  | succ n ih =>
    intro m f q h
    obtain ⟨r, kc, ks, lv, st, M⟩ := f
    cases r with
    | nil => cases h
    | cons e r' =>
      unfold m_exec at h ⊢
      try dsimp only at h ⊢
      generalize m_step m e r' kc ks lv st M = sr at h ⊢
      obtain ⟨t, c, s1, s2, m', as⟩ := sr
      match t with
      | 0 => exact ih _ _ _ h
      | 1 =>
        try dsimp only at h ⊢
        cases hc : m_holdsB c <;> rw [hc] at h <;> exact ih _ _ _ h
      | 2 =>
        try dsimp only at h ⊢
        cases hc : m_holdsB c
        · rw [hc] at h; cases h
        · rw [hc] at h; exact ih _ _ _ h
      | 3 =>
        try dsimp only at h ⊢
        cases hc : m_holdsB c
        · rw [hc] at h; cases h
        · rw [hc] at h
          try dsimp only [cond_true] at h ⊢
          obtain ⟨z, h1, h2⟩ := Option.bind_eq_some_iff.mp h
          refine Option.bind_eq_some_iff.mpr ⟨z, ?_, ih _ _ _ h2⟩
          cases hm : Nat.beq m' mLman
          · rw [hm] at h1; exact ih _ _ _ h1
          · rw [hm] at h1; exact m_man_mono (fun f q => ih mMan f q) h1
      | 4 =>
        try dsimp only at h ⊢
        exact h
      | 5 =>

        exact ih _ _ _ h
      | 6 =>
        try dsimp only at h ⊢
        obtain ⟨z, h1, h2⟩ := Option.bind_eq_some_iff.mp h
        exact Option.bind_eq_some_iff.mpr ⟨z, ih _ _ _ h1, ih _ _ _ h2⟩
      | 7 => exact h
      | _ + 8 => cases h
theorem m_mono {n n' m : Nat} {f : mF} {q : List mV × mM} (hn : n ≤ n') (h : m_exec n m f = some q) : m_exec n' m f = some q := by
  obtain ⟨d, rfl⟩ := Nat.le.dest hn
  induction d with
  | zero => exact h
  | succ d ih => exact m_mono1 _ _ _ _ (ih (Nat.le_add_right _ _))
theorem m_det {n n' m : Nat} {f : mF} {q q' : List mV × mM} (h : m_exec n m f = some q) (h' : m_exec n' m f = some q') : q = q' := by
  have h1 := m_mono (Nat.le_max_left n n') h
  have h2 := m_mono (Nat.le_max_right n n') h'
  exact Option.some.inj (h1.symm.trans h2)
/-- the run comes to an end, with Q -/
def m_Wr (m : Nat) (f : mF) (Q : List mV → mM → Prop) : Prop := ∃ (n : Nat) (q : List mV × mM), m_exec n m f = some q ∧ Q q.1 q.2
def m_Wp (m pc kc ks : Nat) (lv : List (Nat × mV)) (st : List mV) (M : mM) (Q : List mV → mM → Prop) : Prop := m_Wr m (m_seek (mcd m) pc, kc, ks, lv, st, M) Q
def m_Call (m : Nat) (as : List mV) (M : mM) (Q : List mV → mM → Prop) : Prop := m_Wr m (mcd m, 0, 0, m_ent 0 as, [], M) Q
def m_CallA (m : Nat) (as : List mV) (M : mM) (Q : List mV → mM → Prop) : Prop := ∃ (n : Nat) (q : List mV × mM), (bif Nat.beq m mLman then m_man (m_exec n mMan) as M else m_exec n m (mcd m, 0, 0, m_ent 0 as, [], M)) = some q ∧ Q q.1 q.2
theorem m_Wr.mono {m : Nat} {f : mF} {Q Q' : List mV → mM → Prop} (h : m_Wr m f Q) (hQ : ∀ r M, Q r M → Q' r M) : m_Wr m f Q' := by
  obtain ⟨n, q, h1, h2⟩ := h
  exact ⟨n, q, h1, hQ _ _ h2⟩
theorem m_Call.mono {m : Nat} {as : List mV} {M : mM} {Q Q' : List mV → mM → Prop} (h : m_Call m as M Q) (hQ : ∀ r M', Q r M' → Q' r M') : m_Call m as M Q' := m_Wr.mono h hQ
theorem m_Wr.swap {m m' : Nat} {f f' : mF} {Q : List mV → mM → List mV → mM → Prop} (h : m_Wr m f (fun r M => m_Wr m' f' (Q r M))) : m_Wr m' f' (fun r' M' => m_Wr m f (fun r M => Q r M r' M')) := by
  obtain ⟨n, q, h1, n', q', h2, h3⟩ := h
  exact ⟨n', q', h2, n, q, h1, h3⟩
def m_isNop (e : mE) : Bool := match e.2.1 with
  | .nop => true
  | _ => false
def m_in : List Nat → Nat → Bool
  | [], _ => false
  | a :: l, x => bif Nat.beq a x then true else m_in l x
def m_swp (K : Nat → Prop) : List (Int × Nat) → Int → Nat → Prop
  | [], _, d => K d
  | (v, t) :: r, x, d => (x = v → K t) ∧ (¬ x = v → m_swp K r x d)
/-- k steps, as far as the cuts; what is left must come to an end -/
def m_wp : Nat → List Nat → Nat → Bool → mF → (List mV → mM → Prop) → Prop
  | 0, _, m, _, f, Q => m_Wr m f Q
  | k + 1, cs, m, b, (r, kc, ks, lv, st, M), Q => match r with
    | [] => False
    | e :: r' => bif b && m_isNop e && m_in cs e.1 then m_Wr m (e :: r', kc, ks, m_keep e.2.2.2.1 lv, st, M) Q
      else (match m_step m e r' kc ks lv st M with
      | (t, c, s1, s2, m', as) => (match t with
        | 0 => m_wp k cs m true s1 Q
        | 1 => (m_holds c → m_wp k cs m true s1 Q) ∧ (¬ m_holds c → m_wp k cs m true s2 Q)
        | 2 => m_holds c ∧ m_wp k cs m true s1 Q
        | 3 => m_holds c ∧ m_CallA m' as (m_mem s1) (fun v M' => m_Wr m (m_push s1 v M') Q)
        | 4 => m_holds c ∧ Q as (m_mem s1)
        | 5 => m_swp (fun t => m_wp k cs m true (m_at s1 (m_seek (mcd m) t)) Q) (mSw m') c.2.1 c.1
        | 6 => m_Call m' as (m_mem s1) (fun v M' => m_Wr m (m_push s1 v M') Q)
        | 7 => Q as (m_mem s1)
        | _ => False))
theorem m_holds_iff (c : mCn) : m_holdsB c = true ↔ m_holds c := by
  obtain ⟨t, x, y, w, z⟩ := c
  unfold m_holdsB m_holds
  split <;> simp_all
theorem m_keep_idem (k : Nat) : ∀ lv : List (Nat × mV), m_keep k (m_keep k lv) = m_keep k lv := by
  intro lv
  induction lv with
  | nil => rfl
  | cons a r ih =>
    obtain ⟨j, v⟩ := a
    cases h : Nat.beq (Nat.mod (Nat.div k (Nat.pow 2 j)) 2) 1
    · have e1 : m_keep k ((j, v) :: r) = m_keep k r := by rw [m_keep, h]; rfl
      rw [e1, ih]
    · have e1 : ∀ r : List (Nat × mV), m_keep k ((j, v) :: r) = (j, v) :: m_keep k r := fun r => by rw [m_keep, h]; rfl
      rw [e1, e1, ih]
theorem m_swp_sel {K : Nat → Prop} : ∀ (l : List (Int × Nat)) {x : Int} {d : Nat}, m_swp K l x d → K (m_sel l x d) := by
  intro l
  induction l with
  | nil => intro x d h; exact h
  | cons a r ih =>
    intro x d h
    obtain ⟨v, t⟩ := a
    unfold m_sel
    by_cases hx : x = v
    · rw [show decide (x = v) = true from decide_eq_true hx]; exact h.1 hx
    · rw [show decide (x = v) = false from decide_eq_false hx]; exact ih (h.2 hx)
theorem m_wp_sound : ∀ (k : Nat) {cs : List Nat} {m : Nat} {b : Bool} {f : mF} {Q : List mV → mM → Prop}, m_wp k cs m b f Q → m_Wr m f Q := by
  intro k
  induction k with
  | zero => intro cs m b f Q h; exact h
  | succ k ih =>
    intro cs m b f Q h
    obtain ⟨r, kc, ks, lv, st, M⟩ := f
    cases r with
    | nil => exact h.elim
    | cons e r' =>
      unfold m_wp at h
      try dsimp only at h
      cases hb : (b && m_isNop e && m_in cs e.1)
      · rw [hb] at h
        try dsimp only [cond_false] at h
        generalize hsr : m_step m e r' kc ks lv st M = sr at h
        obtain ⟨t, c, s1, s2, m', as⟩ := sr
        match t, hsr, h with
        | 0, hsr, h =>
          obtain ⟨n, q, h1, h2⟩ := ih h
          exact ⟨n + 1, q, by unfold m_exec; try dsimp only; rw [hsr]; exact h1, h2⟩
        | 1, hsr, h =>
          try dsimp only at h
          cases hc : m_holdsB c
          · obtain ⟨n, q, h1, h2⟩ := ih (h.2 (fun z => by rw [(m_holds_iff c).mpr z] at hc; cases hc))
            exact ⟨n + 1, q, by unfold m_exec; try dsimp only; rw [hsr]; try dsimp only; rw [hc]; exact h1, h2⟩
          · obtain ⟨n, q, h1, h2⟩ := ih (h.1 ((m_holds_iff c).mp hc))
            exact ⟨n + 1, q, by unfold m_exec; try dsimp only; rw [hsr]; try dsimp only; rw [hc]; exact h1, h2⟩
        | 2, hsr, h =>
          try dsimp only at h
          obtain ⟨n, q, h1, h2⟩ := ih h.2
          exact ⟨n + 1, q, by unfold m_exec; try dsimp only; rw [hsr]; try dsimp only; rw [(m_holds_iff c).mpr h.1]; exact h1, h2⟩
        | 3, hsr, h =>
          try dsimp only at h
          obtain ⟨hc, n, q, h1, h2⟩ := h
          obtain ⟨n', q', h3, h4⟩ := h2
          refine ⟨max n n' + 1, q', ?_, h4⟩
          unfold m_exec; try dsimp only; rw [hsr]; try dsimp only; rw [(m_holds_iff c).mpr hc]
          try dsimp only [cond_true]
          refine Option.bind_eq_some_iff.mpr ⟨q, ?_, m_mono (Nat.le_max_right n n') h3⟩
          cases hm : Nat.beq m' mLman
          · rw [hm] at h1; exact m_mono (Nat.le_max_left n n') h1
          · rw [hm] at h1; exact m_man_mono (ex := m_exec n mMan) (fun f q hq => m_mono (Nat.le_max_left n n') hq) h1
        | 4, hsr, h =>
          try dsimp only at h
          exact ⟨1, (as, m_mem s1), by unfold m_exec; try dsimp only; rw [hsr]; try dsimp only; rw [(m_holds_iff c).mpr h.1]; rfl, h.2⟩
        | 5, hsr, h =>

          try dsimp only at h
          obtain ⟨n, q, h1, h2⟩ := ih (m_swp_sel (K := fun t => m_wp k cs m true (m_at s1 (m_seek (mcd m) t)) Q) _ h)
          exact ⟨n + 1, q, by unfold m_exec; try dsimp only; rw [hsr]; exact h1, h2⟩
        | 6, hsr, h =>
          try dsimp only at h
          obtain ⟨n, q, h1, h2⟩ := h
          obtain ⟨n', q', h3, h4⟩ := h2
          refine ⟨max n n' + 1, q', ?_, h4⟩
          unfold m_exec; try dsimp only; rw [hsr]; try dsimp only
          exact Option.bind_eq_some_iff.mpr ⟨q, m_mono (Nat.le_max_left n n') h1, m_mono (Nat.le_max_right n n') h3⟩
        | 7, hsr, h =>
          exact ⟨1, (as, m_mem s1), by unfold m_exec; try dsimp only; rw [hsr]; rfl, h⟩
        | _ + 8, _, h => exact h.elim
      · rw [hb] at h
        obtain ⟨n, q, h1, h2⟩ := h
        have hn : e.2.1 = .nop := by
          simp only [Bool.and_eq_true] at hb
          have h3 := hb.1.2
          unfold m_isNop at h3
          split at h3
          · next h4 => exact h4
          · cases h3
        refine ⟨n, q, ?_, h2⟩
        cases n with
        | zero => cases h1
        | succ n =>
          obtain ⟨pc, i, ln, e1, e2, e3, z⟩ := e
          try dsimp only at hn
          subst hn
          unfold m_exec at h1 ⊢
          unfold m_step mgo at h1 ⊢
          try dsimp only at h1 ⊢
          rw [m_keep_idem] at h1
          exact h1
/-- a method from its entry, a run from a cut -/
theorem m_call_of (k : Nat) (cs : List Nat) {m : Nat} {as : List mV} {M : mM} {Q : List mV → mM → Prop} (h : m_wp k cs m false (mcd m, 0, 0, m_ent 0 as, [], M) Q) : m_Call m as M Q := m_wp_sound k h
theorem m_wp_of (k : Nat) (cs : List Nat) {m pc kc ks : Nat} {lv : List (Nat × mV)} {st : List mV} {M : mM} {Q : List mV → mM → Prop} (h : m_wp k cs m false (m_seek (mcd m) pc, kc, ks, lv, st, M) Q) : m_Wp m pc kc ks lv st M Q := m_wp_sound k h
