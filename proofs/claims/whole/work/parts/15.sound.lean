/-! ===== a run of the mini machine is a run of the machine ===== -/
def m_disp (n m : Nat) (sr : mSR) : mO := match sr with
  | (t, c, s1, s2, m', as) => (match t with
    | 0 => m_exec n m s1
    | 1 => bif m_holdsB c then m_exec n m s1 else m_exec n m s2
    | 2 => bif m_holdsB c then m_exec n m s1 else none
    | 3 => bif m_holdsB c then (bif Nat.beq m' mLman then m_man (m_exec n mMan) as (m_mem s1) else m_exec n m' (mcd m', 0, 0, m_ent 0 as, [], m_mem s1)).bind (fun q => m_exec n m (m_push s1 q.1 q.2)) else none
    | 4 => bif m_holdsB c then some (as, m_mem s1) else none
    | 5 => m_exec n m (m_at s1 (m_seek (mcd m) (m_sel (mSw m') c.2.1 c.1)))
    | 6 => (m_exec n m' (mcd m', 0, 0, m_ent 0 as, [], m_mem s1)).bind (fun q => m_exec n m (m_push s1 q.1 q.2))
    | 7 => some (as, m_mem s1)
    | _ => none)
theorem exec_disp (n m kc ks : Nat) (e : mE) (r : List mE) (lv : List (Nat × mV)) (st : List mV) (M : mM) : m_exec (n + 1) m (e :: r, kc, ks, lv, st, M) = m_disp n m (m_step m e r kc ks lv st M) := rfl
theorem noEx {q : List mV × mM} (h : (none : mO) = some q) {P : Prop} : P := by cases h
theorem cond_ne {b : Bool} {x y a c : Nat} (hx : ¬ x = 0) (hz : c = 0 → a = 0) (h : (bif b then x else c) = 0) : (bif b then y else a) = 0 := by
  cases b
  · exact hz h
  · exact absurd h hx
theorem mCS (m : Nat) (h : mC m = 0) : mS m = 0 :=
  cond_ne (by decide) (fun h => cond_ne (by decide) (fun h => cond_ne (by decide) (fun h => cond_ne (by decide) (fun h => cond_ne (by decide) (fun h => cond_ne (by decide) (fun h => cond_ne (by decide) (fun h => cond_ne (by decide) (fun h => cond_ne (by decide) (fun h => cond_ne (by decide) (fun h => cond_ne (by decide) (fun h => cond_ne (by decide) (fun h => cond_ne (by decide) (fun h => rfl) h) h) h) h) h) h) h) h) h) h) h) h) h
theorem disp_call {n m e1 e2 kc ks : Nat} {ck : List mV → Bool} {r : List mE} {lv : List (Nat × mV)} {st : List mV} {M : mM} {q : List mV × mM} (hk : kc ≤ mC m) (hs : ks ≤ mS m) (h : m_disp n m (m_call m e1 e2 ck r kc ks lv st M) = some q) :
    ∃ (as st' : List mV) (q1 : List mV × mM), m_pop e2 st [] = some (as, st') ∧ ck as = true ∧ m_cats st' ≤ 8 ∧ m_cats as ≤ mL e1 ∧ kc + mC e1 ≤ mC m ∧ ks + mS e1 ≤ mS m ∧ (¬ e1 = mLman → m_exec n e1 (mcd e1, 0, 0, m_ent 0 as, [], M) = some q1) ∧ (e1 = mLman → m_man (m_exec n mMan) as M = some q1) ∧ m_exec n m (r, kc + mC e1, ks + mS e1, lv, q1.1 ++ st', q1.2) = some q := by
  unfold m_call at h
  cases hp : m_pop e2 st [] with
  | none => rw [hp] at h; exact noEx h
  | some x =>
    obtain ⟨as, st'⟩ := x
    rw [hp] at h
    dsimp only at h
    cases hc : (ck as && Nat.ble (m_cats st') 8 && Nat.ble (m_cats as) (mL e1))
    · rw [hc] at h; exact noEx h
    · rw [hc] at h
      simp only [Bool.and_eq_true] at hc
      dsimp only [cond_true] at h
      have h8 := Nat.le_of_ble_eq_true hc.1.2
      have hl := Nat.le_of_ble_eq_true hc.2
      cases hb : Nat.beq (mC e1) 0
      · rw [hb] at h
        dsimp only [cond_false] at h
        unfold m_disp at h
        dsimp only at h
        cases hh : m_holdsB (12, ((kc + mC e1 : Nat) : Int), ((mC m : Nat) : Int), ((ks + mS e1 : Nat) : Int), ((mS m : Nat) : Int))
        · rw [hh] at h; exact noEx h
        · rw [hh] at h
          dsimp only [cond_true] at h
          obtain ⟨q1, h1, h2⟩ := Option.bind_eq_some_iff.mp h
          have hx := (m_holds_iff _).mp hh
          have hx1 : ((kc + mC e1 : Nat) : Int) ≤ ((mC m : Nat) : Int) ∧ ((ks + mS e1 : Nat) : Int) ≤ ((mS m : Nat) : Int) := hx
          refine ⟨as, st', q1, rfl, hc.1.1, h8, hl, by omega, by omega, fun hn => ?_, fun hn => ?_, h2⟩
          · cases hm : Nat.beq e1 mLman
            · rw [hm] at h1; exact h1
            · exact absurd (Nat.eq_of_beq_eq_true hm) hn
          · rw [hn, Nat.beq_refl] at h1; exact h1
      · rw [hb] at h
        dsimp only [cond_true] at h
        unfold m_disp at h
        dsimp only at h
        obtain ⟨q1, h1, h2⟩ := Option.bind_eq_some_iff.mp h
        have h0 := Nat.eq_of_beq_eq_true hb
        have h0' := mCS _ h0
        refine ⟨as, st', q1, rfl, hc.1.1, h8, hl, by omega, by omega, fun _ => h1, fun hn => ?_, ?_⟩
        · rw [hn] at h0; exact absurd h0 (by decide)
        · rw [h0, h0']; exact h2
def m_plain (i : Instr) : Bool := match i with
  | .nop => false
  | .athrow => false
  | .tableswitch _ _ _ _ => false
  | _ => true
theorem okE_plain {m pc len e1 e2 e3 : Nat} {i : Instr} {z : Int} (hp : m_plain i = true) (h : m_okE m (pc, i, len, e1, e2, e3, z) = true) : decode (mB m) pc = .ok (i, m_ilen i) ∧ len = m_ilen i ∧ m_okX m (pc, i, len, e1, e2, e3, z) = true := by
  have h1 : (decide (decode (mB m) pc = .ok (i, len)) && Nat.beq len (m_ilen i) && m_okX m (pc, i, len, e1, e2, e3, z)) = true := by
    cases i <;> first | exact h | (cases hp; done)
  simp only [Bool.and_eq_true, decide_eq_true_eq] at h1
  have h2 := Nat.eq_of_beq_eq_true h1.1.2
  exact ⟨by rw [← h2]; exact h1.1.1, h2, h1.2⟩
theorem okL_tail {m : Nat} {e : mE} {r : List mE} (h : m_okL m (e :: r) = true) : m_okE m e = true ∧ m_okL m r = true ∧ ∀ e' r', r = e' :: r' → m_term e.2.1 = false → e'.1 = e.1 + e.2.2.1 := by
  unfold m_okL at h ⊢
  rw [List.all_cons, m_chain.eq_def] at h
  dsimp only at h
  simp only [Bool.and_eq_true] at h
  refine ⟨h.1.1, by rw [h.1.2, h.2.2]; rfl, fun e' r' hr ht => ?_⟩
  subst hr
  have h3 := h.2.1
  dsimp only at h3
  rw [ht, Bool.false_or] at h3
  exact Nat.eq_of_beq_eq_true h3
theorem okL_seek {m t : Nat} : ∀ {l : List mE}, m_okL m l = true → m_okL m (m_seek l t) = true := by
  intro l
  induction l with
  | nil => intro h; exact h
  | cons e r ih =>
    intro h
    unfold m_seek
    cases hb : Nat.beq e.1 t
    · exact ih (okL_tail h).2.1
    · exact h
theorem seek_head {t : Nat} {e : mE} {r : List mE} : ∀ {l : List mE}, m_seek l t = e :: r → e.1 = t := by
  intro l
  induction l with
  | nil => intro h; cases h
  | cons a b ih =>
    intro h
    unfold m_seek at h
    cases hb : Nat.beq a.1 t
    · rw [hb] at h; exact ih h
    · rw [hb] at h
      cases h
      exact Nat.eq_of_beq_eq_true hb
def pcOf (r : List mE) : Nat := match r with
  | e :: _ => e.1
  | [] => 0
def EndI (mid : Nat) (res : List mV) (pc : Nat) : Prop := match res with
  | [] => decode (mB mid) pc = .ok (.return_, 1) ∧ mRt mid = none
  | [.inl x] => wr x = x ∧ decode (mB mid) pc = .ok (.ireturn, 1) ∧ (mRt mid = some .int ∨ (mRt mid = some .boolean ∧ (x = 0 ∨ x = 1)))
  | [.inr (.inl x)] => wl x = x ∧ decode (mB mid) pc = .ok (.lreturn, 1) ∧ mRt mid = some .long
  | _ => False
def EndP (p : Program) (l : Launch) (e : Env) (R : Room) (s : State) (m : MethodId) (args : Array Value) (below : List Frame) (meth : Method) (c : Code) (Q : State → Prop) (G : mGl) (mid : Nat) (q : List mV × mM) : Prop :=
  ∀ (pc kc ks : Nat) (H : Heap) (locs : List Loc) (ls : Array Slot), kc ≤ mC mid → ks ≤ mS mid → wfM G q.2 → va_P (g_D G) vwCl (wsM G q.2) H → va_D (g_A G) (wsM G q.2) → va_S (g_A G) s.heap H locs → (q.2.1 < 144 → H.size = g_z G + (q.2.1 - 2)) → EndI mid q.1 pc → W p l e R s m args below meth c H locs kc ks Q (F0 m pc ls (q.1.map (tr G)))
def S1 (G : mGl) (l : Launch) (n : Nat) : Prop := ∀ {p : Program} {e : Env} {R : Room} {s : State} {m : MethodId} {args : Array Value} {below : List Frame} {meth : Method} {c : Code} {Q : State → Prop} {mid : Nat} {q : List mV × mM} {r : List mE} {kc ks : Nat} {lv : List (Nat × mV)} {st : List mV} {M : mM} {H : Heap} {locs : List Loc} {ls : Array Slot},
  mid < 260 → ¬ mid = 98 → m_okL mid r = true → Ctx G mid p R s m args meth c → EndP p l e R s m args below meth c Q G mid q → m_exec n mid (r, kc, ks, lv, st, M) = some q → Frm G mid s kc ks lv st M H locs ls → W p l e R s m args below meth c H locs kc ks Q (F0 m (pcOf r) ls (st.map (tr G)))
def S2 (G : mGl) (l : Launch) (n : Nat) : Prop := ∀ (mid : Nat) (as : List mV) (M : mM) (q : List mV × mM), mid < 260 → ¬ mid = 259 → ¬ mid = 98 → m_exec n mid (mcd mid, 0, 0, m_ent 0 as, [], M) = some q → (∀ v ∈ as, wfV v) → m_cats as ≤ mL mid → Con G l mid as M q
/-- the law's call of its own man -/
def LmanP (G : mGl) (l : Launch) (n : Nat) : Prop := ∀ {p : Program} {e : Env} {R : Room} {s : State} {m : MethodId} {args : Array Value} {below : List Frame} {meth : Method} {c : Code} {Q : State → Prop} {mid : Nat} {q q1 : List mV × mM} {r : List mE} {pc kc ks idx : Nat} {lv : List (Nat × mV)} {st st' as : List mV} {M : mM} {H : Heap} {locs : List Loc} {ls : Array Slot},
  Ctx G mid p R s m args meth c → decode (mB mid) pc = .ok (.invokestatic idx, 3) → Cond.methodLink (mY mid).cls idx (mY mLman) ∈ gT → m_okRoom mid mLman = true → m_pop 4 st [] = some (as, st') → m_cats st' ≤ 8 → Frm G mid s kc ks lv st M H locs ls → kc + mC mLman ≤ mC mid → ks + mS mLman ≤ mS mid → m_man (m_exec n mMan) as M = some q1 → GoP p l e R s m args below meth c Q G mid n q r (pc + 3) → m_exec n mid (r, kc + mC mLman, ks + mS mLman, lv, q1.1 ++ st', q1.2) = some q → W p l e R s m args below meth c H locs kc ks Q (F0 m pc ls (st.map (tr G)))
/-- a sign of the words, as the tokens' constructor asks for it -/
def ChP (G : mGl) (l : Launch) : Prop := ∀ {p : Program} {e : Env} {R : Room} {s : State} {m : MethodId} {args : Array Value} {below : List Frame} {meth : Method} {c : Code} {Q : State → Prop} {mid pc kc ks idx : Nat} {lv : List (Nat × mV)} {st : List mV} {M : mM} {H : Heap} {locs : List Loc} {ls : Array Slot} {i : Int},
  Ctx G mid p R s m args meth c → decode (mB mid) pc = .ok (.invokevirtual idx, 3) → Cond.methodLink (mY mid).cls idx ⟨"java/lang/String", "charAt", "(I)C"⟩ ∈ gT → 5 ≤ mFr mid → 120 ≤ mLo mid → m_cats st ≤ 8 → 0 ≤ i → i < 120 → Frm G mid s kc ks lv (.inl i :: .inr (.inr 1000000) :: st) M H locs ls → W p l e R s m args below meth c H locs kc ks Q (F0 m (pc + 3) ls ((.inl (m_words.getD i.toNat 0) :: st).map (tr G))) → W p l e R s m args below meth c H locs kc ks Q (F0 m pc ls ((.inl i :: .inr (.inr 1000000) :: st).map (tr G)))
/-- .. and the words themselves as a constant -/
def LdP (G : mGl) (l : Launch) : Prop := ∀ {p : Program} {e : Env} {R : Room} {s : State} {m : MethodId} {args : Array Value} {below : List Frame} {meth : Method} {c : Code} {Q : State → Prop} {mid pc kc ks : Nat} {st : List mV} {H : Heap} {locs : List Loc} {ls : Array Slot},
  Ctx G mid p R s m args meth c → (mY mid).cls = "SpeakClock$Tokens" → decode (mB mid) pc = .ok (.ldc 38, 2) → W p l e R s m args below meth c H locs kc ks Q (F0 m (pc + 2) ls ((.inr (.inr 1000000) :: st).map (tr G))) → W p l e R s m args below meth c H locs kc ks Q (F0 m pc ls (st.map (tr G)))
def LibOK : Prop := (Cond.instanceMethod Lib.objectInit ∈ gT ∧ Cond.code Lib.objectInit ⟨#[0xb1]⟩ 1 none ∈ gT) ∧ (∀ b, 1000 ≤ b → b ≤ 1005 → Cond.static (m_mY b).1 ∈ gT ∧ Cond.code (m_mY b).1 (m_mY b).2.1 (m_mY b).2.2.1 (m_mY b).2.2.2 ∈ gT) ∧ Cond.initialized "java/lang/Math" ∈ gT ∧ Cond.native arraycopyName ∈ gT ∧ Cond.static arraycopyName ∈ gT ∧ Cond.initialized "java/lang/System" ∈ gT
theorem m_if {P : Prop} {dP : Decidable P} {A B : mO} {q : List mV × mM} (h : (bif @decide P dP then A else B) = some q) : (P → A = some q) ∧ (¬ P → B = some q) := by
  refine ⟨fun hp => ?_, fun hp => ?_⟩
  · rw [decide_eq_true hp] at h; exact h
  · rw [decide_eq_false hp] at h; exact h
theorem m_chk {c : mCn} {A : mO} {q : List mV × mM} (h : (bif m_holdsB c then A else none) = some q) : m_holds c ∧ A = some q := by
  cases hc : m_holdsB c
  · rw [hc] at h; exact noEx h
  · rw [hc] at h; exact ⟨(m_holds_iff c).mp hc, h⟩
theorem bd_chk {b : Bool} {x y : mSR} {n m : Nat} {q : List mV × mM} (h : m_disp n m (bif b then x else y) = some q) (hy : m_disp n m y = none) : b = true ∧ m_disp n m x = some q := by
  cases b
  · dsimp only [cond_false] at h; rw [hy] at h; exact noEx h
  · exact ⟨rfl, h⟩
section SN1
variable {p : Program} {l : Launch} {e : Env} {R : Room} {s : State} {m : MethodId} {args : Array Value} {below : List Frame} {meth : Method} {c : Code} {Q : State → Prop} {G : mGl} {mid n : Nat} {q q1 : List mV × mM} {r : List mE} {pc pc' kc ks : Nat} {lv : List (Nat × mV)} {st st' : List mV} {M : mM} {H : Heap} {locs : List Loc} {ls : Array Slot}
theorem s_row {stv : List Value} (go : GoP p l e R s m args below meth c Q G mid n q r pc') (hF : Frm G mid s kc ks lv st M H locs ls) (hw : ∀ v ∈ st', wfV v) (h : m_exec n mid (r, kc, ks, lv, st', M) = some q) (hm : st'.map (tr G) = stv) (row : W p l e R s m args below meth c H locs kc ks Q (F0 m pc' ls stv) → W p l e R s m args below meth c H locs kc ks Q (F0 m pc ls (st.map (tr G)))) : W p l e R s m args below meth c H locs kc ks Q (F0 m pc ls (st.map (tr G))) :=
  row (hm ▸ s_st go hF hw h)
theorem trI {v : Int} {V : Int32} (h : Int32.ofInt v = V) : ((.inl v : mV) :: st).map (tr G) = .int V :: st.map (tr G) := by
  rw [← h]; rfl
theorem trL {v : Int} {V : Int64} (h : Int64.ofInt v = V) : ((.inr (.inl v) : mV) :: st).map (tr G) = .long V :: st.map (tr G) := by
  rw [← h]; rfl
end SN1
