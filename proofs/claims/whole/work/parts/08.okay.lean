/-! ===== what a program decides of the code: each instruction is there, each word that it needs stands in the tables ===== -/
def gT : List Cond := lw_tbl.filter goodWord
theorem gT_in {w : Cond} (h : w ∈ gT) : w ∈ lw_tbl := (List.mem_filter.mp h).1
theorem gT_good {w : Cond} (h : w ∈ gT) : goodWord w = true := (List.mem_filter.mp h).2
/-- the tables by their pieces: a place is ten thousand times the piece, and the place in it -/
def m_tb (k : Nat) : List Cond := match k with
  | 0 => k2_sels lw_privs
  | 1 => tables_1_1
  | 2 => tables_1_2
  | 3 => tables_1_3
  | 4 => tables_1_4
  | 5 => tables_1_5
  | 6 => tables_1_6
  | 7 => tables_1_7
  | 8 => tables_1_8
  | 9 => tables_1_9
  | _ => []
theorem m_tb_in {k : Nat} {w : Cond} (h : w ∈ m_tb k) : w ∈ lw_tbl := by
  unfold m_tb at h
  unfold lw_tbl tables_1
  split at h <;> simp only [List.mem_append] <;> first | (simp only [h, true_or, or_true]; done) | (cases h; done)
def m_has (p : Nat) (w : Cond) : Bool := decide ((m_tb (p / 10000))[p % 10000]? = some w) && goodWord w
theorem m_has_in {p : Nat} {w : Cond} (h : m_has p w = true) : w ∈ gT := by
  unfold m_has at h
  rw [Bool.and_eq_true] at h
  exact List.mem_filter.mpr ⟨m_tb_in (List.mem_of_getElem? (of_decide_eq_true h.1)), h.2⟩
def m_hasN (p : Nat) (w : Cond) : Bool := decide ((m_tb (p / 10000))[p % 10000]? = some w)
theorem m_hasN_in {p : Nat} {w : Cond} (h : m_hasN p w = true) : w ∈ lw_tbl := m_tb_in (List.mem_of_getElem? (of_decide_eq_true h))
def m_cl (k : Nat) : vw_C := vwCl.getD k (RX0, TX0, 16)
def m_ty (k j : Nat) : FieldType := match k with
  | 0 => tyX0 j
  | 1 => tyX1 j
  | 2 => tyX2 j
  | 3 => tyX3 j
  | 4 => tyX4 j
  | 5 => tyX5 j
  | 6 => tyX6 j
  | 7 => tyX7 j
  | 8 => tyX8 j
  | 9 => tyX9 j
  | _ => tyX10 j
def m_tc (t : FieldType) : Nat := match t with
  | .int => 0
  | .long => 1
  | .boolean => 3
  | _ => 2
def m_ilen (i : Instr) : Nat := match i with
  | .iconst _ => 1
  | .bipush _ => 2
  | .sipush _ => 3
  | .lconst _ => 1
  | .ldc2_w _ => 3
  | .ldc _ => 2
  | .ldc_w _ => 3
  | .iload_n _ => 1
  | .lload_n _ => 1
  | .aload_n _ => 1
  | .istore_n _ => 1
  | .lstore_n _ => 1
  | .astore_n _ => 1
  | .iload _ => 2
  | .lload _ => 2
  | .aload _ => 2
  | .istore _ => 2
  | .lstore _ => 2
  | .astore _ => 2
  | .iinc _ _ => 3
  | .goto _ => 3
  | .ifCond _ _ => 3
  | .if_icmp _ _ => 3
  | .getfield _ => 3
  | .putfield _ => 3
  | .new _ => 3
  | .newarray _ => 2
  | .invokespecial _ => 3
  | .invokevirtual _ => 3
  | .invokestatic _ => 3
  | _ => 1
def m_okF (own : String) (idx e1 e2 e3 p : Nat) : Bool := Nat.ble 4 e1 && Nat.blt e1 15 && Nat.blt e2 (m_cl (e1 - 4)).2.2 && Nat.beq e3 (m_tc (m_ty (e1 - 4) e2)) && m_has p (.fieldLink own idx ((m_cl (e1 - 4)).2.1 e2).1 ((m_cl (e1 - 4)).2.1 e2).2.1 ((m_cl (e1 - 4)).2.1 e2).2.2.1)
def m_okFin (m e1 e2 : Nat) : Bool := !((m_cl (e1 - 4)).2.1 e2).2.2.2 || (decide ((mY m).name = "<init>") && decide (((m_cl (e1 - 4)).2.1 e2).1 = (mY m).cls))
/-- what is owed for a method once: its words -/
def m_okM (m : Nat) : Bool := m_has (mPl m).1 (.code (mY m) (mB m) (mL m) (mRt m)) && m_has (mPl m).2.2.2 (.initialized (mY m).cls) &&
  (bif mSt m then m_has (mPl m).2.1 (.static (mY m)) else m_has (mPl m).2.1 (.instanceMethod (mY m)) && (decide ((mY m).name = "<init>") || m_has (mPl m).2.2.1 (.selects (mY m).cls (mY m) (mY m)))) &&
  decide ((mY m).cls ≠ "java/lang/invoke/MethodHandle") && decide ((mY m).cls ≠ "java/lang/invoke/VarHandle") && decide ((parseMethodDescriptor (mY m).desc).map (fun d => d.parameters.length) = some (mN m)) && plainName (mY m).cls
def m_okRoom (m c : Nat) : Bool := Nat.ble (mFr c + 1) (mFr m) && Nat.ble (8 + (mL c + 11) + mLo c) (mLo m)
def m_okLink (m idx e1 e3 : Nat) (z : Int) : Bool := bif Nat.blt e3 1000 then m_has z.toNat (.methodLink (mY m).cls idx (mY e1)) else m_hasN z.toNat (.methodLinkNest (mY m).cls idx (mY e1) "SpeakClock")
def m_mY (b : Nat) : MethodName × ByteArray × Nat × Option FieldType := match b with
  | 1000 => (Lib.Math.max.name, Lib.Math.max.code, 2, some .int)
  | 1001 => (Lib.Math.min.name, Lib.Math.min.code, 2, some .int)
  | 1002 => (Lib.Math.abs.name, Lib.Math.abs.code, 1, some .int)
  | 1003 => (Lib.MathLoose.max_long.x, Lib.MathLoose.max_long.code, 4, some .long)
  | 1004 => (Lib.MathLoose.min_long.x, Lib.MathLoose.min_long.code, 4, some .long)
  | _ => (Lib.MathLoose.abs_long.x, Lib.MathLoose.abs_long.code, 2, some .long)
def m_okX (m : Nat) (e : mE) : Bool := match e with
  | (pc, i, _, e1, e2, e3, z) => (match i with
    | .iconst n => decide (wr z = z) && decide (Int32.ofInt n = Int32.ofInt z)
    | .bipush n => decide (wr z = z) && decide ((Int8.ofInt n).toInt32 = Int32.ofInt z)
    | .sipush n => decide (wr z = z) && decide ((Int16.ofInt n).toInt32 = Int32.ofInt z)
    | .lconst n => decide (wl z = z) && decide (Int64.ofNat n.val = Int64.ofInt z)
    | .ldc2_w idx => decide (wl z = z) && m_has e1 (.constantLong (mY m).cls idx (Int64.ofInt z))
    | .ldc idx => bif Nat.beq e1 999999 then decide ((mY m).cls = "SpeakClock$Tokens") && Nat.beq idx 38 else decide (wr z = z) && m_has e1 (.constant (mY m).cls idx (Int32.ofInt z))
    | .ldc_w idx => decide (wr z = z) && m_has e1 (.constant (mY m).cls idx (Int32.ofInt z))
    | .istore_n k => Nat.blt k.val (mL m)
    | .istore k => Nat.blt k (mL m)
    | .astore_n k => Nat.blt k.val (mL m)
    | .astore k => Nat.blt k (mL m)
    | .lstore_n k => Nat.blt (k.val + 1) (mL m)
    | .lstore k => Nat.blt (k + 1) (mL m)
    | .iinc k c => Nat.blt k (mL m)
    | .goto o => decide ((pc : Int) + o = (e1 : Int))
    | .ifCond _ o => decide ((pc : Int) + o = (e1 : Int))
    | .if_icmp _ o => decide ((pc : Int) + o = (e1 : Int))
    | .getfield idx => m_okF (mY m).cls idx e1 e2 e3 z.toNat
    | .putfield idx => m_okF (mY m).cls idx e1 e2 e3 z.toNat && m_okFin m e1 e2
    | .new idx => Nat.ble 4 e1 && Nat.blt e1 15 && Nat.beq e2 (m_cl (e1 - 4)).2.2 && m_has z.toNat (.classLink (mY m).cls idx (m_cl (e1 - 4)).1)
    | .newarray a => (match e1 with
      | 0 => decide (newarray.typeOf a = .int)
      | 1 => decide (newarray.typeOf a = .long)
      | 2 => decide (newarray.typeOf a = .byte)
      | 3 => decide (newarray.typeOf a = .boolean)
      | _ => false) && m_has z.toNat (.arrayClass (newarray.typeOf a))
    | .invokespecial idx => bif Nat.beq e1 1008 then m_has z.toNat (.methodLink (mY m).cls idx Lib.objectInit) && Nat.ble 1 (mFr m) && Nat.ble 20 (mLo m)
        else Nat.blt e1 m && !(mSt e1) && decide ((mY e1).name = "<init>") && Nat.beq e2 (mN e1 + 1) && m_okLink m idx e1 e3 z && m_okRoom m e1 && decide (mRt e1 = none)
    | .invokevirtual idx => bif Nat.beq e1 1007 then m_has z.toNat (.methodLink (mY m).cls idx ⟨"java/lang/String", "charAt", "(I)C"⟩) && Nat.ble 5 (mFr m) && Nat.ble 120 (mLo m)
        else Nat.blt e1 m && !(mSt e1) && !(decide ((mY e1).name = "<init>")) && Nat.beq e2 (mN e1 + 1) && Nat.ble 4 e3 && Nat.blt e3 15 && decide ((m_cl (e3 - 4)).1 = (mY e1).cls) && m_okLink m idx e1 e3 z && m_okRoom m e1
    | .invokestatic idx => bif Nat.blt e1 1000 then
          (bif Nat.beq e1 mLman then m_has z.toNat (.methodLink (mY m).cls idx (mY e1)) && Nat.beq e2 4 && m_okRoom m e1
           else Nat.blt e1 m && mSt e1 && Nat.beq e2 (mN e1) && m_okLink m idx e1 e3 z && m_okRoom m e1)
        else bif Nat.beq e1 1006 then m_has z.toNat (.methodLink (mY m).cls idx arraycopyName) && Nat.ble 1 (mFr m) && Nat.ble 40 (mLo m)
        else Nat.blt e1 1006 && m_has z.toNat (.methodLink (mY m).cls idx (m_mY e1).1) && Nat.ble 1 (mFr m) && Nat.ble 24 (mLo m)
    | .ireturn => bif Nat.beq e1 1 then decide (mRt m = some .boolean) else decide (mRt m = some .int)
    | .lreturn => decide (mRt m = some .long)
    | .return_ => decide (mRt m = none)
    | _ => true)
def m_okE (m : Nat) (e : mE) : Bool := match e with
  | (pc, i, len, e1, e2, e3, z) => (match i with
    | .nop => Nat.beq len 0
    | .athrow => true
    | .tableswitch d lo hi offs => decide (decode (mB m) pc = .ok (i, len)) && decide ((pc : Int) + d = (e1 : Int)) && (mSw e2).all (fun q => decide (lo ≤ q.1 ∧ q.1 ≤ hi)) &&
        (List.range (hi - lo + 1).toNat).all (fun k => match offs[k]? with
          | some o => decide ((pc : Int) + o = ((m_sel (mSw e2) (lo + k) e1 : Nat) : Int))
          | none => false)
    | _ => decide (decode (mB m) pc = .ok (i, len)) && Nat.beq len (m_ilen i) && m_okX m e)
/-- what doesn't go on to the next instruction -/
def m_term (i : Instr) : Bool := match i with
  | .goto _ => true
  | .athrow => true
  | .ireturn => true
  | .lreturn => true
  | .return_ => true
  | .tableswitch _ _ _ _ => true
  | _ => false
def m_chain : List mE → Bool
  | [] => true
  | e :: r => (match r with
    | [] => true
    | e' :: _ => m_term e.2.1 || Nat.beq e'.1 (e.1 + e.2.2.1)) && m_chain r
def m_okL (m : Nat) (l : List mE) : Bool := l.all (m_okE m) && m_chain l
theorem m_chunks {l : List mE} {f : mE → Bool} (c : Nat) : ∀ (n : Nat) (i : Nat), l.length ≤ i + n * c → (∀ k, k < n → ((l.drop (i + c * k)).take c).all f = true) → (l.drop i).all f = true := by
  intro n
  induction n with
  | zero =>
    intro i hl _
    rw [List.drop_eq_nil_of_le (by omega)]
    rfl
  | succ n ih =>
    intro i hl h
    have h0 := h 0 (Nat.zero_lt_succ _)
    have h1 := ih (i + c) (by rw [Nat.succ_mul] at hl; omega) (fun k hk => by
      have h2 := h (k + 1) (by omega)
      rw [show i + c + c * k = i + c * (k + 1) by rw [Nat.mul_succ]; omega]
      exact h2)
    rw [Nat.mul_zero, Nat.add_zero] at h0
    rw [← List.take_append_drop c (l.drop i), List.all_append, h0, List.drop_drop, h1]
    rfl
theorem m_okL_of {m : Nat} {l : List mE} (c n : Nat) (hl : l.length ≤ 0 + n * c) (h : ∀ k, k < n → ((l.drop (0 + c * k)).take c).all (m_okE m) = true) (hc : m_chain l = true) : m_okL m l = true := by
  have h1 := m_chunks c n 0 hl h
  rw [List.drop_zero] at h1
  unfold m_okL
  rw [h1, hc]
  rfl
