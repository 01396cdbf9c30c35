/-! ===== the mini machine: a step, a run, what a run needs ===== -/
def wr (z : Int) : Int := (Int32.ofInt z).toInt
def wl (z : Int) : Int := (Int64.ofInt z).toInt
def m_and (x y : Int) : Int := (Int32.ofInt x &&& Int32.ofInt y).toInt
def m_or (x y : Int) : Int := (Int32.ofInt x ||| Int32.ofInt y).toInt
def m_xor (x y : Int) : Int := (Int32.ofInt x ^^^ Int32.ofInt y).toInt
def m_shl (x y : Int) : Int := (Int32.ofInt x <<< (Int32.ofInt y &&& 31)).toInt
def m_shr (x y : Int) : Int := (Int32.ofInt x >>> (Int32.ofInt y &&& 31)).toInt
def m_ushr (x y : Int) : Int := ((Int32.ofInt x).toUInt32 >>> ((Int32.ofInt y).toUInt32 &&& Int32.toUInt32 31)).toInt32.toInt
def m_land (x y : Int) : Int := (Int64.ofInt x &&& Int64.ofInt y).toInt
def m_i2b (x : Int) : Int := ((Int32.ofInt x).toInt8.toInt32).toInt
def m_lcmp (x y : Int) : Int := if y < x then 1 else if x = y then 0 else -1
def m_max (x y : Int) : Int := if x < y then y else x
def m_min (x y : Int) : Int := if y < x then y else x
def m_isL (v : mV) : Bool := match v with
  | .inr (.inl _) => true
  | _ => false
def m_lk : List (Nat × mV) → Nat → Option mV
  | [], _ => none
  | (j, v) :: r, i => bif Nat.beq j i then some v else m_lk r i
def m_ins : List (Nat × mV) → Nat → mV → List (Nat × mV)
  | [], i, v => [(i, v)]
  | (j, w) :: r, i, v => bif Nat.blt i j then (i, v) :: (j, w) :: r else (j, w) :: m_ins r i v
def m_clear (i : Nat) (v : mV) : List (Nat × mV) → List (Nat × mV)
  | [] => []
  | (j, w) :: r => bif Nat.beq j i || (Nat.beq (j + 1) i && m_isL w) || (m_isL v && Nat.beq j (i + 1)) then m_clear i v r else (j, w) :: m_clear i v r
def m_sto (lv : List (Nat × mV)) (i : Nat) (v : mV) : List (Nat × mV) := m_ins (m_clear i v lv) i v
def m_keep (mask : Nat) : List (Nat × mV) → List (Nat × mV)
  | [] => []
  | (j, w) :: r => bif Nat.beq (Nat.mod (Nat.div mask (Nat.pow 2 j)) 2) 1 then (j, w) :: m_keep mask r else m_keep mask r
def m_seek : List mE → Nat → List mE
  | [], _ => []
  | e :: r, t => bif Nat.beq e.1 t then e :: r else m_seek r t
def m_ent : Nat → List mV → List (Nat × mV)
  | _, [] => []
  | i, v :: vs => (i, v) :: m_ent (bif m_isL v then i + 2 else i + 1) vs
def m_pop : Nat → List mV → List mV → Option (List mV × List mV)
  | 0, st, acc => some (acc, st)
  | _ + 1, [], _ => none
  | n + 1, v :: st, acc => m_pop n st (v :: acc)
def m_cats : List mV → Nat
  | [] => 0
  | v :: r => (bif m_isL v then 2 else 1) + m_cats r
def mup (I : Nat → Nat → Int) (k j : Nat) (v : Int) : Nat → Nat → Int := fun a => if a = k then (fun b => if b = j then v else I a b) else I a
def mupR (R : Nat → Nat → Nat) (k j v : Nat) : Nat → Nat → Nat := fun a => if a = k then (fun b => if b = j then v else R a b) else R a
def mrow (I : Nat → Nat → Int) (k : Nat) : Nat → Nat → Int := fun a => if a = k then (fun _ => 0) else I a
def mrowR (R : Nat → Nat → Nat) (k : Nat) : Nat → Nat → Nat := fun a => if a = k then (fun _ => 0) else R a
def mshp (sh : Nat → Nat × Nat) (k : Nat) (x : Nat × Nat) : Nat → Nat × Nat := fun a => if a = k then x else sh a
def mcpy (I : Nat → Nat → Int) (s d n : Nat) : Nat → Nat → Int := fun a => if a = d then (fun b => if b < n then I s b else I d b) else I a
/-- the frame: what is left of the code, cells and slots made so far, locals, stack, memory -/
abbrev mF : Type := List mE × Nat × Nat × List (Nat × mV) × List mV × mM
abbrev mCn : Type := Nat × Int × Int × Int × Int
/-- 0 goes on, 1 a branch, 2 goes on if, 3 a call if, 4 an end if, 5 a switch, 6 a call, 7 an end -/
abbrev mSR : Type := Nat × mCn × mF × mF × Nat × List mV
def m_cn0 : mCn := (9, 0, 0, 0, 0)
def m_holds (c : mCn) : Prop := match c with
  | (0, x, y, _, _) => x = y
  | (1, x, y, _, _) => ¬ x = y
  | (2, x, y, _, _) => x < y
  | (3, x, y, _, _) => y ≤ x
  | (4, x, y, _, _) => y < x
  | (5, x, y, _, _) => x ≤ y
  | (6, x, y, _, _) => 0 ≤ x ∧ x < y
  | (7, x, _, _, _) => x = 0 ∨ x = 1
  | (8, x, _, _, _) => -128 ≤ x ∧ x ≤ 127
  | (10, x, y, w, _) => (0 ≤ x ∧ x < y) ∧ (w = 0 ∨ w = 1)
  | (11, x, y, w, _) => (0 ≤ x ∧ x < y) ∧ (-128 ≤ w ∧ w ≤ 127)
  | (12, x, y, w, z) => x ≤ y ∧ w ≤ z
  | (13, x, y, w, z) => (0 ≤ x ∧ x ≤ 10000) ∧ (y ≤ w ∧ x ≤ z)
  | (14, x, y, w, z) => (0 ≤ x ∧ x ≤ y) ∧ (x ≤ w ∧ z = 0)
  | _ => True
def m_holdsB (c : mCn) : Bool := match c with
  | (0, x, y, _, _) => decide (x = y)
  | (1, x, y, _, _) => decide (¬ x = y)
  | (2, x, y, _, _) => decide (x < y)
  | (3, x, y, _, _) => decide (y ≤ x)
  | (4, x, y, _, _) => decide (y < x)
  | (5, x, y, _, _) => decide (x ≤ y)
  | (6, x, y, _, _) => decide (0 ≤ x ∧ x < y)
  | (7, x, _, _, _) => decide (x = 0 ∨ x = 1)
  | (8, x, _, _, _) => decide (-128 ≤ x ∧ x ≤ 127)
  | (10, x, y, w, _) => decide ((0 ≤ x ∧ x < y) ∧ (w = 0 ∨ w = 1))
  | (11, x, y, w, _) => decide ((0 ≤ x ∧ x < y) ∧ (-128 ≤ w ∧ w ≤ 127))
  | (12, x, y, w, z) => decide (x ≤ y ∧ w ≤ z)
  | (13, x, y, w, z) => decide ((0 ≤ x ∧ x ≤ 10000) ∧ (y ≤ w ∧ x ≤ z))
  | (14, x, y, w, z) => decide ((0 ≤ x ∧ x ≤ y) ∧ (x ≤ w ∧ z = 0))
  | _ => true
def m_cc (c : Jvm.ClassFile.Cond) : Nat := match c with
  | .eq => 0
  | .ne => 1
  | .lt => 2
  | .ge => 3
  | .gt => 4
  | .le => 5
def mgo (r : List mE) (kc ks : Nat) (lv : List (Nat × mV)) (st : List mV) (M : mM) : mSR := (0, m_cn0, (r, kc, ks, lv, st, M), (r, kc, ks, lv, st, M), 0, [])
def mif (c : mCn) (r : List mE) (kc ks : Nat) (lv : List (Nat × mV)) (st : List mV) (M : mM) : mSR := (2, c, (r, kc, ks, lv, st, M), (r, kc, ks, lv, st, M), 0, [])
def mno (M : mM) : mSR := (9, m_cn0, ([], 0, 0, [], [], M), ([], 0, 0, [], [], M), 0, [])
def m_words : List Int := [109, 97, 110, 32, 32, 32, 114, 105, 110, 103, 32, 32, 109, 101, 101, 116, 32, 32, 99, 111, 108, 100, 32, 32, 99, 114, 111, 119, 100, 32, 115, 101, 101, 100, 32, 32, 108, 97, 119, 32, 32, 32, 116, 97, 108, 107, 32, 32, 108, 97, 116, 101, 32, 32, 100, 114, 105, 102, 116, 32, 111, 114, 32, 32, 32, 32, 97, 110, 100, 32, 32, 32, 110, 111, 116, 32, 32, 32, 116, 97, 108, 107, 115, 32, 119, 97, 105, 116, 115, 32, 111, 102, 102, 32, 32, 32, 114, 97, 116, 101, 32, 32, 113, 117, 101, 117, 101, 32, 116, 111, 108, 100, 32, 32, 109, 105, 110, 117, 116, 101]
def m_bin (f : Int → Int → Int) (r : List mE) (kc ks : Nat) (lv : List (Nat × mV)) (st : List mV) (M : mM) : mSR := match st with
  | .inl y :: .inl x :: s => mgo r kc ks lv (.inl (f x y) :: s) M
  | _ => mno M
def m_binL (f : Int → Int → Int) (r : List mE) (kc ks : Nat) (lv : List (Nat × mV)) (st : List mV) (M : mM) : mSR := match st with
  | .inr (.inl y) :: .inr (.inl x) :: s => mgo r kc ks lv (.inr (.inl (f x y)) :: s) M
  | _ => mno M
def m_ildx (i : Nat) (r : List mE) (kc ks : Nat) (lv : List (Nat × mV)) (st : List mV) (M : mM) : mSR := match m_lk lv i with
  | some (.inl x) => mgo r kc ks lv (.inl x :: st) M
  | _ => mno M
def m_lldx (i : Nat) (r : List mE) (kc ks : Nat) (lv : List (Nat × mV)) (st : List mV) (M : mM) : mSR := match m_lk lv i with
  | some (.inr (.inl x)) => mgo r kc ks lv (.inr (.inl x) :: st) M
  | _ => mno M
def m_aldx (i : Nat) (r : List mE) (kc ks : Nat) (lv : List (Nat × mV)) (st : List mV) (M : mM) : mSR := match m_lk lv i with
  | some (.inr (.inr (k + 1))) => mgo r kc ks lv (.inr (.inr (k + 1)) :: st) M
  | _ => mno M
def m_istx (i : Nat) (r : List mE) (kc ks : Nat) (lv : List (Nat × mV)) (st : List mV) (M : mM) : mSR := match st with
  | .inl x :: s => mgo r kc ks (m_sto lv i (.inl x)) s M
  | _ => mno M
def m_lstx (i : Nat) (r : List mE) (kc ks : Nat) (lv : List (Nat × mV)) (st : List mV) (M : mM) : mSR := match st with
  | .inr (.inl x) :: s => mgo r kc ks (m_sto lv i (.inr (.inl x))) s M
  | _ => mno M
def m_astx (i : Nat) (r : List mE) (kc ks : Nat) (lv : List (Nat × mV)) (st : List mV) (M : mM) : mSR := match st with
  | .inr (.inr (k + 1)) :: s => mgo r kc ks (m_sto lv i (.inr (.inr (k + 1)))) s M
  | _ => mno M
def m_getf (e1 e2 e3 : Nat) (r : List mE) (kc ks : Nat) (lv : List (Nat × mV)) (st : List mV) (M : mM) : mSR := match st, M with
  | .inr (.inr (k + 2)) :: s, (n, sh, R, I, L) => bif Nat.beq (sh (k + 2)).1 e1 then
      (match e3 with
      | 0 => mgo r kc ks lv (.inl (I (k + 2) e2) :: s) (n, sh, R, I, L)
      | 3 => mgo r kc ks lv (.inl (I (k + 2) e2) :: s) (n, sh, R, I, L)
      | 1 => mgo r kc ks lv (.inr (.inl (L (k + 2) e2)) :: s) (n, sh, R, I, L)
      | _ => mgo r kc ks lv (.inr (.inr (R (k + 2) e2)) :: s) (n, sh, R, I, L))
    else mno M
  | _, _ => mno M
def m_putf (e1 e2 e3 : Nat) (r : List mE) (kc ks : Nat) (lv : List (Nat × mV)) (st : List mV) (M : mM) : mSR := match st, M with
  | v :: .inr (.inr (k + 2)) :: s, (n, sh, R, I, L) => bif Nat.beq (sh (k + 2)).1 e1 then
      (match e3, v with
      | 0, .inl x => mgo r kc ks lv s (n, sh, R, mup I (k + 2) e2 x, L)
      | 3, .inl x => mif (7, x, 0, 0, 0) r kc ks lv s (n, sh, R, mup I (k + 2) e2 x, L)
      | 1, .inr (.inl x) => mgo r kc ks lv s (n, sh, R, I, mup L (k + 2) e2 x)
      | 2, .inr (.inr (q + 2)) => mgo r kc ks lv s (n, sh, mupR R (k + 2) e2 (q + 2), I, L)
      | _, _ => mno M)
    else mno M
  | _, _ => mno M
def m_ald (kd : Nat) (r : List mE) (kc ks : Nat) (lv : List (Nat × mV)) (st : List mV) (M : mM) : mSR := match st, M with
  | .inl i :: .inr (.inr (k + 1)) :: s, (n, sh, R, I, L) => (match kd with
      | 0 => bif Nat.beq (sh (k + 1)).1 0 || Nat.beq (sh (k + 1)).1 98 then mif (6, i, ((sh (k + 1)).2 : Nat), 0, 0) r kc ks lv (.inl (I (k + 1) i.toNat) :: s) (n, sh, R, I, L) else mno M
      | 1 => bif Nat.beq (sh (k + 1)).1 1 then mif (6, i, ((sh (k + 1)).2 : Nat), 0, 0) r kc ks lv (.inr (.inl (L (k + 1) i.toNat)) :: s) (n, sh, R, I, L) else mno M
      | _ => bif Nat.beq (sh (k + 1)).1 2 || Nat.beq (sh (k + 1)).1 3 then mif (6, i, ((sh (k + 1)).2 : Nat), 0, 0) r kc ks lv (.inl (I (k + 1) i.toNat) :: s) (n, sh, R, I, L) else mno M)
  | _, _ => mno M
def m_ast (kd : Nat) (r : List mE) (kc ks : Nat) (lv : List (Nat × mV)) (st : List mV) (M : mM) : mSR := match st, M with
  | .inl x :: .inl i :: .inr (.inr (k + 2)) :: s, (n, sh, R, I, L) => (match kd with
      | 0 => bif Nat.beq (sh (k + 2)).1 0 then mif (6, i, ((sh (k + 2)).2 : Nat), 0, 0) r kc ks lv s (n, sh, R, mup I (k + 2) i.toNat x, L) else mno M
      | 2 => bif Nat.beq (sh (k + 2)).1 2 then mif (11, i, ((sh (k + 2)).2 : Nat), x, 0) r kc ks lv s (n, sh, R, mup I (k + 2) i.toNat x, L)
          else bif Nat.beq (sh (k + 2)).1 3 then mif (10, i, ((sh (k + 2)).2 : Nat), x, 0) r kc ks lv s (n, sh, R, mup I (k + 2) i.toNat x, L) else mno M
      | _ => mno M)
  | .inr (.inl x) :: .inl i :: .inr (.inr (k + 2)) :: s, (n, sh, R, I, L) => (match kd with
      | 1 => bif Nat.beq (sh (k + 2)).1 1 then mif (6, i, ((sh (k + 2)).2 : Nat), 0, 0) r kc ks lv s (n, sh, R, I, mup L (k + 2) i.toNat x) else mno M
      | _ => mno M)
  | _, _ => mno M
def m_len (r : List mE) (kc ks : Nat) (lv : List (Nat × mV)) (st : List mV) (M : mM) : mSR := match st, M with
  | .inr (.inr (k + 1)) :: s, (n, sh, R, I, L) => bif (Nat.ble (sh (k + 1)).1 3 || Nat.beq (sh (k + 1)).1 98) && Nat.blt (sh (k + 1)).2 2147483648 then mgo r kc ks lv (.inl ((sh (k + 1)).2 : Nat) :: s) (n, sh, R, I, L) else mno M
  | _, _ => mno M
def m_cpy (r : List mE) (kc ks : Nat) (lv : List (Nat × mV)) (st : List mV) (M : mM) : mSR := match st, M with
  | .inl x :: .inl dp :: .inr (.inr (d + 2)) :: .inl sp :: .inr (.inr (s + 2)) :: q, (n, sh, R, I, L) =>
      bif Nat.beq n 144 && Nat.beq (sh (d + 2)).1 0 && Nat.beq (sh (s + 2)).1 0 && Nat.ble (m_cats q) 8 then mif (14, x, ((sh (s + 2)).2 : Nat), ((sh (d + 2)).2 : Nat), (sp.natAbs : Int) + (dp.natAbs : Int)) r kc ks lv q (n, sh, R, mcpy I (s + 2) (d + 2) x.toNat, L) else mno M
  | _, _ => mno M
/-- a call of a method of the system -/
def m_call (m e1 e2 : Nat) (ck : List mV → Bool) (r : List mE) (kc ks : Nat) (lv : List (Nat × mV)) (st : List mV) (M : mM) : mSR := match m_pop e2 st [] with
  | some (as, s) => bif ck as && Nat.ble (m_cats s) 8 && Nat.ble (m_cats as) (mL e1) then
      (bif Nat.beq (mC e1) 0 then (6, m_cn0, (r, kc, ks, lv, s, M), (r, kc, ks, lv, s, M), e1, as)
       else (3, (12, ((kc + mC e1 : Nat) : Int), ((mC m : Nat) : Int), ((ks + mS e1 : Nat) : Int), ((mS m : Nat) : Int)), (r, kc + mC e1, ks + mS e1, lv, s, M), (r, kc, ks, lv, s, M), e1, as))
      else mno M
  | none => mno M
def m_ckV (kd : Nat) (M : mM) (as : List mV) : Bool := match as, M with
  | .inr (.inr (k + 2)) :: _, (_, sh, _) => Nat.beq (sh (k + 2)).1 kd
  | _, _ => false
def m_ckI (as : List mV) : Bool := match as with
  | .inr (.inr (_ + 2)) :: _ => true
  | _ => false
def m_special (m e1 e2 : Nat) (r : List mE) (kc ks : Nat) (lv : List (Nat × mV)) (st : List mV) (M : mM) : mSR :=
  bif Nat.beq e1 1008 then (match st with
    | .inr (.inr (_ + 2)) :: s => bif Nat.ble (m_cats s) 8 then mgo r kc ks lv s M else mno M
    | _ => mno M)
  else m_call m e1 e2 m_ckI r kc ks lv st M
def m_virtual (m e1 e2 e3 : Nat) (r : List mE) (kc ks : Nat) (lv : List (Nat × mV)) (st : List mV) (M : mM) : mSR :=
  bif Nat.beq e1 1007 then (match st with
    | .inl i :: .inr (.inr w) :: s => bif Nat.beq w 1000000 && Nat.ble (m_cats s) 8 then mif (6, i, 120, 0, 0) r kc ks lv (.inl (m_words.getD i.toNat 0) :: s) M else mno M
    | _ => mno M)
  else m_call m e1 e2 (m_ckV e3 M) r kc ks lv st M
def m_static (m e1 e2 : Nat) (r : List mE) (kc ks : Nat) (lv : List (Nat × mV)) (st : List mV) (M : mM) : mSR :=
  bif Nat.blt e1 1000 then m_call m e1 e2 (fun _ => true) r kc ks lv st M
  else bif Nat.beq e1 1006 then m_cpy r kc ks lv st M
  else bif Nat.blt 8 (m_cats st) then mno M
  else (bif Nat.beq e1 1000 then (match st with
      | .inl y :: .inl x :: s => mgo r kc ks lv (.inl (m_max x y) :: s) M
      | _ => mno M)
    else bif Nat.beq e1 1001 then (match st with
      | .inl y :: .inl x :: s => mgo r kc ks lv (.inl (m_min x y) :: s) M
      | _ => mno M)
    else bif Nat.beq e1 1002 then (match st with
      | .inl x :: s => mgo r kc ks lv (.inl (if 0 ≤ x then x else wr (0 - x)) :: s) M
      | _ => mno M)
    else bif Nat.beq e1 1003 then (match st with
      | .inr (.inl y) :: .inr (.inl x) :: s => mgo r kc ks lv (.inr (.inl (m_max x y)) :: s) M
      | _ => mno M)
    else bif Nat.beq e1 1004 then (match st with
      | .inr (.inl y) :: .inr (.inl x) :: s => mgo r kc ks lv (.inr (.inl (m_min x y)) :: s) M
      | _ => mno M)
    else bif Nat.beq e1 1005 then (match st with
      | .inr (.inl x) :: s => mgo r kc ks lv (.inr (.inl (if 0 ≤ x then x else wl (0 - x))) :: s) M
      | _ => mno M)
    else mno M)
def m_new (m e1 e2 : Nat) (r : List mE) (kc ks : Nat) (lv : List (Nat × mV)) (st : List mV) (M : mM) : mSR := match M with
  | (n, sh, R, I, L) => bif Nat.blt n 144 then mif (12, ((kc + 1 : Nat) : Int), ((mC m : Nat) : Int), ((ks + e2 : Nat) : Int), ((mS m : Nat) : Int)) r (kc + 1) (ks + e2) lv (.inr (.inr n) :: st) (n + 1, mshp sh n (e1, 0), mrowR R n, mrow I n, mrow L n) else mno M
def m_newa (m e1 : Nat) (r : List mE) (kc ks : Nat) (lv : List (Nat × mV)) (st : List mV) (M : mM) : mSR := match st, M with
  | .inl x :: s, (n, sh, R, I, L) => bif Nat.blt n 144 then mif (13, x, ((kc + 1 : Nat) : Int), ((mC m : Nat) : Int), ((mS m : Nat) : Int) - ((ks : Nat) : Int)) r (kc + 1) (ks + x.toNat) lv (.inr (.inr n) :: s) (n + 1, mshp sh n (e1, x.toNat), mrowR R n, mrow I n, mrow L n) else mno M
  | _, _ => mno M
def m_step (m : Nat) (e : mE) (r : List mE) (kc ks : Nat) (lv : List (Nat × mV)) (st : List mV) (M : mM) : mSR := match e with
  | (_, i, _, e1, e2, e3, z) => (match i with
    | .nop => mgo r kc ks (m_keep e1 lv) st M
    | .iconst _ => mgo r kc ks lv (.inl z :: st) M
    | .bipush _ => mgo r kc ks lv (.inl z :: st) M
    | .sipush _ => mgo r kc ks lv (.inl z :: st) M
    | .lconst _ => mgo r kc ks lv (.inr (.inl z) :: st) M
    | .ldc2_w _ => mgo r kc ks lv (.inr (.inl z) :: st) M
    | .ldc _ => bif Nat.beq e1 999999 then mgo r kc ks lv (.inr (.inr 1000000) :: st) M else mgo r kc ks lv (.inl z :: st) M
    | .ldc_w _ => mgo r kc ks lv (.inl z :: st) M
    | .iload_n k => m_ildx k.val r kc ks lv st M
    | .iload k => m_ildx k r kc ks lv st M
    | .lload_n k => m_lldx k.val r kc ks lv st M
    | .lload k => m_lldx k r kc ks lv st M
    | .aload_n k => m_aldx k.val r kc ks lv st M
    | .aload k => m_aldx k r kc ks lv st M
    | .istore_n k => m_istx k.val r kc ks lv st M
    | .istore k => m_istx k r kc ks lv st M
    | .lstore_n k => m_lstx k.val r kc ks lv st M
    | .lstore k => m_lstx k r kc ks lv st M
    | .astore_n k => m_astx k.val r kc ks lv st M
    | .astore k => m_astx k r kc ks lv st M
    | .iinc k c => (match m_lk lv k with
      | some (.inl x) => mgo r kc ks (m_sto lv k (.inl (wr (x + c)))) st M
      | _ => mno M)
    | .iadd => m_bin (fun x y => wr (x + y)) r kc ks lv st M
    | .isub => m_bin (fun x y => wr (x - y)) r kc ks lv st M
    | .imul => m_bin (fun x y => wr (x * y)) r kc ks lv st M
    | .iand => m_bin m_and r kc ks lv st M
    | .ior => m_bin m_or r kc ks lv st M
    | .ixor => m_bin m_xor r kc ks lv st M
    | .ishl => m_bin m_shl r kc ks lv st M
    | .ishr => m_bin m_shr r kc ks lv st M
    | .iushr => m_bin m_ushr r kc ks lv st M
    | .idiv => (match st with
      | .inl y :: .inl x :: s => mif (1, y, 0, 0, 0) r kc ks lv (.inl (wr (x.tdiv y)) :: s) M
      | _ => mno M)
    | .irem => (match st with
      | .inl y :: .inl x :: s => mif (1, y, 0, 0, 0) r kc ks lv (.inl (x.tmod y) :: s) M
      | _ => mno M)
    | .ineg => (match st with
      | .inl x :: s => mgo r kc ks lv (.inl (wr (-x)) :: s) M
      | _ => mno M)
    | .ladd => m_binL (fun x y => wl (x + y)) r kc ks lv st M
    | .lsub => m_binL (fun x y => wl (x - y)) r kc ks lv st M
    | .lmul => m_binL (fun x y => wl (x * y)) r kc ks lv st M
    | .land => m_binL m_land r kc ks lv st M
    | .ldiv => (match st with
      | .inr (.inl y) :: .inr (.inl x) :: s => mif (1, y, 0, 0, 0) r kc ks lv (.inr (.inl (wl (x.tdiv y))) :: s) M
      | _ => mno M)
    | .lrem => (match st with
      | .inr (.inl y) :: .inr (.inl x) :: s => mif (1, y, 0, 0, 0) r kc ks lv (.inr (.inl (x.tmod y)) :: s) M
      | _ => mno M)
    | .lneg => (match st with
      | .inr (.inl x) :: s => mgo r kc ks lv (.inr (.inl (wl (-x))) :: s) M
      | _ => mno M)
    | .lcmp => (match st with
      | .inr (.inl y) :: .inr (.inl x) :: s => mgo r kc ks lv (.inl (m_lcmp x y) :: s) M
      | _ => mno M)
    | .i2l => (match st with
      | .inl x :: s => mgo r kc ks lv (.inr (.inl x) :: s) M
      | _ => mno M)
    | .l2i => (match st with
      | .inr (.inl x) :: s => mgo r kc ks lv (.inl (wr x) :: s) M
      | _ => mno M)
    | .i2b => (match st with
      | .inl x :: s => mgo r kc ks lv (.inl (m_i2b x) :: s) M
      | _ => mno M)
    | .dup => (match st with
      | .inl x :: s => mgo r kc ks lv (.inl x :: .inl x :: s) M
      | .inr (.inr x) :: s => mgo r kc ks lv (.inr (.inr x) :: .inr (.inr x) :: s) M
      | _ => mno M)
    | .pop => (match st with
      | .inl _ :: s => mgo r kc ks lv s M
      | _ => mno M)
    | .dup2 => (match st with
      | .inl x :: .inr (.inr y) :: s => mgo r kc ks lv (.inl x :: .inr (.inr y) :: .inl x :: .inr (.inr y) :: s) M
      | .inr (.inl x) :: s => mgo r kc ks lv (.inr (.inl x) :: .inr (.inl x) :: s) M
      | _ => mno M)
    | .goto _ => mgo (m_seek (mcd m) e1) kc ks lv st M
    | .ifCond c _ => (match st with
      | .inl x :: s => (1, (m_cc c, x, 0, 0, 0), (m_seek (mcd m) e1, kc, ks, lv, s, M), (r, kc, ks, lv, s, M), 0, [])
      | _ => mno M)
    | .if_icmp c _ => (match st with
      | .inl y :: .inl x :: s => (1, (m_cc c, x, y, 0, 0), (m_seek (mcd m) e1, kc, ks, lv, s, M), (r, kc, ks, lv, s, M), 0, [])
      | _ => mno M)
    | .tableswitch _ _ _ _ => (match st with
      | .inl x :: s => (5, (e1, x, 0, 0, 0), (r, kc, ks, lv, s, M), (r, kc, ks, lv, s, M), e2, [])
      | _ => mno M)
    | .getfield _ => m_getf e1 e2 e3 r kc ks lv st M
    | .putfield _ => m_putf e1 e2 e3 r kc ks lv st M
    | .iaload => m_ald 0 r kc ks lv st M
    | .laload => m_ald 1 r kc ks lv st M
    | .baload => m_ald 2 r kc ks lv st M
    | .iastore => m_ast 0 r kc ks lv st M
    | .lastore => m_ast 1 r kc ks lv st M
    | .bastore => m_ast 2 r kc ks lv st M
    | .arraylength => m_len r kc ks lv st M
    | .new _ => m_new m e1 e2 r kc ks lv st M
    | .newarray _ => m_newa m e1 r kc ks lv st M
    | .invokespecial _ => m_special m e1 e2 r kc ks lv st M
    | .invokevirtual _ => m_virtual m e1 e2 (Nat.mod e3 1000) r kc ks lv st M
    | .invokestatic _ => m_static m e1 e2 r kc ks lv st M
    | .ireturn => (match st with
      | [.inl x] => bif Nat.beq e1 1 then (4, (7, x, 0, 0, 0), (r, kc, ks, lv, st, M), (r, kc, ks, lv, st, M), 0, [.inl x]) else (7, m_cn0, (r, kc, ks, lv, st, M), (r, kc, ks, lv, st, M), 0, [.inl x])
      | _ => mno M)
    | .lreturn => (match st with
      | [.inr (.inl x)] => (7, m_cn0, (r, kc, ks, lv, st, M), (r, kc, ks, lv, st, M), 0, [.inr (.inl x)])
      | _ => mno M)
    | .return_ => (match st with
      | [] => (7, m_cn0, (r, kc, ks, lv, st, M), (r, kc, ks, lv, st, M), 0, [])
      | _ => mno M)
    | _ => mno M)
def m_push (f : mF) (v : List mV) (M : mM) : mF := match f with
  | (r, kc, ks, lv, st, _) => (r, kc, ks, lv, v ++ st, M)
def m_at (f : mF) (r : List mE) : mF := match f with
  | (_, kc, ks, lv, st, M) => (r, kc, ks, lv, st, M)
def m_mem (f : mF) : mM := match f with
  | (_, _, _, _, _, M) => M
def m_sel : List (Int × Nat) → Int → Nat → Nat
  | [], _, d => d
  | (v, t) :: r, x, d => bif decide (x = v) then t else m_sel r x d
abbrev mO : Type := Option (List mV × mM)
/-- the law's man: what it answers, by way of SpeakClock.man where that returns -/
def m_man (ex : mF → mO) (as : List mV) (M : mM) : mO := match as, M with
  | [.inr (.inr (x + 2)), .inl a, .inl b, .inr (.inr (o + 2))], (n, sh, R, I, L) =>
      bif Nat.beq n 144 && Nat.beq (sh (x + 2)).1 13 && Nat.beq (sh (R (x + 2) 9)).1 9 && Nat.beq (sh (o + 2)).1 1 && Nat.beq (sh (o + 2)).2 1 then
        (bif decide (0 ≤ a ∧ a < I (R (x + 2) 9) 13) then
          (bif decide (0 ≤ b ∧ b ≤ 7) then (ex (mcd mMan, 0, 0, m_ent 0 [.inr (.inr (x + 2)), .inl a, .inl b], [], M)).bind (fun q => match q with
              | ([.inl v], (n, sh, R, I, L)) => some ([.inl 0], (n, sh, R, I, mup L (o + 2) 0 v))
              | _ => none)
           else some ([.inl 2], M))
         else some ([.inl 1], M))
      else none
  | _, _ => none
def m_exec : Nat → Nat → mF → mO
  | 0, _, _ => none
  | n + 1, m, (r, kc, ks, lv, st, M) => match r with
    | [] => none
    | e :: r' => (match m_step m e r' kc ks lv st M with
      | (t, c, s1, s2, m', as) => (match t with
        | 0 => m_exec n m s1
        | 1 => bif m_holdsB c then m_exec n m s1 else m_exec n m s2
        | 2 => bif m_holdsB c then m_exec n m s1 else none
        | 3 => bif m_holdsB c then (bif Nat.beq m' mLman then m_man (m_exec n mMan) as (m_mem s1) else m_exec n m' (mcd m', 0, 0, m_ent 0 as, [], m_mem s1)).bind (fun q => m_exec n m (m_push s1 q.1 q.2)) else none
        | 4 => bif m_holdsB c then some (as, m_mem s1) else none
        | 5 => m_exec n m (m_at s1 (m_seek (mcd m) (m_sel (mSw m') c.2.1 c.1)))
        | 6 => (m_exec n m' (mcd m', 0, 0, m_ent 0 as, [], m_mem s1)).bind (fun q => m_exec n m (m_push s1 q.1 q.2))
        | 7 => some (as, m_mem s1)
        | _ => none))
