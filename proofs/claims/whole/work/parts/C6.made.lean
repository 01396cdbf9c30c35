/-! ===== the making, run by the kernel without the script ===== -/
def ME0 : mM := (2, fun _ => (99, 0), fun _ _ => 0, fun _ _ => 0, fun _ _ => 0)
def newM (M : mM) (y : Nat × Nat) : mM := (M.1 + 1, mshp M.2.1 M.1 y, mrowR M.2.2.1 M.1, mrow M.2.2.2.1 M.1, mrow M.2.2.2.2 M.1)
def qAll : mO := (m_exec 6000 9 (mcd 9, 0, 0, m_ent 0 [.inr (.inr 2)], [], newM ME0 (13, 0))).bind (fun q => bif q.1.isEmpty && Nat.beq q.2.1 98 then m_exec 7000 16 (mcd 16, 0, 0, m_ent 0 [.inr (.inr 98)], [], newM q.2 (14, 0)) else none)
/-- what the start holds: cell, place, value -/
def facts0 : List (Nat × Nat × Int) := [(68, 13, 0), (68, 14, 0), (68, 15, 0), (68, 16, 0), (68, 17, 0), (68, 18, 0), (84, 0, 0), (84, 1, 0), (84, 2, 0), (85, 0, 0), (85, 1, 0), (85, 2, 0), (98, 12, 0), (98, 13, 0), (98, 14, 0), (98, 15, 0), (102, 0, 0), (102, 1, 0), (115, 0, 0), (115, 1, 0), (115, 2, 0),
  (28, 8, 0), (28, 9, 0), (28, 10, 0), (28, 11, 0), (28, 12, -1), (28, 13, 0), (28, 14, 0), (28, 15, 0), (136, 0, 0), (130, 0, 0), (131, 0, -1), (137, 0, 0), (2, 10, 0), (98, 1, 0), (2, 11, 0), (98, 4, 0), (2, 12, -1), (98, 5, -1), (87, 6, 0), (98, 75, 0), (87, 7, -1), (98, 76, -1), (94, 3, 0), (98, 79, 0), (2, 13, 0), (98, 81, 0), (98, 16, 0), (81, 6, 0)]
def chk0 (o : mO) : Bool := match o with
  | some (l, (n, sh, R, I, L)) => l.isEmpty && Nat.beq n 143 && (List.range 143).all (fun k => Nat.beq k 1 || (Nat.beq (sh k).1 (sh0 0 k).1 && Nat.beq (sh k).2 (sh0 0 k).2)) && decide (L 98 66 = 0) && facts0.all (fun t => decide (I t.1 t.2.1 = t.2.2)) &&
      (List.range 20).all (fun k => decide (I 7 k = words7.getD k 0)) && (List.range 100).all (fun k => decide (I 100 k = words100.getD k 0))
  | none => false
def chk1 (o : mO) : Bool := match o with
  | some (_, (_, _, R, _, _)) => (List.range 143).all (fun k => (List.range (nfk (sh0 0 k).1)).all (fun j => Nat.beq (R k j) (R0 68 k j)))
  | none => false
def chk2 (c a b : Nat) (o : mO) : Bool := match o with
  | some (_, (_, _, _, I, _)) => (List.range b).all (fun j => decide (I c (a + j) = 0))
  | none => false
