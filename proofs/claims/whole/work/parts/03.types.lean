/-! ===== the mini machine: its values, memory, instructions ===== -/
/-- a value: an int, a long, a reference (0 null, 1 the script, from 2 on the cells in the order of their making) -/
abbrev mV : Type := Int ⊕ (Int ⊕ Nat)
/-- an instruction: pc, what it is, its length, three numbers and a constant that belong to it; '.nop' of length 0: only the locals of the mask go on -/
abbrev mE : Type := Nat × Instr × Nat × Nat × Nat × Nat × Int
/-- the memory: how many references there are, what each is (kind, length), references, ints, longs by reference and place -/
abbrev mM : Type := Nat × (Nat → Nat × Nat) × (Nat → Nat → Nat) × (Nat → Nat → Int) × (Nat → Nat → Int)
