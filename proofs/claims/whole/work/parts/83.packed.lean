/-! ===== phase 2: letters packed ===== -/
theorem m_or_nat {a b : Nat} (ha : a < 2147483648) (hb : b < 2147483648) : m_or (a : Int) (b : Int) = ((a ||| b : Nat) : Int) := by
  unfold m_or
  have h : (Int32.ofInt (a : Int) ||| Int32.ofInt (b : Int)).toInt = (BitVec.ofInt 32 (a : Int) ||| BitVec.ofInt 32 (b : Int)).toInt := rfl
  have hlt : a ||| b < 2 ^ 31 := Nat.or_lt_two_pow (by omega) (by omega)
  have h2 : (BitVec.ofInt 32 (a : Int) ||| BitVec.ofInt 32 (b : Int)).toNat = a ||| b := by
    rw [BitVec.toNat_or, BitVec.toNat_ofInt, BitVec.toNat_ofInt]
    congr 1 <;> omega
  rw [h, BitVec.toInt_eq_toNat_of_lt (by omega), h2]
theorem shl_aux {a : Nat} (k : Nat) (h : a * 2 ^ k < 2147483648) : (BitVec.ofInt 32 (a : Int) <<< k).toInt = ((a * 2 ^ k : Nat) : Int) := by
  have hk : 1 ≤ 2 ^ k := Nat.one_le_two_pow
  have ha : a ≤ a * 2 ^ k := Nat.le_mul_of_pos_right a hk
  have h2 : (BitVec.ofInt 32 (a : Int) <<< k).toNat = a * 2 ^ k := by
    rw [BitVec.toNat_shiftLeft, BitVec.toNat_ofInt, Nat.shiftLeft_eq]
    rw [show ((a : Int) % ((2 ^ 32 : Nat) : Int)).toNat = a by omega]
    exact Nat.mod_eq_of_lt (by omega)
  rw [BitVec.toInt_eq_toNat_of_lt (by omega), h2]
theorem m_shl_5 {a : Nat} (h : a * 32 < 2147483648) : m_shl (a : Int) 5 = ((a * 32 : Nat) : Int) := shl_aux (a := a) 5 h
theorem m_shl_0 {a : Nat} (h : a < 2147483648) : m_shl (a : Int) 0 = ((a * 1 : Nat) : Int) := shl_aux (a := a) 0 (by omega)
theorem m_shl_10 {a : Nat} (h : a * 1024 < 2147483648) : m_shl (a : Int) 10 = ((a * 1024 : Nat) : Int) := shl_aux (a := a) 10 h
theorem m_shl_15 {a : Nat} (h : a * 32768 < 2147483648) : m_shl (a : Int) 15 = ((a * 32768 : Nat) : Int) := shl_aux (a := a) 15 h
theorem m_shl_20 {a : Nat} (h : a * 1048576 < 2147483648) : m_shl (a : Int) 20 = ((a * 1048576 : Nat) : Int) := shl_aux (a := a) 20 h
theorem m_shl_25 {a : Nat} (h : a * 33554432 < 2147483648) : m_shl (a : Int) 25 = ((a * 33554432 : Nat) : Int) := shl_aux (a := a) 25 h
theorem pk_step {a v : Nat} (h : a * 32 < 1073741824) (hv : v < 32) : m_or (m_shl (a : Int) 5) (v : Int) = ((a * 32 + v : Nat) : Int) := by
  rw [m_shl_5 (by omega), m_or_nat (by omega) (by omega)]
  congr 1
  have := Nat.shiftLeft_add_eq_or_of_lt (a := a) (i := 5) (b := v) (by omega)
  rw [Nat.shiftLeft_eq] at this
  exact this.symm
/-- n letters packed -/
def pk (f : Nat → Int) (s : Nat) : Nat → Nat
  | 0 => 0
  | n + 1 => pk f s n * 32 + (f (s + n) - 96).toNat
theorem pkn_lt {f : Nat → Int} {s : Nat} : ∀ n : Nat, (∀ j, j < n → isLt (f (s + j))) → pk f s n < 32 ^ n
  | 0, _ => by rw [pk]; omega
  | n + 1, h => by
    have := pkn_lt n (fun j hj => h j (by omega))
    have hn := h n (by omega)
    unfold isLt at hn
    rw [pk, Nat.pow_succ]
    omega
