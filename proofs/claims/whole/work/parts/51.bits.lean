/-! ===== bits: the machine's words over plain numbers ===== -/
theorem zb_of (x : Int32) (h : x.toBitVec.toNat < 2147483648) : x.toInt = (x.toBitVec.toNat : Int) := by
  show x.toBitVec.toInt = _
  exact BitVec.toInt_eq_toNat_of_lt (by omega)
theorem zb_bv {a : Nat} (h : a < 4294967296) : (Int32.ofInt (a : Int)).toBitVec.toNat = a := by
  rw [Int32.toBitVec_ofInt, BitVec.ofInt_natCast, BitVec.toNat_ofNat]
  exact Nat.mod_eq_of_lt (by omega)
theorem zbl_of (x : Int64) (h : x.toBitVec.toNat < 9223372036854775808) : x.toInt = (x.toBitVec.toNat : Int) := by
  show x.toBitVec.toInt = _
  exact BitVec.toInt_eq_toNat_of_lt (by omega)
theorem zbl_bv {a : Nat} (h : a < 18446744073709551616) : (Int64.ofInt (a : Int)).toBitVec.toNat = a := by
  rw [Int64.toBitVec_ofInt, BitVec.ofInt_natCast, BitVec.toNat_ofNat]
  exact Nat.mod_eq_of_lt (by omega)
theorem zand_nat {a b : Nat} (ha : a < 2147483648) (hb : b < 2147483648) : zand (a : Int) (b : Int) = ((a &&& b : Nat) : Int) := by
  unfold zand
  have e : (Int32.ofInt (a : Int) &&& Int32.ofInt (b : Int)).toBitVec.toNat = a &&& b := by
    show ((Int32.ofInt (a : Int)).toBitVec &&& (Int32.ofInt (b : Int)).toBitVec).toNat = _
    rw [BitVec.toNat_and, zb_bv (by omega), zb_bv (by omega)]
  have h : a &&& b ≤ a := Nat.and_le_left
  rw [zb_of _ (by rw [e]; omega), e]
theorem zor_lt {a b n : Nat} (ha : a < 2 ^ n) (hb : b < 2 ^ n) : a ||| b < 2 ^ n := Nat.or_lt_two_pow ha hb
theorem zor_nat {a b : Nat} (ha : a < 2147483648) (hb : b < 2147483648) : zor (a : Int) (b : Int) = ((a ||| b : Nat) : Int) := by
  unfold zor
  have e : (Int32.ofInt (a : Int) ||| Int32.ofInt (b : Int)).toBitVec.toNat = a ||| b := by
    show ((Int32.ofInt (a : Int)).toBitVec ||| (Int32.ofInt (b : Int)).toBitVec).toNat = _
    rw [BitVec.toNat_or, zb_bv (by omega), zb_bv (by omega)]
  have h : a ||| b < 2 ^ 31 := zor_lt (by omega) (by omega)
  rw [zb_of _ (by rw [e]; omega), e]
theorem zxor_nat {a b : Nat} (ha : a < 2147483648) (hb : b < 2147483648) : zxor (a : Int) (b : Int) = ((a ^^^ b : Nat) : Int) := by
  unfold zxor
  have e : (Int32.ofInt (a : Int) ^^^ Int32.ofInt (b : Int)).toBitVec.toNat = a ^^^ b := by
    show ((Int32.ofInt (a : Int)).toBitVec ^^^ (Int32.ofInt (b : Int)).toBitVec).toNat = _
    rw [BitVec.toNat_xor, zb_bv (by omega), zb_bv (by omega)]
  have h : a ^^^ b < 2 ^ 31 := Nat.xor_lt_two_pow (by omega) (by omega)
  rw [zb_of _ (by rw [e]; omega), e]
theorem zsh_k : ∀ k : Nat, k < 32 → (Int32.ofInt (k : Int) &&& 31).toBitVec.smod 32 = BitVec.ofNat 32 k := by decide
theorem zshu_k : ∀ k : Nat, k < 32 → (UInt32.mod ((Int32.ofInt (k : Int)).toUInt32 &&& Int32.toUInt32 31) 32).toBitVec = BitVec.ofNat 32 k := by decide
theorem zk32 {k : Nat} (hk : k < 32) : (BitVec.ofNat 32 k).toNat = k := by
  rw [BitVec.toNat_ofNat]; exact Nat.mod_eq_of_lt (by omega)
theorem zshl_nat {a k : Nat} (hk : k < 32) (h : a * 2 ^ k < 2147483648) : zshl (a : Int) (k : Int) = ((a * 2 ^ k : Nat) : Int) := by
  unfold zshl
  have h1 : 1 ≤ 2 ^ k := Nat.one_le_two_pow
  have ha : a ≤ a * 2 ^ k := Nat.le_mul_of_pos_right a h1
  have e : (Int32.ofInt (a : Int) <<< (Int32.ofInt (k : Int) &&& 31)).toBitVec.toNat = a * 2 ^ k := by
    show ((Int32.ofInt (a : Int)).toBitVec <<< ((Int32.ofInt (k : Int) &&& 31).toBitVec.smod 32)).toNat = _
    rw [zsh_k k hk, BitVec.shiftLeft_eq', zk32 hk, BitVec.toNat_shiftLeft, zb_bv (by omega), Nat.shiftLeft_eq]
    exact Nat.mod_eq_of_lt (by omega)
  rw [zb_of _ (by rw [e]; exact h), e]
theorem zshr_nat {a k : Nat} (ha : a < 2147483648) (hk : k < 32) : zshr (a : Int) (k : Int) = ((a / 2 ^ k : Nat) : Int) := by
  unfold zshr
  show (BitVec.sshiftRight' (Int32.ofInt (a : Int)).toBitVec ((Int32.ofInt (k : Int) &&& 31).toBitVec.smod 32)).toInt = _
  rw [zsh_k k hk, BitVec.toInt_sshiftRight', zk32 hk]
  have e : (Int32.ofInt (a : Int)).toBitVec.toInt = (a : Int) := by
    rw [BitVec.toInt_eq_toNat_of_lt (by rw [zb_bv (by omega)]; omega), zb_bv (by omega)]
  rw [e, Int.shiftRight_eq_div_pow]
  exact (Int.natCast_ediv a (2 ^ k)).symm
theorem zushr_nat {a k : Nat} (ha : a < 2147483648) (hk : k < 32) : zushr (a : Int) (k : Int) = ((a / 2 ^ k : Nat) : Int) := by
  unfold zushr
  have e : ((((Int32.ofInt (a : Int)).toUInt32 >>> ((Int32.ofInt (k : Int)).toUInt32 &&& Int32.toUInt32 31)).toInt32)).toBitVec.toNat = a / 2 ^ k := by
    show ((Int32.ofInt (a : Int)).toBitVec >>> (UInt32.mod ((Int32.ofInt (k : Int)).toUInt32 &&& Int32.toUInt32 31) 32).toBitVec).toNat = _
    rw [zshu_k k hk, BitVec.ushiftRight_eq', zk32 hk, BitVec.toNat_ushiftRight, zb_bv (by omega), Nat.shiftRight_eq_div_pow]
  have h : a / 2 ^ k ≤ a := Nat.div_le_self a (2 ^ k)
  rw [zb_of _ (by rw [e]; omega), e]
/-- a word below 0, shifted by at least one place -/
theorem zushr_neg {z : Int} {k : Nat} (h0 : z < 0) (h1 : -2147483648 ≤ z) (hk : k < 32) (hp : 1 ≤ k) : zushr z (k : Int) = (((z + 4294967296).toNat / 2 ^ k : Nat) : Int) := by
  unfold zushr
  have ez : (Int32.ofInt z).toBitVec.toNat = (z + 4294967296).toNat := by
    rw [Int32.toBitVec_ofInt, BitVec.toNat_ofInt]
    omega
  have e : ((((Int32.ofInt z).toUInt32 >>> ((Int32.ofInt (k : Int)).toUInt32 &&& Int32.toUInt32 31)).toInt32)).toBitVec.toNat = (z + 4294967296).toNat / 2 ^ k := by
    show ((Int32.ofInt z).toBitVec >>> (UInt32.mod ((Int32.ofInt (k : Int)).toUInt32 &&& Int32.toUInt32 31) 32).toBitVec).toNat = _
    rw [zshu_k k hk, BitVec.ushiftRight_eq', zk32 hk, BitVec.toNat_ushiftRight, ez, Nat.shiftRight_eq_div_pow]
  have h : (z + 4294967296).toNat / 2 ^ k ≤ (z + 4294967296).toNat / 2 := Nat.div_le_div_left (by have := Nat.pow_le_pow_right (n := 2) (by omega) hp; omega) (by omega)
  rw [zb_of _ (by rw [e]; omega), e]
theorem zushr_zero {z : Int} (h1 : -2147483648 ≤ z ∧ z ≤ 2147483647) : zushr z 0 = z := by
  unfold zushr
  have e : ((((Int32.ofInt z).toUInt32 >>> ((Int32.ofInt ((0 : Nat) : Int)).toUInt32 &&& Int32.toUInt32 31)).toInt32)) = Int32.ofInt z := by
    apply Int32.toBitVec_inj.mp
    show (Int32.ofInt z).toBitVec >>> (UInt32.mod ((Int32.ofInt ((0 : Nat) : Int)).toUInt32 &&& Int32.toUInt32 31) 32).toBitVec = _
    rw [zshu_k 0 (by omega)]
    simp
  exact (congrArg Int32.toInt e).trans (z32 h1)
/-- all of a but b -/
def zdiff (a b : Nat) : Nat := a ^^^ (a &&& b)
theorem zdiff_bit (a b i : Nat) : (zdiff a b).testBit i = (a.testBit i && !b.testBit i) := by
  unfold zdiff
  rw [Nat.testBit_xor, Nat.testBit_and]
  cases a.testBit i <;> cases b.testBit i <;> rfl
theorem zdiff_le (a b : Nat) : zdiff a b ≤ a := by
  have h : zdiff a b = zdiff a b &&& a := by
    apply Nat.eq_of_testBit_eq
    intro i
    rw [Nat.testBit_and, zdiff_bit]
    cases a.testBit i <;> cases b.testBit i <;> rfl
  rw [h]; exact Nat.and_le_right
theorem zdiff_nat {a b : Nat} (ha : a < 2147483648) (hb : b < 2147483648) : zand (a : Int) (zxor (b : Int) (-1)) = ((zdiff a b : Nat) : Int) := by
  unfold zand zxor
  have e : (Int32.ofInt (a : Int) &&& Int32.ofInt ((Int32.ofInt (b : Int) ^^^ Int32.ofInt (-1)).toInt)).toBitVec.toNat = zdiff a b := by
    show ((Int32.ofInt (a : Int)).toBitVec &&& (Int32.ofInt ((Int32.ofInt (b : Int) ^^^ Int32.ofInt (-1)).toInt)).toBitVec).toNat = _
    rw [Int32.ofInt_toInt]
    show ((Int32.ofInt (a : Int)).toBitVec &&& ((Int32.ofInt (b : Int)).toBitVec ^^^ (Int32.ofInt (-1)).toBitVec)).toNat = _
    rw [BitVec.toNat_and, BitVec.toNat_xor, zb_bv (by omega), zb_bv (by omega)]
    have e1 : (Int32.ofInt (-1)).toBitVec.toNat = 2 ^ 32 - 1 := by decide
    rw [e1]
    apply Nat.eq_of_testBit_eq
    intro i
    rw [Nat.testBit_and, Nat.testBit_xor, zdiff_bit, Nat.testBit_two_pow_sub_one]
    by_cases hi : i < 32
    · simp [hi]
    · have : a.testBit i = false := Nat.testBit_lt_two_pow (Nat.lt_of_lt_of_le (show a < 2 ^ 31 by omega) (Nat.pow_le_pow_right (by omega) (by omega)))
      rw [this]; rfl
  have h := zdiff_le a b
  rw [zb_of _ (by rw [e]; omega), e]
theorem zbit_nat (a k : Nat) : (a / 2 ^ k) &&& 1 = if a.testBit k then 1 else 0 := by
  rw [Nat.and_one_is_mod, Nat.testBit_eq_decide_div_mod_eq]
  have : a / 2 ^ k % 2 = 0 ∨ a / 2 ^ k % 2 = 1 := by omega
  rcases this with h | h <;> simp [h]
theorem zbit_shr {a k : Nat} (ha : a < 2147483648) (hk : k < 32) : zand (zshr (a : Int) (k : Int)) 1 = if a.testBit k then 1 else 0 := by
  have h : a / 2 ^ k ≤ a := Nat.div_le_self a (2 ^ k)
  rw [zshr_nat ha hk, show (1 : Int) = ((1 : Nat) : Int) from rfl, zand_nat (by omega) (by omega), zbit_nat]
  split <;> rfl
theorem zbit_ushr {a k : Nat} (ha : a < 2147483648) (hk : k < 32) : zand (zushr (a : Int) (k : Int)) 1 = if a.testBit k then 1 else 0 := by
  have h : a / 2 ^ k ≤ a := Nat.div_le_self a (2 ^ k)
  rw [zushr_nat ha hk, show (1 : Int) = ((1 : Nat) : Int) from rfl, zand_nat (by omega) (by omega), zbit_nat]
  split <;> rfl
theorem zone_shl {k : Nat} (hk : k < 31) : zshl 1 (k : Int) = ((2 ^ k : Nat) : Int) := by
  have h : 2 ^ k ≤ 2 ^ 30 := Nat.pow_le_pow_right (by omega) (by omega)
  rw [show (1 : Int) = ((1 : Nat) : Int) from rfl, zshl_nat (by omega) (by omega), Nat.one_mul]
/-! ===== how many bits ===== -/
def zpop (n a : Nat) : Nat := match n with
  | 0 => 0
  | n + 1 => a % 2 + zpop n (a / 2)
theorem zasp (k y m : Nat) : y &&& m = (y % 2 ^ k &&& m % 2 ^ k) + 2 ^ k * ((y / 2 ^ k) &&& (m / 2 ^ k)) := by
  rw [← Nat.and_mod_two_pow, ← Nat.and_div_two_pow]
  exact (Nat.mod_add_div _ _).symm
theorem zas4 {u y c m : Nat} (hu : u < 16) (hc : c < 16) : (u + 16 * y) &&& (c + 16 * m) = (u &&& c) + 16 * (y &&& m) := by
  have h := zasp 4 (u + 16 * y) (c + 16 * m)
  rw [h]
  have e1 : (u + 16 * y) % 2 ^ 4 = u := by omega
  have e2 : (c + 16 * m) % 2 ^ 4 = c := by omega
  have e3 : (u + 16 * y) / 2 ^ 4 = y := by omega
  have e4 : (c + 16 * m) / 2 ^ 4 = m := by omega
  rw [e1, e2, e3, e4]
def zp4 (n : Nat) : Nat := n % 2 + n / 2 % 2 + n / 4 % 2 + n / 8 % 2
theorem zp4_le (n : Nat) : zp4 n ≤ 4 := by unfold zp4; omega
theorem zp4_1 : ∀ n : Nat, n < 16 → ∀ b : Nat, b < 2 → (n / 2 + 8 * b) &&& 5 = (n / 2) &&& 5 := by decide
theorem zp4_2 : ∀ n : Nat, n < 16 → (n / 2) &&& 5 ≤ n := by decide
theorem zp4_3 : ∀ n : Nat, n < 16 → ((n - ((n / 2) &&& 5)) &&& 3) + (((n - ((n / 2) &&& 5)) / 4) &&& 3) = zp4 n := by decide
theorem zp4_4 : ∀ u : Nat, u < 16 → ∀ b : Nat, b < 16 → (u / 4 + 4 * (b % 4)) &&& 3 = (u / 4) &&& 3 := by decide
theorem zm5 {n y m : Nat} (hn : n < 16) : ((n + 16 * y) / 2) &&& (5 + 16 * m) = ((n / 2) &&& 5) + 16 * ((y / 2) &&& m) := by
  have e : (n + 16 * y) / 2 = (n / 2 + 8 * (y % 2)) + 16 * (y / 2) := by omega
  rw [e, zas4 (by omega) (by omega), zp4_1 n hn (y % 2) (by omega)]
theorem zm3 {u y m : Nat} (hn : u < 16) : ((u + 16 * y) / 4) &&& (3 + 16 * m) = ((u / 4) &&& 3) + 16 * ((y / 4) &&& m) := by
  have e : (u + 16 * y) / 4 = (u / 4 + 4 * (y % 16 % 4)) + 16 * (y / 4) := by omega
  rw [e, zas4 (by omega) (by omega), zp4_4 u hn (y % 16) (by omega)]
theorem zpop4 {n y k : Nat} (hn : n < 16) : zpop (k + 4) (n + 16 * y) = zp4 n + zpop k y := by
  show (n + 16 * y) % 2 + ((n + 16 * y) / 2 % 2 + ((n + 16 * y) / 2 / 2 % 2 + ((n + 16 * y) / 2 / 2 / 2 % 2 + zpop k ((n + 16 * y) / 2 / 2 / 2 / 2)))) = _
  have e : (n + 16 * y) / 2 / 2 / 2 / 2 = y := by omega
  rw [e]
  unfold zp4
  omega
theorem zand15 : ∀ n : Nat, n < 16 → n &&& 15 = n := by decide
theorem zbcT {p0 p1 p2 p3 p4 : Nat} (h0 : p0 ≤ 4) (h1 : p1 ≤ 4) (h2 : p2 ≤ 4) (h3 : p3 ≤ 4) (h4 : p4 ≤ 4) (D : zDa) (x : Int) (hx : x = ((p0 + 16 * (p1 + 16 * (p2 + 16 * (p3 + 16 * p4))) : Nat) : Int)) :
    (if -2147483648 ≤ x + zushr x 4 ∧ x + zushr x 4 ≤ 2147483647 then
      (if -2147483648 ≤ zand (x + zushr x 4) 252645135 + zushr (zand (x + zushr x 4) 252645135) 8 ∧ zand (x + zushr x 4) 252645135 + zushr (zand (x + zushr x 4) 252645135) 8 ≤ 2147483647 then
        (if -2147483648 ≤ zand (x + zushr x 4) 252645135 + zushr (zand (x + zushr x 4) 252645135) 8 + zushr (zand (x + zushr x 4) 252645135 + zushr (zand (x + zushr x 4) 252645135) 8) 16 ∧ zand (x + zushr x 4) 252645135 + zushr (zand (x + zushr x 4) 252645135) 8 + zushr (zand (x + zushr x 4) 252645135 + zushr (zand (x + zushr x 4) 252645135) 8) 16 ≤ 2147483647 then
          some (zand (zand (x + zushr x 4) 252645135 + zushr (zand (x + zushr x 4) 252645135) 8 + zushr (zand (x + zushr x 4) 252645135 + zushr (zand (x + zushr x 4) 252645135) 8) 16) 63, D)
        else none) else none) else none) = some (((p0 + p1 + p2 + p3 + p4 : Nat) : Int), D) := by
  subst hx
  have q6 : zushr ((p0 + 16 * (p1 + 16 * (p2 + 16 * (p3 + 16 * p4))) : Nat) : Int) 4 = ((p1 + 16 * (p2 + 16 * (p3 + 16 * p4)) : Nat) : Int) := by
    rw [show (4 : Int) = ((4 : Nat) : Int) from rfl, zushr_nat (by omega) (by omega)]
    congr 1
    omega
  rw [q6]
  have q7 : ((p0 + 16 * (p1 + 16 * (p2 + 16 * (p3 + 16 * p4))) : Nat) : Int) + ((p1 + 16 * (p2 + 16 * (p3 + 16 * p4)) : Nat) : Int) = (((p0 + p1) + 16 * ((p1 + p2) + 16 * ((p2 + p3) + 16 * ((p3 + p4) + 16 * p4))) : Nat) : Int) := by omega
  rw [q7]
  have q8 : zand (((p0 + p1) + 16 * ((p1 + p2) + 16 * ((p2 + p3) + 16 * ((p3 + p4) + 16 * p4))) : Nat) : Int) 252645135 = (((p0 + p1) + 256 * ((p2 + p3) + 256 * p4) : Nat) : Int) := by
    rw [show (252645135 : Int) = ((252645135 : Nat) : Int) from rfl, zand_nat (by omega) (by omega)]
    rw [show (252645135 : Nat) = 15 + 16 * 15790320 from rfl, zas4 (by omega) (by omega), show (15790320 : Nat) = 0 + 16 * 986895 from rfl, zas4 (by omega) (by omega), show (986895 : Nat) = 15 + 16 * 61680 from rfl, zas4 (by omega) (by omega), show (61680 : Nat) = 0 + 16 * 3855 from rfl, zas4 (by omega) (by omega)]
    have := zas4 (u := p4) (y := 0) (c := 15) (m := 240) (by omega) (by omega)
    rw [show p4 + 16 * 0 = p4 from rfl, show 15 + 16 * 240 = 3855 from rfl, Nat.zero_and, Nat.mul_zero, Nat.add_zero] at this
    rw [this, zand15 (p0 + p1) (by omega), zand15 (p2 + p3) (by omega), zand15 p4 (by omega), Nat.and_zero, Nat.and_zero]
    omega
  rw [if_pos (by omega), q8]
  have q9 : zushr (((p0 + p1) + 256 * ((p2 + p3) + 256 * p4) : Nat) : Int) 8 = (((p2 + p3) + 256 * p4 : Nat) : Int) := by
    rw [show (8 : Int) = ((8 : Nat) : Int) from rfl, zushr_nat (by omega) (by omega)]
    congr 1
    omega
  rw [q9]
  have q10 : (((p0 + p1) + 256 * ((p2 + p3) + 256 * p4) : Nat) : Int) + (((p2 + p3) + 256 * p4 : Nat) : Int) = (((p0 + p1 + p2 + p3) + 256 * ((p2 + p3 + p4) + 256 * p4) : Nat) : Int) := by omega
  rw [q10, if_pos (by omega)]
  have q11 : zushr (((p0 + p1 + p2 + p3) + 256 * ((p2 + p3 + p4) + 256 * p4) : Nat) : Int) 16 = ((p4 : Nat) : Int) := by
    rw [show (16 : Int) = ((16 : Nat) : Int) from rfl, zushr_nat (by omega) (by omega)]
    congr 1
    omega
  rw [q11]
  have q12 : (((p0 + p1 + p2 + p3) + 256 * ((p2 + p3 + p4) + 256 * p4) : Nat) : Int) + ((p4 : Nat) : Int) = (((p0 + p1 + p2 + p3 + p4) + 64 * (4 * ((p2 + p3 + p4) + 256 * p4)) : Nat) : Int) := by omega
  rw [q12, if_pos (by omega)]
  have q13 : zand (((p0 + p1 + p2 + p3 + p4) + 64 * (4 * ((p2 + p3 + p4) + 256 * p4)) : Nat) : Int) 63 = ((p0 + p1 + p2 + p3 + p4 : Nat) : Int) := by
    rw [show (63 : Int) = ((63 : Nat) : Int) from rfl, zand_nat (by omega) (by omega)]
    congr 1
    rw [show (63 : Nat) = 2 ^ 6 - 1 from rfl, Nat.and_two_pow_sub_one_eq_mod]
    omega
  rw [q13]
theorem zbcA {x n0 n1 n2 n3 n4 : Nat} (e : x = n0 + 16 * (n1 + 16 * (n2 + 16 * (n3 + 16 * n4)))) (hn0 : n0 < 16) (hn1 : n1 < 16) (hn2 : n2 < 16) (hn3 : n3 < 16) (hn4 : n4 < 16) :
    ∃ X, (x / 2) &&& 1431655765 ≤ x ∧ x - ((x / 2) &&& 1431655765) = X ∧ X < 1048576 ∧ (X &&& 858993459) + ((X / 4) &&& 858993459) = zp4 n0 + 16 * (zp4 n1 + 16 * (zp4 n2 + 16 * (zp4 n3 + 16 * zp4 n4))) := by
  have s1 : (x / 2) &&& 1431655765 = ((n0 / 2) &&& 5) + 16 * (((n1 / 2) &&& 5) + 16 * (((n2 / 2) &&& 5) + 16 * (((n3 / 2) &&& 5) + 16 * ((n4 / 2) &&& 5)))) := by
    rw [e, show (1431655765 : Nat) = 5 + 16 * 89478485 from rfl, zm5 hn0, show (89478485 : Nat) = 5 + 16 * 5592405 from rfl, zm5 hn1, show (5592405 : Nat) = 5 + 16 * 349525 from rfl, zm5 hn2, show (349525 : Nat) = 5 + 16 * 21845 from rfl, zm5 hn3]
    have := zm5 (n := n4) (y := 0) (m := 1365) hn4
    rw [show n4 + 16 * 0 = n4 from rfl, show 5 + 16 * 1365 = 21845 from rfl, show 0 / 2 = 0 from rfl, Nat.zero_and, Nat.mul_zero, Nat.add_zero] at this
    rw [this]
  have g0 := zp4_2 n0 hn0
  have g1 := zp4_2 n1 hn1
  have g2 := zp4_2 n2 hn2
  have g3 := zp4_2 n3 hn3
  have g4 := zp4_2 n4 hn4
  have w0 := zp4_3 n0 hn0
  have w1 := zp4_3 n1 hn1
  have w2 := zp4_3 n2 hn2
  have w3 := zp4_3 n3 hn3
  have w4 := zp4_3 n4 hn4
  generalize hu0 : n0 - ((n0 / 2) &&& 5) = u0 at w0
  generalize hu1 : n1 - ((n1 / 2) &&& 5) = u1 at w1
  generalize hu2 : n2 - ((n2 / 2) &&& 5) = u2 at w2
  generalize hu3 : n3 - ((n3 / 2) &&& 5) = u3 at w3
  generalize hu4 : n4 - ((n4 / 2) &&& 5) = u4 at w4
  have t1 : x - ((x / 2) &&& 1431655765) = u0 + 16 * (u1 + 16 * (u2 + 16 * (u3 + 16 * u4))) := by rw [s1]; omega
  have le1 : (x / 2) &&& 1431655765 ≤ x := by rw [s1]; omega
  have hu0' : u0 < 16 := by omega
  have hu1' : u1 < 16 := by omega
  have hu2' : u2 < 16 := by omega
  have hu3' : u3 < 16 := by omega
  have hu4' : u4 < 16 := by omega
  have s2 : (u0 + 16 * (u1 + 16 * (u2 + 16 * (u3 + 16 * u4)))) &&& 858993459 = (u0 &&& 3) + 16 * ((u1 &&& 3) + 16 * ((u2 &&& 3) + 16 * ((u3 &&& 3) + 16 * (u4 &&& 3)))) := by
    rw [show (858993459 : Nat) = 3 + 16 * 53687091 from rfl, zas4 hu0' (by omega), show (53687091 : Nat) = 3 + 16 * 3355443 from rfl, zas4 hu1' (by omega), show (3355443 : Nat) = 3 + 16 * 209715 from rfl, zas4 hu2' (by omega), show (209715 : Nat) = 3 + 16 * 13107 from rfl, zas4 hu3' (by omega)]
    have := zas4 (u := u4) (y := 0) (c := 3) (m := 819) hu4' (by omega)
    rw [show u4 + 16 * 0 = u4 from rfl, show 3 + 16 * 819 = 13107 from rfl, Nat.zero_and, Nat.mul_zero, Nat.add_zero] at this
    rw [this]
  have s3 : ((u0 + 16 * (u1 + 16 * (u2 + 16 * (u3 + 16 * u4)))) / 4) &&& 858993459 = ((u0 / 4) &&& 3) + 16 * (((u1 / 4) &&& 3) + 16 * (((u2 / 4) &&& 3) + 16 * (((u3 / 4) &&& 3) + 16 * ((u4 / 4) &&& 3)))) := by
    rw [show (858993459 : Nat) = 3 + 16 * 53687091 from rfl, zm3 hu0', show (53687091 : Nat) = 3 + 16 * 3355443 from rfl, zm3 hu1', show (3355443 : Nat) = 3 + 16 * 209715 from rfl, zm3 hu2', show (209715 : Nat) = 3 + 16 * 13107 from rfl, zm3 hu3']
    have := zm3 (u := u4) (y := 0) (m := 819) hu4'
    rw [show u4 + 16 * 0 = u4 from rfl, show 3 + 16 * 819 = 13107 from rfl, show 0 / 4 = 0 from rfl, Nat.zero_and, Nat.mul_zero, Nat.add_zero] at this
    rw [this]
  refine ⟨_, le1, t1, by clear s1 s2 s3 t1 le1 w0 w1 w2 w3 w4 g0 g1 g2 g3 g4 hu0 hu1 hu2 hu3 hu4; omega, ?_⟩
  rw [s2, s3, ← w0, ← w1, ← w2, ← w3, ← w4]
  clear s1 s2 s3 t1 le1 w0 w1 w2 w3 w4 g0 g1 g2 g3 g4 hu0 hu1 hu2 hu3 hu4
  generalize u0 &&& 3 = a0
  generalize u1 &&& 3 = a1
  generalize u2 &&& 3 = a2
  generalize u3 &&& 3 = a3
  generalize u4 &&& 3 = a4
  generalize (u0 / 4) &&& 3 = b0
  generalize (u1 / 4) &&& 3 = b1
  generalize (u2 / 4) &&& 3 = b2
  generalize (u3 / 4) &&& 3 = b3
  generalize (u4 / 4) &&& 3 = b4
  omega
theorem zbitCount {x : Nat} (hx : x < 1048576) (F : zFs) (D : zDa) : fJ6_bitCount_0f7a4 F (x : Int) D = some ((zpop 20 x : Int), D) := by
  obtain ⟨n0, y0, e0, hn0⟩ : ∃ n y, x = n + 16 * y ∧ n < 16 := ⟨x % 16, x / 16, by omega, by omega⟩
  obtain ⟨n1, y1, e1, hn1⟩ : ∃ n y, y0 = n + 16 * y ∧ n < 16 := ⟨y0 % 16, y0 / 16, by omega, by omega⟩
  obtain ⟨n2, y2, e2, hn2⟩ : ∃ n y, y1 = n + 16 * y ∧ n < 16 := ⟨y1 % 16, y1 / 16, by omega, by omega⟩
  obtain ⟨n3, n4, e3, hn3⟩ : ∃ n y, y2 = n + 16 * y ∧ n < 16 := ⟨y2 % 16, y2 / 16, by omega, by omega⟩
  have hn4 : n4 < 16 := by omega
  have hp : zpop 20 x = zp4 n0 + (zp4 n1 + (zp4 n2 + (zp4 n3 + (zp4 n4 + 0)))) := by
    rw [e0, zpop4 (k := 16) hn0, e1, zpop4 (k := 12) hn1, e2, zpop4 (k := 8) hn2, e3, zpop4 (k := 4) hn3]
    have := zpop4 (n := n4) (y := 0) (k := 0) hn4
    rw [show n4 + 16 * 0 = n4 from rfl] at this
    rw [show (4 : Nat) = 0 + 4 from rfl, this]; rfl
  have h0 := zp4_le n0
  have h1 := zp4_le n1
  have h2 := zp4_le n2
  have h3 := zp4_le n3
  have h4 := zp4_le n4
  simp only [fJ6_bitCount_0f7a4, zlet]
  have q1 : zand (zushr (x : Int) 1) 1431655765 = (((x / 2) &&& 1431655765 : Nat) : Int) := by
    rw [show (1 : Int) = ((1 : Nat) : Int) from rfl, zushr_nat (by omega) (by omega), show (1431655765 : Int) = ((1431655765 : Nat) : Int) from rfl, zand_nat (by omega) (by omega)]
  rw [q1]
  obtain ⟨X, le1, t1, hX, s2⟩ := zbcA (x := x) (by rw [e0, e1, e2, e3]) hn0 hn1 hn2 hn3 hn4
  clear e0 e1 e2 e3
  have q2 : (x : Int) - (((x / 2) &&& 1431655765 : Nat) : Int) = (X : Int) := by omega
  rw [q2]
  have q3 : zand (X : Int) 858993459 = ((X &&& 858993459 : Nat) : Int) := by
    rw [show (858993459 : Int) = ((858993459 : Nat) : Int) from rfl, zand_nat (by omega) (by omega)]
  have q4 : zand (zushr (X : Int) 2) 858993459 = (((X / 4) &&& 858993459 : Nat) : Int) := by
    rw [show (2 : Int) = ((2 : Nat) : Int) from rfl, zushr_nat (by omega) (by omega), show (858993459 : Int) = ((858993459 : Nat) : Int) from rfl, zand_nat (by omega) (by omega)]
  rw [q3, q4]
  have q5 : ((X &&& 858993459 : Nat) : Int) + (((X / 4) &&& 858993459 : Nat) : Int) = ((zp4 n0 + 16 * (zp4 n1 + 16 * (zp4 n2 + 16 * (zp4 n3 + 16 * zp4 n4))) : Nat) : Int) := by
    rw [← Int.natCast_add, s2]
  rw [q5]
  rw [if_pos (by omega), if_pos (by omega)]
  have hT := zbcT h0 h1 h2 h3 h4 D _ rfl
  rw [hT, hp]
  simp only [Nat.add_assoc, Nat.add_zero]
