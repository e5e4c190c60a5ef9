/-! ===== sets as bits: how many, which is the k-th ===== -/
def bPop (x n i : Nat) : Nat := match n with
  | 0 => 0
  | n + 1 => (if x.testBit i then 1 else 0) + bPop x n (i + 1)
def bNth (x n i k : Nat) : Nat := match n with
  | 0 => i
  | n + 1 => if x.testBit i then (if k = 0 then i else bNth x n (i + 1) (k - 1)) else bNth x n (i + 1) k
theorem bPop_z (x : Nat) : ∀ n i, bPop x n i = zpop n (x / 2 ^ i)
  | 0, _ => rfl
  | n + 1, i => by
    have h := bPop_z x n (i + 1)
    show (if x.testBit i then 1 else 0) + bPop x n (i + 1) = _
    rw [h, show x / 2 ^ (i + 1) = x / 2 ^ i / 2 by rw [Nat.pow_succ, Nat.div_div_eq_div_mul]]
    show _ = (x / 2 ^ i) % 2 + zpop n (x / 2 ^ i / 2)
    rw [Nat.testBit_eq_decide_div_mod_eq]
    have : x / 2 ^ i % 2 = 0 ∨ x / 2 ^ i % 2 = 1 := by omega
    rcases this with h | h <;> simp [h]
theorem bPop_20 (x : Nat) : bPop x 20 0 = zpop 20 x := by rw [bPop_z]; simp
theorem bPop_cg {x y : Nat} : ∀ n i, (∀ j, i ≤ j → j < i + n → x.testBit j = y.testBit j) → bPop x n i = bPop y n i
  | 0, _, _ => rfl
  | n + 1, i, h => by
    show (if x.testBit i then 1 else 0) + bPop x n (i + 1) = (if y.testBit i then 1 else 0) + bPop y n (i + 1)
    rw [h i (by omega) (by omega), bPop_cg n (i + 1) (fun j h1 h2 => h j (by omega) (by omega))]
theorem bNth_cg {x y : Nat} : ∀ n i k, (∀ j, i ≤ j → j < i + n → x.testBit j = y.testBit j) → bNth x n i k = bNth y n i k
  | 0, _, _, _ => rfl
  | n + 1, i, k, h => by
    unfold bNth
    rw [h i (by omega) (by omega), bNth_cg n (i + 1) (k - 1) (fun j h1 h2 => h j (by omega) (by omega)), bNth_cg n (i + 1) k (fun j h1 h2 => h j (by omega) (by omega))]
theorem bNth_in {x : Nat} : ∀ n i k, k < bPop x n i → i ≤ bNth x n i k ∧ bNth x n i k < i + n ∧ x.testBit (bNth x n i k) = true
  | 0, _, _, h => absurd h (by unfold bPop; omega)
  | n + 1, i, k, h => by
    unfold bPop at h
    unfold bNth
    by_cases hb : x.testBit i = true
    · rw [if_pos hb] at h
      rw [if_pos hb]
      by_cases hk : k = 0
      · rw [if_pos hk]; exact ⟨by omega, by omega, hb⟩
      · rw [if_neg hk]
        have := bNth_in (x := x) n (i + 1) (k - 1) (by omega)
        exact ⟨by omega, by omega, this.2.2⟩
    · rw [if_neg hb] at h
      rw [if_neg hb]
      have := bNth_in (x := x) n (i + 1) k (by omega)
      exact ⟨by omega, by omega, this.2.2⟩
theorem bNth_low {x : Nat} : ∀ n i, 0 < bPop x n i → ∀ j, i ≤ j → j < bNth x n i 0 → x.testBit j = false
  | 0, _, h, _, _, _ => absurd h (by unfold bPop; omega)
  | n + 1, i, h, j, h1, h2 => by
    unfold bPop at h
    unfold bNth at h2
    by_cases hb : x.testBit i = true
    · rw [if_pos hb, if_pos rfl] at h2
      omega
    · rw [if_neg hb] at h h2
      by_cases e : j = i
      · rw [e]; simpa using hb
      · exact bNth_low n (i + 1) (by omega) j (by omega) h2
theorem bStrip {x y : Nat} : ∀ n i k, 0 < bPop x n i → (∀ j, i ≤ j → j < i + n → y.testBit j = (x.testBit j && decide (j ≠ bNth x n i 0))) → bNth x n i (k + 1) = bNth y n i k ∧ bPop y n i + 1 = bPop x n i
  | 0, _, _, h, _ => absurd h (by unfold bPop; omega)
  | n + 1, i, k, h, hy => by
    by_cases hb : x.testBit i = true
    · have e0 : bNth x (n + 1) i 0 = i := by unfold bNth; rw [if_pos hb, if_pos rfl]
      rw [e0] at hy
      have yi : y.testBit i = false := by rw [hy i (by omega) (by omega)]; simp
      have cg : ∀ j, i + 1 ≤ j → j < i + 1 + n → x.testBit j = y.testBit j := fun j h1 h2 => by
        rw [hy j (by omega) (by omega)]
        have : decide (j ≠ i) = true := decide_eq_true (by omega)
        rw [this, Bool.and_true]
      unfold bNth bPop
      rw [if_pos hb, if_pos hb, if_neg (by omega), yi, if_neg (by decide), if_neg (by decide), show k + 1 - 1 = k by omega]
      exact ⟨bNth_cg n (i + 1) k cg, by rw [bPop_cg n (i + 1) cg]; omega⟩
    · have e0 : bNth x (n + 1) i 0 = bNth x n (i + 1) 0 := by rw [bNth, if_neg hb]
      rw [e0] at hy
      have hb' : x.testBit i = false := by simpa using hb
      have yi : y.testBit i = false := by rw [hy i (by omega) (by omega), hb']; rfl
      unfold bPop at h
      rw [if_neg hb] at h
      have ih := bStrip n (i + 1) k (by omega) (fun j h1 h2 => hy j (by omega) (by omega))
      unfold bNth bPop
      rw [if_neg hb, if_neg hb, yi, if_neg (by decide), if_neg (by decide)]
      exact ⟨ih.1, by omega⟩
theorem bLow {x i : Nat} (h1 : x.testBit i = true) (h2 : ∀ j, j < i → x.testBit j = false) : 0 < x ∧ (∀ j, (x &&& (x - 1)).testBit j = (x.testBit j && decide (j ≠ i))) ∧ zdiff x (x - 1) = 2 ^ i := by
  have m0 : x % 2 ^ i = 0 := by
    apply Nat.eq_of_testBit_eq
    intro j
    rw [Nat.testBit_mod_two_pow, Nat.zero_testBit]
    by_cases e : j < i
    · rw [h2 j e]; simp
    · simp [e]
  have m1 : x / 2 ^ i % 2 = 1 := by
    rw [Nat.testBit_eq_decide_div_mod_eq] at h1
    simpa using h1
  have hp : 0 < 2 ^ i := Nat.pow_pos (by omega)
  have hx : x = 2 ^ i * (x / 2 ^ i) := by have := Nat.div_add_mod x (2 ^ i); omega
  have hq : 1 ≤ x / 2 ^ i := by
    rcases Nat.eq_zero_or_pos (x / 2 ^ i) with h | h
    · rw [h] at m1; omega
    · exact h
  have hx0 : 0 < x := by rw [hx]; exact Nat.mul_pos hp (by omega)
  have b : ∀ j, (x - 1).testBit j = if j < i then (x - 1).testBit j else if j = i then false else x.testBit j := fun j => by
    by_cases e1 : j < i
    · rw [if_pos e1]
    · rw [if_neg e1]
      by_cases e2 : j = i
      · rw [if_pos e2]
        subst e2
        rw [Nat.testBit_eq_decide_div_mod_eq]
        have : (x - 1) / 2 ^ j = x / 2 ^ j - 1 := by
          apply Nat.div_eq_of_lt_le
          · rw [Nat.sub_mul, Nat.one_mul, Nat.mul_comm, ← hx]; omega
          · rw [show x / 2 ^ j - 1 + 1 = x / 2 ^ j by omega, Nat.mul_comm, ← hx]; omega
        rw [this]
        have : (x / 2 ^ j - 1) % 2 = 0 := by omega
        rw [this]; rfl
      · rw [if_neg e2, Nat.testBit_eq_decide_div_mod_eq, Nat.testBit_eq_decide_div_mod_eq]
        have hr : 1 ≤ x % 2 ^ j := by
          apply Nat.one_le_iff_ne_zero.mpr
          intro e
          have : (x % 2 ^ j).testBit i = true := by rw [Nat.testBit_mod_two_pow, h1]; simp; omega
          rw [e, Nat.zero_testBit] at this
          exact absurd this (by decide)
        have : (x - 1) / 2 ^ j = x / 2 ^ j := by
          have hd := Nat.div_add_mod x (2 ^ j)
          have hl := Nat.mod_lt x (show 0 < 2 ^ j from Nat.pow_pos (by omega))
          apply Nat.div_eq_of_lt_le
          · rw [Nat.mul_comm]; omega
          · rw [Nat.add_mul, Nat.one_mul, Nat.mul_comm]; omega
        rw [this]
  refine ⟨hx0, fun j => ?_, ?_⟩
  · rw [Nat.testBit_and, b j]
    by_cases e1 : j < i
    · rw [h2 j e1]; rfl
    · rw [if_neg e1]
      by_cases e2 : j = i
      · rw [if_pos e2, decide_eq_false (by omega)]
      · rw [if_neg e2, decide_eq_true e2, Bool.and_self, Bool.and_true]
  · apply Nat.eq_of_testBit_eq
    intro j
    rw [zdiff_bit, b j, Nat.testBit_two_pow]
    by_cases e1 : j < i
    · rw [h2 j e1, decide_eq_false (by omega)]; rfl
    · rw [if_neg e1]
      by_cases e2 : j = i
      · rw [if_pos e2, e2, h1, decide_eq_true rfl]; rfl
      · rw [if_neg e2, decide_eq_false (by omega)]; cases x.testBit j <;> rfl
theorem bPop_or {x b : Nat} (hb : x.testBit b = false) : ∀ n i, i ≤ b → b < i + n → bPop (x ||| 2 ^ b) n i = bPop x n i + 1
  | 0, _, h1, h2 => by omega
  | n + 1, i, h1, h2 => by
    unfold bPop
    by_cases e : i = b
    · subst e
      have cg : bPop (x ||| 2 ^ i) n (i + 1) = bPop x n (i + 1) := bPop_cg n (i + 1) (fun j h1 h2 => by
        rw [Nat.testBit_or, Nat.testBit_two_pow, decide_eq_false (by omega), Bool.or_false])
      rw [cg, Nat.testBit_or, Nat.testBit_two_pow, hb, decide_eq_true rfl]
      simp; omega
    · have ih := bPop_or hb n (i + 1) (by omega) (by omega)
      have : (x ||| 2 ^ b).testBit i = x.testBit i := by rw [Nat.testBit_or, Nat.testBit_two_pow, decide_eq_false (by omega), Bool.or_false]
      rw [ih, this]; omega
theorem bPop_sub {x y : Nat} : ∀ n i, (∀ j, i ≤ j → j < i + n → x.testBit j = true → y.testBit j = true) → bPop x n i ≤ bPop y n i ∧ (bPop x n i = bPop y n i → ∀ j, i ≤ j → j < i + n → x.testBit j = y.testBit j)
  | 0, _, _ => ⟨Nat.le_refl _, fun _ j h1 h2 => by omega⟩
  | n + 1, i, h => by
    have ih := bPop_sub n (i + 1) (fun j h1 h2 => h j (by omega) (by omega))
    have hi := h i (by omega) (by omega)
    unfold bPop
    by_cases hx : x.testBit i = true
    · have hy := hi hx
      rw [if_pos hx, if_pos hy]
      refine ⟨by omega, fun e j h1 h2 => ?_⟩
      by_cases ej : j = i
      · rw [ej, hx, hy]
      · exact ih.2 (by omega) j (by omega) (by omega)
    · rw [if_neg hx]
      have hx' : x.testBit i = false := by simpa using hx
      by_cases hy : y.testBit i = true
      · rw [if_pos hy]
        exact ⟨by omega, fun e => by omega⟩
      · rw [if_neg hy]
        have hy' : y.testBit i = false := by simpa using hy
        refine ⟨by omega, fun e j h1 h2 => ?_⟩
        by_cases ej : j = i
        · rw [ej, hx', hy']
        · exact ih.2 (by omega) j (by omega) (by omega)
theorem bPop_le (x : Nat) : ∀ n i, bPop x n i ≤ n
  | 0, _ => Nat.le_refl _
  | n + 1, i => by
    have := bPop_le x n (i + 1)
    unfold bPop
    split <;> omega
theorem bOut {x n j : Nat} (h : x < 2 ^ n) (hj : n ≤ j) : x.testBit j = false := Nat.testBit_lt_two_pow (Nat.lt_of_lt_of_le h (Nat.pow_le_pow_right (by omega) hj))
theorem bEq {x y n : Nat} (hx : x < 2 ^ n) (hy : y < 2 ^ n) (h : ∀ j, j < n → x.testBit j = y.testBit j) : x = y := by
  apply Nat.eq_of_testBit_eq
  intro j
  by_cases e : j < n
  · exact h j e
  · rw [bOut hx (by omega), bOut hy (by omega)]
theorem zneg {x : Nat} (h : 0 < x) (hx : x < 2147483648) : -(x : Int) = zxor ((x - 1 : Nat) : Int) (-1) := by
  unfold zxor
  have e : (Int32.ofInt ((x - 1 : Nat) : Int) ^^^ Int32.ofInt (-1)) = Int32.ofInt (-(x : Int)) := by
    apply Int32.toBitVec_inj.mp
    show (Int32.ofInt ((x - 1 : Nat) : Int)).toBitVec ^^^ (Int32.ofInt (-1)).toBitVec = _
    have e1 : (Int32.ofInt (-1)).toBitVec = BitVec.allOnes 32 := by decide
    rw [e1, BitVec.xor_allOnes]
    show ~~~ (BitVec.ofInt 32 ((x - 1 : Nat) : Int)) = BitVec.ofInt 32 (-(x : Int))
    apply BitVec.eq_of_toNat_eq
    rw [BitVec.toNat_not, BitVec.toNat_ofInt, BitVec.toNat_ofInt]
    omega
  rw [e]
  exact (z32 (by omega)).symm
