/-! ===== numbers in digits ===== -/
def dV (B : Nat) (d : Nat → Nat) (n : Nat) : Nat := match n with
  | 0 => 0
  | n + 1 => dV B d n + d n * B ^ n
def uV (B : Nat) (d : Nat → Nat) (i m : Nat) : Nat := match m with
  | 0 => 0
  | m + 1 => d i + B * uV B d (i + 1) m
def dUp (d : Nat → Nat) (i x : Nat) : Nat → Nat := fun j => if j = i then x else d j
theorem dUp_eq {d : Nat → Nat} {i x : Nat} : dUp d i x i = x := by unfold dUp; rw [if_pos rfl]
theorem dUp_ne {d : Nat → Nat} {i x j : Nat} (h : j ≠ i) : dUp d i x j = d j := by unfold dUp; rw [if_neg h]
theorem dV_s (B : Nat) (d : Nat → Nat) (n : Nat) : dV B d (n + 1) = dV B d n + d n * B ^ n := rfl
theorem uV_s (B : Nat) (d : Nat → Nat) (i m : Nat) : uV B d i (m + 1) = d i + B * uV B d (i + 1) m := rfl
theorem dV_cg {B : Nat} {d d' : Nat → Nat} {n : Nat} (h : ∀ i, i < n → d' i = d i) : dV B d' n = dV B d n := by
  induction n with
  | zero => rfl
  | succ n ih => rw [dV_s, dV_s, ih (fun i hi => h i (by omega)), h n (by omega)]
theorem uV_cg {B : Nat} {d d' : Nat → Nat} : ∀ {i m : Nat}, (∀ j, i ≤ j → j < i + m → d' j = d j) → uV B d' i m = uV B d i m
  | i, 0, _ => rfl
  | i, m + 1, h => by rw [uV_s, uV_s, uV_cg (i := i + 1) (m := m) (fun j h1 h2 => h j (by omega) (by omega)), h i (by omega) (by omega)]
theorem uV_top (B : Nat) (d : Nat → Nat) : ∀ m i, uV B d i (m + 1) = uV B d i m + d (i + m) * B ^ m
  | 0, i => by rw [uV_s, Nat.add_zero, Nat.pow_zero, Nat.mul_one]; show d i + B * 0 = 0 + d i; omega
  | m + 1, i => by
    rw [uV_s, uV_top B d m (i + 1), uV_s, Nat.mul_add, show i + 1 + m = i + (m + 1) by omega, Nat.pow_succ]
    have : B * (d (i + (m + 1)) * B ^ m) = d (i + (m + 1)) * (B ^ m * B) := by ac_rfl
    omega
theorem dV_uV (B : Nat) (d : Nat → Nat) : ∀ n, dV B d n = uV B d 0 n
  | 0 => rfl
  | n + 1 => by rw [dV_s, uV_top, dV_uV B d n, Nat.zero_add]
theorem dV_lt {B : Nat} {d : Nat → Nat} {n : Nat} (hB : 0 < B) (h : ∀ i, i < n → d i < B) : dV B d n < B ^ n := by
  induction n with
  | zero => show 0 < B ^ 0; rw [Nat.pow_zero]; omega
  | succ n ih =>
    have i := ih (fun j hj => h j (by omega))
    have hd := h n (by omega)
    rw [dV_s, Nat.pow_succ]
    have := Nat.mul_le_mul_right (B ^ n) (show d n + 1 ≤ B from hd)
    rw [Nat.add_mul, Nat.one_mul, Nat.mul_comm B] at this
    omega
theorem dmul {B y c i : Nat} {d d' : Nat → Nat} (h : dV B d' i + c * B ^ i = y * dV B d i) : dV B (dUp d' i ((c + d i * y) % B)) (i + 1) + (c + d i * y) / B * B ^ (i + 1) = y * dV B d (i + 1) := by
  rw [dV_s, dV_s, dUp_eq, dV_cg (d := d') (fun j hj => dUp_ne (by omega)), Nat.pow_succ, Nat.mul_add]
  have h1 : (c + d i * y) % B * B ^ i + (c + d i * y) / B * (B ^ i * B) = (c + d i * y) * B ^ i := by
    have e : (c + d i * y) * B ^ i = ((c + d i * y) % B + B * ((c + d i * y) / B)) * B ^ i := by rw [Nat.mod_add_div]
    rw [e, Nat.add_mul]
    congr 1
    ac_rfl
  have h2 : (c + d i * y) * B ^ i = c * B ^ i + y * (d i * B ^ i) := by
    rw [Nat.add_mul]
    congr 1
    ac_rfl
  omega
theorem dadd {B c i : Nat} {d e d' : Nat → Nat} (h : dV B d' i + c * B ^ i = dV B d i + dV B e i) : dV B (dUp d' i ((c + (d i + e i)) % B)) (i + 1) + (c + (d i + e i)) / B * B ^ (i + 1) = dV B d (i + 1) + dV B e (i + 1) := by
  rw [dV_s, dV_s, dV_s, dUp_eq, dV_cg (d := d') (fun j hj => dUp_ne (by omega)), Nat.pow_succ]
  have h1 : (c + (d i + e i)) % B * B ^ i + (c + (d i + e i)) / B * (B ^ i * B) = (c + (d i + e i)) * B ^ i := by
    have e1 : (c + (d i + e i)) * B ^ i = ((c + (d i + e i)) % B + B * ((c + (d i + e i)) / B)) * B ^ i := by rw [Nat.mod_add_div]
    rw [e1, Nat.add_mul]
    congr 1
    ac_rfl
  have h2 : (c + (d i + e i)) * B ^ i = c * B ^ i + (d i * B ^ i + e i * B ^ i) := by rw [Nat.add_mul, Nat.add_mul]
  omega
theorem ddiv {B y r k m : Nat} {d d' : Nat → Nat} (h : uV B d (k + 1) m = y * uV B d' (k + 1) m + r) : uV B d k (m + 1) = y * uV B (dUp d' k ((r * B + d k) / y)) k (m + 1) + (r * B + d k) % y := by
  rw [uV_s, uV_s, dUp_eq, uV_cg (d := d') (fun j h1 h2 => dUp_ne (by omega)), h, Nat.mul_add, Nat.mul_add]
  have h1 : y * ((r * B + d k) / y) + (r * B + d k) % y = r * B + d k := by rw [Nat.add_comm]; exact Nat.mod_add_div _ _
  have h2 : B * (y * uV B d' (k + 1) m) = y * (B * uV B d' (k + 1) m) := by ac_rfl
  have h3 : B * r = r * B := Nat.mul_comm _ _
  omega
/-- a row holds the number -/
def rV (D : zDa) (a B n V : Nat) : Prop := ∃ d : Nat → Nat, (∀ i, i < n → D a i = (d i : Int) ∧ d i < B) ∧ dV B d n = V
theorem rV.fr {D D' : zDa} {a B n V : Nat} (h : rV D a B n V) (e : D' a = D a) : rV D' a B n V := by
  unfold rV; rw [e]; exact h
theorem rV.lt {D : zDa} {a B n V : Nat} (hB : 0 < B) (h : rV D a B n V) : V < B ^ n := by
  obtain ⟨d, h1, h2⟩ := h
  rw [← h2]; exact dV_lt hB (fun i hi => (h1 i hi).2)
/-- behind the last digit nothing is carried -/
theorem carry0 {B n V W c x : Nat} (h : x + c * B ^ n = V * W) (hlt : V * W < B ^ n) : c = 0 ∧ x = V * W := by
  rcases Nat.eq_zero_or_pos c with e | e
  · subst e; rw [Nat.zero_mul] at h; omega
  · have := Nat.mul_le_mul_right (B ^ n) (show 1 ≤ c from e)
    rw [Nat.one_mul] at this
    omega
/-! the class's words of 64 bits -/
theorem zandl_mod {a : Nat} (h : a < 9223372036854775808) : zandl (a : Int) 1073741823 = ((a % 1073741824 : Nat) : Int) := by
  unfold zandl
  have e : (Int64.ofInt (a : Int) &&& Int64.ofInt ((1073741823 : Nat) : Int)).toBitVec.toNat = a % 1073741824 := by
    show ((Int64.ofInt (a : Int)).toBitVec &&& (Int64.ofInt ((1073741823 : Nat) : Int)).toBitVec).toNat = _
    rw [BitVec.toNat_and, zbl_bv (by omega), zbl_bv (by omega)]
    exact Nat.and_two_pow_sub_one_eq_mod a 30
  have e2 : (Int64.ofInt (a : Int) &&& Int64.ofInt (1073741823 : Int)) = (Int64.ofInt (a : Int) &&& Int64.ofInt ((1073741823 : Nat) : Int)) := rfl
  rw [e2, zbl_of _ (by rw [e]; omega), e]
theorem zk64 : ((Int32.ofInt 30).toInt64 &&& 63).toBitVec.smod 64 = BitVec.ofNat 64 30 := by decide
theorem zku64 : (UInt64.mod ((Int32.ofInt 30).toInt64.toUInt64 &&& Int64.toUInt64 63) 64).toBitVec = BitVec.ofNat 64 30 := by decide
theorem zushrl_div {a : Nat} (h : a < 9223372036854775808) : zushrl (a : Int) 30 = ((a / 1073741824 : Nat) : Int) := by
  unfold zushrl
  have e : ((((Int64.ofInt (a : Int)).toUInt64 >>> ((Int32.ofInt 30).toInt64.toUInt64 &&& Int64.toUInt64 63)).toInt64)).toBitVec.toNat = a / 1073741824 := by
    show ((Int64.ofInt (a : Int)).toBitVec >>> (UInt64.mod ((Int32.ofInt 30).toInt64.toUInt64 &&& Int64.toUInt64 63) 64).toBitVec).toNat = _
    rw [zku64, BitVec.ushiftRight_eq', BitVec.toNat_ofNat, BitVec.toNat_ushiftRight, zbl_bv (by omega), Nat.shiftRight_eq_div_pow]
  rw [zbl_of _ (by rw [e]; omega), e]
theorem zshll_mul {r : Nat} (h : r * 1073741824 < 9223372036854775808) : zshll (r : Int) 30 = ((r * 1073741824 : Nat) : Int) := by
  unfold zshll
  have hr : r < 18446744073709551616 := by omega
  have e : (Int64.ofInt (r : Int) <<< ((Int32.ofInt 30).toInt64 &&& 63)).toBitVec.toNat = r * 1073741824 := by
    show ((Int64.ofInt (r : Int)).toBitVec <<< (((Int32.ofInt 30).toInt64 &&& 63).toBitVec.smod 64)).toNat = _
    rw [zk64, BitVec.shiftLeft_eq', BitVec.toNat_ofNat, BitVec.toNat_shiftLeft, zbl_bv hr, Nat.shiftLeft_eq]
    exact Nat.mod_eq_of_lt (Nat.lt_trans h (by decide))
  rw [zbl_of _ (e ▸ h), e]
theorem zorl_nat {a b : Nat} (ha : a < 18446744073709551616) (hb : b < 18446744073709551616) (h : a ||| b < 9223372036854775808) : zorl (a : Int) (b : Int) = ((a ||| b : Nat) : Int) := by
  unfold zorl
  have e : (Int64.ofInt (a : Int) ||| Int64.ofInt (b : Int)).toBitVec.toNat = a ||| b := by
    show ((Int64.ofInt (a : Int)).toBitVec ||| (Int64.ofInt (b : Int)).toBitVec).toNat = _
    rw [BitVec.toNat_or, zbl_bv ha, zbl_bv hb]
  rw [zbl_of _ (e ▸ h), e]
theorem zor30 {r x : Nat} (hx : x < 1073741824) : r * 1073741824 ||| x = r * 1073741824 + x := by
  have := Nat.two_pow_add_eq_or_of_lt (i := 30) (b := x) hx r
  rw [Nat.mul_comm r]; exact this.symm
theorem zorl_add {r x : Nat} (h : r * 1073741824 + x < 9223372036854775808) (hx : x < 1073741824) : zorl (zshll (r : Int) 30) (x : Int) = ((r * 1073741824 + x : Nat) : Int) := by
  have h1 : r * 1073741824 < 9223372036854775808 := Nat.lt_of_le_of_lt (Nat.le_add_right _ _) h
  rw [zshll_mul h1, zorl_nat (Nat.lt_trans h1 (by decide)) (Nat.lt_trans hx (by decide)) (by rw [zor30 hx]; exact h), zor30 hx]
section DM
variable {F : zFs} {D : zDa}
theorem pX5_multiply {a V y : Nat} (hk : (F a).1 = 21) (hl : (F a).2.1 = 9) (h : rV D a 1073741824 9 V) (hy : y ≤ 1000000) (hlt : y * V < 1073741824 ^ 9) :
    qS (fX5_multiply F a (y : Int) D) (fun D' => rV D' a 1073741824 9 (y * V) ∧ zfr [a] D D') := by
  obtain ⟨d, hd, hV⟩ := h
  unfold fX5_multiply
  refine qloop2 (fun v2 v4 D1 => ∃ (i c : Nat) (d' : Nat → Nat), v4 = (i : Int) ∧ v2 = (c : Int) ∧ i ≤ 9 ∧ c ≤ y ∧ (∀ j, j < i → D1 a j = (d' j : Int) ∧ d' j < 1073741824) ∧ (∀ j, i ≤ j → j < 9 → D1 a j = (d j : Int)) ∧ dV 1073741824 d' i + c * 1073741824 ^ i = y * dV 1073741824 d i ∧ zfr [a] D D1) (fun _ v4 _ => (100 - v4).toNat) ?_ ⟨0, 0, fun _ => 0, rfl, rfl, by omega, by omega, fun j hj => absurd hj (by omega), fun j _ h2 => (hd j h2).1, by show 0 + 0 * _ = y * 0; omega, zfr.rfl' _ _⟩ (zfu_gt (by omega))
  intro k5 v2 v4 D1 ⟨i, c, d', e4, e2, hi, hc, lo, hig, inv, f1⟩ ih
  subst e4 e2
  unfold fX5_multiply_5
  rw [hl]
  refine qS_chk hk ?_
  refine qS_ite (fun hlt9 => ?_) (fun hlt9 => ?_)
  · have di := (hd i (by omega)).2
    have m := Nat.mul_le_mul (show d i ≤ 1073741823 by omega) hy
    have m2 := Nat.mul_le_mul_right y (show d i ≤ 1073741823 by omega)
    have ex : D1 a ((i : Int)).toNat = (d i : Int) := by rw [show ((i : Int)).toNat = i by omega]; exact hig i (Nat.le_refl _) (by omega)
    rw [ex, show (d i : Int) * (y : Int) = ((d i * y : Nat) : Int) by rw [Int.natCast_mul], show (c : Int) + ((d i * y : Nat) : Int) = ((c + d i * y : Nat) : Int) by omega]
    refine qS_chk ⟨by omega, by omega, by omega⟩ (qS_leti (qS_leti (qS_leti (qS_chk (by omega) ?_))))
    rw [zandl_mod (by omega), zushrl_div (by omega), show ((i : Int)).toNat = i by omega]
    have cb : (c + d i * y) / 1073741824 ≤ y := by
      have : c + d i * y ≤ 1073741824 * y := by omega
      exact Nat.div_le_of_le_mul this
    refine ih _ _ _ ⟨i + 1, (c + d i * y) / 1073741824, dUp d' i ((c + d i * y) % 1073741824), by omega, rfl, by omega, cb, fun j hj => ?_, fun j h1 h2 => ?_, dmul inv, f1.wr (by simp)⟩ (by omega)
    · rw [zwr_at]
      by_cases e : j = i
      · rw [if_pos e, e, dUp_eq]
        exact ⟨rfl, Nat.mod_lt _ (by omega)⟩
      · rw [if_neg e, dUp_ne e]; exact lo j (by omega)
    · rw [zwr_off (Or.inr (by omega))]; exact hig j (by omega) h2
  · have : i = 9 := by omega
    subst this
    rw [hV] at inv
    have c0 := carry0 inv hlt
    exact qS_ret ⟨⟨d', lo, c0.2⟩, f1⟩
theorem pX5_divide {a V y : Nat} (hk : (F a).1 = 21) (hl : (F a).2.1 = 9) (h : rV D a 1073741824 9 V) (hy : 0 < y ∧ y ≤ 1000000) :
    qS (fX5_divide F a (y : Int) D) (fun D' => rV D' a 1073741824 9 (V / y) ∧ zfr [a] D D') := by
  obtain ⟨d, hd, hV⟩ := h
  unfold fX5_divide
  rw [hl]
  refine qS_chk ⟨hk, by omega⟩ (qS_leti ?_)
  refine qloop2 (fun v2 v4 D1 => ∃ (k r : Nat) (d' : Nat → Nat), v4 = (k : Int) - 1 ∧ v2 = (r : Int) ∧ k ≤ 9 ∧ r < y ∧ (∀ j, k ≤ j → j < 9 → D1 a j = (d' j : Int) ∧ d' j < 1073741824) ∧ (∀ j, j < k → D1 a j = (d j : Int)) ∧ uV 1073741824 d k (9 - k) = y * uV 1073741824 d' k (9 - k) + r ∧ zfr [a] D D1) (fun _ v4 _ => (v4 + 1).toNat) ?_ ⟨9, 0, fun _ => 0, rfl, rfl, by omega, by omega, fun j h1 h2 => absurd h2 (by omega), fun j h2 => (hd j h2).1, by show 0 = y * 0 + 0; omega, zfr.rfl' _ _⟩ (zfu_gt (by omega))
  intro k8 v2 v4 D1 ⟨k, r, d', e4, e2, hk9, hr, hig, lo, inv, f1⟩ ih
  subst e4 e2
  unfold fX5_divide_8
  refine qS_ite (fun hlt => ?_) (fun hlt => qS_pos (by omega) ?_)
  · have : k = 0 := by omega
    subst this
    rw [Nat.sub_zero, ← dV_uV, ← dV_uV, hV] at inv
    refine qS_ret ⟨⟨d', fun i hi => hig i (by omega) hi, ?_⟩, f1⟩
    rw [inv, Nat.mul_add_div hy.1, Nat.div_eq_of_lt hr, Nat.add_zero]
  · obtain ⟨i, rfl⟩ : ∃ i, k = i + 1 := ⟨k - 1, by omega⟩
    have di := (hd i (by omega)).2
    have m := Nat.mul_le_mul_right 1073741824 (show r ≤ 1000000 by omega)
    have ex : D1 a (((i + 1 : Nat) : Int) - 1).toNat = (d i : Int) := by rw [show (((i + 1 : Nat) : Int) - 1).toNat = i by omega]; exact lo i (by omega)
    refine qS_chk ⟨hk, by rw [hl]; omega⟩ (qS_leti ?_)
    rw [ex, zorl_add (by omega) di, show (((i + 1 : Nat) : Int) - 1).toNat = i by omega]
    refine qS_chk ⟨by omega, by omega⟩ (qS_leti (qS_leti (qS_chk (by omega) ?_)))
    have ed : Int.tdiv ((r * 1073741824 + d i : Nat) : Int) (y : Int) = (((r * 1073741824 + d i) / y : Nat) : Int) := rfl
    have em : Int.tmod ((r * 1073741824 + d i : Nat) : Int) (y : Int) = (((r * 1073741824 + d i) % y : Nat) : Int) := rfl
    rw [ed, em]
    have qb : (r * 1073741824 + d i) / y < 1073741824 := by
      refine Nat.div_lt_of_lt_mul ?_
      have := Nat.mul_le_mul_right 1073741824 (show r + 1 ≤ y from hr)
      rw [Nat.add_mul] at this
      omega
    refine ih _ _ _ ⟨i, (r * 1073741824 + d i) % y, dUp d' i ((r * 1073741824 + d i) / y), by omega, rfl, by omega, Nat.mod_lt _ hy.1, fun j h1 h2 => ?_, fun j hj => ?_, ?_, f1.wr (by simp)⟩ (by omega)
    · rw [zwr_at]
      by_cases e : j = i
      · rw [if_pos e, e, dUp_eq]; exact ⟨rfl, qb⟩
      · rw [if_neg e, dUp_ne e]; exact hig j (by omega) h2
    · rw [zwr_off (Or.inr (by omega))]; exact lo j (by omega)
    · rw [show 9 - i = 9 - (i + 1) + 1 by omega]
      exact ddiv inv
theorem pX5_addTerm {V W : Nat} (hG : zG F) (h : rV D 88 1073741824 9 V) (h' : rV D 87 1073741824 9 W) (hlt : V + W < 1073741824 ^ 9) :
    qS (fX5_addTerm F D) (fun D' => rV D' 88 1073741824 9 (V + W) ∧ zfr [88] D D') := by
  obtain ⟨d, hd, hV⟩ := h
  obtain ⟨e, he, hW⟩ := h'
  unfold fX5_addTerm
  refine qloop2 (fun v2 v4 D1 => ∃ (i c : Nat) (d' : Nat → Nat), v4 = (i : Int) ∧ v2 = (c : Int) ∧ i ≤ 9 ∧ c ≤ 1 ∧ (∀ j, j < i → D1 88 j = (d' j : Int) ∧ d' j < 1073741824) ∧ (∀ j, i ≤ j → j < 9 → D1 88 j = (d j : Int)) ∧ dV 1073741824 d' i + c * 1073741824 ^ i = dV 1073741824 d i + dV 1073741824 e i ∧ zfr [88] D D1) (fun _ v4 _ => (100 - v4).toNat) ?_ ⟨0, 0, fun _ => 0, rfl, rfl, by omega, by omega, fun j hj => absurd hj (by omega), fun j _ h2 => (hd j h2).1, by show 0 + 0 * _ = 0 + 0; omega, zfr.rfl' _ _⟩ (zfu_gt (by omega))
  intro k4 v2 v4 D1 ⟨i, c, d', e4, e2, hi, hc, lo, hig, inv, f1⟩ ih
  subst e4 e2
  unfold fX5_addTerm_4
  refine qS_ite (fun hlt9 => ?_) (fun hlt9 => ?_)
  · have di := (hd i (by omega)).2
    have ei := he i (by omega)
    have ex : D1 88 ((i : Int)).toNat = (d i : Int) := by rw [show ((i : Int)).toNat = i by omega]; exact hig i (Nat.le_refl _) (by omega)
    have ey : D1 87 ((i : Int)).toNat = (e i : Int) := by rw [show ((i : Int)).toNat = i by omega, f1 87 (by decide)]; exact ei.1
    rw [ex, ey, show (c : Int) + ((d i : Int) + (e i : Int)) = ((c + (d i + e i) : Nat) : Int) by omega]
    refine qS_chk (by omega) (qS_leti (qS_leti (qS_leti (qS_chk (by omega) ?_))))
    rw [zandl_mod (by omega), zushrl_div (by omega), show ((i : Int)).toNat = i by omega]
    refine ih _ _ _ ⟨i + 1, (c + (d i + e i)) / 1073741824, dUp d' i ((c + (d i + e i)) % 1073741824), by omega, rfl, by omega, by omega, fun j hj => ?_, fun j h1 h2 => ?_, dadd inv, f1.wr (by decide)⟩ (by omega)
    · rw [zwr_at]
      by_cases e : j = i
      · rw [if_pos e, e, dUp_eq]
        exact ⟨rfl, Nat.mod_lt _ (by omega)⟩
      · rw [if_neg e, dUp_ne e]; exact lo j (by omega)
    · rw [zwr_off (Or.inr (by omega))]; exact hig j (by omega) h2
  · have : i = 9 := by omega
    subst this
    rw [hV, hW] at inv
    have inv1 : dV 1073741824 d' 9 + c * 1073741824 ^ 9 = 1 * (V + W) := by rw [Nat.one_mul (V + W)]; exact inv
    have c0 := carry0 inv1 (by rw [Nat.one_mul (V + W)]; exact hlt)
    exact qS_ret ⟨⟨d', lo, by rw [c0.2, Nat.one_mul (V + W)]⟩, f1⟩
end DM
