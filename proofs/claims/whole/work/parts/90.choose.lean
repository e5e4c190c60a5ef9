/-! ===== sets of so many ===== -/
def kC : Nat → Nat → Nat
  | _, 0 => 1
  | 0, _ + 1 => 0
  | n + 1, k + 1 => kC n k + kC n (k + 1)
theorem kC_0 (n : Nat) : kC n 0 = 1 := by cases n <;> rfl
theorem kC_s (n k : Nat) : kC (n + 1) (k + 1) = kC n k + kC n (k + 1) := rfl
theorem kC_gt {n k : Nat} (h : n < k) : kC n k = 0 := by
  induction n generalizing k with
  | zero => cases k with
    | zero => omega
    | succ k => rfl
  | succ n ih => cases k with
    | zero => omega
    | succ k => rw [kC_s, ih (by omega), ih (by omega)]
theorem kC_n (n : Nat) : kC n n = 1 := by
  induction n with
  | zero => rfl
  | succ n ih => rw [kC_s, ih, kC_gt (by omega)]
/-- (k + 1) C(n + 1, k + 1) = (n + 1) C(n, k) -/
theorem kC_abs (n k : Nat) : (k + 1) * kC (n + 1) (k + 1) = (n + 1) * kC n k := by
  induction n generalizing k with
  | zero => cases k with
    | zero => rfl
    | succ k => rw [kC_gt (n := 0 + 1) (k := k + 1 + 1) (by omega), kC_gt (n := 0) (k := k + 1) (by omega)]; omega
  | succ n ih =>
    cases k with
    | zero =>
      have := ih 0
      rw [kC_s, kC_0]
      rw [kC_0] at this
      omega
    | succ k =>
      have h1 := ih k
      have h2 := ih (k + 1)
      rw [kC_s (n + 1) (k + 1), kC_s n k]
      rw [kC_s n k] at h1
      have e1 : (k + 1 + 1) * (kC n k + kC n (k + 1) + kC (n + 1) (k + 1 + 1)) = (k + 1) * (kC n k + kC n (k + 1)) + (kC n k + kC n (k + 1)) + (k + 1 + 1) * kC (n + 1) (k + 1 + 1) := by
        rw [Nat.mul_add, Nat.add_mul (k + 1) 1]; omega
      rw [e1, h1, h2, Nat.add_mul (n + 1) 1, Nat.mul_add (n + 1)]
      omega
theorem kC_pos {n k : Nat} (h : k ≤ n) : 1 ≤ kC n k := by
  induction n generalizing k with
  | zero => have : k = 0 := by omega
            subst this; exact Nat.le_refl _
  | succ n ih => cases k with
    | zero => rw [kC_0]; omega
    | succ k => rw [kC_s]; have := ih (k := k) (by omega); omega
theorem kC_le1 (n k : Nat) : kC n k ≤ kC (n + 1) k := by
  cases k with
  | zero => rw [kC_0, kC_0]; omega
  | succ k => rw [kC_s]; omega
theorem kC_mul (a b i j : Nat) : kC a i * kC b j ≤ kC (a + b) (i + j) := by
  induction a generalizing i with
  | zero => cases i with
    | zero => rw [kC_0, Nat.one_mul, Nat.zero_add, Nat.zero_add]; exact Nat.le_refl _
    | succ i => rw [kC_gt (by omega)]; omega
  | succ a ih =>
    cases i with
    | zero =>
      have := ih 0
      rw [kC_0] at this ⊢
      rw [show a + 1 + b = a + b + 1 by omega]
      exact Nat.le_trans this (kC_le1 _ _)
    | succ i =>
      have h1 := ih i
      have h2 := ih (i + 1)
      rw [kC_s, Nat.add_mul, show a + 1 + b = (a + b) + 1 by omega, show i + 1 + j = (i + j) + 1 by omega, kC_s]
      rw [show i + 1 + j = (i + j) + 1 by omega] at h2
      omega
theorem kC_20 : ∀ n, n < 21 → ∀ k, k < 21 → kC n k ≤ 184756 := by decide +kernel
theorem kC_max {n : Nat} (h : n ≤ 20) (k : Nat) : kC n k ≤ 184756 := by
  by_cases hk : k < 21
  · exact kC_20 n (by omega) k hk
  · rw [kC_gt (by omega)]; omega
theorem kC3_max {a b c : Nat} (h : a + b + c ≤ 20) (i j k : Nat) : kC a i * kC b j * kC c k ≤ 184756 :=
  Nat.le_trans (Nat.mul_le_mul_right _ (kC_mul a b i j)) (Nat.le_trans (kC_mul (a + b) c (i + j) k) (kC_max h _))
/-- as the programs ask, with numbers below none too -/
def kCi (n k : Int) : Int := if k < 0 ∨ n < k then 0 else (kC n.toNat k.toNat : Int)
section CH
variable {F : zFs} {D : zDa}
theorem pX12_choose {n k : Int} (hn : n ≤ 20) : qS (fX12_choose F n k D) (fun r => r = (kCi n k, D)) := by
  unfold fX12_choose
  by_cases h0 : k < 0
  · rw [show kCi n k = 0 from if_pos (Or.inl h0)]
    exact qS_pos h0 (qS_ret rfl)
  · by_cases h1 : n < k
    · rw [show kCi n k = 0 from if_pos (Or.inr h1)]
      exact qS_neg h0 (qS_pos h1 (qS_ret rfl))
    · rw [show kCi n k = (kC n.toNat k.toNat : Int) from if_neg (by omega)]
      refine qS_neg h0 (qS_neg h1 ?_)
      obtain ⟨m, rfl⟩ : ∃ m : Nat, k = (m : Int) := ⟨k.toNat, by omega⟩
      obtain ⟨d, rfl⟩ : ∃ d : Nat, n = (m : Int) + (d : Int) := ⟨(n - m).toNat, by omega⟩
      refine qloop2 (fun v2 v4 D1 => ∃ j : Nat, v4 = (j : Int) + 1 ∧ j ≤ m ∧ v2 = ((kC (d + j) j : Nat) : Int) ∧ D1 = D) (fun _ v4 _ => (1000 - v4).toNat) ?_ ⟨0, rfl, by omega, by rw [kC_0]; rfl, rfl⟩ (zfu_gt (by omega))
      intro kk v2 v4 D1 ⟨j, e4, hj, e2, eD⟩ ih
      subst e4 e2 eD
      unfold fX12_choose_16
      refine qS_ite (fun hlt => ?_) (fun hlt => ?_)
      · have : j = m := by omega
        subst this
        refine qS_ret ?_
        rw [show ((j : Int) + (d : Int)).toNat = d + j by omega, show ((j : Int)).toNat = j by omega]
      · have hC := kC_max (n := d + j) (by omega) j
        have habs := kC_abs (d + j) j
        have e5 : ((kC (d + j) j : Nat) : Int) * (((m : Int) + (d : Int) - (m : Int)) + ((j : Int) + 1)) = ((j : Int) + 1) * ((kC (d + (j + 1)) (j + 1) : Nat) : Int) := by
          rw [show ((m : Int) + (d : Int) - (m : Int)) + ((j : Int) + 1) = ((d + j + 1 : Nat) : Int) by omega, show (j : Int) + 1 = ((j + 1 : Nat) : Int) by omega, ← Int.natCast_mul, ← Int.natCast_mul, Nat.mul_comm, ← habs]
          rfl
        have hC2 := kC_max (n := d + (j + 1)) (by omega) (j + 1)
        have bnd : ((j : Int) + 1) * ((kC (d + (j + 1)) (j + 1) : Nat) : Int) ≤ 20 * 184756 := Int.mul_le_mul (by omega) (by omega) (by omega) (by omega)
        have bnd0 : 0 ≤ ((j : Int) + 1) * ((kC (d + (j + 1)) (j + 1) : Nat) : Int) := Int.mul_nonneg (by omega) (by omega)
        rw [e5]
        refine qS_chk ⟨by omega, by omega, by omega, by omega, by omega⟩ (qS_leti (qS_chk (by omega) (ih _ _ _ ⟨j + 1, by omega, by omega, ?_, rfl⟩ (by omega))))
        rw [Int.mul_comm]
        exact Int.mul_tdiv_cancel _ (by omega)
/-- the class's row of them -/
def cLot (D : zDa) : Prop := ∀ n k : Nat, n ≤ 20 → k ≤ n → D 53 (21 * n + k) = ((kC n k : Nat) : Int)
theorem pX2_sets (hL : cLot D) {n k : Int} (hn : n ≤ 20) : qS (fX2_sets F n k D) (fun r => r = (kCi n k, D)) := by
  unfold fX2_sets
  by_cases h0 : k < 0
  · rw [show kCi n k = 0 from if_pos (Or.inl h0)]
    exact qS_pos h0 (qS_ret rfl)
  · by_cases h1 : n < k
    · rw [show kCi n k = 0 from if_pos (Or.inr h1)]
      exact qS_neg h0 (qS_pos h1 (qS_ret rfl))
    · rw [show kCi n k = (kC n.toNat k.toNat : Int) from if_neg (by omega)]
      refine qS_neg h0 (qS_neg h1 (qS_pos (by omega) (qS_chk (by omega) (qS_ret ?_))))
      rw [show (n * 21 + k).toNat = 21 * n.toNat + k.toNat by omega, hL n.toNat k.toNat (by omega) (by omega)]
end CH
