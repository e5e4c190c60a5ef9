theorem zsum_mono {n : Nat} {f g : Nat → Int} (h : ∀ k, k < n → f k ≤ g k) : zsum n f ≤ zsum n g := by
  induction n with
  | zero => exact Int.le_refl _
  | succ n ih => unfold zsum; have := ih (fun k hk => h k (by omega)); have := h n (by omega); omega
theorem kTri_add (L : Nat) (g h : Nat → Nat → Nat → Int) : kTri L (fun a b c => g a b c + h a b c) = kTri L g + kTri L h := by
  unfold kTri
  rw [← zsum_add]
  exact zsum_congr (fun a ha => zsum_add _ _ _)
theorem kTri_mul (L : Nat) (t : Int) (g : Nat → Nat → Nat → Int) : kTri L (fun a b c => t * g a b c) = t * kTri L g := by
  unfold kTri
  rw [← zsum_mul]
  exact zsum_congr (fun a ha => zsum_mul _ _ _)
theorem kTri_le {L : Nat} {g h : Nat → Nat → Nat → Int} (e : ∀ a b c, g a b c ≤ h a b c) : kTri L g ≤ kTri L h :=
  zsum_mono (fun a _ => zsum_mono (fun b _ => e a b _))
/-- no more ways than there are -/
theorem kLots_sum {ch : Nat → Int} {B e : Nat → Nat} {R L : Nat} (hh : ∀ lv, lv < 3 → 0 ≤ ch lv ∧ ch lv ≤ 100) :
    kLots ch B e R L 0 + kLots ch B e R L 1 + kLots ch B e R L 2 + kLots ch B e R L 3 ≤ 100 ^ R * ((kC (B 0 + B 1 + B 2) L : Nat) : Int) := by
  unfold kLots
  rw [← kTri_add, ← kTri_add, ← kTri_add, ← vand3, ← kTri_mul]
  refine kTri_le (fun a b c => ?_)
  unfold kTerm3
  have h := kG_ok hh (nOf (a + e 0) (b + e 1) (c + e 2)) R
  rw [kAn_eq] at h
  have hw : 0 ≤ kWays B a b c := by unfold kWays; omega
  have hp : (100 : Int) ^ (min (nOf (a + e 0) (b + e 1) (c + e 2) 0 + nOf (a + e 0) (b + e 1) (c + e 2) 1 + nOf (a + e 0) (b + e 1) (c + e 2) 2) R) ≤ 100 ^ R := by
    have := Nat.pow_le_pow_right (n := 100) (by omega) (Nat.min_le_right (nOf (a + e 0) (b + e 1) (c + e 2) 0 + nOf (a + e 0) (b + e 1) (c + e 2) 1 + nOf (a + e 0) (b + e 1) (c + e 2) 2) R)
    exact_mod_cast this
  have hs := Int.le_trans h.2 hp
  have := Int.mul_le_mul_of_nonneg_left hs hw
  rw [Int.mul_add, Int.mul_add, Int.mul_add, Int.mul_comm _ (100 ^ R)] at this
  exact this
