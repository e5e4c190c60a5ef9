/-! ===== all sets of so many, by levels ===== -/
theorem vand (m n L : Nat) : zsum (L + 1) (fun a => ((kC m a * kC n (L - a) : Nat) : Int)) = ((kC (m + n) L : Nat) : Int) := by
  induction m generalizing L with
  | zero =>
    rw [zsum_first, zsum_0 (n := L) (fun k hk => by rw [kC_gt (n := 0) (k := k + 1) (by omega), Nat.zero_mul]; rfl), Int.add_zero, kC_0, Nat.one_mul, Nat.zero_add, Nat.sub_zero]
  | succ m ih =>
    cases L with
    | zero =>
      rw [zsum_first]
      have z : ∀ f : Nat → Int, zsum 0 f = 0 := fun f => rfl
      rw [z, kC_0, kC_0, kC_0]
      rfl
    | succ L =>
      have i1 := ih L
      have i2 := ih (L + 1)
      rw [zsum_first] at i2
      rw [zsum_first]
      have e : zsum (L + 1) (fun k => ((kC (m + 1) (k + 1) * kC n (L + 1 - (k + 1)) : Nat) : Int)) = zsum (L + 1) (fun k => ((kC m k * kC n (L - k) : Nat) : Int) + ((kC m (k + 1) * kC n (L + 1 - (k + 1)) : Nat) : Int)) :=
        zsum_congr (fun k hk => by rw [kC_s, show L + 1 - (k + 1) = L - k by omega, Nat.add_mul]; omega)
      rw [e, zsum_add, i1, show m + 1 + n = (m + n) + 1 by omega, kC_s]
      rw [kC_0] at i2 ⊢
      omega
theorem vand3 (B : Nat → Nat) (L : Nat) : kTri L (kWays B) = ((kC (B 0 + B 1 + B 2) L : Nat) : Int) := by
  unfold kTri kWays
  have h : ∀ a, a < L + 1 → zsum (L + 1 - a) (fun b => ((kC (B 0) a * kC (B 1) b * kC (B 2) (L - a - b) : Nat) : Int)) = ((kC (B 0) a * kC (B 1 + B 2) (L - a) : Nat) : Int) := by
    intro a ha
    have v := vand (B 1) (B 2) (L - a)
    rw [show L + 1 - a = L - a + 1 by omega, Int.natCast_mul (kC (B 0) a), ← v, ← zsum_mul]
    exact zsum_congr (fun b hb => by rw [Nat.mul_assoc, Int.natCast_mul (kC (B 0) a)])
  rw [zsum_congr h, vand, Nat.add_assoc]
