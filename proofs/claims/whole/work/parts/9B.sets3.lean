theorem kRk_sum (ch : Nat → Int) (n : Nat → Nat) : n (kRk ch).1 + n (kRk ch).2.1 + n (kRk ch).2.2 = n 0 + n 1 + n 2 := by
  unfold kRk
  repeat' split
  all_goals (try dsimp only)
  all_goals omega
theorem kG_min (ch : Nat → Int) (n : Nat → Nat) (A : Nat) : kG ch n A = kG ch n (min (n 0 + n 1 + n 2) A) := by
  have hT := kRk_sum ch n
  unfold kG kGr
  generalize n (kRk ch).1 = x at *
  generalize n (kRk ch).2.1 = y at *
  generalize n (kRk ch).2.2 = z at *
  rw [← hT]
  have e0 : min x (min (x + y + z) A) = min x A := by omega
  have e1 : min y (min (x + y + z) A - min x A) = min y (A - min x A) := by omega
  have e2 : min z (min (x + y + z) A - min x A - min y (A - min x A)) = min z (A - min x A - min y (A - min x A)) := by omega
  rw [e0, e1, e2]
section ASQ
variable {ch : Nat → Int} {B e : Nat → Nat} {lying A m : Nat}
theorem kTc_eq (hB : e 0 ≤ B 0 ∧ e 1 ≤ B 1 ∧ e 2 ≤ B 2) {i j : Nat} (h : e 0 + e 1 + e 2 + i + j ≤ lying) :
    kTc ch B (e 0) (e 1) (e 2) lying A m (e 1 + i) (e 2 + j) = 100 ^ (3 - min lying A) * kTerm3 ch (fun lv => B lv - e lv) e (min lying A) m (lying - (e 0 + e 1 + e 2) - i - j) i j := by
  unfold kTc kTerm3 kWc kWays
  have s1 : lying - (e 1 + i) - (e 2 + j) = lying - (e 0 + e 1 + e 2) - i - j + e 0 := by omega
  rw [s1, show ((lying - (e 0 + e 1 + e 2) - i - j + e 0 : Nat) : Int) - (e 0 : Int) = ((lying - (e 0 + e 1 + e 2) - i - j : Nat) : Int) by omega, show ((e 1 + i : Nat) : Int) - (e 1 : Int) = (i : Int) by omega, show ((e 2 + j : Nat) : Int) - (e 2 : Int) = (j : Int) by omega, show (B 0 : Int) - (e 0 : Int) = ((B 0 - e 0 : Nat) : Int) by omega, show (B 1 : Int) - (e 1 : Int) = ((B 1 - e 1 : Nat) : Int) by omega, show (B 2 : Int) - (e 2 : Int) = ((B 2 - e 2 : Nat) : Int) by omega, kCi_nat, kCi_nat, kCi_nat, ← Int.natCast_mul, ← Int.natCast_mul, Nat.add_comm (e 1) i, Nat.add_comm (e 2) j, kG_min ch (nOf (lying - (e 0 + e 1 + e 2) - i - j + e 0) (i + e 1) (j + e 2)) A]
  have s2 : nOf (lying - (e 0 + e 1 + e 2) - i - j + e 0) (i + e 1) (j + e 2) 0 + nOf (lying - (e 0 + e 1 + e 2) - i - j + e 0) (i + e 1) (j + e 2) 1 + nOf (lying - (e 0 + e 1 + e 2) - i - j + e 0) (i + e 1) (j + e 2) 2 = lying := by
    show lying - (e 0 + e 1 + e 2) - i - j + e 0 + (i + e 1) + (j + e 2) = lying
    omega
  rw [s2, Int.mul_comm (100 ^ (3 - min lying A)), Int.mul_assoc]
theorem kTc_0 {i j : Nat} (h : lying - (e 1 + i) - (e 2 + j) < e 0) : kTc ch B (e 0) (e 1) (e 2) lying A m (e 1 + i) (e 2 + j) = 0 := by
  unfold kTc kWc
  have : kCi ((B 0 : Int) - (e 0 : Int)) (((lying - (e 1 + i) - (e 2 + j) : Nat) : Int) - (e 0 : Int)) = 0 := if_pos (Or.inl (by omega))
  rw [this, Int.zero_mul, Int.zero_mul, Int.zero_mul]
/-- the class's sum is the reference's, in millionths -/
theorem kPc_all (hB : e 0 ≤ B 0 ∧ e 1 ≤ B 1 ∧ e 2 ≤ B 2) (he : e 0 + e 1 + e 2 ≤ 1) (hl : e 0 + e 1 + e 2 ≤ lying) :
    kPc ch B (e 0) (e 1) (e 2) lying A m (lying + 1 - e 1) 0 = 100 ^ (3 - min lying A) * kLots ch (fun lv => B lv - e lv) e (min lying A) (lying - (e 0 + e 1 + e 2)) m := by
  have key : ∀ L, lying = L + (e 0 + e 1 + e 2) → kPc ch B (e 0) (e 1) (e 2) lying A m (lying + 1 - e 1) 0 = zsum (L + 1) (fun i => zsum (L + 1 - i) (fun j => kTc ch B (e 0) (e 1) (e 2) lying A m (e 1 + i) (e 2 + j))) := by
    intro L hL
    unfold kPc
    have z0 : zsum 0 (fun j' => kTc ch B (e 0) (e 1) (e 2) lying A m (e 1 + (lying + 1 - e 1)) (e 2 + j')) = 0 := rfl
    rw [z0, Int.add_zero]
    by_cases h0 : e 0 = 1
    · have h1 : e 1 = 0 := by omega
      have h2 : e 2 = 0 := by omega
      have t := tri_succ (L + 1) (fun i j => kTc ch B (e 0) (e 1) (e 2) lying A m (e 1 + i) (e 2 + j))
      have c : zsum (lying + 1 - e 1) (fun i' => zsum (lying + 1 - (e 1 + i') - e 2) (fun j' => kTc ch B (e 0) (e 1) (e 2) lying A m (e 1 + i') (e 2 + j'))) = zsum (L + 1 + 1) (fun a => zsum (L + 1 + 1 - a) (fun b => kTc ch B (e 0) (e 1) (e 2) lying A m (e 1 + a) (e 2 + b))) := by
        rw [show lying + 1 - e 1 = L + 1 + 1 by omega]
        exact zsum_congr (fun a ha => by rw [show lying + 1 - (e 1 + a) - e 2 = L + 1 + 1 - a by omega])
      rw [c, t, zsum_0 (n := L + 1 + 1) (fun a ha => kTc_0 (by omega)), Int.add_zero]
    · by_cases h2 : e 2 = 1
      · rw [show lying + 1 - e 1 = L + 1 + 1 by omega]
        have t : ∀ f : Nat → Int, zsum (L + 1 + 1) f = zsum (L + 1) f + f (L + 1) := fun f => rfl
        rw [t, show lying + 1 - (e 1 + (L + 1)) - e 2 = 0 by omega]
        have z1 : ∀ f : Nat → Int, zsum 0 f = 0 := fun f => rfl
        rw [z1, Int.add_zero]
        exact zsum_congr (fun a ha => by rw [show lying + 1 - (e 1 + a) - e 2 = L + 1 - a by omega])
      · rw [show lying + 1 - e 1 = L + 1 by omega]
        exact zsum_congr (fun a ha => by rw [show lying + 1 - (e 1 + a) - e 2 = L + 1 - a by omega])
  rw [key (lying - (e 0 + e 1 + e 2)) (by omega)]
  unfold kLots
  rw [kTri_class, ← zsum_mul]
  refine zsum_congr (fun i hi => ?_)
  rw [← zsum_mul]
  refine zsum_congr (fun j hj => ?_)
  exact kTc_eq hB (by omega)
end ASQ
