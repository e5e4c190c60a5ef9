/-! ===== no more ways than there are; counts by levels ===== -/
theorem kMix_add (lean N lk L : Nat) (Q : Nat → Nat) (x y : Int → Int) (j : Nat) : kMix lean N lk L Q (fun l => x l + y l) j = kMix lean N lk L Q x j + kMix lean N lk L Q y j := by
  unfold kMix
  have : zsum j (fun l => (((lean : Int) * (N : Int)) * (Q l : Int)) * (x (l : Int) + y (l : Int))) = zsum j (fun l => (((lean : Int) * (N : Int)) * (Q l : Int)) * x (l : Int)) + zsum j (fun l => (((lean : Int) * (N : Int)) * (Q l : Int)) * y (l : Int)) := by
    rw [← zsum_add]; exact zsum_congr (fun k _ => Int.mul_add _ _ _)
  rw [this, Int.mul_add]; omega
theorem kMix_mono {lean N lk L : Nat} {Q : Nat → Nat} {x y : Int → Int} {j : Nat} (hn : lean ≤ 100) (h1 : x (-1) ≤ y (-1)) (h2 : ∀ l, l < j → 0 < Q l → x (l : Int) ≤ y (l : Int)) : kMix lean N lk L Q x j ≤ kMix lean N lk L Q y j := by
  unfold kMix
  have a1 : 0 ≤ ((100 - (lean : Int)) * (lk : Int)) * (L : Int) := Int.mul_nonneg (Int.mul_nonneg (by omega) (by omega)) (by omega)
  have a2 := Int.mul_le_mul_of_nonneg_left h1 a1
  have a3 : zsum j (fun l => (((lean : Int) * (N : Int)) * (Q l : Int)) * x (l : Int)) ≤ zsum j (fun l => (((lean : Int) * (N : Int)) * (Q l : Int)) * y (l : Int)) := zsum_mono (fun l hl => by
    by_cases hq : Q l = 0
    · rw [hq]; simp
    · exact Int.mul_le_mul_of_nonneg_left (h2 l hl (by omega)) (Int.mul_nonneg (Int.mul_nonneg (by omega) (by omega)) (by omega)))
  omega
theorem kXo_sum {ch : Nat → Int} {B : Nat → Nat} {R L : Nat} (hh : ∀ lv, lv < 3 → 0 ≤ ch lv ∧ ch lv ≤ 100) (lev : Int) :
    kXo ch B R L 0 lev + kXo ch B R L 1 lev + kXo ch B R L 2 lev + kXo ch B R L 3 lev ≤ 100 ^ R * ((kC (B 0 - eOf lev 0 + (B 1 - eOf lev 1) + (B 2 - eOf lev 2)) (L - (eOf lev 0 + eOf lev 1 + eOf lev 2)) : Nat) : Int) := kLots_sum hh
theorem mix_all (P C C' lean N lk L q0 q1 q2 : Int) (hk : lk = q0 + q1 + q2) (h : N * C' = L * C) : ((100 - lean) * lk * L) * (P * C) + (((0 + (lean * N * q0) * (P * C')) + (lean * N * q1) * (P * C')) + (lean * N * q2) * (P * C')) = C * P * (100 * lk * L) := by
  have e1 : ((100 - lean) * lk * L) * (P * C) = (100 - lean) * (lk * (L * (P * C))) := by ac_rfl
  have e2 : ∀ q : Int, (lean * N * q) * (P * C') = q * (lean * (L * (P * C))) := fun q => by
    have : (lean * N * q) * (P * C') = q * lean * P * (N * C') := by ac_rfl
    rw [this, h]; ac_rfl
  have e3 : C * P * (100 * lk * L) = 100 * (lk * (L * (P * C))) := by ac_rfl
  have e4 : q0 * (lean * (L * (P * C))) + q1 * (lean * (L * (P * C))) + q2 * (lean * (L * (P * C))) = lean * (lk * (L * (P * C))) := by
    rw [← Int.add_mul, ← Int.add_mul, ← hk]; ac_rfl
  rw [e1, e2, e2, e2, e3, Int.sub_mul]
  omega
theorem kWh_pos {B Q : Nat → Nat} {lie A lean : Nat} (hl : 1 ≤ lie) : 0 < kWh B Q lie A lean := by
  unfold kWh
  have h1 : 0 < kC (B 0 + B 1 + B 2) (min lie (B 0 + B 1 + B 2)) := kC_pos (by omega)
  have h2 : 0 < 100 ^ (min (min lie (B 0 + B 1 + B 2)) A) := Nat.pow_pos (by omega)
  split
  · exact Nat.mul_pos (Nat.mul_pos h1 h2) (Nat.mul_pos (by omega) (by omega))
  · exact Nat.mul_pos h1 h2
theorem kWh_max {B Q : Nat → Nat} {lie A lean : Nat} (hB : B 0 + B 1 + B 2 ≤ 20) (hQ : ∀ lv, lv < 3 → Q lv ≤ B lv) (hl : lie ≤ 10) (hA : A ≤ 3) : 100 ^ (3 - min (min lie (B 0 + B 1 + B 2)) A) * kWh B Q lie A lean ≤ 3695120000000000 := by
  have q0 := hQ 0 (by omega)
  have q1 := hQ 1 (by omega)
  have q2 := hQ 2 (by omega)
  unfold kWh
  have h1 := kC_max hB (min lie (B 0 + B 1 + B 2))
  have hR : min (min lie (B 0 + B 1 + B 2)) A ≤ 3 := by omega
  have hL : min lie (B 0 + B 1 + B 2) ≤ 10 := by omega
  generalize min (min lie (B 0 + B 1 + B 2)) A = R at *
  generalize min lie (B 0 + B 1 + B 2) = L at *
  have hp : 100 ^ (3 - R) * 100 ^ R = 1000000 := by
    rcases (by omega : R = 0 ∨ R = 1 ∨ R = 2 ∨ R = 3) with rfl | rfl | rfl | rfl <;> rfl
  split
  · have e : 100 ^ (3 - R) * (kC (B 0 + B 1 + B 2) L * 100 ^ R * (100 * (Q 0 + Q 1 + Q 2) * L)) = (100 ^ (3 - R) * 100 ^ R) * (kC (B 0 + B 1 + B 2) L * (100 * (Q 0 + Q 1 + Q 2) * L)) := by ac_rfl
    rw [e, hp]
    have a1 : 100 * (Q 0 + Q 1 + Q 2) * L ≤ 2000 * 10 := Nat.mul_le_mul (by omega) hL
    have a2 := Nat.mul_le_mul h1 a1
    omega
  · have e : 100 ^ (3 - R) * (kC (B 0 + B 1 + B 2) L * 100 ^ R) = (100 ^ (3 - R) * 100 ^ R) * kC (B 0 + B 1 + B 2) L := by ac_rfl
    rw [e, hp]; omega
theorem kOd_nn {ch : Nat → Int} {B Q : Nat → Nat} {lie A lean m : Nat} (hB : B 0 + B 1 + B 2 ≤ 20) (hQ : ∀ lv, lv < 3 → Q lv ≤ B lv) (hh : ∀ lv, lv < 3 → 0 ≤ ch lv ∧ ch lv ≤ 100) (hl : lie ≤ 10) (hA : A ≤ 3) (hn : lean ≤ 100) (hm : m < 4) : 0 ≤ kOd ch B Q lie A lean m := by
  have q0 := hQ 0 (by omega)
  have q1 := hQ 1 (by omega)
  have q2 := hQ 2 (by omega)
  unfold kOd
  have hR : min (min lie (B 0 + B 1 + B 2)) A ≤ 3 := by omega
  have hL : min lie (B 0 + B 1 + B 2) ≤ 10 := by omega
  have p := p100 hR
  have xin : ∀ lev : Int, 0 ≤ kXo ch B (min (min lie (B 0 + B 1 + B 2)) A) (min lie (B 0 + B 1 + B 2)) m lev ∧ kXo ch B (min (min lie (B 0 + B 1 + B 2)) A) (min lie (B 0 + B 1 + B 2)) m lev ≤ 184756000000 := fun lev => by
    have := kXo_in hB hh hR hL hm lev
    omega
  split
  · exact (kMix_in hn hB (by omega) hL (fun l hl => by rcases (by omega : l = 0 ∨ l = 1 ∨ l = 2) with rfl | rfl | rfl <;> omega) (fun lev _ => xin lev) (by omega)).1
  · exact (xin (-1)).1
theorem kOd_sum {ch : Nat → Int} {B Q : Nat → Nat} {lie A lean : Nat} (hQ : ∀ lv, lv < 3 → Q lv ≤ B lv) (hh : ∀ lv, lv < 3 → 0 ≤ ch lv ∧ ch lv ≤ 100) (hl : 1 ≤ lie) (hn : lean ≤ 100) :
    kOd ch B Q lie A lean 0 + kOd ch B Q lie A lean 1 + kOd ch B Q lie A lean 2 + kOd ch B Q lie A lean 3 ≤ (kWh B Q lie A lean : Int) := by
  have q0 := hQ 0 (by omega)
  have q1 := hQ 1 (by omega)
  have q2 := hQ 2 (by omega)
  unfold kOd kWh
  have hN : ∀ l, l < 3 → 0 < Q l → B 0 - eOf (l : Int) 0 + (B 1 - eOf (l : Int) 1) + (B 2 - eOf (l : Int) 2) = B 0 + B 1 + B 2 - 1 := fun l hl hq => by
    rcases (by omega : l = 0 ∨ l = 1 ∨ l = 2) with rfl | rfl | rfl
    · show B 0 - 1 + (B 1 - 0) + (B 2 - 0) = _
      omega
    · show B 0 - 0 + (B 1 - 1) + (B 2 - 0) = _
      omega
    · show B 0 - 0 + (B 1 - 0) + (B 2 - 1) = _
      omega
  have hs := fun lev => kXo_sum (ch := ch) (B := B) (R := min (min lie (B 0 + B 1 + B 2)) A) (L := min lie (B 0 + B 1 + B 2)) hh lev
  have hL0 : 0 < B 0 + B 1 + B 2 → 1 ≤ min lie (B 0 + B 1 + B 2) := by omega
  have hLN : min lie (B 0 + B 1 + B 2) ≤ B 0 + B 1 + B 2 := by omega
  generalize min (min lie (B 0 + B 1 + B 2)) A = R at *
  generalize min lie (B 0 + B 1 + B 2) = L at *
  have hm1 := hs (-1)
  rw [eOf_n1] at hm1
  have hm2 : kXo ch B R L 0 (-1) + kXo ch B R L 1 (-1) + kXo ch B R L 2 (-1) + kXo ch B R L 3 (-1) ≤ 100 ^ R * ((kC (B 0 + B 1 + B 2) L : Nat) : Int) := hm1
  have hp : ((100 ^ R : Nat) : Int) = (100 : Int) ^ R := by exact_mod_cast rfl
  split
  · rename_i hc
    rw [← kMix_add, ← kMix_add, ← kMix_add]
    have hL1 := hL0 (by omega)
    have m1 := kMix_mono (lean := lean) (N := B 0 + B 1 + B 2) (lk := Q 0 + Q 1 + Q 2) (L := L) (Q := Q) (j := 3) (x := fun l => kXo ch B R L 0 l + kXo ch B R L 1 l + kXo ch B R L 2 l + kXo ch B R L 3 l) (y := fun l => if l = -1 then 100 ^ R * ((kC (B 0 + B 1 + B 2) L : Nat) : Int) else 100 ^ R * ((kC (B 0 + B 1 + B 2 - 1) (L - 1) : Nat) : Int)) hn (by rw [if_pos rfl]; exact hm2) (fun l hl hq => by
      have h := hs (l : Int)
      rw [hN l hl hq, eOf_sum hl] at h
      rw [if_neg (by omega)]; exact h)
    refine Int.le_trans m1 ?_
    have hab := kC_abs (B 0 + B 1 + B 2 - 1) (L - 1)
    rw [show B 0 + B 1 + B 2 - 1 + 1 = B 0 + B 1 + B 2 by omega, show L - 1 + 1 = L by omega] at hab
    have hab2 : ((B 0 + B 1 + B 2 : Nat) : Int) * ((kC (B 0 + B 1 + B 2 - 1) (L - 1) : Nat) : Int) = (L : Int) * ((kC (B 0 + B 1 + B 2) L : Nat) : Int) := by
      rw [← Int.natCast_mul, ← Int.natCast_mul, hab]
    have fin := mix_all ((100 : Int) ^ R) ((kC (B 0 + B 1 + B 2) L : Nat) : Int) ((kC (B 0 + B 1 + B 2 - 1) (L - 1) : Nat) : Int) (lean : Int) ((B 0 + B 1 + B 2 : Nat) : Int) ((Q 0 + Q 1 + Q 2 : Nat) : Int) (L : Int) (Q 0 : Int) (Q 1 : Int) (Q 2 : Int) (by omega) hab2
    have e2 : ((kC (B 0 + B 1 + B 2) L * 100 ^ R * (100 * (Q 0 + Q 1 + Q 2) * L) : Nat) : Int) = ((kC (B 0 + B 1 + B 2) L : Nat) : Int) * 100 ^ R * (100 * ((Q 0 + Q 1 + Q 2 : Nat) : Int) * (L : Int)) := by
      rw [Int.natCast_mul, Int.natCast_mul, hp, Int.natCast_mul, Int.natCast_mul]; rfl
    rw [e2, ← fin]
    exact Int.le_refl _
  · rw [Int.natCast_mul, hp, Int.mul_comm]
    exact hm2
