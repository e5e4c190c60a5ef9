/-! ===== millionths ===== -/
theorem zl2i_in {a : Int} (h : -2147483648 ≤ a ∧ a ≤ 2147483647) : zl2i a = a := by
  unfold zl2i
  rw [← z32_64 h]
  simp [z32 h]
theorem mil_step {w o i : Nat} (ho : 0 < o) : (w * 10 ^ (i + 1)) / o = (w * 10 ^ i / o) * 10 + ((w * 10 ^ i % o) * 10) / o ∧ (w * 10 ^ (i + 1)) % o = ((w * 10 ^ i % o) * 10) % o := by
  have h := Nat.div_add_mod (w * 10 ^ i) o
  have e : w * 10 ^ (i + 1) = (w * 10 ^ i % o) * 10 + o * ((w * 10 ^ i / o) * 10) := by
    rw [Nat.pow_succ, ← Nat.mul_assoc]
    generalize w * 10 ^ i % o = r at *
    generalize w * 10 ^ i / o = q at *
    rw [← h, Nat.add_mul, Nat.mul_assoc]
    omega
  rw [e]
  refine ⟨?_, Nat.add_mul_mod_self_left _ _ _⟩
  rw [Nat.add_mul_div_left _ _ ho]
  omega
section ML
variable {F : zFs} {D : zDa}
theorem pX2_millionths {w o : Nat} (ho : 0 < o) (hw : w ≤ o) (h9 : o ≤ 900000000000000000) : qS (fX2_millionths F (w : Int) (o : Int) D) (fun r => r = (((w * 1000000 / o : Nat) : Int), D)) := by
  unfold fX2_millionths
  refine qS_pos (by omega) (qS_chk (by omega) (qS_leti (qS_leti ?_)))
  have hq : ∀ i, i ≤ 6 → w * 10 ^ i / o ≤ 1000000 := fun i hi => by
    refine Nat.le_trans (Nat.div_le_of_le_mul ?_) (Nat.le_refl _)
    have h1 : (10 : Nat) ^ i ≤ 10 ^ 6 := Nat.pow_le_pow_right (by omega) hi
    exact Nat.mul_le_mul hw h1
  refine qloop3 (fun v4 v6 v8 D1 => ∃ i : Nat, v8 = (i : Int) ∧ i ≤ 6 ∧ v4 = ((w * 10 ^ i / o : Nat) : Int) ∧ v6 = ((w * 10 ^ i % o : Nat) : Int) ∧ D1 = D) (fun _ _ v8 _ => (10 - v8).toNat) ?_ ⟨0, rfl, by omega, by rw [Nat.pow_zero, Nat.mul_one]; rfl, by rw [Nat.pow_zero, Nat.mul_one]; rfl, rfl⟩ (zfu_gt (by omega))
  intro k v4 v6 v8 D1 ⟨i, e8, hi, e4, e6, eD⟩ ih
  subst e8 e4 e6 eD
  unfold fX2_millionths_21
  refine qS_ite (fun h6 => ?_) (fun h6 => ?_)
  · obtain ⟨s1, s2⟩ := mil_step (w := w) (i := i) ho
    have hr : w * 10 ^ i % o < o := Nat.mod_lt _ ho
    have hq1 := hq i hi
    have hq2 := hq (i + 1) (by omega)
    rw [s1] at hq2
    have st : ∀ q r x y : Nat, r < o → q ≤ 1000000 → q * 10 + x ≤ 1000000 → r * 10 / o = x → r * 10 % o = y → w * 10 ^ (i + 1) / o = q * 10 + x → w * 10 ^ (i + 1) % o = y → qS (fX2_millionths_21 F (o : Int) k (q : Int) (r : Int) (i : Int) D1) (fun r => r = (((w * 1000000 / o : Nat) : Int), D1)) := by
      intro q r x y hr hq1 hq2 hx hy s1 s2
      have d1 : Int.tdiv ((r : Int) * 10) (o : Int) = (x : Int) := by rw [← hx]; rfl
      have d2 : Int.tmod ((r : Int) * 10) (o : Int) = (y : Int) := by rw [← hy]; rfl
      unfold fX2_millionths_21
      refine qS_pos (by omega) (qS_chk (by omega) (qS_leti ?_))
      rw [d1, d2]
      refine qS_chk (by omega) (qS_leti (qS_leti (qS_chk (by omega) (ih _ _ _ _ ⟨i + 1, by omega, by omega, by rw [s1]; omega, by rw [s2], rfl⟩ (by omega)))))
    have := st _ _ _ _ hr hq1 hq2 rfl rfl s1 s2
    unfold fX2_millionths_21 at this
    rw [if_pos h6] at this
    exact this
  · have : i = 6 := by omega
    subst this
    have h7 := hq 6 (by omega)
    refine qS_ret ?_
    rw [show (10 : Nat) ^ 6 = 1000000 from rfl] at h7 ⊢
    generalize w * 1000000 / o = q at *
    rw [zl2i_in (by omega)]
theorem pX12_millionths {w o : Nat} (ho : 0 < o) (hw : w ≤ o) (h9 : o ≤ 900000000000000000) : qS (fX12_millionths F (w : Int) (o : Int) D) (fun r => r = (((w * 1000000 / o : Nat) : Int), D)) := by
  unfold fX12_millionths
  refine (qS_chk (by omega) (qS_leti (qS_leti ?_)))
  have hq : ∀ i, i ≤ 6 → w * 10 ^ i / o ≤ 1000000 := fun i hi => by
    refine Nat.le_trans (Nat.div_le_of_le_mul ?_) (Nat.le_refl _)
    have h1 : (10 : Nat) ^ i ≤ 10 ^ 6 := Nat.pow_le_pow_right (by omega) hi
    exact Nat.mul_le_mul hw h1
  refine qloop3 (fun v4 v6 v8 D1 => ∃ i : Nat, v8 = (i : Int) ∧ i ≤ 6 ∧ v4 = ((w * 10 ^ i / o : Nat) : Int) ∧ v6 = ((w * 10 ^ i % o : Nat) : Int) ∧ D1 = D) (fun _ _ v8 _ => (10 - v8).toNat) ?_ ⟨0, rfl, by omega, by rw [Nat.pow_zero, Nat.mul_one]; rfl, by rw [Nat.pow_zero, Nat.mul_one]; rfl, rfl⟩ (zfu_gt (by omega))
  intro k v4 v6 v8 D1 ⟨i, e8, hi, e4, e6, eD⟩ ih
  subst e8 e4 e6 eD
  unfold fX12_millionths_13
  refine qS_ite (fun h6 => ?_) (fun h6 => ?_)
  · obtain ⟨s1, s2⟩ := mil_step (w := w) (i := i) ho
    have hr : w * 10 ^ i % o < o := Nat.mod_lt _ ho
    have hq1 := hq i hi
    have hq2 := hq (i + 1) (by omega)
    rw [s1] at hq2
    have st : ∀ q r x y : Nat, r < o → q ≤ 1000000 → q * 10 + x ≤ 1000000 → r * 10 / o = x → r * 10 % o = y → w * 10 ^ (i + 1) / o = q * 10 + x → w * 10 ^ (i + 1) % o = y → qS (fX12_millionths_13 F (o : Int) k (q : Int) (r : Int) (i : Int) D1) (fun r => r = (((w * 1000000 / o : Nat) : Int), D1)) := by
      intro q r x y hr hq1 hq2 hx hy s1 s2
      have d1 : Int.tdiv ((r : Int) * 10) (o : Int) = (x : Int) := by rw [← hx]; rfl
      have d2 : Int.tmod ((r : Int) * 10) (o : Int) = (y : Int) := by rw [← hy]; rfl
      unfold fX12_millionths_13
      refine qS_pos (by omega) (qS_chk (by omega) (qS_leti ?_))
      rw [d1, d2]
      refine qS_chk (by omega) (qS_leti (qS_leti (qS_chk (by omega) (ih _ _ _ _ ⟨i + 1, by omega, by omega, by rw [s1]; omega, by rw [s2], rfl⟩ (by omega)))))
    have := st _ _ _ _ hr hq1 hq2 rfl rfl s1 s2
    unfold fX12_millionths_13 at this
    rw [if_pos h6] at this
    exact this
  · have : i = 6 := by omega
    subst this
    have h7 := hq 6 (by omega)
    refine qS_ret ?_
    rw [show (10 : Nat) ^ 6 = 1000000 from rfl] at h7 ⊢
    generalize w * 1000000 / o = q at *
    rw [zl2i_in (by omega)]
theorem mil_scale {w o t : Nat} (ht : 0 < t) : (t * w) * 1000000 / (t * o) = w * 1000000 / o := by
  rw [Nat.mul_assoc]; exact Nat.mul_div_mul_left _ _ ht
end ML
