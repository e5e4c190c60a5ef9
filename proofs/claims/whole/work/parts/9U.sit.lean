/-! ===== exams by draws ===== -/
def sNext (s : Int) : Int := Int.tmod (1103 * s + 12345) 1000003
theorem sNext_in {s : Int} (h : 0 ≤ s ∧ s < 1000003) : 0 ≤ sNext s ∧ sNext s < 1000003 := by
  unfold sNext
  rw [Int.tmod_eq_emod_of_nonneg (by omega)]
  omega
def sOf (s : Int) (n : Nat) : Nat := (sNext s % (n : Int)).toNat
theorem sOf_lt {s : Int} {n : Nat} (hs : 0 ≤ s ∧ s < 1000003) (hn : 0 < n) : sOf s n < n ∧ Int.tmod (sNext s) (n : Int) = (sOf s n : Int) := by
  have h := sNext_in hs
  have h1 := Int.emod_nonneg (sNext s) (show (n : Int) ≠ 0 by omega)
  have h2 := Int.emod_lt_of_pos (sNext s) (show (0 : Int) < (n : Int) by omega)
  unfold sOf
  rw [Int.tmod_eq_emod_of_nonneg (by omega)]
  omega
/-- one of a set by lot -/
def sOne (s : Int) (x : Nat) : Nat := bNth x 20 0 (sOf s (bPop x 20 0))
theorem sOne_in {s : Int} {x : Nat} (hs : 0 ≤ s ∧ s < 1000003) (h : 0 < bPop x 20 0) : sOne s x < 20 ∧ x.testBit (sOne s x) = true := by
  have := bNth_in (x := x) 20 0 _ (sOf_lt hs h).1
  exact ⟨by unfold sOne; omega, this.2.2⟩
theorem bPop_s (x n i : Nat) : bPop x (n + 1) i = (if x.testBit i then 1 else 0) + bPop x n (i + 1) := rfl
theorem bNth_s (x n i k : Nat) : bNth x (n + 1) i k = if x.testBit i then (if k = 0 then i else bNth x n (i + 1) (k - 1)) else bNth x n (i + 1) k := rfl
section SI
variable {F : zFs} {D : zDa}
theorem pX8_lots {n : Nat} (hn : 0 < n) (hs : 0 ≤ D 89 3 ∧ D 89 3 < 1000003) : fX8_lots F (n : Int) D = some ((sOf (D 89 3) n : Int), zwr D 89 3 (sNext (D 89 3))) := by
  unfold fX8_lots
  have e : Int.tmod (D 89 3 * 1103 + 12345) 1000003 = sNext (D 89 3) := by unfold sNext; rw [Int.mul_comm]
  rw [if_pos (by omega), e]
  simp only [zlet]
  rw [if_pos (by omega), if_pos (by omega), zwr_eq, (sOf_lt hs hn).2]
theorem pX12_draws {n : Nat} (hn : 0 < n) (hs : 0 ≤ D 91 63 ∧ D 91 63 < 1000003) : fX12_draws F (n : Int) D = some ((sOf (D 91 63) n : Int), zwr D 91 63 (sNext (D 91 63))) := by
  unfold fX12_draws
  have h := sNext_in hs
  have e : zl2i (Int.tmod (1103 * D 91 63 + 12345) 1000003) = sNext (D 91 63) := by
    show zl2i (sNext (D 91 63)) = _
    exact zl2i_in (by omega)
  rw [if_pos (by omega), e]
  simp only [zlet]
  rw [if_pos (by omega), zwr_eq, (sOf_lt hs hn).2]
theorem pX8_drawnOf {x : Nat} (hx : x < 2 ^ 20) (hp : 0 < bPop x 20 0) (hs : 0 ≤ D 89 3 ∧ D 89 3 < 1000003) : qS (fX8_drawnOf F (x : Int) D) (fun r => r = (((2 ^ sOne (D 89 3) x : Nat) : Int), zwr D 89 3 (sNext (D 89 3)))) := by
  unfold fX8_drawnOf
  rw [zbitCount (by omega) F D, ← bPop_20]
  refine qS_step rfl (qS_step (pX8_lots hp hs) ?_)
  have hk := (sOf_lt hs hp).1
  have hb20 := bPop_le x 20 0
  generalize zwr D 89 3 (sNext (D 89 3)) = D1
  unfold sOne
  generalize sOf (D 89 3) (bPop x 20 0) = k at *
  refine qloop2 (fun v2 v4 D2 => ∃ t y : Nat, v4 = (t : Int) ∧ t ≤ k ∧ v2 = (y : Int) ∧ y < 2 ^ 20 ∧ bNth y 20 0 (k - t) = bNth x 20 0 k ∧ bPop y 20 0 + t = bPop x 20 0 ∧ D2 = D1) (fun _ v4 _ => (100 - v4).toNat) ?_ ⟨0, x, rfl, by omega, rfl, hx, by rw [Nat.sub_zero], Nat.add_zero _, rfl⟩ (zfu_gt (by omega))
  intro kk v2 v4 D2 ⟨t, y, e4, ht, e2, hy, h1, h2, eD⟩ ih
  subst e4 e2 eD
  have low := bNth_in (x := y) 20 0 0 (by omega)
  have lw := bLow low.2.2 (fun j hj => bNth_low 20 0 (by omega) j (by omega) hj)
  have hle : y &&& (y - 1) ≤ y := Nat.and_le_left
  unfold fX8_drawnOf_14
  refine qS_ite (fun hlt => ?_) (fun hlt => ?_)
  · have st := bStrip (x := y) (y := y &&& (y - 1)) 20 0 (k - (t + 1)) (by omega) (fun j _ _ => lw.2.1 j)
    refine qS_chk (by omega) (qS_leti (qS_chk (by omega) (ih _ _ _ ⟨t + 1, y &&& (y - 1), by omega, by omega, ?_, by omega, ?_, by omega, rfl⟩ (by omega))))
    · rw [show (y : Int) - 1 = ((y - 1 : Nat) : Int) by omega, zand_nat (by omega) (by omega)]
    · rw [← st.1, show k - (t + 1) + 1 = k - t by omega]; exact h1
  · have : t = k := by omega
    subst this
    rw [Nat.sub_self] at h1
    refine qS_chk (by omega) (qS_ret ?_)
    rw [zneg lw.1 (by omega), zdiff_nat (by omega) (by omega), lw.2.2, h1]
theorem pX12_ones {x : Nat} (hx : x < 2 ^ 20) : qS (fX12_ones F (x : Int) D) (fun r => r = ((bPop x 20 0 : Int), D)) := by
  unfold fX12_ones
  refine qloop2 (fun v1 v2 D2 => ∃ t a : Nat, v2 = (t : Int) ∧ t ≤ 20 ∧ v1 = (a : Int) ∧ a + bPop x (20 - t) t = bPop x 20 0 ∧ D2 = D) (fun _ v2 _ => (100 - v2).toNat) ?_ ⟨0, 0, rfl, by omega, rfl, by rw [Nat.sub_zero, Nat.zero_add], rfl⟩ (zfu_gt (by omega))
  intro kk v1 v2 D2 ⟨t, a, e2, ht, e1, h1, eD⟩ ih
  subst e2 e1 eD
  have hb := bPop_le x 20 0
  unfold fX12_ones_4
  refine qS_ite (fun hlt => ?_) (fun hlt => ?_)
  · rw [zbit_shr (by omega) (by omega)]
    rw [show 20 - t = (20 - (t + 1)) + 1 by omega, bPop_s x (20 - (t + 1)) t] at h1
    generalize bPop x 20 0 = P at *
    by_cases hbt : x.testBit t = true
    · rw [if_pos hbt] at h1
      rw [if_pos hbt]
      exact qS_chk (by omega) (qS_leti (qS_chk (by omega) (ih _ _ _ ⟨t + 1, a + 1, by omega, by omega, by omega, by omega, rfl⟩ (by omega))))
    · rw [if_neg hbt] at h1
      rw [if_neg hbt]
      exact qS_chk (by omega) (qS_leti (qS_chk (by omega) (ih _ _ _ ⟨t + 1, a, by omega, by omega, by omega, by omega, rfl⟩ (by omega))))
  · have : t = 20 := by omega
    subst this
    refine qS_ret ?_
    have : bPop x (20 - 20) 20 = 0 := rfl
    rw [this] at h1
    rw [← h1, Nat.add_zero]
theorem pX12_nth {x k : Nat} (hx : x < 2 ^ 20) (hk : k < bPop x 20 0) : qS (fX12_nth F (x : Int) (k : Int) D) (fun r => r = ((bNth x 20 0 k : Int), D)) := by
  have hb := bPop_le x 20 0
  unfold fX12_nth
  refine qloop2 (fun v2 v3 D2 => ∃ t a : Nat, v3 = (t : Int) ∧ t ≤ 20 ∧ v2 = (a : Int) ∧ a ≤ k ∧ bNth x (20 - t) t (k - a) = bNth x 20 0 k ∧ k - a < bPop x (20 - t) t ∧ D2 = D) (fun _ v2 _ => (100 - v2).toNat) ?_ ⟨0, 0, rfl, by omega, rfl, by omega, by rw [Nat.sub_zero, Nat.sub_zero], by rw [Nat.sub_zero, Nat.sub_zero]; exact hk, rfl⟩ (zfu_gt (by omega))
  intro kk v2 v3 D2 ⟨t, a, e3, ht, e2, ha, h1, h2, eD⟩ ih
  subst e3 e2 eD
  unfold fX12_nth_4
  refine qS_ite (fun hlt => ?_) (fun hlt => ?_)
  · have hbit := zbit_shr (a := x) (k := t) (by omega) (by omega)
    rw [show 20 - t = (20 - (t + 1)) + 1 by omega] at h1 h2
    rw [bPop_s x (20 - (t + 1)) t] at h2
    rw [bNth_s x (20 - (t + 1)) t] at h1
    generalize bPop x 20 0 = P at *
    generalize bNth x 20 0 k = W at *
    by_cases hbt : x.testBit t = true
    · rw [if_pos hbt] at h1 h2 hbit
      refine qS_neg (by omega) ?_
      refine qS_ite (fun e => ?_) (fun e => ?_)
      · rw [if_pos (by omega)] at h1
        exact qS_ret (by rw [h1])
      · rw [if_neg (by omega)] at h1
        unfold fX12_nth_31
        refine qS_chk (by omega) (qS_chk (by omega) (ih _ _ _ ⟨t + 1, a + 1, by omega, by omega, by omega, by omega, ?_, by omega, rfl⟩ (by omega)))
        rw [show k - (a + 1) = k - a - 1 by omega]; exact h1
    · rw [if_neg hbt] at h1 h2 hbit
      refine qS_pos hbit ?_
      unfold fX12_nth_31
      exact qS_chk (by omega) (ih _ _ _ ⟨t + 1, a, by omega, by omega, by omega, by omega, h1, by omega, rfl⟩ (by omega))
  · have : t = 20 := by omega
    subst this
    exact absurd h2 (by show ¬ k - a < 0; omega)
end SI
