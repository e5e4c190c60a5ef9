/-! ===== lowest terms ===== -/
theorem gcd_step (a b : Nat) : Nat.gcd a b = Nat.gcd b (a % b) := by rw [Nat.gcd_comm a b, Nat.gcd_rec b a, Nat.gcd_comm]
theorem tmod_nat (a b : Nat) : Int.tmod (a : Int) (b : Int) = ((a % b : Nat) : Int) := rfl
theorem half_step {a b : Nat} (hb : 0 < b) (h : b < a) : a % b < (a + 1) / 2 := by
  have h2 : a % b < b := Nat.mod_lt _ hb
  by_cases h3 : 2 * b ≤ a
  · omega
  · have e : a % b = a - b := by
      rw [Nat.mod_eq_sub_mod (by omega), Nat.mod_eq_of_lt (by omega)]
    omega
section LW
variable {F : zFs} {D : zDa}
theorem cLow_66 {o0 o2 o4 : Int} {g : Nat} (hg : 0 < g) (h0 : 0 ≤ o0) (h2 : 0 ≤ o2) : qS (fX2_lowest_66 F o0 o2 o4 (g : Int) D) (fun r => r = (if o4 = 0 then Int.tdiv o0 (g : Int) else Int.tdiv o2 (g : Int), D)) := by
  unfold fX2_lowest_66
  refine qS_neg (by omega) ?_
  by_cases h : o4 = 0
  · exact qS_pos h (qS_chk (by omega) (qS_ret (by rw [if_pos h])))
  · exact qS_neg h (qS_chk (by omega) (qS_ret (by rw [if_neg h])))
theorem pX2_lowest {ways of : Nat} {part : Int} (hof : 0 < of) (hw : ways < 2 ^ 63) (hp : part = 0 ∨ part = 1) : qS (fX2_lowest F (ways : Int) (of : Int) part D) (fun r => r = (if part = 0 then ((ways / Nat.gcd of ways : Nat) : Int) else ((of / Nat.gcd of ways : Nat) : Int), D)) := by
  unfold fX2_lowest
  refine qS_neg (by omega) (qS_neg (by omega) (qS_pos (by omega) ?_))
  have fin : qS (fX2_lowest_66 F (ways : Int) (of : Int) part ((Nat.gcd of ways : Nat) : Int) D) (fun r => r = (if part = 0 then ((ways / Nat.gcd of ways : Nat) : Int) else ((of / Nat.gcd of ways : Nat) : Int), D)) :=
    cLow_66 (Nat.gcd_pos_of_pos_left _ hof) (by omega) (by omega)
  refine qloop3 (fun v5 v7 v9 D1 => ∃ (a b i k : Nat), v5 = (a : Int) ∧ v7 = (b : Int) ∧ v9 = (i : Int) ∧ Nat.gcd a b = Nat.gcd of ways ∧ ((b < 2 ^ k ∧ i + 2 * k ≤ 198) ∨ (b < a ∧ a < 2 ^ k ∧ i + 2 * k ≤ 199)) ∧ i ≤ 199 ∧ D1 = D) (fun _ _ v9 _ => (200 - v9).toNat) ?_ ⟨of, ways, 0, 63, rfl, rfl, rfl, rfl, Or.inl ⟨hw, by omega⟩, by omega, rfl⟩ (zfu_gt (by omega))
  intro k30 v5 v7 v9 D1 ⟨a, b, i, k, e5, e7, e9, hg, hb, hi, eD⟩ ih
  subst e5 e7 e9 eD
  unfold fX2_lowest_30
  have stop : b = 0 → qS (fX2_lowest_66 F (ways : Int) (of : Int) part (a : Int) D1) (fun r => r = (if part = 0 then ((ways / Nat.gcd of ways : Nat) : Int) else ((of / Nat.gcd of ways : Nat) : Int), D1)) := by
    intro h0
    subst h0
    rw [Nat.gcd_zero_right] at hg
    rw [hg]
    exact fin
  refine qS_pos (by omega) (qS_ite (fun h0 => stop (by omega)) (fun h0 => qS_chk h0 (qS_leti (qS_chk (by omega) ?_))))
  rw [tmod_nat]
  have hb0 : 0 < b := by omega
  have hlt : a % b < b := Nat.mod_lt _ hb0
  rcases hb with ⟨h1, h2⟩ | ⟨h1, h2, h3⟩
  · have hk : k ≠ 0 := fun h => by subst h; simp at h1; omega
    exact ih _ _ _ _ ⟨b, a % b, i + 1, k, rfl, rfl, by omega, by rw [← gcd_step]; exact hg, Or.inr ⟨hlt, h1, by omega⟩, by omega, rfl⟩ (by omega)
  · have hk : k ≠ 0 := fun h => by subst h; simp at h2; omega
    obtain ⟨k', rfl⟩ : ∃ k', k = k' + 1 := ⟨k - 1, by omega⟩
    have hs := half_step hb0 h1
    rw [Nat.pow_succ] at h2
    exact ih _ _ _ _ ⟨b, a % b, i + 1, k', rfl, rfl, by omega, by rw [← gcd_step]; exact hg, Or.inl ⟨by omega, by omega⟩, by omega, rfl⟩ (by omega)
theorem rCom_0 (k : Int → Int → zDa → Option (Int × zDa)) (a : Int) : fX12_common_6 F k a 0 D = some (a, D) := by
  unfold fX12_common_6
  rw [if_pos rfl]
theorem rCom_s (k : Int → Int → zDa → Option (Int × zDa)) {a b : Int} (h : b ≠ 0) : fX12_common_6 F k a b D = k b (Int.tmod a b) D := by
  unfold fX12_common_6
  rw [if_neg h, if_pos h, zlet_b]
theorem rCommon : ∀ (N a b k : Nat), ((b < 2 ^ k ∧ 2 * k + 1 ≤ N) ∨ (b < a ∧ a < 2 ^ k ∧ 2 * k ≤ N)) → zfix (fun _ _ _ => none) (fX12_common_6 F) N (a : Int) (b : Int) D = some (((Nat.gcd a b : Nat) : Int), D) := by
  intro N
  induction N with
  | zero =>
    intro a b k h
    rcases h with ⟨h1, h2⟩ | ⟨h1, h2, h3⟩
    · omega
    · have : k = 0 := by omega
      subst this
      simp at h2
      omega
  | succ N ih =>
    intro a b k h
    rw [zfix_succ]
    by_cases h0 : b = 0
    · subst h0
      rw [show ((0 : Nat) : Int) = 0 from rfl, rCom_0, Nat.gcd_zero_right]
    · rw [rCom_s _ (by omega), tmod_nat, gcd_step a b]
      have hb0 : 0 < b := by omega
      have hlt : a % b < b := Nat.mod_lt _ hb0
      rcases h with ⟨h1, h2⟩ | ⟨h1, h2, h3⟩
      · exact ih b (a % b) k (Or.inr ⟨hlt, h1, by omega⟩)
      · have hk : k ≠ 0 := fun h => by subst h; simp at h2; omega
        obtain ⟨k', rfl⟩ : ∃ k', k = k' + 1 := ⟨k - 1, by omega⟩
        have hs := half_step hb0 h1
        rw [Nat.pow_succ] at h2
        exact ih b (a % b) k' (Or.inl ⟨by omega, by omega⟩)
theorem pX12_reduced {ways of : Nat} {part : Int} (hof : 0 < of) (hw : of < 2 ^ 63) : qS (fX12_reduced F (ways : Int) (of : Int) part D) (fun r => r = (if part = 0 then ((ways / Nat.gcd of ways : Nat) : Int) else ((of / Nat.gcd of ways : Nat) : Int), D)) := by
  unfold fX12_reduced fX12_common
  have hg := Nat.gcd_pos_of_pos_left ways hof
  refine qS_step (rCommon zfu ways of 63 (Or.inl ⟨hw, zfu_gt (by omega)⟩)) ?_
  rw [Nat.gcd_comm ways of]
  dsimp only
  by_cases h : part = 0
  · exact qS_pos h (qS_chk (by omega) (qS_ret (by rw [if_pos h]; rfl)))
  · exact qS_neg h (qS_chk (by omega) (qS_ret (by rw [if_neg h]; rfl)))
/-- both numbers scaled: the same terms -/
theorem low_scale {w o t : Nat} (ht : 0 < t) : (t * w) / Nat.gcd (t * o) (t * w) = w / Nat.gcd o w ∧ (t * o) / Nat.gcd (t * o) (t * w) = o / Nat.gcd o w := by
  rw [Nat.gcd_mul_left]
  exact ⟨Nat.mul_div_mul_left _ _ ht, Nat.mul_div_mul_left _ _ ht⟩
end LW
