/-- so many right or more -/
def kAtl (s : Nat → Int) (k : Nat) : Int := zsum (4 - k) (fun i => s (k + i))
section AL
variable {F : zFs} {D : zDa} {s : Nat → Int}
theorem pX2_atLeast {k : Nat} (hk : k ≤ 4) (hs : ∀ m, m < 4 → D 59 m = s m ∧ 0 ≤ s m ∧ s m ≤ 2000000000000000000) : qS (fX2_atLeast F (k : Int) D) (fun r => r = (kAtl s k, D)) := by
  unfold fX2_atLeast
  refine qloop2 (fun v2 v4 D1 => ∃ j : Nat, v4 = ((k + j : Nat) : Int) ∧ k + j ≤ 4 ∧ v2 = zsum j (fun i => s (k + i)) ∧ (0 ≤ v2 ∧ v2 ≤ (j : Int) * 2000000000000000000) ∧ D1 = D) (fun _ v4 _ => (10 - v4).toNat) ?_ ⟨0, rfl, by omega, rfl, by omega, rfl⟩ (zfu_gt (by omega))
  intro kk v2 v4 D1 ⟨j, e4, hj, e2, hb, eD⟩ ih
  subst e4 eD
  unfold fX2_atLeast_5
  refine qS_ite (fun h => ?_) (fun h => ?_)
  · have : j = 4 - k := by omega
    subst this
    exact qS_ret (by rw [e2]; rfl)
  · have hm := hs (k + j) (by omega)
    have e1 : fX2_just F ((k + j : Nat) : Int) D1 = some (s (k + j), D1) := by
      unfold fX2_just
      rw [if_neg (by omega), if_neg (by omega), if_pos (by omega), show (((k + j : Nat) : Int)).toNat = k + j by omega, hm.1]
    refine qS_step e1 (qS_chk (by omega) (qS_leti (qS_chk (by omega) (ih _ _ _ ⟨j + 1, by omega, by omega, by rw [e2]; rfl, by omega, rfl⟩ (by omega)))))
theorem pX12_passes {K : Nat → Int} {k : Nat} (hK : D 93 = K) (h2 : K 102 = (k : Int)) (hk : k ≤ 4) (hs : ∀ m, m < 4 → D 108 m = s m ∧ 0 ≤ s m ∧ s m ≤ 2000000000000000000) : qS (fX12_passes F D) (fun r => r = (kAtl s k, D)) := by
  unfold fX12_passes
  refine qS_step (pX12_term (k := 2) rfl (by omega)) ?_
  rw [hK, show 100 + 2 = 102 from rfl, h2]
  refine qloop2 (fun v2 v4 D1 => ∃ j : Nat, v4 = ((k + j : Nat) : Int) ∧ k + j ≤ 4 ∧ v2 = zsum j (fun i => s (k + i)) ∧ (0 ≤ v2 ∧ v2 ≤ (j : Int) * 2000000000000000000) ∧ D1 = D) (fun _ v4 _ => (10 - v4).toNat) ?_ ⟨0, rfl, by omega, rfl, by omega, rfl⟩ (zfu_gt (by omega))
  intro kk v2 v4 D1 ⟨j, e4, hj, e2, hb, eD⟩ ih
  subst e4 eD
  unfold fX12_passes_8
  refine qS_ite (fun h => ?_) (fun h => ?_)
  · have hm := hs (k + j) (by omega)
    rw [show (((k + j : Nat) : Int)).toNat = k + j by omega, hm.1]
    refine qS_chk (by omega) (qS_leti (qS_chk (by omega) (ih _ _ _ ⟨j + 1, by omega, by omega, by rw [e2]; rfl, by omega, rfl⟩ (by omega))))
  · have : j = 4 - k := by omega
    subst this
    exact qS_ret (by rw [e2]; rfl)
end AL
