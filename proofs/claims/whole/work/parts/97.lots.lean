theorem kCi_nat (n k : Nat) : kCi (n : Int) (k : Int) = ((kC n k : Nat) : Int) := by
  unfold kCi
  by_cases h : n < k
  · rw [if_pos (by omega), kC_gt h]; rfl
  · rw [if_neg (by omega)]; rfl
section TB
variable {ch : Nat → Int} {B e : Nat → Nat} {A m a b c : Nat}
theorem kWays_in (hB : B 0 + B 1 + B 2 ≤ 20) : 0 ≤ kWays B a b c ∧ kWays B a b c ≤ 184756 := by
  have := kC3_max hB a b c
  unfold kWays
  omega
theorem kG_in (hh : ∀ lv, lv < 3 → 0 ≤ ch lv ∧ ch lv ≤ 100) (n : Nat → Nat) (hA : A ≤ 3) (hm : m < 4) : 0 ≤ kG ch n A m ∧ kG ch n A m ≤ 1000000 := by
  have h := kG_ok hh n A
  rw [kAn_eq] at h
  exact dOk_le h (by omega) m hm
theorem kTerm3_in (hB : B 0 + B 1 + B 2 ≤ 20) (hh : ∀ lv, lv < 3 → 0 ≤ ch lv ∧ ch lv ≤ 100) (hA : A ≤ 3) (hm : m < 4) : 0 ≤ kTerm3 ch B e A m a b c ∧ kTerm3 ch B e A m a b c ≤ 184756000000 := by
  have h1 := kWays_in (a := a) (b := b) (c := c) hB
  have h2 := kG_in (m := m) hh (nOf (a + e 0) (b + e 1) (c + e 2)) hA hm
  unfold kTerm3
  refine ⟨Int.mul_nonneg h1.1 h2.1, ?_⟩
  have := Int.mul_le_mul h1.2 h2.2 h2.1 (by omega)
  omega
/-- so far -/
def kPs (ch : Nat → Int) (B e : Nat → Nat) (A L m a b : Nat) : Int := zsum a (fun a' => zsum (L + 1 - a') (fun b' => kTerm3 ch B e A m a' b' (L - a' - b'))) + zsum b (fun b' => kTerm3 ch B e A m a b' (L - a - b'))
theorem kPs_in {L : Nat} (hB : B 0 + B 1 + B 2 ≤ 20) (hh : ∀ lv, lv < 3 → 0 ≤ ch lv ∧ ch lv ≤ 100) (hA : A ≤ 3) (hm : m < 4) (hL : L ≤ 10) (ha : a ≤ 11) (hb : b ≤ 11) : 0 ≤ kPs ch B e A L m a b ∧ kPs ch B e A L m a b ≤ 24387792000000 := by
  have t : ∀ x y z, 0 ≤ kTerm3 ch B e A m x y z ∧ kTerm3 ch B e A m x y z ≤ 184756000000 := fun x y z => kTerm3_in hB hh hA hm
  have r : ∀ a', 0 ≤ zsum (L + 1 - a') (fun b' => kTerm3 ch B e A m a' b' (L - a' - b')) ∧ zsum (L + 1 - a') (fun b' => kTerm3 ch B e A m a' b' (L - a' - b')) ≤ 2032316000000 := fun a' => by
    have h1 := zsum_le (n := L + 1 - a') (f := fun b' => kTerm3 ch B e A m a' b' (L - a' - b')) (fun k _ => (t _ _ _).2)
    have h2 := zsum_nn (n := L + 1 - a') (f := fun b' => kTerm3 ch B e A m a' b' (L - a' - b')) (fun k _ => (t _ _ _).1)
    omega
  have h1 := zsum_le (n := a) (f := fun a' => zsum (L + 1 - a') (fun b' => kTerm3 ch B e A m a' b' (L - a' - b'))) (fun k _ => (r k).2)
  have h2 := zsum_nn (n := a) (f := fun a' => zsum (L + 1 - a') (fun b' => kTerm3 ch B e A m a' b' (L - a' - b'))) (fun k _ => (r k).1)
  have h3 := zsum_le (n := b) (f := fun b' => kTerm3 ch B e A m a b' (L - a - b')) (fun k _ => (t _ _ _).2)
  have h4 := zsum_nn (n := b) (f := fun b' => kTerm3 ch B e A m a b' (L - a - b')) (fun k _ => (t _ _ _).1)
  unfold kPs
  omega
theorem kPs_b {L : Nat} : kPs ch B e A L m a (b + 1) = kPs ch B e A L m a b + kTerm3 ch B e A m a b (L - a - b) := by
  unfold kPs
  have : zsum (b + 1) (fun b' => kTerm3 ch B e A m a b' (L - a - b')) = zsum b (fun b' => kTerm3 ch B e A m a b' (L - a - b')) + kTerm3 ch B e A m a b (L - a - b) := rfl
  rw [this]; omega
theorem kPs_a {L : Nat} (h : b = L + 1 - a) : kPs ch B e A L m a b = kPs ch B e A L m (a + 1) 0 := by
  subst h
  unfold kPs
  have : zsum (a + 1) (fun a' => zsum (L + 1 - a') (fun b' => kTerm3 ch B e A m a' b' (L - a' - b'))) = zsum a (fun a' => zsum (L + 1 - a') (fun b' => kTerm3 ch B e A m a' b' (L - a' - b'))) + zsum (L + 1 - a) (fun b' => kTerm3 ch B e A m a b' (L - a - b')) := rfl
  rw [this]
  simp [zsum]
theorem kPs_end {L : Nat} : kPs ch B e A L m (L + 1) 0 = kLots ch B e A L m := by
  unfold kPs kLots kTri
  simp [zsum]
end TB
section LT
variable {F : zFs} {D : zDa}
/-- the four sums grow by one set's -/
theorem rL_123 {P : zDa → Prop} {k3 k12 : Int → zDa → Option zDa} {o1 o2 times o5 o6 ways : Int} {acc g : Nat → Int} (ht : 0 ≤ times ∧ times ≤ 40000) (hw : 0 ≤ ways ∧ ways ≤ 184756) (hg : ∀ m, m < 4 → D 107 m = g m ∧ 0 ≤ g m ∧ g m ≤ 1000000) (hacc : ∀ m, m < 4 → D 108 m = acc m ∧ 0 ≤ acc m ∧ acc m ≤ 5000000000000000000)
    (hn : ∀ D', (∀ m, m < 4 → D' 108 m = acc m + times * (ways * g m)) → zfr [108] D D' → qS (fX12_lots_157 F k3 k12 o1 o2 times o5 o6 D') P) :
    qS (zfix (fun _ _ => none) (fX12_lots_123 F o1 o2 times o5 o6 ways k3 k12) zfu 0 D) P := by
  refine qloop1 (fun v D1 => ∃ j : Nat, v = (j : Int) ∧ j ≤ 4 ∧ (∀ m, m < 4 → D1 108 m = if m < j then acc m + times * (ways * g m) else acc m) ∧ zfr [108] D D1) (fun v _ => (10 - v).toNat) ?_ ⟨0, rfl, by omega, fun m hm => by rw [if_neg (by omega)]; exact (hacc m hm).1, zfr.rfl' _ D⟩ (zfu_gt (by omega))
  intro kk v D1 ⟨j, ev, hj, hr, hf⟩ ih
  subst ev
  unfold fX12_lots_123
  refine qS_ite (fun h4 => ?_) (fun h4 => ?_)
  · have rj := hr j (by omega)
    rw [if_neg (by omega)] at rj
    have gj := hg j (by omega)
    have aj := hacc j (by omega)
    have e107 : D1 107 j = g j := by rw [hf 107 (by decide)]; exact gj.1
    have p1 : 0 ≤ times * ways ∧ times * ways ≤ 7390240000 := ⟨Int.mul_nonneg ht.1 hw.1, by have := Int.mul_le_mul ht.2 hw.2 hw.1 (by omega); omega⟩
    have p2 : 0 ≤ (times * ways) * g j ∧ (times * ways) * g j ≤ 7390240000000000 := ⟨Int.mul_nonneg p1.1 gj.2.1, by have := Int.mul_le_mul p1.2 gj.2.2 gj.2.1 (by omega); omega⟩
    rw [show ((j : Int)).toNat = j by omega, rj, e107]
    refine qS_chk (by omega) (qS_leti (qS_chk (by omega) (ih _ _ ⟨j + 1, by omega, by omega, fun m hm => ?_, hf.wr (by decide)⟩ (by omega))))
    rw [zwr_at]
    by_cases hm2 : m = j
    · rw [if_pos hm2, if_pos (by omega), hm2, Int.mul_assoc]
    · rw [if_neg hm2, hr m hm]
      by_cases h5 : m < j
      · rw [if_pos h5, if_pos (by omega)]
      · rw [if_neg h5, if_neg (by omega)]
  · exact hn D1 (fun m hm => by rw [hr m hm, if_pos (by omega)]) hf
end LT
