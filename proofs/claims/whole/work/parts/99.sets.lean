section AS
variable {ch : Nat → Int} {B : Nat → Nat} {f0 f1 f2 lying A m : Nat}
/-- ways of the class at (one, two), with one of a level there already -/
def kWc (B : Nat → Nat) (f0 f1 f2 lying one two : Nat) : Int := kCi ((B 0 : Int) - (f0 : Int)) (((lying - one - two : Nat) : Int) - (f0 : Int)) * kCi ((B 1 : Int) - (f1 : Int)) ((one : Int) - (f1 : Int)) * kCi ((B 2 : Int) - (f2 : Int)) ((two : Int) - (f2 : Int))
def kTc (ch : Nat → Int) (B : Nat → Nat) (f0 f1 f2 lying A m one two : Nat) : Int := kWc B f0 f1 f2 lying one two * (kG ch (nOf (lying - one - two) one two) A m * 100 ^ (3 - min lying A))
theorem kWc_in (hB : B 0 + B 1 + B 2 ≤ 20) (hf : f0 ≤ B 0 ∧ f1 ≤ B 1 ∧ f2 ≤ B 2) {one two : Nat} (h1 : f1 ≤ one) (h2 : f2 ≤ two) : 0 ≤ kWc B f0 f1 f2 lying one two ∧ kWc B f0 f1 f2 lying one two ≤ 184756 := by
  unfold kWc
  rw [show (B 1 : Int) - (f1 : Int) = ((B 1 - f1 : Nat) : Int) by omega, show (one : Int) - (f1 : Int) = ((one - f1 : Nat) : Int) by omega, show (B 2 : Int) - (f2 : Int) = ((B 2 - f2 : Nat) : Int) by omega, show (two : Int) - (f2 : Int) = ((two - f2 : Nat) : Int) by omega, show (B 0 : Int) - (f0 : Int) = ((B 0 - f0 : Nat) : Int) by omega, kCi_nat, kCi_nat]
  by_cases h0 : lying - one - two < f0
  · have : kCi ((B 0 - f0 : Nat) : Int) (((lying - one - two : Nat) : Int) - (f0 : Int)) = 0 := if_pos (Or.inl (by omega))
    rw [this, Int.zero_mul, Int.zero_mul]; omega
  · rw [show ((lying - one - two : Nat) : Int) - (f0 : Int) = ((lying - one - two - f0 : Nat) : Int) by omega, kCi_nat, ← Int.natCast_mul, ← Int.natCast_mul]
    have := kC3_max (a := B 0 - f0) (b := B 1 - f1) (c := B 2 - f2) (by omega) (lying - one - two - f0) (one - f1) (two - f2)
    omega
theorem dOk_sc3 {k : Nat} {d : Nat → Int} (hd : dOk k d) (hk : k ≤ 3) (hm : m < 4) : 0 ≤ d m * 100 ^ (3 - k) ∧ d m * 100 ^ (3 - k) ≤ 1000000 := by
  obtain ⟨⟨a0, a1, a2, a3⟩, hs⟩ := hd
  have h : 0 ≤ d m ∧ d m ≤ 100 ^ k := by
    rcases (by omega : m = 0 ∨ m = 1 ∨ m = 2 ∨ m = 3) with rfl | rfl | rfl | rfl <;> omega
  rcases (by omega : k = 0 ∨ k = 1 ∨ k = 2 ∨ k = 3) with rfl | rfl | rfl | rfl
  · simp at h ⊢; omega
  · simp at h ⊢; omega
  · simp at h ⊢; omega
  · simp at h ⊢; omega
theorem kGs_in (hh : ∀ lv, lv < 3 → 0 ≤ ch lv ∧ ch lv ≤ 100) {x y z : Nat} (hA : A ≤ 3) (hm : m < 4) (he : x + y + z = lying) : 0 ≤ kG ch (nOf x y z) A m * 100 ^ (3 - min lying A) ∧ kG ch (nOf x y z) A m * 100 ^ (3 - min lying A) ≤ 1000000 := by
  have h := kG_ok hh (nOf x y z) A
  rw [kAn_eq, show nOf x y z 0 + nOf x y z 1 + nOf x y z 2 = lying from he] at h
  exact dOk_sc3 h (by omega) hm
/-- so far -/
def kPc (ch : Nat → Int) (B : Nat → Nat) (f0 f1 f2 lying A m i j : Nat) : Int := zsum i (fun i' => zsum (lying + 1 - (f1 + i') - f2) (fun j' => kTc ch B f0 f1 f2 lying A m (f1 + i') (f2 + j'))) + zsum j (fun j' => kTc ch B f0 f1 f2 lying A m (f1 + i) (f2 + j'))
theorem kTc_in (hB : B 0 + B 1 + B 2 ≤ 20) (hf : f0 ≤ B 0 ∧ f1 ≤ B 1 ∧ f2 ≤ B 2) (hh : ∀ lv, lv < 3 → 0 ≤ ch lv ∧ ch lv ≤ 100) (hA : A ≤ 3) (hm : m < 4) {one two : Nat} (h1 : f1 ≤ one) (h2 : f2 ≤ two) (h3 : one + two ≤ lying) : 0 ≤ kTc ch B f0 f1 f2 lying A m one two ∧ kTc ch B f0 f1 f2 lying A m one two ≤ 184756000000 := by
  have w := kWc_in (lying := lying) hB hf h1 h2
  have g := kGs_in (lying := lying) (x := lying - one - two) (y := one) (z := two) (m := m) hh hA hm (by omega)
  unfold kTc
  refine ⟨Int.mul_nonneg w.1 g.1, ?_⟩
  have := Int.mul_le_mul w.2 g.2 g.1 (by omega)
  omega
theorem kPc_in {i j : Nat} (hB : B 0 + B 1 + B 2 ≤ 20) (hf : f0 ≤ B 0 ∧ f1 ≤ B 1 ∧ f2 ≤ B 2) (hh : ∀ lv, lv < 3 → 0 ≤ ch lv ∧ ch lv ≤ 100) (hA : A ≤ 3) (hm : m < 4) (hl : lying ≤ 10) (hi : i ≤ 11) (hi2 : i + f1 ≤ lying + 1) (hj : f1 + i + f2 + j ≤ lying + 1 ∨ j = 0) : 0 ≤ kPc ch B f0 f1 f2 lying A m i j ∧ kPc ch B f0 f1 f2 lying A m i j ≤ 24387792000000 := by
  have r : ∀ a', a' < i → 0 ≤ zsum (lying + 1 - (f1 + a') - f2) (fun j' => kTc ch B f0 f1 f2 lying A m (f1 + a') (f2 + j')) ∧ zsum (lying + 1 - (f1 + a') - f2) (fun j' => kTc ch B f0 f1 f2 lying A m (f1 + a') (f2 + j')) ≤ 2032316000000 := fun a' ha => by
    have h1 := zsum_le (n := lying + 1 - (f1 + a') - f2) (f := fun j' => kTc ch B f0 f1 f2 lying A m (f1 + a') (f2 + j')) (fun k hk => (kTc_in hB hf hh hA hm (by omega) (by omega) (by omega)).2)
    have h2 := zsum_nn (n := lying + 1 - (f1 + a') - f2) (f := fun j' => kTc ch B f0 f1 f2 lying A m (f1 + a') (f2 + j')) (fun k hk => (kTc_in hB hf hh hA hm (by omega) (by omega) (by omega)).1)
    omega
  have h1 := zsum_le (n := i) (f := fun i' => zsum (lying + 1 - (f1 + i') - f2) (fun j' => kTc ch B f0 f1 f2 lying A m (f1 + i') (f2 + j'))) (fun k hk => (r k hk).2)
  have h2 := zsum_nn (n := i) (f := fun i' => zsum (lying + 1 - (f1 + i') - f2) (fun j' => kTc ch B f0 f1 f2 lying A m (f1 + i') (f2 + j'))) (fun k hk => (r k hk).1)
  have h3 := zsum_le (n := j) (f := fun j' => kTc ch B f0 f1 f2 lying A m (f1 + i) (f2 + j')) (fun k hk => (kTc_in hB hf hh hA hm (by omega) (by omega) (by omega)).2)
  have h4 := zsum_nn (n := j) (f := fun j' => kTc ch B f0 f1 f2 lying A m (f1 + i) (f2 + j')) (fun k hk => (kTc_in hB hf hh hA hm (by omega) (by omega) (by omega)).1)
  unfold kPc
  omega
theorem kPc_j {i j : Nat} : kPc ch B f0 f1 f2 lying A m i (j + 1) = kPc ch B f0 f1 f2 lying A m i j + kTc ch B f0 f1 f2 lying A m (f1 + i) (f2 + j) := by
  unfold kPc
  have : zsum (j + 1) (fun j' => kTc ch B f0 f1 f2 lying A m (f1 + i) (f2 + j')) = zsum j (fun j' => kTc ch B f0 f1 f2 lying A m (f1 + i) (f2 + j')) + kTc ch B f0 f1 f2 lying A m (f1 + i) (f2 + j) := rfl
  rw [this]; omega
theorem kPc_i {i j : Nat} (h : j = lying + 1 - (f1 + i) - f2) : kPc ch B f0 f1 f2 lying A m i j = kPc ch B f0 f1 f2 lying A m (i + 1) 0 := by
  subst h
  unfold kPc
  have : zsum (i + 1) (fun i' => zsum (lying + 1 - (f1 + i') - f2) (fun j' => kTc ch B f0 f1 f2 lying A m (f1 + i') (f2 + j'))) = zsum i (fun i' => zsum (lying + 1 - (f1 + i') - f2) (fun j' => kTc ch B f0 f1 f2 lying A m (f1 + i') (f2 + j'))) + zsum (lying + 1 - (f1 + i) - f2) (fun j' => kTc ch B f0 f1 f2 lying A m (f1 + i) (f2 + j')) := rfl
  rw [this]
  simp [zsum]
end AS
section AS2
variable {F : zFs} {D : zDa}
theorem cL_146 {P : zDa → Prop} {k39 k49 : Int → zDa → Option zDa} {o1 o2 times o6 o7 o8 o9 o10 ways : Int} {acc g : Nat → Int} (ht : 0 ≤ times ∧ times ≤ 40000) (hw : 0 ≤ ways ∧ ways ≤ 184756) (hg : ∀ m, m < 4 → D 58 m = g m ∧ 0 ≤ g m ∧ g m ≤ 1000000) (hacc : ∀ m, m < 4 → D 59 m = acc m ∧ 0 ≤ acc m ∧ acc m ≤ 5000000000000000000)
    (hn : ∀ D', (∀ m, m < 4 → D' 59 m = acc m + times * (ways * g m)) → zfr [59] D D' → qS (fX2_addSets_181 F k39 k49 o1 o2 times o6 o7 o8 o9 o10 D') P) :
    qS (zfix (fun _ _ => none) (fX2_addSets_146 F o1 o2 times o6 o7 o8 o9 o10 ways k39 k49) zfu 0 D) P := by
  refine qloop1 (fun v D1 => ∃ j : Nat, v = (j : Int) ∧ j ≤ 4 ∧ (∀ m, m < 4 → D1 59 m = if m < j then acc m + times * (ways * g m) else acc m) ∧ zfr [59] D D1) (fun v _ => (10 - v).toNat) ?_ ⟨0, rfl, by omega, fun m hm => by rw [if_neg (by omega)]; exact (hacc m hm).1, zfr.rfl' _ D⟩ (zfu_gt (by omega))
  intro kk v D1 ⟨j, ev, hj, hr, hf⟩ ih
  subst ev
  unfold fX2_addSets_146
  refine qS_ite (fun h4 => ?_) (fun h4 => ?_)
  · exact hn D1 (fun m hm => by rw [hr m hm, if_pos (by omega)]) hf
  · have rj := hr j (by omega)
    rw [if_neg (by omega)] at rj
    have gj := hg j (by omega)
    have aj := hacc j (by omega)
    have e58 : D1 58 j = g j := by rw [hf 58 (by decide)]; exact gj.1
    have p1 : 0 ≤ times * ways ∧ times * ways ≤ 7390240000 := ⟨Int.mul_nonneg ht.1 hw.1, by have := Int.mul_le_mul ht.2 hw.2 hw.1 (by omega); omega⟩
    have p2 : 0 ≤ (times * ways) * g j ∧ (times * ways) * g j ≤ 7390240000000000 := ⟨Int.mul_nonneg p1.1 gj.2.1, by have := Int.mul_le_mul p1.2 gj.2.2 gj.2.1 (by omega); omega⟩
    rw [show ((j : Int)).toNat = j by omega, rj, e58]
    refine qS_chk (by omega) (qS_leti (qS_chk (by omega) (ih _ _ ⟨j + 1, by omega, by omega, fun m hm => ?_, hf.wr (by decide)⟩ (by omega))))
    rw [zwr_at]
    by_cases hm2 : m = j
    · rw [if_pos hm2, if_pos (by omega), hm2, Int.mul_assoc]
    · rw [if_neg hm2, hr m hm]
      by_cases h5 : m < j
      · rw [if_pos h5, if_pos (by omega)]
      · rw [if_neg h5, if_neg (by omega)]
end AS2
