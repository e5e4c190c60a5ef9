theorem kCi_in {n : Nat} (hn : n ≤ 20) (k : Int) : ∃ x : Nat, kCi (n : Int) k = (x : Int) ∧ ((k < 0 ∧ x = 0) ∨ (0 ≤ k ∧ x = kC n k.toNat)) := by
  by_cases h : k < 0
  · exact ⟨0, if_pos (Or.inl h), Or.inl ⟨h, rfl⟩⟩
  · refine ⟨kC n k.toNat, ?_, Or.inr ⟨by omega, rfl⟩⟩
    have := kCi_nat n k.toNat
    rw [show ((k.toNat : Nat) : Int) = k by omega] at this
    exact this
theorem kCi2_in {n n' : Nat} (hn : n + n' ≤ 20) (k k' : Int) : 0 ≤ kCi (n : Int) k * kCi (n' : Int) k' ∧ kCi (n : Int) k * kCi (n' : Int) k' ≤ 184756 := by
  obtain ⟨x, e1, h1⟩ := kCi_in (n := n) (by omega) k
  obtain ⟨y, e2, h2⟩ := kCi_in (n := n') (by omega) k'
  rw [e1, e2, ← Int.natCast_mul]
  rcases h1 with ⟨_, rfl⟩ | ⟨_, rfl⟩
  · simp
  · rcases h2 with ⟨_, rfl⟩ | ⟨_, rfl⟩
    · simp
    · have := Nat.le_trans (kC_mul n n' k.toNat k'.toNat) (kC_max hn _)
      omega
section AS3
variable {F : zFs} {D : zDa}
theorem cLot.fr {D D' : zDa} (h : cLot D) (he : D' 53 = D 53) : cLot D' := by unfold cLot; rw [he]; exact h
theorem pX2_addSets_33 {ch : Nat → Int} {B : Nat → Nat} {f0 f1 f2 lying A : Nat} {times : Int} {acc : Nat → Int} (hG : zG F) (hc : cCh D ch) (hLt : cLot D) (h56 : ∀ lv, lv < 3 → D 56 lv = (B lv : Int)) (hB : B 0 + B 1 + B 2 ≤ 20) (hf : f0 ≤ B 0 ∧ f1 ≤ B 1 ∧ f2 ≤ B 2) (hf1 : f0 + f1 + f2 ≤ 1) (hl : lying ≤ 10) (hA : A ≤ 3) (ht : 0 ≤ times ∧ times ≤ 40000) (hacc : ∀ m, m < 4 → D 59 m = acc m ∧ 0 ≤ acc m ∧ acc m ≤ 4000000000000000000) :
    qS (fX2_addSets_33 F (lying : Int) (A : Int) times (f0 : Int) (f1 : Int) (f2 : Int) D) (fun D' => (∀ m, m < 4 → D' 59 m = acc m + times * kPc ch B f0 f1 f2 lying A m (lying + 1 - f1) 0) ∧ zfr [58, 59] D D') := by
  have hh : ∀ lv, lv < 3 → 0 ≤ ch lv ∧ ch lv ≤ 100 := fun lv h => (hc.1 lv h).2
  unfold fX2_addSets_33
  refine qloop1 (fun v D1 => ∃ i : Nat, v = ((f1 + i : Nat) : Int) ∧ f1 + i ≤ lying + 1 ∧ (∀ m, m < 4 → D1 59 m = acc m + times * kPc ch B f0 f1 f2 lying A m i 0) ∧ zfr [58, 59] D D1) (fun v _ => (100 - v).toNat) ?_ ⟨0, rfl, by omega, fun m hm => by rw [(hacc m hm).1]; simp [kPc, zsum], zfr.rfl' _ D⟩ (zfu_gt (by omega))
  intro k39 v D1 ⟨i, ev, hi, hr1, hfr1⟩ ih1
  subst ev
  unfold fX2_addSets_39
  refine qS_ite (fun hend => ?_) (fun hend => ?_)
  · have : i = lying + 1 - f1 := by omega
    subst this
    exact qS_ret ⟨hr1, hfr1⟩
  refine qloop1 (fun v D2 => ∃ j : Nat, v = ((f2 + j : Nat) : Int) ∧ j ≤ lying + 1 - (f1 + i) - f2 ∧ (∀ m, m < 4 → D2 59 m = acc m + times * kPc ch B f0 f1 f2 lying A m i j) ∧ zfr [58, 59] D D2) (fun v _ => (100 - v).toNat) ?_ ⟨0, rfl, by omega, hr1, hfr1⟩ (zfu_gt (by omega))
  intro k49 v D2 ⟨j, ev, hj, hr2, hfr2⟩ ih2
  subst ev
  unfold fX2_addSets_49
  refine qS_chk (by omega) (qS_ite (fun hov => ?_) (fun hov => ?_))
  · refine qS_chk (by omega) (ih1 _ _ ⟨i + 1, by omega, by omega, fun m hm => ?_, hfr2⟩ (by omega))
    rw [hr2 m hm, kPc_i (by omega)]
  · refine qS_chk (by omega) (qS_leti ?_)
    have e56 : D2 56 = D 56 := hfr2 56 (by decide)
    have hLt2 : cLot D2 := hLt.fr (hfr2 53 (by decide))
    have x11 : ((lying : Int) - ((f1 + i : Nat) : Int)) - ((f2 + j : Nat) : Int) = ((lying - (f1 + i) - (f2 + j) : Nat) : Int) := by omega
    rw [x11, e56, h56 0 (by omega)]
    refine qS_chk (by omega) (qS_call (pX2_sets hLt2 (by omega)) ?_)
    intro r hr
    subst hr
    dsimp only
    rw [e56, h56 1 (by omega)]
    refine qS_chk (by omega) (qS_call (pX2_sets hLt2 (by omega)) ?_)
    intro r hr
    subst hr
    dsimp only
    have w12 := kCi2_in (n := B 0 - f0) (n' := B 1 - f1) (by omega) (((lying - (f1 + i) - (f2 + j) : Nat) : Int) - (f0 : Int)) (((f1 + i : Nat) : Int) - (f1 : Int))
    rw [show ((B 0 - f0 : Nat) : Int) = (B 0 : Int) - (f0 : Int) by omega, show ((B 1 - f1 : Nat) : Int) = (B 1 : Int) - (f1 : Int) by omega] at w12
    refine qS_chk (by rw [e56, h56 2 (by omega)]; omega) ?_
    rw [e56, h56 2 (by omega)]
    refine qS_call (pX2_sets hLt2 (by omega)) ?_
    intro r hr
    subst hr
    dsimp only
    have ew : kCi ((B 0 : Int) - (f0 : Int)) (((lying - (f1 + i) - (f2 + j) : Nat) : Int) - (f0 : Int)) * kCi ((B 1 : Int) - (f1 : Int)) (((f1 + i : Nat) : Int) - (f1 : Int)) * kCi ((B 2 : Int) - (f2 : Int)) (((f2 + j : Nat) : Int) - (f2 : Int)) = kWc B f0 f1 f2 lying (f1 + i) (f2 + j) := rfl
    rw [ew]
    have wb := kWc_in (lying := lying) (one := f1 + i) (two := f2 + j) hB hf (by omega) (by omega)
    refine qS_chk (by omega) (qS_leti ?_)
    have nxt : ∀ D3 : zDa, (∀ m, m < 4 → D3 59 m = acc m + times * kPc ch B f0 f1 f2 lying A m i (j + 1)) → zfr [58, 59] D D3 → qS (fX2_addSets_181 F k39 k49 (lying : Int) (A : Int) times (f0 : Int) (f1 : Int) (f2 : Int) ((f1 + i : Nat) : Int) ((f2 + j : Nat) : Int) D3) (fun D' => (∀ m, m < 4 → D' 59 m = acc m + times * kPc ch B f0 f1 f2 lying A m (lying + 1 - f1) 0) ∧ zfr [58, 59] D D') := by
      intro D3 h3 f3
      unfold fX2_addSets_181
      exact qS_chk (by omega) (ih2 _ _ ⟨j + 1, by omega, by omega, h3, f3⟩ (by omega))
    refine qS_ite (fun h0 => ?_) (fun h0 => ?_)
    · refine qS_call (pX2_answer (ch := ch) hG (hc.fr (hfr2 54 (by decide)) (hfr2 55 (by decide))) (by omega) hA) ?_
      intro D7 ⟨g7, f7⟩
      rw [show lying - (f1 + i) - (f2 + j) + (f1 + i) + (f2 + j) = lying by omega] at g7
      refine cL_146 (acc := fun m => acc m + times * kPc ch B f0 f1 f2 lying A m i j) (g := fun m => kG ch (nOf (lying - (f1 + i) - (f2 + j)) (f1 + i) (f2 + j)) A m * 100 ^ (3 - min lying A)) ht wb (fun m hm => ⟨g7 m hm, kGs_in hh hA hm (by omega)⟩) (fun m hm => ?_) (fun D8 h8 f8 => ?_)
      · have b1 := kPc_in (i := i) (j := j) (m := m) (lying := lying) hB hf hh hA hm hl (by omega) (by omega) (by omega)
        have b2 := hacc m hm
        have b3 : 0 ≤ times * kPc ch B f0 f1 f2 lying A m i j ∧ times * kPc ch B f0 f1 f2 lying A m i j ≤ 975511680000000000 := ⟨Int.mul_nonneg ht.1 b1.1, by have := Int.mul_le_mul ht.2 b1.2 b1.1 (by omega); omega⟩
        refine ⟨?_, by omega, by omega⟩
        rw [f7 59 (by decide)]; exact hr2 m hm
      · refine nxt D8 (fun m hm => ?_) (hfr2.trans ((f7.mono (by decide)).trans (f8.mono (by decide))))
        rw [h8 m hm, kPc_j, Int.mul_add]
        unfold kTc
        omega
    · refine nxt D2 (fun m hm => ?_) hfr2
      have w0 : kWc B f0 f1 f2 lying (f1 + i) (f2 + j) = 0 := by omega
      rw [hr2 m hm, kPc_j]
      unfold kTc
      rw [w0, Int.zero_mul, Int.add_zero]
end AS3
