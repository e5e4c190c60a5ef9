/-! ===== pass, right, mean, sure, safe, worth ===== -/
def oPass (K : Nat → Int) (part : Int) : Int := kFrac (kAtl (kSk K (-1) 0) (K 102).toNat).toNat (kOk' K (-1) 0) part
def oRight (K : Nat → Int) (many part : Int) : Int := if 0 ≤ many ∧ many ≤ 3 then kFrac (kSk K (-1) 0 many.toNat).toNat (kOk' K (-1) 0) part else -1
def oMean (K : Nat → Int) (part : Int) : Int := kFrac (kSk K (-1) 0 1 + 2 * kSk K (-1) 0 2 + 3 * kSk K (-1) 0 3).toNat (kOk' K (-1) 0) part
def oSure (K : Nat → Int) (many part : Int) : Int := if 0 ≤ many ∧ many ≤ kBowl K then kFrac (kAtl (kSu K 0 many.toNat) (K 102).toNat).toNat (kSuO K 0 many.toNat) part else -1
def kSafeN (K : Nat → Int) (n m : Nat) : Int := match n with
  | 0 => -1
  | n + 1 => if (kAtl (kSu K 0 m) (K 102).toNat).toNat = kSuO K 0 m then (m : Int) else kSafeN K n (m + 1)
def oSafe (K : Nat → Int) : Int := kSafeN K ((kBowl K).toNat + 1) 0
def oWorth (K : Nat → Int) (q : Int) : Int :=
  if 0 ≤ q ∧ q < K 390 then (if K (5 * q.toNat + 4) = 0 then kMil (kAtl (kSk K q 2) (K 102).toNat).toNat (kOk' K q 2) - kMil (kAtl (kSk K q 0) (K 102).toNat).toNat (kOk' K q 0) else 0) else -10000000
theorem kFrac_bad {w o : Nat} {part : Int} (h : ¬ (0 ≤ part ∧ part ≤ 1)) : kFrac w o part = -1 := by unfold kFrac; rw [if_neg (by omega), if_neg (by omega)]
theorem kMil_in {w o : Nat} (h : w ≤ o) : 0 ≤ kMil w o ∧ kMil w o ≤ 1000000 := by
  unfold kMil
  have : w * 1000000 / o ≤ 1000000 := Nat.div_le_of_le_mul (by rw [Nat.mul_comm o]; rw [Nat.mul_comm w]; exact Nat.mul_le_mul_left _ h)
  generalize w * 1000000 / o = x at *
  omega
section QS
variable {F : zFs} {D : zDa} {Z : Nat → Prop} {K : Nat → Int}
theorem wanted (h : qSt F D Z 1 K) : D 7 2 = (((K 102).toNat : Nat) : Int) ∧ (K 102).toNat ≤ 3 := by
  have ht := kTerms h.1
  have t := h.2.2.2.1 2 (by omega)
  exact ⟨by rw [show D 7 2 = K 102 from t]; omega, by omega⟩
theorem pc_pass (h : qSt F D Z 1 K) (hG : zG F) (hZ : ∀ a, Z a → 126 ≤ a) (hLt : cLot D) (part : Int) : qS (fX11_pass F part D) (fun r => r.1 = oPass K part ∧ zfr [49, 50, 51, 52, 54, 55, 56, 57, 58, 59] D r.2) := by
  unfold fX11_pass
  refine qS_call (pX11_spreadKnown h hG hZ hLt (Or.inl rfl)) (fun D1 ⟨o1, f1⟩ => ?_)
  have ok := odOk_known h.1 (-1) 0
  have hw := wanted (h.zfr hZ f1 (by decide))
  rw [hw.1]
  obtain ⟨t, t0, e1, e2, e3, e4⟩ := odC_atl (F := F) (k := (K 102).toNat) o1 ok hw.2
  refine qS_step e1 ?_
  refine qS_call (pX2_fraction (part := part) t0 ok.2.2.1 e2 (by omega)) (fun r hr => ?_)
  subst hr
  exact qS_ret ⟨rfl, f1⟩
theorem pr_pass (hK : D 93 = K) (hk : kOk K) (hP : kPOk K) (part : Int) : qS (fX12_pass F part D) (fun r => r.1 = oPass K part ∧ zfm [102, 103, 104, 105, 106, 107, 108] [18, 19, 20, 28, 29, 30] D r.2) := by
  unfold fX12_pass
  by_cases hp : 0 ≤ part ∧ part ≤ 1
  · refine qS_step (lies_t hp) (qS_neg (by omega) ?_)
    refine qS_call (pX12_known hK hk hP (Or.inl rfl)) (fun D1 ⟨o1, f1⟩ => ?_)
    have ok := odOk_known hk (-1) 0
    refine qS_step (odR_atl (by rw [f1.1 93 (by decide) (by decide)]; exact hK) hk o1 ok) ?_
    dsimp only
    rw [o1.2]
    refine qS_call (pX12_frac ok.2.2.1 (by have := ok.2.2.2; omega) (by omega)) (fun r hr => ?_)
    subst hr
    exact qS_ret ⟨rfl, f1⟩
  · refine qS_step (lies_f hp) (qS_pos rfl (qS_ret ⟨?_, zfm.rfl' _ _ D⟩))
    unfold oPass; rw [kFrac_bad hp]
theorem pc_right (h : qSt F D Z 1 K) (hG : zG F) (hZ : ∀ a, Z a → 126 ≤ a) (hLt : cLot D) (many part : Int) : qS (fX11_right F many part D) (fun r => r.1 = oRight K many part ∧ zfr [49, 50, 51, 52, 54, 55, 56, 57, 58, 59] D r.2) := by
  unfold fX11_right oRight
  by_cases hm : 0 ≤ many ∧ many ≤ 3
  · rw [if_pos hm]
    refine qS_neg (by omega) (qS_neg (by omega) ?_)
    refine qS_call (pX11_spreadKnown h hG hZ hLt (Or.inl rfl)) (fun D1 ⟨o1, f1⟩ => ?_)
    have ok := odOk_known h.1 (-1) 0
    obtain ⟨t, t0, e1, e2, e3⟩ := o1
    have e5 := e1 many.toNat (by omega)
    have e6 := odOk_le (m := many.toNat) ok (by omega)
    have ej : fX2_just F many D1 = some ((t : Int) * (((kSk K (-1) 0 many.toNat).toNat : Nat) : Int), D1) := by
      unfold fX2_just
      rw [if_neg (by omega), if_neg (by omega), if_pos (by omega), e5, show (((kSk K (-1) 0 many.toNat).toNat : Nat) : Int) = kSk K (-1) 0 many.toNat by omega]
    refine qS_step ej ?_
    have hb : t * (kSk K (-1) 0 many.toNat).toNat ≤ t * kOk' K (-1) 0 := Nat.mul_le_mul_left _ (by omega)
    refine qS_call (pX2_fraction (part := part) t0 ok.2.2.1 e2 (by omega)) (fun r hr => ?_)
    subst hr
    exact qS_ret ⟨rfl, f1⟩
  · rw [if_neg hm]
    by_cases h1 : many < 0
    · exact qS_pos h1 (qS_ret ⟨rfl, zfr.rfl' _ D⟩)
    · exact qS_neg h1 (qS_pos (by omega) (qS_ret ⟨rfl, zfr.rfl' _ D⟩))
theorem pr_right (hK : D 93 = K) (hk : kOk K) (hP : kPOk K) (many part : Int) : qS (fX12_right F many part D) (fun r => r.1 = oRight K many part ∧ zfm [102, 103, 104, 105, 106, 107, 108] [18, 19, 20, 28, 29, 30] D r.2) := by
  unfold fX12_right oRight
  by_cases hm : 0 ≤ many ∧ many ≤ 3
  · rw [if_pos hm]
    refine qS_step (lies_t hm) (qS_neg (by omega) ?_)
    by_cases hp : 0 ≤ part ∧ part ≤ 1
    · refine qS_step (lies_t hp) (qS_neg (by omega) ?_)
      refine qS_call (pX12_known hK hk hP (Or.inl rfl)) (fun D1 ⟨o1, f1⟩ => ?_)
      have ok := odOk_known hk (-1) 0
      have e6 := odOk_le (m := many.toNat) ok (by omega)
      refine qS_chk (by omega) ?_
      rw [o1.2, o1.1 many.toNat (by omega), show kSk K (-1) 0 many.toNat = (((kSk K (-1) 0 many.toNat).toNat : Nat) : Int) by omega]
      refine qS_call (pX12_frac ok.2.2.1 (by have := ok.2.2.2; omega) (by omega)) (fun r hr => ?_)
      subst hr
      exact qS_ret ⟨rfl, f1⟩
    · refine qS_step (lies_f hp) (qS_pos rfl (qS_ret ⟨?_, zfm.rfl' _ _ D⟩))
      rw [kFrac_bad hp]
  · rw [if_neg hm]
    exact qS_step (lies_f hm) (qS_pos rfl (qS_ret ⟨rfl, zfm.rfl' _ _ D⟩))
theorem pc_mean (h : qSt F D Z 1 K) (hG : zG F) (hZ : ∀ a, Z a → 126 ≤ a) (hLt : cLot D) (part : Int) : qS (fX11_mean F part D) (fun r => r.1 = oMean K part ∧ zfr [49, 50, 51, 52, 54, 55, 56, 57, 58, 59] D r.2) := by
  unfold fX11_mean oMean
  refine qS_call (pX11_spreadKnown h hG hZ hLt (Or.inl rfl)) (fun D1 ⟨o1, f1⟩ => ?_)
  have ok := odOk_known h.1 (-1) 0
  obtain ⟨t, t0, e1, e2, e3⟩ := o1
  have j : ∀ m : Nat, m < 4 → fX2_just F (m : Int) D1 = some ((t : Int) * kSk K (-1) 0 m, D1) := fun m hm => by
    unfold fX2_just
    rw [if_neg (by omega), if_neg (by omega), if_pos (by omega), show ((m : Int)).toNat = m by omega, e1 m hm]
  have a1 := odOk_le (m := 1) ok (by omega)
  have a2 := odOk_le (m := 2) ok (by omega)
  have a3 := odOk_le (m := 3) ok (by omega)
  have b1 := sc_le (t := t) a1 e3
  have b2 := sc_le (t := t) a2 e3
  have b3 := sc_le (t := t) a3 e3
  refine qS_step (j 1 (by omega)) (qS_step (j 2 (by omega)) (qS_chk (by omega) (qS_step (j 3 (by omega)) (qS_chk (by omega) ?_))))
  have e : (t : Int) * kSk K (-1) 0 1 + 2 * ((t : Int) * kSk K (-1) 0 2) + 3 * ((t : Int) * kSk K (-1) 0 3) = (t : Int) * (((kSk K (-1) 0 1 + 2 * kSk K (-1) 0 2 + 3 * kSk K (-1) 0 3).toNat : Nat) : Int) := by
    rw [show (((kSk K (-1) 0 1 + 2 * kSk K (-1) 0 2 + 3 * kSk K (-1) 0 3).toNat : Nat) : Int) = kSk K (-1) 0 1 + 2 * kSk K (-1) 0 2 + 3 * kSk K (-1) 0 3 by omega, Int.mul_add, Int.mul_add, Int.mul_left_comm (t : Int) 2, Int.mul_left_comm (t : Int) 3]
  have hb : ((t * (kSk K (-1) 0 1 + 2 * kSk K (-1) 0 2 + 3 * kSk K (-1) 0 3).toNat : Nat) : Int) ≤ 30000000000000000 := by rw [Int.natCast_mul, ← e]; omega
  dsimp only
  rw [e]
  refine qS_call (pX2_fraction (part := part) t0 ok.2.2.1 e2 (by omega)) (fun r hr => ?_)
  subst hr
  exact qS_ret ⟨rfl, f1⟩
theorem pr_mean (hK : D 93 = K) (hk : kOk K) (hP : kPOk K) (part : Int) : qS (fX12_mean F part D) (fun r => r.1 = oMean K part ∧ zfm [102, 103, 104, 105, 106, 107, 108] [18, 19, 20, 28, 29, 30] D r.2) := by
  unfold fX12_mean oMean
  by_cases hp : 0 ≤ part ∧ part ≤ 1
  · refine qS_step (lies_t hp) (qS_neg (by omega) ?_)
    refine qS_call (pX12_known hK hk hP (Or.inl rfl)) (fun D1 ⟨o1, f1⟩ => ?_)
    have ok := odOk_known hk (-1) 0
    have a0 := ok.2.2.2
    have a1 := odOk_le (m := 1) ok (by omega)
    have a2 := odOk_le (m := 2) ok (by omega)
    have a3 := odOk_le (m := 3) ok (by omega)
    rw [o1.1 1 (by omega), o1.1 2 (by omega), o1.1 3 (by omega), o1.2]
    refine qS_chk (by omega) ?_
    rw [show kSk K (-1) 0 1 + 2 * kSk K (-1) 0 2 + 3 * kSk K (-1) 0 3 = (((kSk K (-1) 0 1 + 2 * kSk K (-1) 0 2 + 3 * kSk K (-1) 0 3).toNat : Nat) : Int) by omega]
    refine qS_call (pX12_frac ok.2.2.1 (by omega) (by omega)) (fun r hr => ?_)
    subst hr
    exact qS_ret ⟨rfl, f1⟩
  · refine qS_step (lies_f hp) (qS_pos rfl (qS_ret ⟨?_, zfm.rfl' _ _ D⟩))
    rw [kFrac_bad hp]
theorem pc_sure (h : qSt F D Z 1 K) (hG : zG F) (hZ : ∀ a, Z a → 126 ≤ a) (hLt : cLot D) (many part : Int) : qS (fX11_sure F many part D) (fun r => r.1 = oSure K many part ∧ zfr [49, 50, 51, 52, 54, 55, 56, 57, 58, 59] D r.2) := by
  unfold fX11_sure oSure
  by_cases h0 : many < 0
  · rw [if_neg (c := 0 ≤ many ∧ many ≤ kBowl K) (by omega)]
    exact qS_pos h0 (qS_ret ⟨rfl, zfr.rfl' _ D⟩)
  refine qS_neg h0 (qS_call (pX9_bowlSize h) (fun r hr => ?_))
  subst hr
  dsimp only
  by_cases h1 : kBowl K < many
  · rw [if_neg (c := 0 ≤ many ∧ many ≤ kBowl K) (by omega)]
    exact qS_pos h1 (qS_ret ⟨rfl, zfr.rfl' _ D⟩)
  rw [if_pos (c := 0 ≤ many ∧ many ≤ kBowl K) (by omega)]
  refine qS_neg h1 ?_
  obtain ⟨w, rfl⟩ : ∃ w : Nat, many = (w : Int) := ⟨many.toNat, by omega⟩
  refine qS_call (pX2_setChances h hG hZ) (fun D1 ⟨c1, f1⟩ => ?_)
  refine qS_call (pX11_spreadSure (h.zfr hZ f1 (by decide)) hG hZ (hLt.fr (f1 53 (by decide))) c1 (w := w) (by omega)) (fun D2 ⟨o2, f2⟩ => ?_)
  have f12 : zfr [49, 50, 51, 52, 54, 55, 56, 57, 58, 59] D D2 := (f1.mono (by decide)).trans (f2.mono (by decide))
  have ok := odOk_su h.1 (half := 0) (well := w) (by omega)
  have hw := wanted (h.zfr hZ f12 (by decide))
  rw [hw.1]
  obtain ⟨t, t0, e1, e2, e3, e4⟩ := odC_atl (F := F) (k := (K 102).toNat) o2 ok hw.2
  refine qS_step e1 ?_
  refine qS_call (pX2_fraction (part := part) t0 ok.2.2.1 e2 (by omega)) (fun r hr => ?_)
  subst hr
  exact qS_ret ⟨by rw [show ((w : Int)).toNat = w by omega], f12⟩
theorem pr_sure (hK : D 93 = K) (hk : kOk K) (hP : kPOk K) (many part : Int) : qS (fX12_sure F many part D) (fun r => r.1 = oSure K many part ∧ zfm [102, 103, 104, 105, 106, 107, 108] [18, 19, 20, 28, 29, 30] D r.2) := by
  unfold fX12_sure oSure
  refine qS_call (pX12_bowl hK hk) (fun r hr => ?_)
  subst hr
  dsimp only
  by_cases hm : 0 ≤ many ∧ many ≤ kBowl K
  · rw [if_pos hm]
    refine qS_step (lies_t hm) (qS_neg (by omega) ?_)
    by_cases hp : 0 ≤ part ∧ part ≤ 1
    · refine qS_step (lies_t hp) (qS_neg (by omega) ?_)
      obtain ⟨w, rfl⟩ : ∃ w : Nat, many = (w : Int) := ⟨many.toNat, by omega⟩
      refine qS_call (pX12_laysChances hK hk hP) (fun D1 ⟨c1, f1⟩ => ?_)
      have ok := odOk_su hk (half := 0) (well := w) (by omega)
      rw [show (0 : Int) = ((0 : Nat) : Int) from rfl]
      refine qS_call (pX12_passesWith (K := K) (by rw [f1.1 93 (by decide) (by decide)]; exact hK) hk c1 (half := 0) (well := w) (by omega)) ?_
      intro r ⟨g1, g2, g3⟩
      obtain ⟨x, D2⟩ := r
      dsimp only at g1 g2 g3 ⊢
      rw [g1, g2.2]
      refine qS_call (pX12_frac ok.2.2.1 (by have := ok.2.2.2; omega) (by omega)) (fun r hr => ?_)
      subst hr
      exact qS_ret ⟨by rw [show ((w : Int)).toNat = w by omega], (f1.mono (by decide) (by decide)).trans (g3.mono (by decide) (by decide))⟩
    · refine qS_step (lies_f hp) (qS_pos rfl (qS_ret ⟨?_, zfm.rfl' _ _ D⟩))
      rw [kFrac_bad hp]
  · rw [if_neg hm]
    exact qS_step (lies_f hm) (qS_pos rfl (qS_ret ⟨rfl, zfm.rfl' _ _ D⟩))
theorem pc_safe (h : qSt F D Z 1 K) (hG : zG F) (hZ : ∀ a, Z a → 126 ≤ a) (hLt : cLot D) : qS (fX11_safe F D) (fun r => r.1 = oSafe K ∧ zfr [49, 50, 51, 52, 54, 55, 56, 57, 58, 59] D r.2) := by
  unfold fX11_safe oSafe
  have hb := kBowl_in h.1
  have h0 := h.1.1
  refine qS_call (pX9_bowlSize h) (fun r hr => ?_)
  subst hr
  dsimp only
  refine qS_call (pX2_setChances h hG hZ) (fun D1 ⟨c1, f1⟩ => ?_)
  refine qloop1 (fun v D2 => ∃ m : Nat, v = (m : Int) ∧ m ≤ (kBowl K).toNat + 1 ∧ kSafeN K ((kBowl K).toNat + 1 - m) m = kSafeN K ((kBowl K).toNat + 1) 0 ∧ cCh D2 (fun lv => kChance K (lv : Int)) ∧ zfr [49, 50, 51, 52, 54, 55, 56, 57, 58, 59] D D2) (fun v _ => (100 - v).toNat) ?_ ⟨0, rfl, by omega, rfl, c1, f1.mono (by decide)⟩ (zfu_gt (by omega))
  intro kk v D2 ⟨m, ev, hm, hs, c2, f2⟩ ih
  subst ev
  unfold fX11_safe_21
  refine qS_ite (fun hl => ?_) (fun hl => ?_)
  · refine qS_ret ⟨?_, f2⟩
    rw [show (kBowl K).toNat + 1 - m = 0 by omega] at hs
    exact hs
  · refine qS_call (pX11_spreadSure (h.zfr hZ f2 (by decide)) hG hZ (hLt.fr (f2 53 (by decide))) c2 (w := m) (by omega)) (fun D3 ⟨o3, f3⟩ => ?_)
    have f23 : zfr [49, 50, 51, 52, 54, 55, 56, 57, 58, 59] D D3 := f2.trans (f3.mono (by decide))
    have ok := odOk_su h.1 (half := 0) (well := m) (by omega)
    have hw := wanted (h.zfr hZ f23 (by decide))
    rw [hw.1]
    obtain ⟨t, t0, e1, e2, e3, e4⟩ := odC_atl (F := F) (k := (K 102).toNat) o3 ok hw.2
    refine qS_step e1 ?_
    dsimp only
    rw [show (kBowl K).toNat + 1 - m = ((kBowl K).toNat - m) + 1 by omega] at hs
    unfold kSafeN at hs
    refine qS_ite (fun he => ?_) (fun he => ?_)
    · refine qS_ret ⟨?_, f23⟩
      rw [e2, ← Int.natCast_mul, ← Int.natCast_mul] at he
      rw [if_pos (Nat.eq_of_mul_eq_mul_left t0 (by omega))] at hs
      exact hs
    · rw [if_neg (fun e => he (by rw [e, e2]))] at hs
      refine qS_chk (by omega) (ih _ _ ⟨m + 1, by omega, by omega, ?_, c2.fr (f3 54 (by decide)) (f3 55 (by decide)), f23⟩ (by omega))
      rw [show (kBowl K).toNat + 1 - (m + 1) = (kBowl K).toNat - m by omega]
      exact hs
theorem pr_safe (hK : D 93 = K) (hk : kOk K) (hP : kPOk K) : qS (fX12_safe F D) (fun r => r.1 = oSafe K ∧ zfm [102, 103, 104, 105, 106, 107, 108] [18, 19, 20, 28, 29, 30] D r.2) := by
  unfold fX12_safe oSafe
  have hb := kBowl_in hk
  have h0 := hk.1
  refine qS_call (pX12_laysChances hK hk hP) (fun D1 ⟨c1, f1⟩ => ?_)
  refine qloop1 (fun v D2 => ∃ m : Nat, v = (m : Int) ∧ m ≤ (kBowl K).toNat + 1 ∧ kSafeN K ((kBowl K).toNat + 1 - m) m = kSafeN K ((kBowl K).toNat + 1) 0 ∧ rCh D2 (fun lv => kChance K (lv : Int)) ∧ zfm [102, 103, 104, 105, 106, 107, 108] [18, 19, 20, 28, 29, 30] D D2) (fun v _ => (100 - v).toNat) ?_ ⟨0, rfl, by omega, rfl, c1, f1.mono (by decide) (by decide)⟩ (zfu_gt (by omega))
  intro kk v D2 ⟨m, ev, hm, hs, c2, f2⟩ ih
  subst ev
  have K2 : D2 93 = K := by rw [f2.1 93 (by decide) (by decide)]; exact hK
  unfold fX12_safe_6
  refine qS_call (pX12_bowl K2 hk) (fun r hr => ?_)
  subst hr
  dsimp only
  refine qS_ite (fun hl => ?_) (fun hl => ?_)
  · refine qS_ret ⟨?_, f2⟩
    rw [show (kBowl K).toNat + 1 - m = 0 by omega] at hs
    exact hs
  · rw [show (0 : Int) = ((0 : Nat) : Int) from rfl]
    refine qS_call (pX12_passesWith (K := K) K2 hk c2 (half := 0) (well := m) (by omega)) ?_
    intro r ⟨g1, g2, g3⟩
    obtain ⟨x, D3⟩ := r
    dsimp only at g1 g2 g3 ⊢
    have g4 := g2.2
    rw [show (kBowl K).toNat + 1 - m = ((kBowl K).toNat - m) + 1 by omega] at hs
    unfold kSafeN at hs
    have f23 := f2.trans (g3.mono (by decide) (by decide) : zfm [102, 103, 104, 105, 106, 107, 108] [18, 19, 20, 28, 29, 30] D2 D3)
    refine qS_ite (fun he => ?_) (fun he => ?_)
    · refine qS_ret ⟨?_, f23⟩
      rw [if_pos (by omega)] at hs
      exact hs
    · rw [if_neg (by omega)] at hs
      refine qS_chk (by omega) (ih _ _ ⟨m + 1, by omega, by omega, ?_, c2.frm g3 (by decide), f23⟩ (by omega))
      rw [show (kBowl K).toNat + 1 - (m + 1) = (kBowl K).toNat - m by omega]
      exact hs
theorem pc_mil (h : qSt F D Z 1 K) (hG : zG F) (hZ : ∀ a, Z a → 126 ≤ a) (hLt : cLot D) (as level : Int) (hl : 0 ≤ level ∧ level ≤ 2) : ∃ D1 x, fX11_spreadKnown F as level D = some D1 ∧ fX2_atLeast F (D1 7 2) D1 = some (x, D1) ∧ fX2_millionths F x (D1 52 7) D1 = some (kMil (kAtl (kSk K as level) (K 102).toNat).toNat (kOk' K as level), D1) ∧ zfr [49, 50, 51, 52, 54, 55, 56, 57, 58, 59] D D1 := by
  obtain ⟨D1, e0, o1, f1⟩ := pX11_spreadKnown h hG hZ hLt (as := as) (level := level) (Or.inr hl)
  have ok := odOk_known h.1 as level
  have hw := wanted (h.zfr hZ f1 (by decide))
  obtain ⟨t, t0, e1, e2, e3, e4⟩ := odC_atl (F := F) (k := (K 102).toNat) o1 ok hw.2
  obtain ⟨r, e5, e6⟩ := pX2_mil (F := F) (D := D1) t0 ok.2.2.1 e3 e4
  exact ⟨D1, _, e0, by rw [hw.1]; exact e1, by rw [e2, e5, e6], f1⟩
theorem pc_worth (h : qSt F D Z 1 K) (hG : zG F) (hZ : ∀ a, Z a → 126 ≤ a) (hLt : cLot D) (q : Int) : qS (fX11_worth F q D) (fun r => r.1 = oWorth K q ∧ zfr [49, 50, 51, 52, 54, 55, 56, 57, 58, 59] D r.2) := by
  unfold fX11_worth oWorth
  have h0 := h.1.1
  by_cases hq : 0 ≤ q ∧ q < K 390
  · rw [if_pos hq]
    refine qS_step (has_t (by rw [h.2.1]; exact hq)) (qS_neg (by omega) (qS_chk (by omega) ?_))
    have e6 : D 6 q.toNat = K (5 * q.toNat + 4) := (h.2.2.1 q.toNat (by omega)).2.2.2.2
    refine qS_ite (fun ho => ?_) (fun ho => ?_)
    · rw [if_pos (c := K (5 * q.toNat + 4) = 0) (by rw [← e6]; exact ho)]
      obtain ⟨D1, x1, a1, a2, a3, f1⟩ := pc_mil h hG hZ hLt q 2 (by omega)
      obtain ⟨D2, x2, b1, b2, b3, f2⟩ := pc_mil (h.zfr hZ f1 (by decide)) hG hZ (hLt.fr (f1 53 (by decide))) q 0 (by omega)
      refine qS_step a1 (qS_step a2 (qS_step a3 (qS_step b1 (qS_step b2 (qS_step b3 ?_)))))
      have m1 := kMil_in (w := (kAtl (kSk K q 2) (K 102).toNat).toNat) (o := kOk' K q 2) (by have := kAtl_in (k := (K 102).toNat) (odOk_known h.1 q 2) (wanted h).2; omega)
      have m2 := kMil_in (w := (kAtl (kSk K q 0) (K 102).toNat).toNat) (o := kOk' K q 0) (by have := kAtl_in (k := (K 102).toNat) (odOk_known h.1 q 0) (wanted h).2; omega)
      exact qS_chk (by omega) (qS_ret ⟨rfl, f1.trans f2⟩)
    · rw [if_neg (c := K (5 * q.toNat + 4) = 0) (by rw [← e6]; exact ho)]
      exact qS_ret ⟨rfl, zfr.rfl' _ D⟩
  · rw [if_neg hq]
    exact qS_step (has_f (by rw [h.2.1]; exact hq)) (qS_pos rfl (qS_ret ⟨rfl, zfr.rfl' _ D⟩))
theorem pr_mil (hK : D 93 = K) (hk : kOk K) (hP : kPOk K) (as level : Int) (hl : 0 ≤ level ∧ level ≤ 2) : ∃ D1 x, fX12_known F as level D = some D1 ∧ fX12_passes F D1 = some (x, D1) ∧ fX12_millionths F x (D1 91 30) D1 = some (kMil (kAtl (kSk K as level) (K 102).toNat).toNat (kOk' K as level), D1) ∧ zfm [102, 103, 104, 105, 106, 107, 108] [18, 19, 20, 28, 29, 30] D D1 := by
  obtain ⟨D1, e0, o1, f1⟩ := pX12_known (F := F) hK hk hP (as := as) (level := level) (Or.inr hl)
  have ok := odOk_known hk as level
  have ht := kTerms hk
  have e1 := odR_atl (F := F) (by rw [f1.1 93 (by decide) (by decide)]; exact hK) hk o1 ok
  obtain ⟨r, e5, e6⟩ := pX12_millionths (F := F) (D := D1) (w := (kAtl (kSk K as level) (K 102).toNat).toNat) ok.2.2.1 (by have := kAtl_in (k := (K 102).toNat) ok (by omega); omega) (by have := ok.2.2.2; omega)
  exact ⟨D1, _, e0, e1, by rw [o1.2, e5, e6]; rfl, f1⟩
theorem pr_worth (hK : D 93 = K) (hk : kOk K) (hP : kPOk K) (q : Int) : qS (fX12_worth F q D) (fun r => r.1 = oWorth K q ∧ zfm [102, 103, 104, 105, 106, 107, 108] [18, 19, 20, 28, 29, 30] D r.2) := by
  unfold fX12_worth oWorth
  have h0 := hk.1
  have ht := kTerms hk
  by_cases hq : 0 ≤ q ∧ q < K 390
  · rw [if_pos hq]
    refine qS_step (isQ_t hK hk hq) (qS_neg (by omega) ?_)
    refine qS_step (pX12_isBowl (q := q.toNat) (by omega) (by omega)) ?_
    dsimp only
    rw [hK]
    by_cases ho : K (5 * q.toNat + 4) = 0
    · rw [if_pos ho, if_pos ho]
      refine qS_neg (by omega) ?_
      obtain ⟨D1, x1, a1, a2, a3, f1⟩ := pr_mil (F := F) hK hk hP q 2 (by omega)
      obtain ⟨D2, x2, b1, b2, b3, f2⟩ := pr_mil (F := F) (D := D1) (by rw [f1.1 93 (by decide) (by decide)]; exact hK) hk hP q 0 (by omega)
      refine qS_step a1 (qS_step a2 (qS_step a3 (qS_step b1 (qS_step b2 (qS_step b3 ?_)))))
      have m1 := kMil_in (w := (kAtl (kSk K q 2) (K 102).toNat).toNat) (o := kOk' K q 2) (by have := kAtl_in (k := (K 102).toNat) (odOk_known hk q 2) (by omega); omega)
      have m2 := kMil_in (w := (kAtl (kSk K q 0) (K 102).toNat).toNat) (o := kOk' K q 0) (by have := kAtl_in (k := (K 102).toNat) (odOk_known hk q 0) (by omega); omega)
      exact qS_chk (by omega) (qS_ret ⟨rfl, f1.trans f2⟩)
    · rw [if_neg ho, if_neg ho]
      exact qS_pos rfl (qS_ret ⟨rfl, zfm.rfl' _ _ D⟩)
  · rw [if_neg hq]
    exact qS_step (isQ_f hK hk hq) (qS_pos rfl (qS_ret ⟨rfl, zfm.rfl' _ _ D⟩))
end QS
