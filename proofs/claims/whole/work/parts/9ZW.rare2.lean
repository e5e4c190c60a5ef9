/-! ===== how rarely, reference ===== -/
section RD
variable {F : zFs} {D : zDa}
theorem pX12_be {a v : Nat} (h9 : a ≠ 91) (hk : (F a).1 = 21) (hl : (F a).2.1 = 12) (hv : v < 100000000) : qS (fX12_be F a (v : Int) D) (fun D' => rV D' a 100000000 12 v ∧ zfm [a] [] D D') := by
  unfold fX12_be
  refine qloop1 (fun w D1 => ∃ i : Nat, w = (i : Int) ∧ i ≤ 12 ∧ (∀ j, j < i → D1 a j = ((if j = 0 then v else 0 : Nat) : Int)) ∧ zfm [a] [] D D1) (fun w _ => (100 - w).toNat) ?_ ⟨0, rfl, by omega, fun j hj => absurd hj (by omega), zfm.rfl' _ _ D⟩ (zfu_gt (by omega))
  intro k2 w D1 ⟨i, ev, hi, r1, f1⟩ ih
  subst ev
  unfold fX12_be_2
  have nx : ∀ s0 : Int, i < 12 → s0 = ((if i = 0 then v else 0 : Nat) : Int) → qS (fX12_be_19 F k2 a (v : Int) (i : Int) s0 (i : Int) a D1) (fun D' => rV D' a 100000000 12 v ∧ zfm [a] [] D D') := by
    intro s0 hi2 es
    unfold fX12_be_19
    rw [hl, show ((i : Int)).toNat = i by omega]
    refine qS_chk ⟨hk, by omega⟩ (qS_leti (qS_chk (by omega) (ih _ _ ⟨i + 1, by omega, by omega, fun j hj => ?_, f1.wr h9 (by simp)⟩ (by omega))))
    rw [zwr_at]
    by_cases e : j = i
    · rw [if_pos e, e]; exact es
    · rw [if_neg e]; exact r1 j (by omega)
  refine qS_ite (fun c => ?_) (fun c => ?_)
  · refine qS_ite (fun c2 => nx _ (by omega) (by rw [if_pos (by omega)])) (fun c2 => nx _ (by omega) (by rw [if_neg (by omega)]; rfl))
  · have : i = 12 := by omega
    subst this
    refine qS_ret ⟨⟨fun j => if j = 0 then v else 0, fun j hj => ⟨r1 j hj, ?_⟩, ?_⟩, f1⟩
    · dsimp only; split <;> omega
    · have : ∀ n, dV 100000000 (fun j => if j = 0 then v else 0) (n + 1) = v := by
        intro n
        induction n with
        | zero => show 0 + (if (0 : Nat) = 0 then v else 0) * _ = v; rw [if_pos rfl, Nat.pow_zero]; omega
        | succ n ih2 => rw [dV_s, ih2, if_neg (by omega), Nat.zero_mul, Nat.add_zero]
      exact this 11
theorem rMul {a y : Nat} {o2 o3 : Int} {P : zDa → Prop} {k2 : Int → zDa → Option zDa} {V : Nat} (h9 : a ≠ 91) (hk : (F a).1 = 21) (hl : (F a).2.1 = 12) (h : rV D a 100000000 12 V) (hy : y ≤ 1000000) (hlt : y * V < 100000000 ^ 12) (ho : 0 ≤ o3 ∧ o3 ≤ 1000)
    (hkk : ∀ D', rV D' a 100000000 12 (y * V) → zfm [a] [] D D' → qS (k2 (o3 + 1) D') P) : qS (zfix (fun _ _ _ => none) (fX12_makes_13 F a (y : Int) o2 o3 k2) zfu 0 0 D) P := by
  obtain ⟨d, hd, hV⟩ := h
  refine qloop2 (fun v2 v4 D1 => ∃ (i c : Nat) (d' : Nat → Nat), v4 = (i : Int) ∧ v2 = (c : Int) ∧ i ≤ 12 ∧ c ≤ y ∧ (∀ j, j < i → D1 a j = (d' j : Int) ∧ d' j < 100000000) ∧ (∀ j, i ≤ j → j < 12 → D1 a j = (d j : Int)) ∧ dV 100000000 d' i + c * 100000000 ^ i = y * dV 100000000 d i ∧ zfm [a] [] D D1) (fun _ v4 _ => (100 - v4).toNat) ?_ ⟨0, 0, fun _ => 0, rfl, rfl, by omega, by omega, fun j hj => absurd hj (by omega), fun j _ h2 => (hd j h2).1, by show 0 + 0 * _ = y * 0; omega, zfm.rfl' _ _ D⟩ (zfu_gt (by omega))
  intro k13 v2 v4 D1 ⟨i, c, d', e4, e2, hi, hc, lo, hig, inv, f1⟩ ih
  subst e4 e2
  unfold fX12_makes_13
  refine qS_ite (fun hlt9 => ?_) (fun hlt9 => ?_)
  · have di := (hd i (by omega)).2
    have m := Nat.mul_le_mul (show d i ≤ 99999999 by omega) hy
    have m2 := Nat.mul_le_mul_right y (show d i ≤ 99999999 by omega)
    have ex : D1 a ((i : Int)).toNat = (d i : Int) := by rw [show ((i : Int)).toNat = i by omega]; exact hig i (Nat.le_refl _) (by omega)
    rw [hl, ex, show (d i : Int) * (y : Int) = ((d i * y : Nat) : Int) by rw [Int.natCast_mul], show ((d i * y : Nat) : Int) + (c : Int) = ((c + d i * y : Nat) : Int) by omega]
    refine qS_chk ⟨hk, by omega, by omega, by omega⟩ (qS_leti (qS_leti (qS_leti (qS_chk (by omega) ?_))))
    have ed : Int.tdiv ((c + d i * y : Nat) : Int) 100000000 = (((c + d i * y) / 100000000 : Nat) : Int) := rfl
    have em : Int.tmod ((c + d i * y : Nat) : Int) 100000000 = (((c + d i * y) % 100000000 : Nat) : Int) := rfl
    rw [ed, em, show ((i : Int)).toNat = i by omega]
    have cb : (c + d i * y) / 100000000 ≤ y := by
      have : c + d i * y ≤ 100000000 * y := by omega
      exact Nat.div_le_of_le_mul this
    refine ih _ _ _ ⟨i + 1, (c + d i * y) / 100000000, dUp d' i ((c + d i * y) % 100000000), by omega, rfl, by omega, cb, fun j hj => ?_, fun j h1 h2 => ?_, dmul inv, f1.wr h9 (by simp)⟩ (by omega)
    · rw [zwr_at]
      by_cases e : j = i
      · rw [if_pos e, e, dUp_eq]
        exact ⟨rfl, Nat.mod_lt _ (by omega)⟩
      · rw [if_neg e, dUp_ne e]; exact lo j (by omega)
    · rw [zwr_off (Or.inr (by omega))]; exact hig j (by omega) h2
  · have : i = 12 := by omega
    subst this
    rw [hV] at inv
    have c0 := carry0 inv hlt
    exact qS_chk (by omega) (hkk D1 ⟨d', lo, c0.2⟩ f1)
theorem pX12_makes {a V y t : Nat} (h9 : a ≠ 91) (hk : (F a).1 = 21) (hl : (F a).2.1 = 12) (h : rV D a 100000000 12 V) (hy : 1 ≤ y ∧ y ≤ 1000000) (ht : t ≤ 100) (hlt : y ^ t * V < 100000000 ^ 12) :
    qS (fX12_makes F a (y : Int) (t : Int) D) (fun D' => rV D' a 100000000 12 (y ^ t * V) ∧ zfm [a] [] D D') := by
  unfold fX12_makes
  refine qloop1 (fun v D1 => ∃ i : Nat, v = (i : Int) ∧ i ≤ t ∧ rV D1 a 100000000 12 (y ^ i * V) ∧ zfm [a] [] D D1) (fun v _ => (1000 - v).toNat) ?_ ⟨0, rfl, by omega, by rw [Nat.pow_zero, Nat.one_mul]; exact h, zfm.rfl' _ _ D⟩ (zfu_gt (by omega))
  intro k2 v D1 ⟨i, ev, hi, r1, f1⟩ ih
  subst ev
  unfold fX12_makes_2
  refine qS_ite (fun c => ?_) (fun c => ?_)
  · have e : y * (y ^ i * V) = y ^ (i + 1) * V := by rw [Nat.pow_succ]; ac_rfl
    have le : y ^ (i + 1) * V ≤ y ^ t * V := Nat.mul_le_mul_right _ (Nat.pow_le_pow_right hy.1 (by omega))
    refine rMul h9 hk hl r1 hy.2 (by rw [e]; omega) (by omega) (fun D2 r2 f2 => ih _ _ ⟨i + 1, by omega, by omega, by rw [← e]; exact r2, f1.trans f2⟩ (by omega))
  · have : i = t := by omega
    subst this
    exact qS_ret ⟨r1, f1⟩
theorem pX12_adds {a b V W : Nat} (h9 : a ≠ 91) (hab : b ≠ a) (hb9 : b ≠ 91) (hk : (F a).1 = 21) (hl : (F a).2.1 = 12) (hk' : (F b).1 = 21) (hl' : (F b).2.1 = 12) (h : rV D a 100000000 12 V) (h' : rV D b 100000000 12 W) (hlt : V + W < 100000000 ^ 12) :
    qS (fX12_adds F a b D) (fun D' => rV D' a 100000000 12 (V + W) ∧ zfm [a] [] D D') := by
  obtain ⟨d, hd, hV⟩ := h
  obtain ⟨e, he, hW⟩ := h'
  unfold fX12_adds
  refine qloop2 (fun v2 v4 D1 => ∃ (i c : Nat) (d' : Nat → Nat), v4 = (i : Int) ∧ v2 = (c : Int) ∧ i ≤ 12 ∧ c ≤ 1 ∧ (∀ j, j < i → D1 a j = (d' j : Int) ∧ d' j < 100000000) ∧ (∀ j, i ≤ j → j < 12 → D1 a j = (d j : Int)) ∧ dV 100000000 d' i + c * 100000000 ^ i = dV 100000000 d i + dV 100000000 e i ∧ zfm [a] [] D D1) (fun _ v4 _ => (100 - v4).toNat) ?_ ⟨0, 0, fun _ => 0, rfl, rfl, by omega, by omega, fun j hj => absurd hj (by omega), fun j _ h2 => (hd j h2).1, by show 0 + 0 * _ = 0 + 0; omega, zfm.rfl' _ _ D⟩ (zfu_gt (by omega))
  intro k4 v2 v4 D1 ⟨i, c, d', e4, e2, hi, hc, lo, hig, inv, f1⟩ ih
  subst e4 e2
  unfold fX12_adds_5
  refine qS_ite (fun hlt9 => ?_) (fun hlt9 => ?_)
  · have di := (hd i (by omega)).2
    have ei := he i (by omega)
    have ex : D1 a ((i : Int)).toNat = (d i : Int) := by rw [show ((i : Int)).toNat = i by omega]; exact hig i (Nat.le_refl _) (by omega)
    have ey : D1 b ((i : Int)).toNat = (e i : Int) := by rw [show ((i : Int)).toNat = i by omega, f1.1 b hb9 (by simpa using hab)]; exact ei.1
    rw [hl, hl', ex, ey, show (d i : Int) + (e i : Int) + (c : Int) = ((c + (d i + e i) : Nat) : Int) by omega]
    refine qS_chk ⟨hk, by omega, hk', by omega, by omega, by omega⟩ (qS_leti (qS_leti (qS_leti (qS_chk (by omega) ?_))))
    have ed : Int.tdiv ((c + (d i + e i) : Nat) : Int) 100000000 = (((c + (d i + e i)) / 100000000 : Nat) : Int) := rfl
    have em : Int.tmod ((c + (d i + e i) : Nat) : Int) 100000000 = (((c + (d i + e i)) % 100000000 : Nat) : Int) := rfl
    rw [ed, em, show ((i : Int)).toNat = i by omega]
    refine ih _ _ _ ⟨i + 1, (c + (d i + e i)) / 100000000, dUp d' i ((c + (d i + e i)) % 100000000), by omega, rfl, by omega, by omega, fun j hj => ?_, fun j h1 h2 => ?_, dadd inv, f1.wr h9 (by simp)⟩ (by omega)
    · rw [zwr_at]
      by_cases e : j = i
      · rw [if_pos e, e, dUp_eq]
        exact ⟨rfl, Nat.mod_lt _ (by omega)⟩
      · rw [if_neg e, dUp_ne e]; exact lo j (by omega)
    · rw [zwr_off (Or.inr (by omega))]; exact hig j (by omega) h2
  · have : i = 12 := by omega
    subst this
    rw [hV, hW] at inv
    have inv1 : dV 100000000 d' 12 + c * 100000000 ^ 12 = 1 * (V + W) := by rw [Nat.one_mul (V + W)]; exact inv
    have c0 := carry0 inv1 (by rw [Nat.one_mul (V + W)]; exact hlt)
    exact qS_ret ⟨⟨d', lo, by rw [c0.2, Nat.one_mul (V + W)]⟩, f1⟩
theorem pX12_shares1 {a V y : Nat} (h9 : a ≠ 91) (hk : (F a).1 = 21) (hl : (F a).2.1 = 12) (h : rV D a 100000000 12 V) (hy : 0 < y ∧ y ≤ 1000000) :
    qS (fX12_shares1 F a (y : Int) D) (fun D' => rV D' a 100000000 12 (V / y) ∧ zfm [a] [] D D') := by
  obtain ⟨d, hd, hV⟩ := h
  unfold fX12_shares1
  refine qloop2 (fun v2 v4 D1 => ∃ (k r : Nat) (d' : Nat → Nat), v4 = (k : Int) - 1 ∧ v2 = (r : Int) ∧ k ≤ 12 ∧ r < y ∧ (∀ j, k ≤ j → j < 12 → D1 a j = (d' j : Int) ∧ d' j < 100000000) ∧ (∀ j, j < k → D1 a j = (d j : Int)) ∧ uV 100000000 d k (12 - k) = y * uV 100000000 d' k (12 - k) + r ∧ zfm [a] [] D D1) (fun _ v4 _ => (v4 + 1).toNat) ?_ ⟨12, 0, fun _ => 0, rfl, rfl, by omega, by omega, fun j h1 h2 => absurd h2 (by omega), fun j h2 => (hd j h2).1, by show 0 = y * 0 + 0; omega, zfm.rfl' _ _ D⟩ (zfu_gt (by omega))
  intro k8 v2 v4 D1 ⟨k, r, d', e4, e2, hk9, hr, hig, lo, inv, f1⟩ ih
  subst e4 e2
  unfold fX12_shares1_6
  refine qS_ite (fun hlt => ?_) (fun hlt => ?_)
  · have : k = 0 := by omega
    subst this
    rw [Nat.sub_zero, ← dV_uV, ← dV_uV, hV] at inv
    refine qS_ret ⟨⟨d', fun i hi => hig i (by omega) hi, ?_⟩, f1⟩
    rw [inv, Nat.mul_add_div hy.1, Nat.div_eq_of_lt hr, Nat.add_zero]
  · obtain ⟨i, rfl⟩ : ∃ i, k = i + 1 := ⟨k - 1, by omega⟩
    have di := (hd i (by omega)).2
    have ex : D1 a (((i + 1 : Nat) : Int) - 1).toNat = (d i : Int) := by rw [show (((i + 1 : Nat) : Int) - 1).toNat = i by omega]; exact lo i (by omega)
    rw [ex, show (r : Int) * 100000000 + (d i : Int) = ((r * 100000000 + d i : Nat) : Int) by omega, hl]
    refine qS_chk ⟨by omega, hk, by omega, by omega⟩ (qS_leti ?_)
    rw [show (((i + 1 : Nat) : Int) - 1).toNat = i by omega]
    refine qS_chk ⟨by omega, by omega⟩ (qS_leti (qS_leti (qS_chk (by omega) ?_)))
    have ed : Int.tdiv ((r * 100000000 + d i : Nat) : Int) (y : Int) = (((r * 100000000 + d i) / y : Nat) : Int) := rfl
    have em : Int.tmod ((r * 100000000 + d i : Nat) : Int) (y : Int) = (((r * 100000000 + d i) % y : Nat) : Int) := rfl
    rw [ed, em]
    have qb : (r * 100000000 + d i) / y < 100000000 := by
      refine Nat.div_lt_of_lt_mul ?_
      have := Nat.mul_le_mul_right 100000000 (show r + 1 ≤ y from hr)
      rw [Nat.add_mul] at this
      omega
    refine ih _ _ _ ⟨i, (r * 100000000 + d i) % y, dUp d' i ((r * 100000000 + d i) / y), by omega, rfl, by omega, Nat.mod_lt _ hy.1, fun j h1 h2 => ?_, fun j hj => ?_, ?_, f1.wr h9 (by simp)⟩ (by omega)
    · rw [zwr_at]
      by_cases e : j = i
      · rw [if_pos e, e, dUp_eq]; exact ⟨rfl, qb⟩
      · rw [if_neg e, dUp_ne e]; exact hig j (by omega) h2
    · rw [zwr_off (Or.inr (by omega))]; exact lo j (by omega)
    · rw [show 12 - i = 12 - (i + 1) + 1 by omega]
      exact ddiv inv
theorem pX12_order {a b V W : Nat} (hk : (F a).1 = 21) (hl : (F a).2.1 = 12) (hk' : (F b).1 = 21) (hl' : (F b).2.1 = 12) (h : rV D a 100000000 12 V) (h' : rV D b 100000000 12 W) :
    qS (fX12_order F a b D) (fun x => x.2 = D ∧ ((0 < x.1 ∧ W < V) ∨ (x.1 ≤ 0 ∧ V ≤ W))) := by
  obtain ⟨d, hd, hV⟩ := h
  obtain ⟨e, he, hW⟩ := h'
  unfold fX12_order
  refine qloop1 (fun v D1 => ∃ k : Nat, v = (k : Int) - 1 ∧ k ≤ 12 ∧ V + dV 100000000 e k = W + dV 100000000 d k ∧ D1 = D) (fun v _ => (v + 1).toNat) ?_ ⟨12, rfl, by omega, by rw [hV, hW]; omega, rfl⟩ (zfu_gt (by omega))
  intro k3 v D1 ⟨k, ev, hk12, inv, eD⟩ ih
  subst ev eD
  unfold fX12_order_3
  refine qS_ite (fun c => ?_) (fun c => ?_)
  · have : k = 0 := by omega
    subst this
    have : dV 100000000 e 0 = 0 := rfl
    have : dV 100000000 d 0 = 0 := rfl
    exact qS_ret ⟨rfl, Or.inr ⟨by dsimp only; omega, by omega⟩⟩
  · obtain ⟨i, rfl⟩ : ∃ i, k = i + 1 := ⟨k - 1, by omega⟩
    have di := hd i (by omega)
    have ei := he i (by omega)
    have bd := dV_lt (B := 100000000) (d := d) (n := i) (by omega) (fun j hj => (hd j (by omega)).2)
    have be := dV_lt (B := 100000000) (d := e) (n := i) (by omega) (fun j hj => (he j (by omega)).2)
    rw [dV_s, dV_s] at inv
    rw [hl, hl', show (((i + 1 : Nat) : Int) - 1).toNat = i by omega, di.1, ei.1]
    refine qS_chk ⟨hk, by omega, hk', by omega⟩ ?_
    refine qS_ite (fun c2 => qS_chk (by omega) (ih _ _ ⟨i, by omega, by omega, ?_, rfl⟩ (by omega))) (fun c2 => ?_)
    · have : d i = e i := by omega
      rw [this] at inv; omega
    · refine qS_ite (fun c3 => qS_ret ⟨rfl, Or.inr ⟨by dsimp only; omega, ?_⟩⟩) (fun c3 => qS_ret ⟨rfl, Or.inl ⟨by dsimp only; omega, ?_⟩⟩)
      · have := Nat.mul_le_mul_right (100000000 ^ i) (show d i + 1 ≤ e i by omega)
        rw [Nat.add_mul, Nat.one_mul] at this
        omega
      · have := Nat.mul_le_mul_right (100000000 ^ i) (show e i + 1 ≤ d i by omega)
        rw [Nat.add_mul, Nat.one_mul] at this
        omega
end RD
theorem kC_pow (n k : Nat) : kC n k ≤ 2 ^ n := by
  induction n generalizing k with
  | zero => cases k with
    | zero => exact Nat.le_refl _
    | succ k => exact Nat.zero_le _
  | succ n ih => cases k with
    | zero => rw [kC_0]; exact Nat.one_le_two_pow
    | succ k =>
      have a := ih k
      have b := ih (k + 1)
      rw [kC_s, Nat.pow_succ]; omega
/-- C(m + i + 1, i + 1) from C(m + i, i) -/
theorem kC_next (m i : Nat) : (m + i + 1) * kC (m + i) i / (i + 1) = kC (m + i + 1) (i + 1) := by
  have := kC_abs (m + i) i
  refine Nat.div_eq_of_eq_mul_left (by omega) ?_
  rw [← this, Nat.mul_comm]
theorem powm {lie rest all j e y : Nat} (h1 : lie ≤ all) (h2 : rest ≤ all) (h : j + e ≤ y) (ha : 0 < all) : lie ^ j * rest ^ e ≤ all ^ y := by
  have a := Nat.mul_le_mul (Nat.pow_le_pow_left h1 j) (Nat.pow_le_pow_left h2 e)
  rw [← Nat.pow_add] at a
  exact Nat.le_trans a (Nat.pow_le_pow_right ha h)
