/-! ===== how rarely: terms and their sums ===== -/
def kT1 (y lie rest j : Nat) : Nat := kC y j * (lie ^ j * rest ^ (y - j))
def kTs (y lie rest t : Nat) : Nat := match t with
  | 0 => 0
  | t + 1 => kTs y lie rest t + kT1 y lie rest t
theorem kTs_s (y lie rest t : Nat) : kTs y lie rest (t + 1) = kTs y lie rest t + kT1 y lie rest t := rfl
theorem kT1_0 (y lie rest : Nat) : kT1 y lie rest 0 = rest ^ y := by unfold kT1; rw [kC_0, Nat.pow_zero, Nat.one_mul, Nat.one_mul, Nat.sub_zero]
theorem kT1_s (y lie rest t : Nat) : kT1 (y + 1) lie rest (t + 1) = rest * kT1 y lie rest (t + 1) + lie * kT1 y lie rest t := by
  unfold kT1
  rw [kC_s, Nat.add_mul, show y + 1 - (t + 1) = y - t by omega, Nat.pow_succ]
  have e1 : lie * (kC y t * (lie ^ t * rest ^ (y - t))) = kC y t * (lie ^ t * lie * rest ^ (y - t)) := by ac_rfl
  have e2 : rest * (kC y (t + 1) * (lie ^ t * lie * rest ^ (y - (t + 1)))) = kC y (t + 1) * (lie ^ t * lie * rest ^ (y - t)) := by
    rcases Nat.lt_or_ge y (t + 1) with h | h
    · rw [kC_gt h, Nat.zero_mul, Nat.zero_mul, Nat.mul_zero]
    · have : rest ^ (y - t) = rest ^ (y - (t + 1)) * rest := by rw [← Nat.pow_succ]; congr 1; omega
      rw [this]
      ac_rfl
  rw [e1, e2]
  omega
theorem kTs_r (y lie rest : Nat) : ∀ t, kTs (y + 1) lie rest (t + 1) = rest * kTs y lie rest (t + 1) + lie * kTs y lie rest t
  | 0 => by
    show 0 + kT1 (y + 1) lie rest 0 = rest * (0 + kT1 y lie rest 0) + lie * 0
    rw [kT1_0, kT1_0, Nat.pow_succ, Nat.zero_add, Nat.zero_add, Nat.mul_zero, Nat.add_zero, Nat.mul_comm]
  | t + 1 => by
    have hm := Nat.mul_add lie (kTs y lie rest t) (kT1 y lie rest t)
    rw [kTs_s, kTs_r y lie rest t, kT1_s, kTs_s y lie rest (t + 1), kTs_s y lie rest t, Nat.mul_add, Nat.mul_add, Nat.mul_add]
    omega
theorem kTs_0 (lie rest : Nat) : ∀ t, kTs 0 lie rest t ≤ 1
  | 0 => by show 0 ≤ 1; omega
  | 1 => by show 0 + kT1 0 lie rest 0 ≤ 1; rw [kT1_0, Nat.pow_zero]; omega
  | t + 2 => by
    have ih := kTs_0 lie rest (t + 1)
    have : kT1 0 lie rest (t + 1) = 0 := by unfold kT1; rw [kC_gt (by omega), Nat.zero_mul]
    rw [kTs_s, this]; omega
theorem kTs_le (lie rest : Nat) : ∀ y t, kTs y lie rest t ≤ (lie + rest) ^ y
  | 0, t => by rw [Nat.pow_zero]; exact kTs_0 lie rest t
  | y + 1, 0 => Nat.zero_le _
  | y + 1, t + 1 => by
    rw [kTs_r, Nat.pow_succ, Nat.mul_comm _ (lie + rest), Nat.add_mul]
    have a := Nat.mul_le_mul_left rest (kTs_le lie rest y (t + 1))
    have b := Nat.mul_le_mul_left lie (kTs_le lie rest y t)
    omega
theorem kT1_le (y lie rest j : Nat) : kT1 y lie rest j ≤ (lie + rest) ^ y := by
  have := kTs_le lie rest y (j + 1)
  rw [kTs_s] at this; omega
theorem kTs_mono {y lie rest s t : Nat} (h : s ≤ t) : kTs y lie rest s ≤ kTs y lie rest t := by
  induction t with
  | zero => rw [show s = 0 by omega]; exact Nat.le_refl _
  | succ t ih =>
    by_cases e : s = t + 1
    · rw [e]; exact Nat.le_refl _
    · have := ih (by omega)
      rw [kTs_s]; omega
theorem kC_up (y : Nat) : ∀ j, kC y (j + 1) * (j + 1) = kC y j * (y - j) := by
  induction y with
  | zero => intro j; rw [kC_gt (n := 0) (k := j + 1) (by omega), Nat.zero_sub, Nat.mul_zero, Nat.zero_mul]
  | succ y ih =>
    intro j
    cases j with
    | zero =>
      have := ih 0
      rw [kC_0] at this ⊢
      rw [kC_s, kC_0]
      omega
    | succ j =>
      have a := ih (j + 1)
      have b := ih j
      rw [kC_s, Nat.add_mul, kC_s y j, Nat.add_mul]
      rcases Nat.lt_or_ge y (j + 1) with h | h
      · rw [kC_gt h] at a b ⊢
        rw [kC_gt (n := y) (k := j + 1 + 1) (by omega)]
        rw [show y + 1 - (j + 1) = y - j by omega, ← b]
        omega
      · have e1 : kC y (j + 1) * (j + 1 + 1) = kC y (j + 1) * (j + 1) + kC y (j + 1) := by rw [Nat.mul_add, Nat.mul_one]
        have e2 : kC y (j + 1) * (y - j) = kC y (j + 1) * (y - (j + 1)) + kC y (j + 1) := by rw [show y - j = y - (j + 1) + 1 by omega, Nat.mul_add, Nat.mul_one]
        rw [show y + 1 - (j + 1) = y - j by omega, ← b, a, e1, e2]
        omega
theorem kT1_up {y lie rest j : Nat} (h : j < y) (hr : 0 < rest) : (y - j) * lie * kT1 y lie rest j / ((j + 1) * rest) = kT1 y lie rest (j + 1) := by
  refine Nat.div_eq_of_eq_mul_left (Nat.mul_pos (by omega) hr) ?_
  unfold kT1
  have e : rest ^ (y - j) = rest ^ (y - (j + 1)) * rest := by rw [← Nat.pow_succ]; congr 1; omega
  rw [e, Nat.pow_succ]
  have u := kC_up y j
  calc (y - j) * lie * (kC y j * (lie ^ j * (rest ^ (y - (j + 1)) * rest))) = (kC y j * (y - j)) * (lie * lie ^ j * rest ^ (y - (j + 1)) * rest) := by ac_rfl
    _ = (kC y (j + 1) * (j + 1)) * (lie * lie ^ j * rest ^ (y - (j + 1)) * rest) := by rw [u]
    _ = kC y (j + 1) * (lie ^ j * lie * rest ^ (y - (j + 1))) * ((j + 1) * rest) := by ac_rfl
theorem pow20 {all y : Nat} (ha : all ≤ 20) (hy : y ≤ 40) : all ^ y ≤ 20 ^ 40 :=
  Nat.le_trans (Nat.pow_le_pow_left ha y) (Nat.pow_le_pow_right (by omega) hy)
theorem n20a : 20 ^ 40 * 1000000 < 1073741824 ^ 9 := by decide
theorem n20b : 2 ^ 40 * 20 ^ 40 * 1000000 < 100000000 ^ 12 := by decide
/-- in millionths: to be drawn so often or less -/
def kSel (K : Nat → Int) (t : Nat) : Nat := if K 100 < K 390 then 1000000 * kTs (K 392).toNat (K 100).toNat (K 390 - K 100).toNat (t + 1) / (K 390).toNat ^ (K 392).toNat else 1000000
theorem kSel_in {K : Nat → Int} (hk : kOk K) (t : Nat) : kSel K t ≤ 1000000 := by
  have ht := kTerms hk
  unfold kSel
  split
  · refine Nat.div_le_of_le_mul ?_
    rw [Nat.mul_comm]
    refine Nat.mul_le_mul_right _ ?_
    have := kTs_le (K 100).toNat (K 390 - K 100).toNat (K 392).toNat (t + 1)
    rw [show (K 100).toNat + (K 390 - K 100).toNat = (K 390).toNat by omega] at this
    exact this
  · omega
theorem kSel_mono {K : Nat → Int} {s t : Nat} (h : s ≤ t) : kSel K s ≤ kSel K t := by
  unfold kSel
  split
  · exact Nat.div_le_div_right (Nat.mul_le_mul_left _ (kTs_mono (by omega)))
  · omega
theorem rV_digit {D : zDa} {a B n V : Nat} (h : rV D a B (n + 1) V) (hV : V < B) : D a 0 = (V : Int) := by
  obtain ⟨d, h1, h2⟩ := h
  rw [dV_uV, uV_s] at h2
  have e0 := h1 0 (by omega)
  rcases Nat.eq_zero_or_pos (uV B d (0 + 1) n) with e | e
  · rw [e, Nat.mul_zero, Nat.add_zero] at h2
    rw [e0.1, h2]
  · have := Nat.mul_le_mul_left B (show 1 ≤ uV B d (0 + 1) n from e)
    rw [Nat.mul_one] at this
    omega
section NM2
variable {F : zFs} {D : zDa} {Z : Nat → Prop} {K : Nat → Int}
theorem pX5_noMoreThan (h : qSt F D Z 1 K) (hG : zG F) (hZ : ∀ a, Z a → 126 ≤ a) {t : Nat} (ht : (t : Int) ≤ K 392) : qS (fX5_noMoreThan F (t : Int) D) (fun x => x.1 = (kSel K t : Int) ∧ zfr [87, 88] D x.2) := by
  have hk := h.1
  have h0 := hk.1
  have hT := kTerms hk
  have h392 := hk.2.2.2.2.2.1.1
  have e70 : D 7 0 = K 100 := h.2.2.2.1 0 (by omega)
  unfold fX5_noMoreThan
  refine qS_leti (qS_leti ?_)
  rw [e70, h.2.1]
  refine qS_chk (by omega) (qS_leti ?_)
  by_cases hlt : K 100 < K 390
  · refine qS_pos (by omega) ?_
    obtain ⟨lie, hlie⟩ : ∃ x : Nat, K 100 = (x : Int) := ⟨(K 100).toNat, by omega⟩
    obtain ⟨rest, hrest⟩ : ∃ x : Nat, K 390 - K 100 = (x : Int) := ⟨(K 390 - K 100).toNat, by omega⟩
    obtain ⟨all, hall⟩ : ∃ x : Nat, K 390 = (x : Int) := ⟨(K 390).toNat, by omega⟩
    obtain ⟨y, hy⟩ : ∃ x : Nat, K 392 = (x : Int) := ⟨(K 392).toNat, by omega⟩
    have esel : kSel K t = 1000000 * kTs y lie rest (t + 1) / all ^ y := by
      unfold kSel
      rw [if_pos hlt, hlie, hall, hy, ← hlie, ← hall, hrest, hlie, hall]
      rfl
    have P := pow20 (all := all) (y := y) (by omega) (by omega)
    have sle : ∀ s, kTs y lie rest s ≤ all ^ y := fun s => by
      have := kTs_le lie rest y s
      rw [show lie + rest = all by omega] at this
      exact this
    have tle : ∀ j, kT1 y lie rest j ≤ all ^ y := fun j => by
      have := kT1_le y lie rest j
      rw [show lie + rest = all by omega] at this
      exact this
    have nb := n20a
    generalize hA : (20 : Nat) ^ 40 = A at P nb
    generalize hBB : (1073741824 : Nat) ^ 9 = BB at nb
    have y15 : ∀ D1 : zDa, zfr [87, 88] D D1 → D1 1 15 = (y : Int) := fun D1 f => by rw [f 1 (by decide), ← hy]; exact h.2.2.2.2.2.2.1.1
    rw [hrest, hlie, hall]
    refine qS_call (pFill_d0a16 (F := F) (D := D) (a := 87) (len := 9) 0 (gk_87 hG) (gl_87 hG) (by omega)) (fun D5 ⟨l5, f5⟩ => qS_leti ?_)
    have r6 : rV (zwr D5 87 0 1) 87 1073741824 9 1 := by
      refine ⟨fun j => if j = 0 then 1 else 0, fun i hi => ?_, by decide⟩
      rw [zwr_at]
      by_cases e : i = 0
      · rw [if_pos e]; simp [e]
      · rw [if_neg e, l5 i hi]; simp [e]
    have f6 : zfr [87, 88] D (zwr D5 87 0 1) := (f5.mono (by decide)).wr (by decide)
    generalize zwr D5 87 0 1 = D6 at *
    refine qloop1 (fun v D7 => ∃ i : Nat, v = (i : Int) ∧ i ≤ y ∧ rV D7 87 1073741824 9 (rest ^ i) ∧ zfr [87, 88] D D7) (fun v _ => (100 - v).toNat) ?_ ⟨0, rfl, by omega, by rw [Nat.pow_zero]; exact r6, f6⟩ (zfu_gt (by omega))
    intro k45 v D7 ⟨i, ev, hi, r7, f7⟩ ih
    subst ev
    unfold fX5_noMoreThan_45
    rw [y15 D7 f7]
    refine qS_ite (fun c1 => ?_) (fun c1 => ?_)
    · have pb : rest * rest ^ i ≤ all ^ y := by
        rw [Nat.mul_comm, ← Nat.pow_succ]
        exact Nat.le_trans (Nat.pow_le_pow_left (show rest ≤ all by omega) _) (Nat.pow_le_pow_right (by omega) (by omega))
      refine qS_call (pX5_multiply (F := F) (gk_87 hG) (gl_87 hG) r7 (y := rest) (by omega) (by rw [hBB]; omega)) (fun D8 ⟨r8, f8⟩ => ?_)
      refine qS_chk (by omega) (ih _ _ ⟨i + 1, by omega, by omega, ?_, f7.trans (f8.mono (by decide))⟩ (by omega))
      rw [Nat.pow_succ, Nat.mul_comm]; exact r8
    · have : i = y := by omega
      subst this
      refine qS_chk (by omega) (qS_leti ?_)
      have e88 : ∀ j, j < 9 → (zrow D7 88 (va_cpy (D7 87) (D7 88) 0 0 9)) 88 j = D7 87 j := fun j hj => by
        rw [zrow_eq]; unfold va_cpy; rw [if_pos (by omega)]; congr 1; omega
      have s9 : rV (zrow D7 88 (va_cpy (D7 87) (D7 88) 0 0 9)) 88 1073741824 9 (kTs i lie rest 1) := by
        obtain ⟨d, g1, g2⟩ := r7
        refine ⟨d, fun j hj => by rw [e88 j hj]; exact g1 j hj, ?_⟩
        rw [g2, kTs_s, kT1_0]
        show _ = 0 + _
        omega
      have r9 : rV (zrow D7 88 (va_cpy (D7 87) (D7 88) 0 0 9)) 87 1073741824 9 (kT1 i lie rest 0) := by rw [kT1_0]; exact r7.fr (zrow_row (by omega))
      have f9 : zfr [87, 88] D (zrow D7 88 (va_cpy (D7 87) (D7 88) 0 0 9)) := f7.row (by decide)
      generalize zrow D7 88 (va_cpy (D7 87) (D7 88) 0 0 9) = D9 at *
      refine qloop1 (fun v D1 => ∃ j : Nat, v = (j : Int) + 1 ∧ j ≤ t ∧ rV D1 87 1073741824 9 (kT1 i lie rest j) ∧ rV D1 88 1073741824 9 (kTs i lie rest (j + 1)) ∧ zfr [87, 88] D D1) (fun v _ => (100 - v).toNat) ?_ ⟨0, rfl, by omega, r9, s9, f9⟩ (zfu_gt (by omega))
      intro k87 v D1 ⟨j, ev, hj, r1, s1, f1⟩ ih2
      subst ev
      unfold fX5_noMoreThan_87
      refine qS_ite (fun c2 => ?_) (fun c2 => ?_)
      · have : j = t := by omega
        subst this
        have sb := sle (j + 1)
        refine qS_call (pX5_multiply (F := F) (y := 1000000) (gk_88 hG) (gl_88 hG) s1 (by omega) (by rw [hBB]; omega)) (fun D11 ⟨r11, f11⟩ => ?_)
        have f1b : zfr [87, 88] D D11 := f1.trans (f11.mono (by decide))
        refine qloop1 (fun v D12 => ∃ e : Nat, v = (e : Int) ∧ e ≤ i ∧ rV D12 88 1073741824 9 (1000000 * kTs i lie rest (j + 1) / all ^ e) ∧ zfr [87, 88] D D12) (fun v _ => (100 - v).toNat) ?_ ⟨0, rfl, by omega, by rw [Nat.pow_zero, Nat.div_one]; exact r11, f1b⟩ (zfu_gt (by omega))
        intro k145 v D12 ⟨e, ev, he, r12, f12⟩ ih3
        subst ev
        unfold fX5_noMoreThan_145
        rw [y15 D12 f12]
        refine qS_ite (fun c3 => ?_) (fun c3 => ?_)
        · refine qS_call (pX5_divide (F := F) (gk_88 hG) (gl_88 hG) r12 (y := all) (by omega)) (fun D13 ⟨r13, f13⟩ => ?_)
          refine qS_chk (by omega) (ih3 _ _ ⟨e + 1, by omega, by omega, ?_, f12.trans (f13.mono (by decide))⟩ (by omega))
          rw [Nat.pow_succ, ← Nat.div_div_eq_div_mul]; exact r13
        · have : e = i := by omega
          subst this
          rw [← esel] at r12
          have sin := kSel_in hk j
          have dg := rV_digit (n := 8) r12 (by omega)
          refine qS_ret ⟨?_, f12⟩
          dsimp only
          rw [dg, zl2i_in (by omega)]
      · have tb := tle j
        have tb1 := tle (j + 1)
        have sb := sle (j + 2)
        rw [kTs_s] at sb
        rw [y15 D1 f1]
        have eb : ((i : Int) - ((j : Int) + 1) + 1) * (lie : Int) = (((i - j) * lie : Nat) : Int) := by
          rw [Int.natCast_mul]; congr 1; omega
        have ec : ((j : Int) + 1) * (rest : Int) = (((j + 1) * rest : Nat) : Int) := by rw [Int.natCast_mul]; rfl
        have b1 : (i - j) * lie ≤ 40 * 20 := Nat.mul_le_mul (by omega) (by omega)
        have b2 : (j + 1) * rest ≤ 41 * 20 := Nat.mul_le_mul (by omega) (by omega)
        have b3 : 0 < (j + 1) * rest := Nat.mul_pos (by omega) (by omega)
        have b4 : (i - j) * lie * kT1 i lie rest j ≤ 800 * all ^ i := Nat.mul_le_mul b1 tb
        rw [eb, ec]
        refine qS_chk (by omega) ?_
        refine qS_call (pX5_multiply (F := F) (gk_87 hG) (gl_87 hG) r1 (y := (i - j) * lie) (by omega) (by rw [hBB]; omega)) (fun D15 ⟨r15, f15⟩ => qS_chk (by omega) ?_)
        refine qS_call (pX5_divide (F := F) (gk_87 hG) (gl_87 hG) r15 (y := (j + 1) * rest) (by omega)) (fun D17 ⟨r17, f17⟩ => ?_)
        rw [kT1_up (by omega) (by omega)] at r17
        have s17 : rV D17 88 1073741824 9 (kTs i lie rest (j + 1)) := s1.fr (by rw [f17 88 (by decide), f15 88 (by decide)])
        refine qS_call (pX5_addTerm (F := F) hG s17 r17 (by rw [hBB]; omega)) (fun D19 ⟨r19, f19⟩ => ?_)
        refine qS_chk (by omega) (ih2 _ _ ⟨j + 1, by omega, by omega, r17.fr (f19 87 (by decide)), r19, ((f1.trans (f15.mono (by decide))).trans (f17.mono (by decide))).trans (f19.mono (by decide))⟩ (by omega))
  · refine qS_neg (by omega) (qS_ret ⟨?_, zfr.rfl' _ _⟩)
    unfold kSel
    rw [if_neg hlt]
    rfl
end NM2
