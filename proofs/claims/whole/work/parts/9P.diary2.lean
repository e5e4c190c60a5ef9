section DJ
variable {F : zFs} {D : zDa} {Z : Nat → Prop} {K : Nat → Int}
theorem pX1_forget (h : qSt F D Z 1 K) (hG : zG F) (hZ : ∀ a, Z a → 126 ≤ a) {S : dT} {M : Nat} (hS : cDS D S (K 390)) (hM : dOkM M S) (hMM : M ≤ 100000) {d : Nat} (hd : d < 20) : qS (fX1_forget F (d : Int) D) (fun D' => cDS D' (dFgN K (d : Int) S (K 390).toNat) (K 390) ∧ D' 73 2 = D 73 2 ∧ zfr [49, 50, 51, 73, 74, 75] D D') := by
  have h0 := h.1.1
  unfold fX1_forget
  refine qloop1 (fun v D1 => ∃ j : Nat, v = (j : Int) ∧ j ≤ (K 390).toNat ∧ cDS D1 (dFgN K (d : Int) S j) (K 390) ∧ D1 73 2 = D 73 2 ∧ zfr [49, 50, 51, 73, 74, 75] D D1) (fun v _ => (100 - v).toNat) ?_ ⟨0, rfl, by omega, hS, rfl, zfr.rfl' _ _⟩ (zfu_gt (by omega))
  intro kk v D1 ⟨j, ev, hj, c1, s1, f1⟩ ih
  subst ev
  have q1 := h.zfr hZ f1 (by decide)
  have ok := dFgN_ok (K := K) hM (day := (d : Int)) (by omega) j
  have hnx : dFgN K (d : Int) S (j + 1) = dFg K (d : Int) j (dFgN K (d : Int) S j) := rfl
  generalize hT : dFgN K (d : Int) S j = T at *
  unfold fX1_forget_2
  rw [q1.2.1]
  refine qS_ite (fun hjn => ?_) (fun hjn => ?_)
  · refine qS_chk (by omega) ?_
    have cj := c1.1 j (by omega)
    have oj := ok.1 j
    have keep : ∀ D2 : zDa, zfr [49, 50, 51] D1 D2 → dFg K (d : Int) j T = T → qS (fX1_forget_84 F kk (d : Int) (j : Int) D2) (fun D' => cDS D' (dFgN K (d : Int) S (K 390).toNat) (K 390) ∧ D' 73 2 = D 73 2 ∧ zfr [49, 50, 51, 73, 74, 75] D D') := by
      intro D2 f2 e
      unfold fX1_forget_84
      exact qS_chk (by omega) (ih _ _ ⟨j + 1, by omega, by omega, by rw [hnx, e]; exact c1.fr (f2 73 (by decide)) (f2 74 (by decide)) (f2 75 (by decide)), by rw [f2 73 (by decide)]; exact s1, f1.trans (f2.mono (by decide))⟩ (by omega))
    rw [show ((j : Int)).toNat = j by omega, cj.1, cj.2]
    refine qS_ite (fun e1 => ?_) (fun e1 => keep D1 (zfr.rfl' _ _) (by unfold dFg; rw [if_neg (by omega)]))
    have hkp := kKeeps_in K j (T.1 j)
    refine qS_ite (fun e2 => ?_) (fun e2 => keep D1 (zfr.rfl' _ _) (by unfold dFg; rw [if_neg (by omega)]))
    refine qS_chk (by omega) ?_
    refine qS_call (pX10_daysKept q1 hG hZ (q := j) (by omega) (l := T.1 j) (by omega)) (fun r ⟨hr, f2⟩ => ?_)
    obtain ⟨kp, D2⟩ := r
    dsimp only at hr f2 ⊢
    subst hr
    refine qS_ite (fun e3 => keep D2 f2 (by unfold dFg; rw [if_neg (by omega)])) (fun e3 => ?_)
    have c2 : cDS D2 T (K 390) := c1.fr (f2 73 (by decide)) (f2 74 (by decide)) (f2 75 (by decide))
    rw [(c2.1 j (by omega)).1]
    have e9 : (zwr (zwr D2 74 j (T.1 j - 1)) 75 j (d : Int)) 73 9 = T.2.2.2.2 := by rw [zwr_row (by omega), zwr_row (by omega)]; exact c2.2.2.2
    have b9 := ok.2.2
    refine qS_chk (by omega) (qS_leti (qS_leti (qS_chk (by rw [e9]; omega) (qS_leti ?_))))
    rw [e9]
    have ee : dFg K (d : Int) j T = (zset T.1 j (T.1 j - 1), zset T.2.1 j (d : Int), T.2.2.1, T.2.2.2.1, T.2.2.2.2 + 1) := by unfold dFg; rw [if_pos ⟨e1, by omega⟩]
    unfold fX1_forget_84
    refine qS_chk (by omega) (ih _ _ ⟨j + 1, by omega, by omega, ?_, ?_, ?_⟩ (by omega))
    · rw [hnx, ee]
      refine ⟨fun p hp => ?_, ?_, ?_, ?_⟩
      · dsimp only
        by_cases e : p = j
        · subst e
          rw [zwr_row (by omega), zwr_row (by omega), zwr_eq, zwr_row (by omega), zwr_eq, zset_eq, zset_eq]; exact ⟨rfl, rfl⟩
        · rw [zwr_row (by omega), zwr_row (by omega), zwr_off (by omega), zwr_row (by omega), zwr_off (by omega), zwr_row (by omega), zset_off e, zset_off e]; exact c2.1 p hp
      · rw [zwr_off (by omega), zwr_row (by omega), zwr_row (by omega)]; exact c2.2.1
      · rw [zwr_off (by omega), zwr_row (by omega), zwr_row (by omega)]; exact c2.2.2.1
      · rw [zwr_eq]
    · rw [zwr_off (by omega), zwr_row (by omega), zwr_row (by omega), f2 73 (by decide)]; exact s1
    · exact (((f1.trans (f2.mono (by decide))).wr (by decide)).wr (by decide)).wr (by decide)
  · have : j = (K 390).toNat := by omega
    subst this
    exact qS_ret ⟨by rw [hT]; exact c1, s1, f1⟩
/-- what the class's diary holds when it is fresh -/
def cDc (D : zDa) (K : Nat → Int) : Prop :=
  (∀ d : Nat, (d : Int) < K 105 → (D 77 d = dH K d) ∧ ∀ q : Nat, (q : Int) < K 390 → D 76 (20 * d + q) = (dN K (d + 1)).1 q) ∧
  D 73 7 = (dN K (K 105).toNat).2.2.1 ∧ D 73 8 = (dN K (K 105).toNat).2.2.2.1 ∧ D 73 9 = (dN K (K 105).toNat).2.2.2.2
def cDi (D : zDa) (K : Nat → Int) : Prop := D 73 2 ≤ D 1 17 ∧ (D 73 2 = D 1 17 → cDc D K)
theorem pX1_refresh (h : qSt F D Z 1 K) (hG : zG F) (hZ : ∀ a, Z a → 126 ≤ a) (hi : cDi D K) : qS (fX1_refresh F D) (fun D' => cDc D' K ∧ D' 73 2 = D 1 17 ∧ zfr [49, 50, 51, 73, 74, 75, 76, 77] D D') := by
  have h0 := h.1.1
  have ht := kTerms h.1
  unfold fX1_refresh
  refine qS_ite (fun e => qS_ret ⟨hi.2 e, e, zfr.rfl' _ D⟩) (fun e => ?_)
  refine qS_leti ?_
  refine qS_call (pFill_53178 0 (gk_74 hG) (gl_74 hG) (by omega)) (fun D1 ⟨z1, f1⟩ => ?_)
  refine qS_call (pFill_53178 0 (gk_75 hG) (gl_75 hG) (by omega)) (fun D2 ⟨z2, f2⟩ => ?_)
  refine qS_leti (qS_leti (qS_leti ?_))
  have f3 : zfr [49, 50, 51, 73, 74, 75, 76, 77] D (zwr (zwr (zwr D2 73 7 0) 73 8 (-1)) 73 9 0) := ((((((zfr.rfl' _ D).wr (by decide)).trans (f1.mono (by decide))).trans (f2.mono (by decide))).wr (by decide)).wr (by decide)).wr (by decide)
  have s3 : (zwr (zwr (zwr D2 73 7 0) 73 8 (-1)) 73 9 0) 73 2 = D 1 17 := by rw [zwr_off (by omega), zwr_off (by omega), zwr_off (by omega), f2 73 (by decide), f1 73 (by decide), zwr_eq]
  have c3 : cDS (zwr (zwr (zwr D2 73 7 0) 73 8 (-1)) 73 9 0) (dN K 0) (K 390) := by
    refine ⟨fun q hq => ?_, ?_, ?_, ?_⟩
    · rw [zwr_row (by omega), zwr_row (by omega), zwr_row (by omega), zwr_row (by omega), zwr_row (by omega), zwr_row (by omega), f2 74 (by decide), z1 q (by omega), z2 q (by omega)]; exact ⟨rfl, rfl⟩
    · rw [zwr_off (by omega), zwr_off (by omega), zwr_eq]; rfl
    · rw [zwr_off (by omega), zwr_eq]; rfl
    · rw [zwr_eq]; rfl
  generalize zwr (zwr (zwr D2 73 7 0) 73 8 (-1)) 73 9 0 = D3 at *
  refine qloop1 (fun v D4 => ∃ d : Nat, v = (d : Int) ∧ d ≤ (K 105).toNat ∧ cDS D4 (dN K d) (K 390) ∧ (∀ i : Nat, i < d → (D4 77 i = dH K i) ∧ ∀ q : Nat, (q : Int) < K 390 → D4 76 (20 * i + q) = (dN K (i + 1)).1 q) ∧ D4 73 2 = D 1 17 ∧ zfr [49, 50, 51, 73, 74, 75, 76, 77] D D4) (fun v _ => (100 - v).toNat) ?_ ⟨0, rfl, by omega, c3, fun i hi => absurd hi (by omega), s3, f3⟩ (zfu_gt (by omega))
  intro kk v D4 ⟨d, ev, hd, c4, b4, s4, f4⟩ ih
  subst ev
  have q4 := h.zfr hZ f4 (by decide)
  have e75 : D4 7 5 = K 105 := q4.2.2.2.1 5 (by omega)
  unfold fX1_refresh_59
  rw [e75]
  refine qS_ite (fun hdn => ?_) (fun hdn => ?_)
  · have ok := dN_ok h.1 d (by omega)
    refine qS_call (pX1_holdLessons q4 hG hZ c4 ok (by omega) (d := d) (by omega)) (fun D5 ⟨c5, g5, k5, s5, f5⟩ => ?_)
    have ok2 := (dLesN_ok h.1 ok (day := (d : Int)) (by omega) (K 391).toNat).1
    have h91 := h.1.2.2.2.1.1
    refine qS_call (pX1_forget (q4.zfr hZ f5 (by decide)) hG hZ c5 ok2 (by omega) (d := d) (by omega)) (fun D6 ⟨c6, s6, f6⟩ => ?_)
    refine qS_chk (by omega) (qS_leti (qS_chk (by omega) ?_))
    have f46 : zfr [49, 50, 51, 73, 74, 75, 77] D4 D6 := (f5.mono (by decide)).trans (f6.mono (by decide))
    refine ih _ _ ⟨d + 1, by omega, by omega, ?_, fun i hi => ⟨?_, fun q hq => ?_⟩, ?_, ?_⟩ (by omega)
    · exact c6.fr (zrow_row (by omega)) (zrow_row (by omega)) (zrow_row (by omega))
    · rw [zrow_row (by omega), f6 77 (by decide)]
      by_cases e : i = d
      · subst e; exact g5
      · rw [k5 i e]; exact (b4 i (by omega)).1
    · rw [zrow_eq, show ((d : Int) * 20).toNat = 20 * d by omega]
      unfold va_cpy
      by_cases e : i = d
      · subst e
        rw [if_pos (by omega), show 0 + (20 * i + q - 20 * i) = q by omega]
        exact (c6.1 q hq).1
      · rw [if_neg (by omega), f46 76 (by decide)]; exact (b4 i (by omega)).2 q hq
    · rw [zrow_row (by omega), s6, s5]; exact s4
    · exact (f4.trans (f46.mono (by decide))).row (by decide)
  · have : d = (K 105).toNat := by omega
    subst this
    exact qS_ret ⟨⟨fun i hi => b4 i (by omega), c4.2⟩, s4, f4⟩
end DJ
