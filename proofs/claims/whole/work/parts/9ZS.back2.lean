/-! ===== lessons laid back, class ===== -/
def kSq (K : Nat → Int) (q : Nat) (h H : Int) (lev : Nat) (T : bT) (e : Nat) : bT := match e with
  | 0 => T
  | e + 1 => kLd H (kSq K q h H lev T e) (kTakes K q ((lev - e : Nat) : Int) h 0) (2 * q + (lev - e) - 1)
theorem kSq_s (K : Nat → Int) (q : Nat) (h H : Int) (lev : Nat) (T : bT) (e : Nat) : kSq K q h H lev T (e + 1) = kLd H (kSq K q h H lev T e) (kTakes K q ((lev - e : Nat) : Int) h 0) (2 * q + (lev - e) - 1) := rfl
theorem kSq_ok {K : Nat → Int} {q : Nat} {h H : Int} {lev c : Nat} {T : bT} (ht : bTo T c) (hH : 0 ≤ H ∧ H ≤ 16) : ∀ e, bTo (kSq K q h H lev T e) (c + e)
  | 0 => ht
  | e + 1 => by rw [kSq_s]; exact kLd_ok (kSq_ok ht hH e) hH (kTakes_in ..).1
section CL
variable {F : zFs} {D : zDa} {Z : Nat → Prop} {K : Nat → Int} {bp bh H : Int}
theorem kTakes_co {q a b : Nat} (h1 : kCo K q 1 a = kCo K q 1 b) (h2 : kCo K q 2 a = kCo K q 2 b) {l : Nat} (hl : 1 ≤ l ∧ l ≤ 2) : kTakes K q (l : Int) (a : Int) 0 = kTakes K q (l : Int) (b : Int) 0 := by
  rw [kCo_1, kCo_1] at h1
  rw [kCo_2, kCo_2] at h2
  rcases (by omega : l = 1 ∨ l = 2) with rfl | rfl
  · exact h1
  · show kTakes K q 2 (a : Int) 0 = kTakes K q 2 (b : Int) 0
    omega
theorem pX4_firstTakes (h : qSt F D Z 1 K) (hG : zG F) (hZ : ∀ a, Z a → 126 ≤ a) {q e l : Nat} (hq : (q : Int) < K 390) (he : e < 2) (h70 : D 70 q = (e : Int)) (hl : 1 ≤ l ∧ l ≤ 2) : qS (fX4_firstTakes F (q : Int) (l : Int) D) (fun x => x.1 = kTakes K q (l : Int) (e : Int) 0 ∧ zfr [49, 50, 51] D x.2) := by
  have h0 := h.1.1
  unfold fX4_firstTakes
  rw [show ((q : Int)).toNat = q by omega, h70]
  refine qS_chk (by omega) ?_
  refine qS_call (pX10_hoursOf h hG hZ hq (l := (l : Int)) (e := (e : Int)) (d := 0) (by omega) (by omega) (by omega)) (fun x hx => ?_)
  exact qS_ret hx
theorem pX0_layAll (h : qSt F D Z 1 K) (hG : zG F) (hZ : ∀ a, Z a → 126 ≤ a) (hf : cFst D K bp bh) {T : bT} {q lev c : Nat} (hb : cBk D T H) (ht : bTo T c) (hc : c ≤ 100) (hH : 0 ≤ H ∧ H ≤ 16) (hq : (q : Int) < K 390) (hlev : lev = 1 ∨ lev = 2) (hfl : kFl K bp bh q = (lev : Int)) :
    qS (fX0_layAll F (q : Int) (lev : Int) D) (fun D' => cBk D' (kByQ K bp bh H lev q T) H ∧ zfr [49, 50, 51, 71, 72] D D') := by
  have h0 := h.1.1
  have ho : K (5 * q + 4) = 0 := by
    by_cases e : K (5 * q + 4) = 0
    · exact e
    · unfold kFl at hfl; rw [if_neg e] at hfl; omega
  obtain ⟨e, he, h70, c1, c2⟩ := ((hf q (by omega)).1 hq).2 ho
  have eT : kByQ K bp bh H lev q T = kSq K q (e : Int) H lev T lev := by
    unfold kByQ
    rw [if_pos hfl]
    have k1 := kTakes_co c1 c2 (l := 1) (by omega)
    have k2 := kTakes_co c1 c2 (l := 2) (by omega)
    rcases hlev with rfl | rfl
    · rw [if_neg (by omega)]
      show kLd H T _ (2 * q) = kLd H T (kTakes K q ((1 : Nat) : Int) (e : Int) 0) (2 * q + 1 - 1)
      rw [k1]; rfl
    · rw [if_pos rfl]
      show kLd H (kLd H T _ (2 * q + 1)) _ (2 * q) = kLd H (kLd H T (kTakes K q ((2 : Nat) : Int) (e : Int) 0) (2 * q + 2 - 1)) (kTakes K q ((1 : Nat) : Int) (e : Int) 0) (2 * q + 1 - 1)
      rw [k1, k2]; rfl
  rw [eT]
  unfold fX0_layAll
  refine qloop1 (fun v D1 => ∃ t : Nat, v = (t : Int) ∧ t ≤ lev ∧ cBk D1 (kSq K q (e : Int) H lev T (lev - t)) H ∧ zfr [49, 50, 51, 71, 72] D D1) (fun v _ => v.toNat) ?_ ⟨lev, rfl, Nat.le_refl _, by rw [Nat.sub_self]; exact hb, zfr.rfl' _ _⟩ (zfu_gt (by omega))
  intro k2 v D1 ⟨t, ev, htl, b1, f1⟩ ih
  subst ev
  unfold fX0_layAll_2
  refine qS_ite (fun c3 => ?_) (fun c3 => ?_)
  · refine qS_call (pX4_firstTakes (h.zfr hZ f1 (by decide)) hG hZ (q := q) (e := e) (l := t) hq he (by rw [f1 70 (by decide)]; exact h70) (by omega)) (fun x ⟨hx, f2⟩ => ?_)
    obtain ⟨x1, D2⟩ := x
    dsimp only at hx f2 ⊢
    subst hx
    have tk := kTakes_in K q (t : Int) (e : Int) 0
    have b2 : cBk D2 (kSq K q (e : Int) H lev T (lev - t)) H := by
      unfold cBk; rw [f2 71 (by decide), f2 72 (by decide)]; exact b1
    have ok := kSq_ok (K := K) (q := q) (h := (e : Int)) (lev := lev) ht hH (lev - t)
    refine cLay1 b2 ok (by omega) hH (by omega) (by omega) tk (fun D3 b3 f3 => ?_)
    refine ih _ _ ⟨t - 1, by omega, by omega, ?_, (f1.trans (f2.mono (by decide))).trans (f3.mono (by decide))⟩ (by omega)
    rw [show lev - (t - 1) = lev - t + 1 by omega, kSq_s, show lev - (lev - t) = t by omega]
    exact b3
  · have : t = 0 := by omega
    subst this
    rw [Nat.sub_zero] at b1
    exact qS_ret ⟨b1, f1⟩
theorem pX0_lay {N r : Nat} {bq : Nat → Nat} (h : qSt F D Z 1 K) (hG : zG F) (hZ : ∀ a, Z a → 126 ≤ a) (hr : r = 66 ∨ 126 ≤ r) (fr : cFresh F D K N bq r) :
    qS (fX0_lay F (K 105) (K 106) D) (fun D' => cBk D' (kBack K) (K 106) ∧ cFresh F D' K N bq r ∧ D' 60 11 = D 60 11 ∧ zfr [49, 50, 51, 60, 69, 70, 71, 72] D D') := by
  have hk := h.1
  have h0 := hk.1
  have ht := kTerms hk
  have hm := mul2b (a := K 105) (b := K 106) (A := 20) (B := 16) (by omega) (by omega)
  unfold fX0_lay
  refine qS_chk (by omega) ?_
  refine qS_call (pc_findFirst h hG fr (hours := K 105 * K 106) (by omega)) (fun D2 ⟨fr2, fs2, e11, f2⟩ => ?_)
  have eB : kBack K = kByN K (kBB K (K 105 * K 106)).1 (kBB K (K 105 * K 106)).2 (K 106) 1 (kByN K (kBB K (K 105 * K 106)).1 (kBB K (K 105 * K 106)).2 (K 106) 2 (K 105 - 1, K 106, 0, -1, fun _ => -1) (K 390).toNat) (K 390).toNat := rfl
  rw [eB]
  generalize (kBB K (K 105 * K 106)).1 = bp at *
  generalize (kBB K (K 105 * K 106)).2 = bh at *
  refine qS_call (pFill_53178 (F := F) (D := D2) (a := 72) (len := 60) (-1) (gk_72 hG) (gl_72 hG) (by omega)) (fun D4 ⟨l4, f4⟩ => ?_)
  refine qS_leti (qS_leti (qS_chk (by omega) (qS_leti (qS_leti (qS_leti ?_)))))
  have b9 : cBk (zwr (zwr (zwr (zwr (zwr D4 71 5 0) 71 6 (-1)) 71 2 (K 105 - 1)) 71 4 (K 106)) 71 3 (K 106)) (K 105 - 1, K 106, 0, -1, fun _ => -1) (K 106) := by
    refine ⟨?_, fun _ => zwr_eq, ?_, ?_, ?_, fun q l hq h1 h2 => ?_⟩
    · rw [zwr_off (Or.inr (by omega)), zwr_off (Or.inr (by omega)), zwr_eq]
    · rw [zwr_off (Or.inr (by omega)), zwr_eq]
    · rw [zwr_off (Or.inr (by omega)), zwr_off (Or.inr (by omega)), zwr_off (Or.inr (by omega)), zwr_off (Or.inr (by omega)), zwr_eq]
    · rw [zwr_off (Or.inr (by omega)), zwr_off (Or.inr (by omega)), zwr_off (Or.inr (by omega)), zwr_eq]
    · rw [zwr_row (by omega), zwr_row (by omega), zwr_row (by omega), zwr_row (by omega), zwr_row (by omega)]
      exact l4 _ (by omega)
  have f9 : zfr [71, 72] D2 (zwr (zwr (zwr (zwr (zwr D4 71 5 0) 71 6 (-1)) 71 2 (K 105 - 1)) 71 4 (K 106)) 71 3 (K 106)) := (((((f4.mono (by decide)).wr (by decide)).wr (by decide)).wr (by decide)).wr (by decide)).wr (by decide)
  generalize zwr (zwr (zwr (zwr (zwr D4 71 5 0) 71 6 (-1)) 71 2 (K 105 - 1)) 71 4 (K 106)) 71 3 (K 106) = D9 at *
  have q2 := h.zfr hZ f2 (by decide)
  have ok0 : bTo ((K 105 - 1, K 106, 0, -1, fun _ => -1) : bT) 0 := ⟨by dsimp only; omega, by dsimp only; omega, by dsimp only; omega⟩
  have ok2 := kByN_ok (K := K) (bp := bp) (bh := bh) (H := K 106) (lev := 2) ok0 (by omega) (K 390).toNat
  -- one level over all questions
  have one : ∀ (lev : Nat) (T0 : bT) (c0 : Nat) (k47 : Int → zDa → Option zDa) (D5 : zDa), (lev = 1 ∨ lev = 2) → bTo T0 c0 → c0 ≤ 40 → cBk D5 T0 (K 106) → zfr [49, 50, 51, 71, 72] D2 D5 →
      (∀ D6, cBk D6 (kByN K bp bh (K 106) lev T0 (K 390).toNat) (K 106) → zfr [49, 50, 51, 71, 72] D2 D6 → qS (k47 ((lev : Int) - 1) D6) (fun D' => cBk D' (kByN K bp bh (K 106) 1 (kByN K bp bh (K 106) 2 (K 105 - 1, K 106, 0, -1, fun _ => -1) (K 390).toNat) (K 390).toNat) (K 106) ∧ cFresh F D' K N bq r ∧ D' 60 11 = D 60 11 ∧ zfr [49, 50, 51, 60, 69, 70, 71, 72] D D')) →
      qS (zfix (fun _ _ => none) (fX0_lay_54 F (lev : Int) k47) zfu 0 D5) (fun D' => cBk D' (kByN K bp bh (K 106) 1 (kByN K bp bh (K 106) 2 (K 105 - 1, K 106, 0, -1, fun _ => -1) (K 390).toNat) (K 390).toNat) (K 106) ∧ cFresh F D' K N bq r ∧ D' 60 11 = D 60 11 ∧ zfr [49, 50, 51, 60, 69, 70, 71, 72] D D') := by
    intro lev T0 c0 k47 D5 hlev hok hc0 b5 f5 hend
    refine qloop1 (fun v D6 => ∃ q : Nat, v = (q : Int) ∧ q ≤ 20 ∧ cBk D6 (kByN K bp bh (K 106) lev T0 (min q (K 390).toNat)) (K 106) ∧ zfr [49, 50, 51, 71, 72] D2 D6) (fun v _ => (100 - v).toNat) ?_ ⟨0, rfl, by omega, by rw [Nat.zero_min]; exact b5, f5⟩ (zfu_gt (by omega))
    intro k54 v D6 ⟨q, ev, hq, b6, f6⟩ ih
    subst ev
    have fs6 : cFst D6 K bp bh := by unfold cFst; rw [f6 69 (by decide), f6 70 (by decide)]; exact fs2
    unfold fX0_lay_54
    refine qS_ite (fun c1 => ?_) (fun c1 => ?_)
    · rw [show ((q : Int)).toNat = q by omega]
      refine qS_chk (by omega) ?_
      refine qS_ite (fun c2 => ?_) (fun c2 => ?_)
      · by_cases hqn : (q : Int) < K 390
        · have em : min q (K 390).toNat = q := by omega
          have em1 : min (q + 1) (K 390).toNat = q + 1 := by omega
          rw [em] at b6
          have fl : kFl K bp bh q = (lev : Int) := by rw [← ((fs6 q (by omega)).1 hqn).1]; exact c2
          have ok6 := kByN_ok (K := K) (bp := bp) (bh := bh) (H := K 106) (lev := lev) hok (by omega) q
          refine qS_call (pX0_layAll (q2.zfr hZ f6 (by decide)) hG hZ fs6 b6 ok6 (by omega) (by omega) hqn hlev fl) (fun D7 ⟨b7, f7⟩ => ?_)
          unfold fX0_lay_82
          exact qS_chk (by omega) (ih _ _ ⟨q + 1, by omega, by omega, by rw [em1, kByN_s]; exact b7, f6.trans f7⟩ (by omega))
        · have := (fs6 q (by omega)).2 (by omega)
          omega
      · unfold fX0_lay_82
        refine qS_chk (by omega) (ih _ _ ⟨q + 1, by omega, by omega, ?_, f6⟩ (by omega))
        by_cases hqn : (q : Int) < K 390
        · have em : min q (K 390).toNat = q := by omega
          have em1 : min (q + 1) (K 390).toNat = q + 1 := by omega
          rw [em] at b6
          rw [em1, kByN_s]
          unfold kByQ
          rw [if_neg (by rw [← ((fs6 q (by omega)).1 hqn).1]; exact c2)]
          exact b6
        · have em : min q (K 390).toNat = (K 390).toNat := by omega
          have em1 : min (q + 1) (K 390).toNat = (K 390).toNat := by omega
          rw [em] at b6
          rw [em1]; exact b6
    · refine qS_chk (by omega) ?_
      rw [show (lev : Int) + -1 = (lev : Int) - 1 by omega]
      rw [show min q (K 390).toNat = (K 390).toNat by omega] at b6
      exact hend D6 b6 f6
  refine qloop1 (fun v D5 => (v = 2 ∧ D5 = D9) ∨ (v = 1 ∧ cBk D5 (kByN K bp bh (K 106) 2 (K 105 - 1, K 106, 0, -1, fun _ => -1) (K 390).toNat) (K 106) ∧ zfr [49, 50, 51, 71, 72] D2 D5) ∨ (v = 0 ∧ cBk D5 (kByN K bp bh (K 106) 1 (kByN K bp bh (K 106) 2 (K 105 - 1, K 106, 0, -1, fun _ => -1) (K 390).toNat) (K 390).toNat) (K 106) ∧ zfr [49, 50, 51, 71, 72] D2 D5)) (fun v _ => v.toNat) ?_ (Or.inl ⟨rfl, rfl⟩) (zfu_gt (by omega))
  intro k47 v D5 hv ih
  unfold fX0_lay_47
  rcases hv with ⟨rfl, rfl⟩ | ⟨rfl, b5, f5⟩ | ⟨rfl, b5, f5⟩
  · refine qS_pos (by omega) ?_
    exact one 2 _ 0 k47 D5 (Or.inr rfl) ok0 (by omega) b9 (f9.mono (by decide)) (fun D6 b6 f6 => ih _ _ (Or.inr (Or.inl ⟨by omega, b6, f6⟩)) (by omega))
  · refine qS_pos (by omega) ?_
    exact one 1 _ _ k47 D5 (Or.inl rfl) ok2 (by omega) b5 f5 (fun D6 b6 f6 => ih _ _ (Or.inr (Or.inr ⟨by omega, b6, f6⟩)) (by omega))
  · refine qS_neg (by omega) (qS_ret ⟨b5, ?_, ?_, (f2.mono (by decide)).trans (f5.mono (by decide))⟩)
    · have g : ∀ a, a ≠ 49 → a ≠ 50 → a ≠ 51 → a ≠ 71 → a ≠ 72 → D5 a = D2 a := fun a h1 h2 h3 h4 h5 => f5 a (by simp; omega)
      obtain ⟨p1, p2, p3, p4⟩ := fr2
      have e60 : D5 60 = D2 60 := f5 60 (by decide)
      refine ⟨?_, by rw [e60, f5 1 (by decide)]; exact p2, by rw [e60, f5 1 (by decide)]; exact p3, ?_⟩
      · obtain ⟨a1, a2, a3, a4⟩ := p1
        refine ⟨a1.fr (by rw [e60]) (by rw [e60]) (f5 61 (by decide)) (f5 62 (by decide)) (f5 63 (by decide)) (f5 64 (by decide)) (f5 65 (by decide)) (f5 r (by simp; omega)), a2, ?_, by rw [e60]; exact a4⟩
        rw [f5 67 (by decide)]; exact a3
      · unfold cFi cFst
        rw [e60, f5 69 (by decide), f5 70 (by decide)]; exact p4
    · rw [f5 60 (by decide)]; exact e11
end CL
section CM
variable {F : zFs} {D : zDa} {Z : Nat → Prop} {K : Nat → Int} {n sl r : Nat}
theorem pc_backward_28 (h : qSt F D Z 1 K) (hG : zG F) (hZ : ∀ a, Z a → 126 ≤ a ∧ a < n) (hLt : cLot D) (hw : cRw F D Z n r) (hi : cPn F D K r) (hn : 126 ≤ n) (hn9 : n < 900000) {q level : Int} (hv : (1 ≤ level ∧ level ≤ 2) ∧ (q = -1 ∨ (0 ≤ q ∧ q < K 390))) :
    qS (fX11_backward_28 q level F D n sl) (cOut F D Z K n sl r (oBackward K q level)) := by
  have h0 := h.1.1
  unfold fX11_backward_28 oBackward
  rw [if_pos hv]
  refine qS_call (pX4_refresh h hG hZ hLt hw hi hn hn9) (fun M ⟨F', D', n', sl', r', N, bq, eM, g, fr, w', f'⟩ => ?_)
  subst eM
  have G := g.G hG hn
  dsimp only
  refine qS_chk G ?_
  have q' := qSt_grow h hZ hw.2.2.2.1 g f' (by simp) hw.2.1 hn
  have e75 : D' 7 5 = K 105 := q'.2.2.2.1 5 (by omega)
  have e76 : D' 7 6 = K 106 := q'.2.2.2.1 6 (by omega)
  rw [e75, e76]
  refine qS_call (pX0_lay q' G.1 (fun a ha => (hZ a ha).1) w'.2.1 fr) (fun D7 ⟨b7, fr7, e11, f7⟩ => ?_)
  obtain ⟨c1, c2, c3, c4, c5, c6⟩ := b7
  have out : ∀ a, cOut F D Z K n sl r a (a, (F', D7, n', sl')) := fun a => ⟨F', D7, n', sl', r', rfl, g, fr7.pn, ⟨by rw [e11]; exact w'.1, w'.2⟩, (f'.mono (by simp)).trans (f7.mono (by simp))⟩
  by_cases hq : q = -1
  · rw [if_pos hq, if_pos hq]
    refine qS_ite (fun e => ?_) (fun e => ?_)
    · rw [if_pos e, c4]; exact qS_ret (out _)
    · rw [if_neg e, c5]; exact qS_ret (out _)
  · rw [if_neg hq, if_neg hq]
    unfold fX0_dayOf
    rw [if_pos (by omega)]
    refine qS_step rfl ?_
    dsimp only
    have := c6 q.toNat level.toNat (by omega) (by omega) (by omega)
    rw [show (q * 3 + level).toNat = 3 * q.toNat + level.toNat by omega, this, show 2 * q.toNat + level.toNat - 1 = (2 * q + level - 1).toNat by omega]
    exact qS_ret (out _)
theorem pc_backward (h : qSt F D Z 1 K) (hG : zG F) (hZ : ∀ a, Z a → 126 ≤ a ∧ a < n) (hLt : cLot D) (hw : cRw F D Z n r) (hi : cPn F D K r) (hn : 126 ≤ n) (hn9 : n < 900000) (q level : Int) :
    qS (fX11_backward q level F D n sl) (cOut F D Z K n sl r (oBackward K q level)) := by
  by_cases hv : (1 ≤ level ∧ level ≤ 2) ∧ (q = -1 ∨ (0 ≤ q ∧ q < K 390))
  · unfold fX11_backward
    refine qS_neg (by omega) (qS_pos (by omega) ?_)
    refine qS_ite (fun e => pc_backward_28 h hG hZ hLt hw hi hn hn9 hv) (fun e => ?_)
    refine qS_step (pX9_has q) ?_
    rw [h.2.1, if_pos (by omega)]
    exact qS_neg (by omega) (pc_backward_28 h hG hZ hLt hw hi hn hn9 hv)
  · have eo : oBackward K q level = -1 := by unfold oBackward; rw [if_neg hv]
    rw [eo]
    unfold fX11_backward
    refine qS_ite (fun _ => qS_ret (cOut_no hi hw _)) (fun c1 => qS_ite (fun c2 => ?_) (fun _ => qS_ret (cOut_no hi hw _)))
    refine qS_neg (by omega) ?_
    refine qS_step (pX9_has q) ?_
    rw [h.2.1, if_neg (by omega)]
    exact qS_pos rfl (qS_ret (cOut_no hi hw _))
end CM
