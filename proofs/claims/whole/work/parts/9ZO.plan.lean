/-! ===== the planner's calls ===== -/
def cRw (F : zFs) (D : zDa) (Z : Nat → Prop) (n r : Nat) : Prop := D 60 11 = (r : Int) ∧ (r = 66 ∨ 126 ≤ r) ∧ r < n ∧ ¬ Z r ∧ (F r).1 = 20 ∧ (F r).2.1 ≤ 160000
def cWp (D : zDa) (K : Nat → Int) : Prop := (∀ one two, one + two ≤ (kBowl K).toNat → D 67 (pPl one two) = (kCm K : Int) * kPw K one two) ∧ D 60 17 = (kCm K : Int) * (kSuO K 0 0 : Int)
def cFi (D : zDa) (K : Nat → Int) : Prop := 0 ≤ D 60 14 → ∃ bp bh, kBst K (D 60 14) bp bh ∧ cFst D K bp bh
def cPn (F : zFs) (D : zDa) (K : Nat → Int) (r : Nat) : Prop :=
  (D 60 3 ≤ D 1 16 ∧ D 60 4 ≤ D 1 17) ∧ (D 60 3 = D 1 16 → ∃ N bq, cHr F D K N bq r) ∧ (D 60 4 = D 1 17 → (∃ N bq, cHr F D K N bq r) ∧ cWp D K ∧ cFi D K)
/-- what a call that plans leaves -/
def cOut (F : zFs) (D : zDa) (Z : Nat → Prop) (K : Nat → Int) (n sl r : Nat) (ans : Int) (x : Int × zM) : Prop :=
  ∃ F' D' n' sl' r', x = (ans, (F', D', n', sl')) ∧ cGrow F n sl r F' n' sl' r' ∧ cPn F' D' K r' ∧ cRw F' D' Z n' r' ∧ zfr [49, 50, 51, 54, 55, 58, 60, 61, 62, 63, 64, 65, 67, 68, 69, 70, 71, 72, r, n] D D'
def cFresh (F : zFs) (D : zDa) (K : Nat → Int) (N : Nat) (bq : Nat → Nat) (r : Nat) : Prop := cPl F D K N bq r ∧ D 60 3 ≤ D 1 16 ∧ D 60 4 = D 1 17 ∧ cFi D K
theorem cFresh.pn {F : zFs} {D : zDa} {K : Nat → Int} {N r : Nat} {bq : Nat → Nat} (h : cFresh F D K N bq r) : cPn F D K r := by
  obtain ⟨h1, h2, h3, h4⟩ := h
  refine ⟨⟨by omega, by omega⟩, fun _ => ⟨N, bq, h1.1⟩, fun _ => ⟨⟨N, bq, h1.1⟩, ⟨fun one two h => h1.2.2.1 one two (by rw [← h1.bowl]; exact h), h1.2.2.2⟩, h4⟩⟩
theorem cGrow.rw {F F' : zFs} {D D' : zDa} {Z : Nat → Prop} {n sl r n' sl' r' : Nat} (g : cGrow F n sl r F' n' sl' r') (h : cRw F D Z n r) (hZ : ∀ a, Z a → a < n) (hn : 126 ≤ n) (h11 : D' 60 11 = (r' : Int)) : cRw F' D' Z n' r' := by
  obtain ⟨_, h2, h3, h4, h5, h6⟩ := h
  rcases g with ⟨rfl, rfl, rfl, rfl⟩ | ⟨rfl, rfl, sz, rfl, rfl, g1, g2⟩
  · exact ⟨h11, h2, h3, h4, h5, h6⟩
  · exact ⟨h11, Or.inr hn, by omega, fun hz => by have := hZ _ hz; omega, by rw [znew_self], by rw [znew_self]; exact g2⟩
theorem cGrow.F {F F' : zFs} {n sl r n' sl' r' : Nat} (g : cGrow F n sl r F' n' sl' r') : ∀ a, a ≠ n → F' a = F a := by
  rcases g with ⟨rfl, rfl, rfl, rfl⟩ | ⟨rfl, rfl, sz, rfl, rfl, g1, g2⟩
  · exact fun _ _ => rfl
  · exact fun a ha => znew_ne ha
theorem cGrow.G {F F' : zFs} {n sl r n' sl' r' : Nat} (g : cGrow F n sl r F' n' sl' r') (hG : zG F) (hn : 126 ≤ n) : zG F' ∧ 126 ≤ n' := by
  rcases g with ⟨rfl, rfl, rfl, rfl⟩ | ⟨rfl, rfl, sz, rfl, rfl, g1, g2⟩
  · exact ⟨hG, hn⟩
  · exact ⟨zG_new hG hn, by omega⟩
section PR
variable {F : zFs} {D : zDa} {Z : Nat → Prop} {K : Nat → Int} {n sl r : Nat}
theorem qSt_grow {F' : zFs} {D' : zDa} {sl n' sl' r' : Nat} {as : List Nat} (h : qSt F D Z 1 K) (hZ : ∀ a, Z a → 126 ≤ a ∧ a < n) (hr : ¬ Z r) (g : cGrow F n sl r F' n' sl' r') (f : zfr as D D') (ha : ∀ a ∈ as, (12 < a ∧ a < 126) ∨ a = r ∨ a = n) (hr2 : r = 66 ∨ 126 ≤ r) (hn : 126 ≤ n) : qSt F' D' Z 1 K := by
  refine h.fr (fun a hz => g.F a (by have := hZ a hz; omega)) (fun a hz => f a (fun hm => ?_)) (fun _ hz => hz) (fun a h1 h2 => f a (fun hm => ?_))
  · have := hZ a hz
    rcases ha a hm with q | q | q
    · omega
    · exact hr (by rw [← q]; exact hz)
    · omega
  · have := ha a hm; omega
theorem cHr.fr {D' : zDa} {N : Nat} {bq : Nat → Nat} (h : cHr F D K N bq r) (h60 : D' 60 5 = D 60 5) (h11 : D' 60 11 = D 60 11) (h1 : D' 61 = D 61) (h2 : D' 62 = D 62) (h3 : D' 63 = D 63) (h4 : D' 64 = D 64) (h5 : D' 65 = D 65) (hr : D' r = D r) : cHr F D' K N bq r := by
  obtain ⟨a1, a2, a3, a4, a5⟩ := h
  refine ⟨a1, a2.fr h60 h1 h2 h3 h4 h5, by rw [h11]; exact a3, by rw [h4]; exact a4, ?_⟩
  rw [h4, h3, hr]; exact a5
theorem pX4_weigh (h : qSt F D Z 1 K) (hG : zG F) (hZ : ∀ a, Z a → 126 ≤ a ∧ a < n) (hLt : cLot D) (hw : cRw F D Z n r) {N : Nat} {bq : Nat → Nat} (hH : cHr F D K N bq r) (h3 : D 60 3 = D 1 16) (h4 : D 60 4 = D 1 17) (h14 : D 60 14 = -1) :
    qS (fX4_refresh_60 F D n sl) (fun M => ∃ D', M = (F, D', n, sl) ∧ cFresh F D' K N bq r ∧ (∀ k, k ≠ 17 → D' 60 k = D 60 k) ∧ zfr [49, 50, 51, 54, 55, 58, 60, 67, 68] D D') := by
  unfold fX4_refresh_60
  have hN : kBowl K = (N : Int) := hH.1.1
  refine qS_call (pX4_weighPairs h hG (fun a ha => (hZ a ha).1) hLt (by rw [hN]; exact hH.2.1.2.1)) (fun D4 ⟨w1, w2, k4, f4⟩ => ?_)
  have hr := hw.2.1
  have H4 : cHr F D4 K N bq r := hH.fr (k4 5 (by omega)) (k4 11 (by omega)) (f4 61 (by decide)) (f4 62 (by decide)) (f4 63 (by decide)) (f4 64 (by decide)) (f4 65 (by decide)) (f4 r (by simp; omega))
  refine qS_ret ⟨D4, rfl, ⟨⟨H4, ⟨hr, hw.2.2.2.2⟩, fun one two h12 => w1 one two (by rw [hN]; omega), w2⟩, ?_, ?_, fun h0 => absurd h0 ?_⟩, k4, f4⟩
  · rw [k4 3 (by omega), f4 1 (by decide)]; omega
  · rw [k4 4 (by omega), f4 1 (by decide)]; exact h4
  · rw [k4 14 (by omega), h14]; omega
theorem pX4_refresh (h : qSt F D Z 1 K) (hG : zG F) (hZ : ∀ a, Z a → 126 ≤ a ∧ a < n) (hLt : cLot D) (hw : cRw F D Z n r) (hi : cPn F D K r) (hn : 126 ≤ n) (hn9 : n < 900000) :
    qS (fX4_refresh F D n sl) (fun M => ∃ F' D' n' sl' r' N bq, M = (F', D', n', sl') ∧ cGrow F n sl r F' n' sl' r' ∧ cFresh F' D' K N bq r' ∧ cRw F' D' Z n' r' ∧ zfr [49, 50, 51, 54, 55, 58, 60, 61, 62, 63, 64, 65, 67, 68, r, n] D D') := by
  unfold fX4_refresh
  refine qS_ite (fun e => ?_) (fun e => ?_)
  · obtain ⟨⟨N, bq, hH⟩, w, fi⟩ := hi.2.2 e
    have hN : kBowl K = (N : Int) := hH.1.1
    exact qS_ret ⟨F, D, n, sl, r, N, bq, rfl, Or.inl ⟨rfl, rfl, rfl, rfl⟩, ⟨⟨hH, ⟨hw.2.1, hw.2.2.2.2⟩, fun one two h12 => w.1 one two (by rw [hN]; omega), w.2⟩, hi.1.1, e, fi⟩, hw, zfr.rfl' _ _⟩
  · refine qS_leti (qS_leti ?_)
    have g1 : ∀ a, a ≠ 60 → (zwr (zwr D 60 4 (D 1 17)) 60 14 (-1)) a = D a := fun a ha => by rw [zwr_row ha, zwr_row ha]
    have g60 : ∀ k, k ≠ 4 → k ≠ 14 → (zwr (zwr D 60 4 (D 1 17)) 60 14 (-1)) 60 k = D 60 k := fun k h1 h2 => by rw [zwr_off (Or.inr h2), zwr_off (Or.inr h1)]
    have g4 : (zwr (zwr D 60 4 (D 1 17)) 60 14 (-1)) 60 4 = D 1 17 := by rw [zwr_off (Or.inr (by omega)), zwr_eq]
    have g14 : (zwr (zwr D 60 4 (D 1 17)) 60 14 (-1)) 60 14 = -1 := zwr_eq
    have f2 : zfr [60] D (zwr (zwr D 60 4 (D 1 17)) 60 14 (-1)) := ((zfr.rfl' _ _).wr (by decide)).wr (by decide)
    generalize zwr (zwr D 60 4 (D 1 17)) 60 14 (-1) = D2 at *
    have hr := hw.2.1
    have hw2 : cRw F D2 Z n r := ⟨by rw [g60 11 (by omega) (by omega)]; exact hw.1, hw.2⟩
    have Z1 : ∀ a, Z a → 126 ≤ a := fun a ha => (hZ a ha).1
    refine qS_ite (fun e3 => ?_) (fun e3 => ?_)
    · have e3' : D 60 3 = D 1 16 := by rw [← g60 3 (by omega) (by omega), e3, g1 1 (by omega)]
      obtain ⟨N, bq, hH⟩ := hi.2.1 e3'
      have H2 : cHr F D2 K N bq r := hH.fr (g60 5 (by omega) (by omega)) (g60 11 (by omega) (by omega)) (g1 61 (by omega)) (g1 62 (by omega)) (g1 63 (by omega)) (g1 64 (by omega)) (g1 65 (by omega)) (g1 r (by omega))
      refine qS_mono (pX4_weigh (h.zfr Z1 f2 (by decide)) hG hZ (hLt.fr (g1 53 (by omega))) hw2 H2 e3 (by rw [g4, g1 1 (by omega)]) g14) (fun M ⟨D', eM, fr, k', f'⟩ => ?_)
      exact ⟨F, D', n, sl, r, N, bq, eM, Or.inl ⟨rfl, rfl, rfl, rfl⟩, fr, ⟨by rw [k' 11 (by omega)]; exact hw2.1, hw.2⟩, (f2.mono (by simp)).trans (f'.mono (by simp))⟩
    · refine qS_leti ?_
      have k1 : ∀ a, a ≠ 60 → (zwr D2 60 3 (D2 1 16)) a = D a := fun a ha => by rw [zwr_row ha]; exact g1 a ha
      have k60 : ∀ k, k ≠ 3 → (zwr D2 60 3 (D2 1 16)) 60 k = D2 60 k := fun k h1 => zwr_off (Or.inr h1)
      have k3 : (zwr D2 60 3 (D2 1 16)) 60 3 = D 1 16 := by rw [zwr_eq, g1 1 (by omega)]
      have f5 : zfr [60] D (zwr D2 60 3 (D2 1 16)) := f2.wr (by decide)
      generalize zwr D2 60 3 (D2 1 16) = D5 at *
      refine qS_call (pX4_fillHours (h.zfr Z1 f5 (by decide)) hG Z1 (r := r) (n := n) (sl := sl) (by rw [k60 11 (by omega)]; exact hw2.1) hr hw.2.2.2.2.1 hw.2.2.2.2.2 hw.2.2.1 hn hn9) (fun M ⟨F', D', n', sl', r', N, bq, eM, g, hH, kk, f'⟩ => ?_)
      subst eM
      have G := g.G hG hn
      dsimp only
      refine qS_chk G ?_
      have q' := qSt_grow (h.zfr Z1 f5 (by decide)) hZ hw.2.2.2.1 g f' (by simp) hr hn
      have w' := g.rw (D' := D') hw (fun a ha => (hZ a ha).2) hn hH.2.2.1
      have l' : cLot D' := hLt.fr (by rw [f' 53 (by simp; omega), k1 53 (by omega)])
      have e1 : D' 1 = D 1 := by rw [f' 1 (by simp; omega), k1 1 (by omega)]
      have nn : n ≤ n' := by rcases g with ⟨_, e, _⟩ | ⟨_, e, _⟩ <;> omega
      refine qS_mono (pX4_weigh (n := n') (sl := sl') q' G.1 (fun a ha => by have := hZ a ha; omega) l' w' hH (by rw [kk 3 (by omega) (by omega), k3, e1]) (by rw [kk 4 (by omega) (by omega), k60 4 (by omega), g4, e1]) (by rw [kk 14 (by omega) (by omega), k60 14 (by omega)]; exact g14)) (fun M ⟨D'', eM, fr, k'', f''⟩ => ?_)
      exact ⟨F', D'', n', sl', r', N, bq, eM, g, fr, ⟨by rw [k'' 11 (by omega)]; exact w'.1, w'.2⟩, ((f5.mono (by simp)).trans (f'.mono (by simp))).trans (f''.mono (by simp))⟩
theorem cFresh.fr {D' : zDa} {N : Nat} {bq : Nat → Nat} (h : cFresh F D K N bq r) (h60 : ∀ k, k ≠ 18 → k ≠ 19 → D' 60 k = D 60 k) (f : zfr [60] D D') : cFresh F D' K N bq r := by
  have g : ∀ a, a ≠ 60 → D' a = D a := fun a ha => f a (by simpa using ha)
  refine ⟨h.1.fr (fun a h1 _ _ => g a h1) (fun k _ h1 h2 => h60 k h1 h2), by rw [h60 3 (by omega) (by omega), g 1 (by omega)]; exact h.2.1, by rw [h60 4 (by omega) (by omega), g 1 (by omega)]; exact h.2.2.1, ?_⟩
  unfold cFi cFst
  rw [h60 14 (by omega) (by omega), g 69 (by omega), g 70 (by omega)]
  exact h.2.2.2
/-- best -/
noncomputable def oBest (K : Nat → Int) (hours part : Int) : Int :=
  if (0 ≤ hours ∧ hours ≤ 400) ∧ 0 ≤ part ∧ part ≤ 2 then (if part = 2 then (kBB K hours).2 else kFrac (kBB K hours).1.toNat (kSuO K 0 0) part) else -1
theorem kBst_in (hk : kOk K) {hours bp bh : Int} (h : kBst K hours bp bh) : 0 ≤ bp ∧ bp ≤ (kSuO K 0 0 : Int) := by
  obtain ⟨⟨a, b, g1, _, g3, _⟩, _⟩ := h
  rw [← g3]; exact kPw_in hk g1
theorem cOut_no (hi : cPn F D K r) (hw : cRw F D Z n r) (a : Int) : cOut F D Z K n sl r a (a, (F, D, n, sl)) :=
  ⟨F, D, n, sl, r, rfl, Or.inl ⟨rfl, rfl, rfl, rfl⟩, hi, hw, zfr.rfl' _ _⟩
theorem pc_best (h : qSt F D Z 1 K) (hG : zG F) (hZ : ∀ a, Z a → 126 ≤ a ∧ a < n) (hLt : cLot D) (hw : cRw F D Z n r) (hi : cPn F D K r) (hn : 126 ≤ n) (hn9 : n < 900000) (hours part : Int) :
    qS (fX11_best hours part F D n sl) (cOut F D Z K n sl r (oBest K hours part)) := by
  have hk := h.1
  unfold fX11_best oBest
  by_cases hv : (0 ≤ hours ∧ hours ≤ 400) ∧ 0 ≤ part ∧ part ≤ 2
  · rw [if_pos hv]
    refine qS_neg (by omega) (qS_neg (by omega) (qS_neg (by omega) (qS_neg (by omega) ?_)))
    refine qS_call (pX4_refresh h hG hZ hLt hw hi hn hn9) (fun M ⟨F', D', n', sl', r', N, bq, eM, g, fr, w', f'⟩ => ?_)
    subst eM
    dsimp only
    refine qS_chk (g.G hG hn) ?_
    refine qS_call (pX4_choose hk fr.1 (by omega)) (fun D7 ⟨⟨bp, bh, hb, c18, c19⟩, k7, f7⟩ => ?_)
    have fr7 := fr.fr k7 f7
    have eb := kBB_eq hb
    rw [eb]
    dsimp only
    have out : ∀ a, cOut F D Z K n sl r a (a, (F', D7, n', sl')) := fun a => ⟨F', D7, n', sl', r', rfl, g, fr7.pn, ⟨by rw [k7 11 (by omega) (by omega)]; exact w'.1, w'.2⟩, (f'.mono (by simp)).trans (f7.mono (by simp))⟩
    refine qS_ite (fun e => ?_) (fun e => ?_)
    · rw [if_pos e, c19]; exact qS_ret (out _)
    · rw [if_neg e, c18, fr7.1.2.2.2]
      have bi := kBst_in hk hb
      have cm := kCm_in hk
      have e1 : (kCm K : Int) * bp = ((kCm K * bp.toNat : Nat) : Int) := by rw [Int.natCast_mul]; congr 1; omega
      have e2 : (kCm K : Int) * (kSuO K 0 0 : Int) = ((kCm K * kSuO K 0 0 : Nat) : Int) := by rw [Int.natCast_mul]
      have ub : kCm K * bp.toNat ≤ kCm K * kSuO K 0 0 := Nat.mul_le_mul_left _ (by omega)
      rw [e1, e2]
      refine qS_call (pX2_lowest (F := F') (D := D7) (ways := kCm K * bp.toNat) (of := kCm K * kSuO K 0 0) (part := part) (Nat.mul_pos cm.1 cm.2.1) (by omega) (by omega)) (fun x hx => ?_)
      subst hx
      dsimp only
      have ls := low_scale (w := bp.toNat) (o := kSuO K 0 0) cm.1
      have ef : (if part = 0 then ((kCm K * bp.toNat / Nat.gcd (kCm K * kSuO K 0 0) (kCm K * bp.toNat) : Nat) : Int) else ((kCm K * kSuO K 0 0 / Nat.gcd (kCm K * kSuO K 0 0) (kCm K * bp.toNat) : Nat) : Int)) = kFrac bp.toNat (kSuO K 0 0) part := by
        unfold kFrac
        rw [ls.1, ls.2]
        by_cases e0 : part = 0
        · rw [if_pos e0, if_pos e0]
        · rw [if_neg e0, if_neg e0, if_pos (by omega)]
      rw [ef]
      exact qS_ret (out _)
  · rw [if_neg hv]
    refine qS_ite (fun _ => qS_ret (cOut_no hi hw _)) (fun _ => qS_ite (fun _ => qS_ret (cOut_no hi hw _)) (fun _ => qS_ite (fun _ => qS_ret (cOut_no hi hw _)) (fun _ => qS_pos (by omega) (qS_ret (cOut_no hi hw _)))))
/-- level -/
noncomputable def oLevel (K : Nat → Int) (hours q : Int) : Int :=
  if (0 ≤ hours ∧ hours ≤ 400) ∧ 0 ≤ q ∧ q < K 390 then kFl K (kBB K hours).1 (kBB K hours).2 q.toNat else -1
theorem pc_findFirst (h : qSt F D Z 1 K) (hG : zG F) {N : Nat} {bq : Nat → Nat} (fr : cFresh F D K N bq r) {hours : Int} (hh : 0 ≤ hours ∧ hours ≤ 400) :
    qS (fX4_findFirst F hours D) (fun D' => cFresh F D' K N bq r ∧ cFst D' K (kBB K hours).1 (kBB K hours).2 ∧ D' 60 11 = D 60 11 ∧ zfr [60, 69, 70] D D') := by
  refine qS_mono (pX4_findFirst h.1 hG fr.1 (hours := hours) (by omega) (fun e => by have := fr.2.2.2 (by omega); rw [e] at this; exact this)) (fun D' ⟨⟨bp, bh, hb, hf⟩, e14, k', f'⟩ => ?_)
  have eb := kBB_eq hb
  have g : ∀ a, a ≠ 60 → a ≠ 69 → a ≠ 70 → D' a = D a := fun a h1 h2 h3 => f' a (by simp; omega)
  rw [eb]
  refine ⟨⟨fr.1.fr g k', by rw [k' 3 (by omega) (by omega) (by omega), g 1 (by omega) (by omega) (by omega)]; exact fr.2.1, by rw [k' 4 (by omega) (by omega) (by omega), g 1 (by omega) (by omega) (by omega)]; exact fr.2.2.1, fun _ => ⟨bp, bh, by rw [e14]; exact hb, hf⟩⟩, hf, k' 11 (by omega) (by omega) (by omega), f'⟩
theorem pX9_inBowl (h : qSt F D Z 1 K) (v : Int) : fX9_inBowl F v D = some (if 0 ≤ v ∧ v < K 390 ∧ K (5 * v.toNat + 4) = 0 then 1 else 0, D) := by
  have h0 := h.1.1
  unfold fX9_inBowl
  rw [pX9_has, h.2.1]
  by_cases e : 0 ≤ v ∧ v < K 390
  · rw [if_pos e]
    show (if (1 : Int) = 0 then some ((0 : Int), D) else (if 0 ≤ v ∧ v < 20 then (if D 6 v.toNat = 0 then some ((1 : Int), D) else some ((0 : Int), D)) else none)) = _
    rw [if_neg (by omega), if_pos (by omega), (h.2.2.1 v.toNat (by omega)).2.2.2.2]
    by_cases e2 : K (5 * v.toNat + 4) = 0
    · rw [if_pos e2, if_pos ⟨e.1, e.2, e2⟩]
    · rw [if_neg e2, if_neg (fun x => e2 x.2.2)]
  · rw [if_neg e]
    show (if (0 : Int) = 0 then some ((0 : Int), D) else (if 0 ≤ v ∧ v < 20 then (if D 6 v.toNat = 0 then some ((1 : Int), D) else some ((0 : Int), D)) else none)) = _
    rw [if_pos rfl, if_neg (fun x => e ⟨x.1, x.2.1⟩)]
theorem pc_level (h : qSt F D Z 1 K) (hG : zG F) (hZ : ∀ a, Z a → 126 ≤ a ∧ a < n) (hLt : cLot D) (hw : cRw F D Z n r) (hi : cPn F D K r) (hn : 126 ≤ n) (hn9 : n < 900000) (hours q : Int) :
    qS (fX11_level hours q F D n sl) (cOut F D Z K n sl r (oLevel K hours q)) := by
  have hk := h.1
  have h0 := hk.1
  unfold fX11_level oLevel
  by_cases hv : 0 ≤ hours ∧ hours ≤ 400
  · refine qS_neg (by omega) (qS_neg (by omega) ?_)
    refine qS_step (pX9_inBowl h q) ?_
    dsimp only
    by_cases hq : 0 ≤ q ∧ q < K 390 ∧ K (5 * q.toNat + 4) = 0
    · rw [if_pos hq, if_pos (⟨hv, hq.1, hq.2.1⟩ : (0 ≤ hours ∧ hours ≤ 400) ∧ 0 ≤ q ∧ q < K 390)]
      refine qS_neg (by omega) ?_
      refine qS_call (pX4_refresh h hG hZ hLt hw hi hn hn9) (fun M ⟨F', D', n', sl', r', N, bq, eM, g, fr, w', f'⟩ => ?_)
      subst eM
      have G := g.G hG hn
      dsimp only
      refine qS_chk G ?_
      have q' := qSt_grow h hZ hw.2.2.2.1 g f' (by simp) hw.2.1 hn
      refine qS_call (pc_findFirst q' G.1 fr hv) (fun D9 ⟨fr9, fs, e11, f9⟩ => qS_chk (by omega) ?_)
      rw [((fs q.toNat (by omega)).1 (by omega)).1]
      exact qS_ret ⟨F', D9, n', sl', r', rfl, g, fr9.pn, ⟨by rw [e11]; exact w'.1, w'.2⟩, (f'.mono (by simp)).trans (f9.mono (by simp))⟩
    · rw [if_neg hq]
      refine qS_pos rfl ?_
      by_cases hq2 : 0 ≤ q ∧ q < K 390
      · rw [if_pos ⟨hv, hq2⟩]
        have : kFl K (kBB K hours).1 (kBB K hours).2 q.toNat = -1 := by
          unfold kFl; rw [if_neg (fun e => hq ⟨hq2.1, hq2.2, e⟩)]
        rw [this]
        exact qS_ret (cOut_no hi hw _)
      · rw [if_neg (fun x => hq2 x.2)]
        exact qS_ret (cOut_no hi hw _)
  · have hn' : ¬ ((0 ≤ hours ∧ hours ≤ 400) ∧ 0 ≤ q ∧ q < K 390) := fun x => hv x.1
    rw [if_neg hn']
    refine qS_ite (fun _ => qS_ret (cOut_no hi hw _)) (fun _ => qS_pos (by omega) (qS_ret (cOut_no hi hw _)))
end PR
section RP
variable {F : zFs} {D : zDa} {K : Nat → Int}
theorem rSi.of {D' : zDa} (h : rSc D' K) (e : D' 91 35 = D 91 1) (e1 : D' 91 1 = D 91 1) : rSi D' K := ⟨by omega, fun _ => h⟩
theorem pr_best (hK : D 93 = K) (hk : kOk K) (hP : kPOk K) (hi : rSi D K) (hours part : Int) : qS (fX12_best F hours part D) (fun x => x.1 = oBest K hours part ∧ rSi x.2 K ∧ zfm [102, 103, 104, 105, 106, 107, 108, 109, 110, 111] [18, 19, 20, 28, 29, 30, 34, 35, 36, 37] D x.2) := by
  unfold fX12_best oBest
  by_cases hh : 0 ≤ hours ∧ hours ≤ 400
  · refine qS_step (lies_t hh) (qS_neg (by omega) ?_)
    by_cases hp : 0 ≤ part ∧ part ≤ 2
    · rw [if_pos ⟨hh, hp⟩]
      refine qS_step (lies_t hp) (qS_neg (by omega) ?_)
      refine qS_call (pX12_bests hK hk hP hi hh.1) (fun D6 ⟨s6, v6, ⟨bp, bh, hb, e36, e37⟩, f6⟩ => ?_)
      have si := rSi.of s6 v6 (f6.2 1 (by decide))
      have eb := kBB_eq hb
      rw [eb]
      dsimp only
      refine qS_ite (fun e => ?_) (fun e => ?_)
      · rw [if_pos e]
        exact qS_ret ⟨e37, si, f6⟩
      · rw [if_neg e, e36, s6.2.2.2]
        have bi := kBst_in hk hb
        have cm := kCm_in hk
        rw [show bp = ((bp.toNat : Nat) : Int) by omega]
        refine qS_call (pX12_frac (F := F) (D := D6) (w := bp.toNat) (o := kSuO K 0 0) (part := part) cm.2.1 (by omega) (by omega)) (fun x hx => ?_)
        subst hx
        exact qS_ret ⟨by rw [show ((bp.toNat : Nat) : Int).toNat = bp.toNat by omega], si, f6⟩
    · rw [if_neg (fun x => hp x.2)]
      exact qS_step (lies_f hp) (qS_pos rfl (qS_ret ⟨rfl, hi, zfm.rfl' _ _ D⟩))
  · rw [if_neg (fun x => hh x.1)]
    exact qS_step (lies_f hh) (qS_pos rfl (qS_ret ⟨rfl, hi, zfm.rfl' _ _ D⟩))
theorem pX12_firsts (hK : D 93 = K) (hk : kOk K) (hP : kPOk K) (hi : rSi D K) {hours : Int} (hh : 0 ≤ hours) : qS (fX12_firsts F hours D) (fun D' => rFs D' K (kBB K hours).1 (kBB K hours).2 (K 390).toNat ∧ rSc D' K ∧ rSi D' K ∧ zfm [102, 103, 104, 105, 106, 107, 108, 109, 110, 111, 112] [18, 19, 20, 28, 29, 30, 34, 35, 36, 37] D D') := by
  unfold fX12_firsts
  refine qS_call (pX12_bests hK hk hP hi hh) (fun D2 ⟨s2, v2, ⟨bp, bh, hb, e36, e37⟩, f2⟩ => ?_)
  have eb := kBB_eq hb
  rw [eb]
  dsimp only
  refine qS_leti ?_
  rw [e37]
  have h8 : bh ≤ 1000000 := by
    obtain ⟨⟨a, b, _, _, _, g4⟩, _⟩ := hb
    have := kLe_in K (K 390).toNat (K 390).toNat 0 a b
    unfold kL0 at g4
    omega
  refine qS_mono (pX12_firsts_loop (by rw [f2.1 93 (by decide) (by decide)]; exact hK) hk s2 e36 (kCan_first hb) h8) (fun D3 ⟨r3, f3⟩ => ?_)
  have s3 : rSc D3 K := s2.fr (f3.1 111 (by decide) (by decide)) (f3.1 109 (by decide) (by decide)) (f3.1 110 (by decide) (by decide)) (f3.2 34 (by decide))
  have e1 : D3 91 1 = D 91 1 := by rw [f3.2 1 (by decide), f2.2 1 (by decide)]
  exact ⟨r3, s3, rSi.of s3 (by rw [f3.2 35 (by decide)]; exact v2) e1, (f2.mono (by decide) (by decide)).trans (f3.mono (by decide) (by decide))⟩
theorem pr_level (hK : D 93 = K) (hk : kOk K) (hP : kPOk K) (hi : rSi D K) (hours q : Int) : qS (fX12_level F hours q D) (fun x => x.1 = oLevel K hours q ∧ rSi x.2 K ∧ zfm [102, 103, 104, 105, 106, 107, 108, 109, 110, 111, 112] [18, 19, 20, 28, 29, 30, 34, 35, 36, 37] D x.2) := by
  have h0 := hk.1
  unfold fX12_level oLevel
  by_cases hh : 0 ≤ hours ∧ hours ≤ 400
  · refine qS_step (lies_t hh) (qS_neg (by omega) ?_)
    by_cases hq : 0 ≤ q ∧ q < K 390
    · rw [if_pos ⟨hh, hq⟩]
      refine qS_step (isQ_t hK hk hq) (qS_neg (by omega) ?_)
      refine qS_call (pX12_firsts hK hk hP hi hh.1) (fun D6 ⟨r6, s6, i6, f6⟩ => qS_chk (by omega) ?_)
      exact qS_ret ⟨r6 q.toNat (by omega), i6, f6⟩
    · rw [if_neg (fun x => hq x.2)]
      exact qS_step (isQ_f hK hk hq) (qS_pos rfl (qS_ret ⟨rfl, hi, zfm.rfl' _ _ D⟩))
  · rw [if_neg (fun x => hh x.1)]
    exact qS_step (lies_f hh) (qS_pos rfl (qS_ret ⟨rfl, hi, zfm.rfl' _ _ D⟩))
end RP
