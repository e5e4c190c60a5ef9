/-! ===== the planner's bowl, prices and names of kings ===== -/
section KG
variable {F : zFs} {D : zDa} {Z : Nat → Prop} {K : Nat → Int}
theorem pX4_priceAt {i h l : Nat} (hi : i < 20) (hh : h < 2) (hl : l < 3) : fX4_priceAt F (i : Int) (h : Int) (l : Int) D = some (((6 * i + 3 * h + l : Nat) : Int), D) := by
  unfold fX4_priceAt
  rw [if_pos (by omega)]
  congr 2
  omega
def cPi (D : zDa) (K : Nat → Int) (i q : Nat) : Prop := ∀ h : Nat, h < 2 → D 62 (6 * i + 3 * h + 1) = kCo K q 1 h ∧ D 62 (6 * i + 3 * h + 2) = kCo K q 2 h
theorem kCo_1 (K : Nat → Int) (q h : Nat) : kCo K q 1 h = kTakes K q 1 (h : Int) 0 := by unfold kCo; rw [if_neg (by omega), if_pos rfl]
theorem kCo_2 (K : Nat → Int) (q h : Nat) : kCo K q 2 h = kTakes K q 1 (h : Int) 0 + kTakes K q 2 (h : Int) 0 := by unfold kCo; rw [if_neg (by omega), if_neg (by omega)]
theorem pX4_price (h : qSt F D Z 1 K) (hG : zG F) (hZ : ∀ a, Z a → 126 ≤ a) {i q : Nat} (hi : i < 20) (hq : (q : Int) < K 390) : qS (fX4_price F (i : Int) (q : Int) D) (fun D' => cPi D' K i q ∧ (∀ k, k < 6 * i ∨ 6 * i + 6 ≤ k → D' 62 k = D 62 k) ∧ zfr [49, 50, 51, 62] D D') := by
  unfold fX4_price
  refine qloop1 (fun v D1 => ∃ b : Nat, v = (b : Int) ∧ b ≤ 2 ∧ (∀ e : Nat, e < b → D1 62 (6 * i + 3 * e + 1) = kCo K q 1 e ∧ D1 62 (6 * i + 3 * e + 2) = kCo K q 2 e) ∧ (∀ k, k < 6 * i ∨ 6 * i + 6 ≤ k → D1 62 k = D 62 k) ∧ zfr [49, 50, 51, 62] D D1) (fun v _ => (100 - v).toNat) ?_ ⟨0, rfl, by omega, fun e he => absurd he (by omega), fun _ _ => rfl, zfr.rfl' _ _⟩ (zfu_gt (by omega))
  intro k2 v D1 ⟨b, ev, hb, r1, n1, f1⟩ ih
  subst ev
  unfold fX4_price_2
  refine qS_ite (fun h1 => ?_) (fun h1 => ?_)
  · have : b = 2 := by omega
    subst this
    exact qS_ret ⟨r1, n1, f1⟩
  · have tk := kTakes_in K q 1 (b : Int) 0
    have tk2 := kTakes_in K q 2 (b : Int) 0
    refine qloop2 (fun v4 v5 D2 => ∃ l : Nat, v5 = (l : Int) + 1 ∧ l ≤ 2 ∧ v4 = kCo K q l b ∧ (∀ e : Nat, e < b → D2 62 (6 * i + 3 * e + 1) = kCo K q 1 e ∧ D2 62 (6 * i + 3 * e + 2) = kCo K q 2 e) ∧ (∀ j : Nat, j < l → D2 62 (6 * i + 3 * b + (j + 1)) = kCo K q (j + 1) b) ∧ (∀ k, k < 6 * i ∨ 6 * i + 6 ≤ k → D2 62 k = D 62 k) ∧ zfr [49, 50, 51, 62] D D2) (fun _ v5 _ => (100 - v5).toNat) ?_ ⟨0, rfl, by omega, rfl, r1, fun j hj => absurd hj (by omega), n1, f1⟩ (zfu_gt (by omega))
    intro k13 v4 v5 D2 ⟨l, e5, hl, e4, r2, t2, n2, f2⟩ ih2
    subst e5
    have cin := kCo_in K q l b
    unfold fX4_price_13
    refine qS_ite (fun h2 => ?_) (fun h2 => ?_)
    · refine qS_call (pX10_hoursOf (h.zfr hZ f2 (by decide)) hG hZ hq (l := (l : Int) + 1) (e := (b : Int)) (d := 0) (by omega) (by omega) (by omega)) (fun r ⟨hr, f3⟩ => ?_)
      obtain ⟨x, D3⟩ := r
      dsimp only at hr f3 ⊢
      subst hr
      have xin := kTakes_in K q ((l : Int) + 1) (b : Int) 0
      have ec : v4 + kTakes K q ((l : Int) + 1) (b : Int) 0 = kCo K q (l + 1) b := by
        rw [e4]
        rcases (by omega : l = 0 ∨ l = 1) with rfl | rfl
        · rw [kCo_1]
          show (0 : Int) + kTakes K q 1 (b : Int) 0 = _
          omega
        · rw [kCo_2, kCo_1]; rfl
      refine qS_chk (by omega) (qS_leti ?_)
      rw [ec, show (l : Int) + 1 = ((l + 1 : Nat) : Int) by omega]
      refine qS_step (pX4_priceAt hi (by omega) (by omega)) (qS_chk (by omega) (qS_leti (qS_chk (by omega) (ih2 _ _ _ ⟨l + 1, by omega, by omega, rfl, fun e he => ?_, fun j hj => ?_, fun k hk => ?_, (f2.trans (f3.mono (by decide))).wr (by decide)⟩ (by omega)))))
      · rw [show (((6 * i + 3 * b + (l + 1) : Nat) : Int)).toNat = 6 * i + 3 * b + (l + 1) by omega, zwr_off (by omega), zwr_off (by omega)]; dsimp only; rw [f3 62 (by decide)]; exact r2 e he
      · rw [show (((6 * i + 3 * b + (l + 1) : Nat) : Int)).toNat = 6 * i + 3 * b + (l + 1) by omega, zwr_at]
        by_cases e : j = l
        · rw [if_pos (by omega), e]
        · rw [if_neg (by omega)]; dsimp only; rw [f3 62 (by decide)]; exact t2 j (by omega)
      · rw [show (((6 * i + 3 * b + (l + 1) : Nat) : Int)).toNat = 6 * i + 3 * b + (l + 1) by omega, zwr_off (by omega)]; dsimp only; rw [f3 62 (by decide)]; exact n2 k hk
    · refine qS_chk (by omega) (ih _ _ ⟨b + 1, by omega, by omega, fun e he => ?_, n2, f2⟩ (by omega))
      by_cases eb : e = b
      · subst eb
        exact ⟨t2 0 (by omega), t2 1 (by omega)⟩
      · exact r2 e (by omega)
/-- the bowl by places: questions bq 0 .. bq (N - 1) with their prices -/
def cBq (D : zDa) (K : Nat → Int) (N : Nat) (bq : Nat → Nat) : Prop := ∀ i, i < N → D 61 i = (bq i : Int) ∧ (bq i : Int) < K 390 ∧ cPi D K i (bq i)
/-- help changes nothing for that king -/
def kSame (K : Nat → Int) (N : Nat) (bq : Nat → Nat) (king : Int) : Prop := ∀ i, i < N → K (5 * bq i) = king → kCo K (bq i) 1 0 = kCo K (bq i) 1 1 ∧ kCo K (bq i) 2 0 = kCo K (bq i) 2 1
theorem pX4_helpMatters (h : qSt F D Z 1 K) {N : Nat} {bq : Nat → Nat} (hN : N ≤ 20) (h60 : D 60 5 = (N : Int)) (hB : cBq D K N bq) (king : Int) : qS (fX4_helpMatters F king D) (fun r => r.2 = D ∧ ((r.1 = 0 ∧ kSame K N bq king) ∨ (r.1 = 1 ∧ ¬ kSame K N bq king))) := by
  have h0 := h.1.1
  unfold fX4_helpMatters
  refine qloop1 (fun v D1 => ∃ j : Nat, v = (j : Int) ∧ j ≤ N ∧ (∀ i, i < j → K (5 * bq i) = king → kCo K (bq i) 1 0 = kCo K (bq i) 1 1 ∧ kCo K (bq i) 2 0 = kCo K (bq i) 2 1) ∧ D1 = D) (fun v _ => (100 - v).toNat) ?_ ⟨0, rfl, by omega, fun i hi => absurd hi (by omega), rfl⟩ (zfu_gt (by omega))
  intro kk v D1 ⟨j, ev, hj, r1, eD⟩ ih
  subst ev eD
  unfold fX4_helpMatters_2
  rw [h60]
  refine qS_ite (fun h1 => ?_) (fun h1 => ?_)
  · have bj := hB j (by omega)
    have p0 := bj.2.2 0 (by omega)
    have p1 := bj.2.2 1 (by omega)
    rw [show ((j : Int)).toNat = j by omega, bj.1]
    refine qS_chk (by omega) ?_
    rw [show ((bq j : Int)).toNat = bq j by omega, (h.2.2.1 (bq j) bj.2.1).1]
    have nx : (K (5 * bq j) = king → kCo K (bq j) 1 0 = kCo K (bq j) 1 1 ∧ kCo K (bq j) 2 0 = kCo K (bq j) 2 1) → qS (fX4_helpMatters_80 F kk king (j : Int) D1) (fun r => r.2 = D1 ∧ ((r.1 = 0 ∧ kSame K N bq king) ∨ (r.1 = 1 ∧ ¬ kSame K N bq king))) := by
      intro hs
      unfold fX4_helpMatters_80
      refine qS_chk (by omega) (ih _ _ ⟨j + 1, by omega, by omega, fun i hi hk => ?_, rfl⟩ (by omega))
      by_cases e : i = j
      · subst e; exact hs hk
      · exact r1 i (by omega) hk
    have pa : ∀ e l : Nat, e < 2 → l < 3 → fX4_priceAt F (j : Int) (e : Int) (l : Int) D1 = some (((6 * j + 3 * e + l : Nat) : Int), D1) := fun e l h1 h2 => pX4_priceAt (by omega) h1 h2
    refine qS_ite (fun h2 => ?_) (fun h2 => nx (fun hk => absurd hk h2))
    refine qS_step (pa 0 1 (by omega) (by omega)) (qS_chk (by omega) (qS_step (pa 1 1 (by omega) (by omega)) (qS_chk (by omega) ?_)))
    have x01 : D1 62 (((6 * j + 3 * 0 + 1 : Nat) : Int)).toNat = kCo K (bq j) 1 0 := by rw [show (((6 * j + 3 * 0 + 1 : Nat) : Int)).toNat = 6 * j + 3 * 0 + 1 by omega]; exact p0.1
    have x11 : D1 62 (((6 * j + 3 * 1 + 1 : Nat) : Int)).toNat = kCo K (bq j) 1 1 := by rw [show (((6 * j + 3 * 1 + 1 : Nat) : Int)).toNat = 6 * j + 3 * 1 + 1 by omega]; exact p1.1
    have x02 : D1 62 (((6 * j + 3 * 0 + 2 : Nat) : Int)).toNat = kCo K (bq j) 2 0 := by rw [show (((6 * j + 3 * 0 + 2 : Nat) : Int)).toNat = 6 * j + 3 * 0 + 2 by omega]; exact p0.2
    have x12 : D1 62 (((6 * j + 3 * 1 + 2 : Nat) : Int)).toNat = kCo K (bq j) 2 1 := by rw [show (((6 * j + 3 * 1 + 2 : Nat) : Int)).toNat = 6 * j + 3 * 1 + 2 by omega]; exact p1.2
    refine qS_ite (fun h3 => ?_) (fun h3 => ?_)
    · have h3' : kCo K (bq j) 1 0 = kCo K (bq j) 1 1 := by rw [← x01, ← x11]; exact h3
      refine qS_step (pa 0 2 (by omega) (by omega)) (qS_chk (by omega) (qS_step (pa 1 2 (by omega) (by omega)) (qS_chk (by omega) ?_)))
      refine qS_ite (fun h4 => ?_) (fun h4 => ?_)
      · exact nx (fun _ => ⟨h3', by rw [← x02, ← x12]; exact h4⟩)
      · refine qS_ret ⟨rfl, Or.inr ⟨rfl, fun hs => h4 ?_⟩⟩
        show D1 62 (((6 * j + 3 * 0 + 2 : Nat) : Int)).toNat = D1 62 (((6 * j + 3 * 1 + 2 : Nat) : Int)).toNat
        rw [x02, x12]; exact (hs j (by omega) h2).2
    · refine qS_ret ⟨rfl, Or.inr ⟨rfl, fun hs => h3 ?_⟩⟩
      show D1 62 (((6 * j + 3 * 0 + 1 : Nat) : Int)).toNat = D1 62 (((6 * j + 3 * 1 + 1 : Nat) : Int)).toNat
      rw [x01, x11]; exact (hs j (by omega) h2).1
  · have : j = N := by omega
    subst this
    exact qS_ret ⟨rfl, Or.inl ⟨rfl, r1⟩⟩
end KG
