theorem kAnsN_s (K : Nat → Int) (lay n : Nat) (t : Int × Nat × Nat) : kAnsN K lay (n + 1) t = kAnsN K lay n (sNext t.1, t.2.1 ||| 2 ^ (kSurN K lay t.2.1 (K 390).toNat).toNat, if (sOf t.1 100 : Int) < kChance K (K (5 * (kSurN K lay t.2.1 (K 390).toNat).toNat + 2)) then t.2.2 ||| 2 ^ (kSurN K lay t.2.1 (K 390).toNat).toNat else t.2.2) := rfl
theorem kAnsN_0 (K : Nat → Int) (lay : Nat) (t : Int × Nat × Nat) : kAnsN K lay 0 t = t := rfl
/-- the state of an exam so far: i answered -/
def aOk (lay : Nat) (i : Nat) (t : Int × Nat × Nat) : Prop := (0 ≤ t.1 ∧ t.1 < 1000003) ∧ t.2.1 < 2 ^ 20 ∧ bSub t.2.1 lay ∧ bPop t.2.1 20 0 = i ∧ t.2.2 < 2 ^ 20 ∧ bSub t.2.2 t.2.1
def aNext (K : Nat → Int) (lay : Nat) (t : Int × Nat × Nat) : Int × Nat × Nat := (sNext t.1, t.2.1 ||| 2 ^ (kSurN K lay t.2.1 (K 390).toNat).toNat, if (sOf t.1 100 : Int) < kChance K (K (5 * (kSurN K lay t.2.1 (K 390).toNat).toNat + 2)) then t.2.2 ||| 2 ^ (kSurN K lay t.2.1 (K 390).toNat).toNat else t.2.2)
theorem aSur {K : Nat → Int} {lay i : Nat} {t : Int × Nat × Nat} (hn : ∀ j, lay.testBit j = true → j < (K 390).toNat) (h20 : (K 390).toNat ≤ 20) (h : aOk lay i t) (hi : i < bPop lay 20 0) : ∃ b : Nat, kSurN K lay t.2.1 (K 390).toNat = (b : Int) ∧ b < (K 390).toNat ∧ lay.testBit b = true ∧ t.2.1.testBit b = false := by
  rcases kSurN_in K lay t.2.1 (K 390).toNat with ⟨_, h2⟩ | h2
  · have := (bPop_sub (x := lay) (y := t.2.1) 20 0 (fun j _ _ hj => h2 j (hn j hj) hj)).1
    have := h.2.2.2.1
    omega
  · exact h2
theorem aOk.next {K : Nat → Int} {lay i : Nat} {t : Int × Nat × Nat} (hn : ∀ j, lay.testBit j = true → j < (K 390).toNat) (h20 : (K 390).toNat ≤ 20) (h : aOk lay i t) (hi : i < bPop lay 20 0) : aOk lay (i + 1) (aNext K lay t) ∧ bPop (aNext K lay t).2.2 20 0 = bPop t.2.2 20 0 + (if (sOf t.1 100 : Int) < kChance K (K (5 * (kSurN K lay t.2.1 (K 390).toNat).toNat + 2)) then 1 else 0) := by
  obtain ⟨b, e, b1, b2, b3⟩ := aSur hn h20 h hi
  obtain ⟨s1, g1, g2, g3, w1, w2⟩ := h
  unfold aNext
  rw [e, show ((b : Int)).toNat = b by omega]
  have sub : bSub t.2.1 (t.2.1 ||| 2 ^ b) := fun j hj => by rw [bOr_bit, hj]; rfl
  have nb : t.2.2.testBit b = false := by
    cases hb : t.2.2.testBit b
    · rfl
    · rw [w2 b hb] at b3; exact absurd b3 (by decide)
  have g' : bPop (t.2.1 ||| 2 ^ b) 20 0 = i + 1 := by rw [bPop_or b3 20 0 (by omega) (by omega), g3]
  by_cases hc : (sOf t.1 100 : Int) < kChance K (K (5 * b + 2))
  · rw [if_pos hc, if_pos hc]
    refine ⟨⟨sNext_in s1, bOr_lt g1 (by omega), bSub_or g2 b2, g', bOr_lt w1 (by omega), fun j hj => ?_⟩, bPop_or nb 20 0 (by omega) (by omega)⟩
    dsimp only at hj ⊢
    rw [bOr_bit] at hj ⊢
    by_cases e2 : b = j
    · rw [decide_eq_true e2, Bool.or_true]
    · rw [decide_eq_false e2, Bool.or_false] at hj
      rw [w2 j hj]; rfl
  · rw [if_neg hc, if_neg hc]
    exact ⟨⟨sNext_in s1, bOr_lt g1 (by omega), bSub_or g2 b2, g', w1, fun j hj => sub j (w2 j hj)⟩, (Nat.add_zero _).symm⟩
section SK
variable {F : zFs} {D : zDa} {Z : Nat → Prop} {K : Nat → Int}
theorem pX8_surest (h : qSt F D Z 1 K) (hc : ∀ lv : Nat, lv < 3 → D 90 lv = kChance K (lv : Int)) {lay gave : Nat} (hl : lay < 2 ^ 20) {b : Nat} (hb : kSurN K lay gave (K 390).toNat = (b : Int)) : qS (fX8_surest F ((zdiff lay gave : Nat) : Int) D) (fun r => r = ((b : Int), D)) := by
  have h0 := h.1.1
  have hz := zdiff_le lay gave
  unfold fX8_surest
  refine qloop2 (fun v2 v3 D1 => ∃ j : Nat, v3 = (j : Int) ∧ j ≤ (K 390).toNat ∧ v2 = kSurN K lay gave j ∧ D1 = D) (fun _ v3 _ => (100 - v3).toNat) ?_ ⟨0, rfl, by omega, rfl, rfl⟩ (zfu_gt (by omega))
  intro kk v2 v3 D1 ⟨j, e3, hj, e2, eD⟩ ih
  subst e3 eD
  unfold fX8_surest_4
  rw [h.2.1]
  refine qS_ite (fun hjn => ?_) (fun hjn => ?_)
  · have bit := zbit_ushr (a := zdiff lay gave) (k := j) (by omega) (by omega)
    have nx : ∀ v : Int, v = kSurN K lay gave (j + 1) → qS (fX8_surest_62 F kk ((zdiff lay gave : Nat) : Int) v (j : Int) D1) (fun r => r = ((b : Int), D1)) := by
      intro v hv
      unfold fX8_surest_62
      exact qS_chk (by omega) (ih _ _ _ ⟨j + 1, by omega, by omega, hv, rfl⟩ (by omega))
    have hs : kSurN K lay gave (j + 1) = if lay.testBit j = true ∧ gave.testBit j = false then (if kSurN K lay gave j = -1 then (j : Int) else if kChance K (K (5 * (kSurN K lay gave j).toNat + 2)) < kChance K (K (5 * j + 2)) then (j : Int) else kSurN K lay gave j) else kSurN K lay gave j := rfl
    rw [zdiff_bit] at bit
    by_cases hc2 : lay.testBit j = true ∧ gave.testBit j = false
    · rw [if_pos hc2] at hs
      have : (lay.testBit j && !gave.testBit j) = true := by rw [hc2.1, hc2.2]; rfl
      rw [if_pos this] at bit
      refine qS_pos bit ?_
      refine qS_ite (fun e => ?_) (fun e => ?_)
      · unfold fX8_surest_60
        exact nx _ (by rw [hs, if_pos (by rw [← e2]; exact e)])
      · rw [if_neg (by rw [← e2]; exact e)] at hs
        obtain ⟨w, hw, hwj, _⟩ : ∃ w : Nat, kSurN K lay gave j = (w : Int) ∧ w < j ∧ lay.testBit w = true ∧ gave.testBit w = false := by
          rcases kSurN_in K lay gave j with ⟨h1, _⟩ | h1
          · exact absurd (e2.trans h1) e
          · exact h1
        rw [e2, hw]
        rw [hw] at hs
        have oj := h.1.2.1 j (by omega)
        have ow := h.1.2.1 w (by omega)
        have rj : D1 4 j = K (5 * j + 2) := (h.2.2.1 j (by omega)).2.2.1
        have rw' : D1 4 w = K (5 * w + 2) := (h.2.2.1 w (by omega)).2.2.1
        rw [show ((j : Int)).toNat = j by omega, show ((w : Int)).toNat = w by omega, rj, rw']
        refine qS_chk (by omega) ?_
        have cj := hc (K (5 * j + 2)).toNat (by omega)
        have cw := hc (K (5 * w + 2)).toNat (by omega)
        rw [show (((K (5 * j + 2)).toNat : Nat) : Int) = K (5 * j + 2) by omega] at cj
        rw [show (((K (5 * w + 2)).toNat : Nat) : Int) = K (5 * w + 2) by omega] at cw
        rw [cj, cw]
        rw [show ((w : Int)).toNat = w by omega] at hs
        refine qS_ite (fun e4 => ?_) (fun e4 => ?_)
        · unfold fX8_surest_60
          exact nx _ (by rw [hs, if_pos e4])
        · exact nx _ (by rw [hs, if_neg e4])
    · rw [if_neg hc2] at hs
      have : ¬ (lay.testBit j && !gave.testBit j) = true := fun e => hc2 (by simpa using e)
      rw [if_neg this] at bit
      exact qS_neg (by omega) (nx _ (by rw [hs]; exact e2))
  · have : j = (K 390).toNat := by omega
    subst this
    unfold fJ9_max_7cf53
    refine qS_bind ?_
    rw [e2, hb]
    by_cases e : (b : Int) < 0
    · omega
    · exact qS_neg e (qS_ret (qS_ret rfl))
theorem pX8_sit (h : qSt F D Z 1 K) (hZ : ∀ a, Z a → 126 ≤ a) (hc : cSi D K) : qS (fX8_sit F D) (fun D' => cSi D' K ∧ D' 89 3 = (kAns K (kLay K (D 89 3))).1 ∧ D' 89 6 = ((kLay K (D 89 3)).2 : Int) ∧ D' 89 7 = ((kAns K (kLay K (D 89 3))).2.1 : Int) ∧ D' 89 8 = ((kAns K (kLay K (D 89 3))).2.2 : Int) ∧ (kAns K (kLay K (D 89 3))).2.2 < 2 ^ 20 ∧ zfr [89] D D') := by
  have h0 := h.1.1
  have ht := kTerms h.1
  unfold fX8_sit
  refine qS_call (pX8_layOut h hZ hc) (fun D1 ⟨c1, s1, l1, hl, hsub, f1⟩ => ?_)
  refine qS_leti (qS_leti ?_)
  have s2 : (zwr (zwr D1 89 7 0) 89 8 0) 89 3 = (kLay K (D 89 3)).1 := by rw [zwr_off (by omega), zwr_off (by omega)]; exact s1
  have l2 : (zwr (zwr D1 89 7 0) 89 8 0) 89 6 = ((kLay K (D 89 3)).2 : Int) := by rw [zwr_off (by omega), zwr_off (by omega)]; exact l1
  have g2 : (zwr (zwr D1 89 7 0) 89 8 0) 89 7 = 0 := by rw [zwr_off (by omega), zwr_eq]
  have w2 : (zwr (zwr D1 89 7 0) 89 8 0) 89 8 = 0 := zwr_eq
  have c2 : cSi (zwr (zwr D1 89 7 0) 89 8 0) K := c1.fr (by rw [zwr_off (by omega), zwr_off (by omega)]) (by rw [zwr_off (by omega), zwr_off (by omega)]) (by rw [zwr_row (by omega), zwr_row (by omega)]) (by rw [zwr_off (by omega), zwr_off (by omega)]; exact c1.1)
  have f2 : zfr [89] D (zwr (zwr D1 89 7 0) 89 8 0) := (f1.wr (by decide)).wr (by decide)
  have hs0 : 0 ≤ (kLay K (D 89 3)).1 ∧ (kLay K (D 89 3)).1 < 1000003 := by rw [← s1]; exact c1.1
  generalize zwr (zwr D1 89 7 0) 89 8 0 = D2 at *
  unfold kAns
  generalize kLay K (D 89 3) = p at *
  have hn : ∀ j, p.2.testBit j = true → j < (K 390).toNat := fun j hj => kAll_n (hsub j hj)
  have hp20 := bPop_le p.2 20 0
  generalize hR : kAnsN K p.2 (min (K 101).toNat (bPop p.2 20 0)) (p.1, 0, 0) = R at *
  refine qloop1 (fun v D3 => ∃ (i : Nat) (t : Int × Nat × Nat), v = (i : Int) ∧ i ≤ min (K 101).toNat (bPop p.2 20 0) ∧ aOk p.2 i t ∧ kAnsN K p.2 (min (K 101).toNat (bPop p.2 20 0) - i) t = R ∧ cSi D3 K ∧ D3 89 3 = t.1 ∧ D3 89 6 = (p.2 : Int) ∧ D3 89 7 = (t.2.1 : Int) ∧ D3 89 8 = (t.2.2 : Int) ∧ zfr [89] D D3) (fun v _ => (100 - v).toNat) ?_ ⟨0, (p.1, 0, 0), rfl, by omega, ⟨hs0, by show 0 < 2 ^ 20; omega, bNil _, bPop_nil, by show 0 < 2 ^ 20; omega, bNil _⟩, by rw [Nat.sub_zero]; exact hR, c2, s2, l2, g2, w2, f2⟩ (zfu_gt (by omega))
  intro kk v D3 ⟨i, t, ev, hi, ok, hN, c3, s3, l3, g3, w3, f3⟩ ih
  subst ev
  have q3 := h.zfr hZ f3 (by decide)
  have e1 : D3 7 1 = K 101 := q3.2.2.2.1 1 (by omega)
  have ok' := ok
  obtain ⟨o1, o2, o3, o4, o5, o6⟩ := ok'
  have fin : min (K 101).toNat (bPop p.2 20 0) - i = 0 → qS (some D3) (fun D' => cSi D' K ∧ D' 89 3 = R.1 ∧ D' 89 6 = (p.2 : Int) ∧ D' 89 7 = (R.2.1 : Int) ∧ D' 89 8 = (R.2.2 : Int) ∧ R.2.2 < 2 ^ 20 ∧ zfr [89] D D') := by
    intro e
    rw [e, kAnsN_0] at hN
    subst hN
    exact qS_ret ⟨c3, s3, l3, g3, w3, o5, f3⟩
  unfold fX8_sit_16
  rw [e1]
  refine qS_ite (fun hiA => ?_) (fun hiA => fin (by omega))
  rw [g3, l3]
  refine qS_ite (fun he => ?_) (fun he => ?_)
  · refine fin ?_
    have : t.2.1 = p.2 := by omega
    rw [this] at o4
    omega
  · have hlt : i < bPop p.2 20 0 := by
      have h1 := (bPop_sub (x := t.2.1) (y := p.2) 20 0 (fun j _ _ => o3 j)).1
      rcases Nat.lt_or_ge i (bPop p.2 20 0) with h2 | h2
      · exact h2
      · exact absurd (by rw [bSub_eq o2 hl o3 (by omega)]) he
    obtain ⟨b, eb, b1, b2, b3⟩ := aSur hn (by omega) ok hlt
    have nx := ok.next hn (by omega) hlt
    rw [zdiff_nat (by omega) (by omega)]
    refine qS_call (pX8_surest q3 c3.2.2.2 hl eb) (fun r hr => ?_)
    subst hr
    dsimp only
    have hpb : 2 ^ b < 2 ^ 20 := Nat.pow_lt_pow_right (by omega) (by omega)
    rw [g3, zone_shl (by omega), zor_nat (by omega) (by omega)]
    refine qS_leti ?_
    have s4 : (zwr D3 89 7 ((t.2.1 ||| 2 ^ b : Nat) : Int)) 89 3 = t.1 := by rw [zwr_off (by omega)]; exact s3
    rw [show (100 : Int) = ((100 : Nat) : Int) from rfl]
    refine qS_step (pX8_lots (by omega) (by rw [s4]; exact o1)) ?_
    rw [s4]
    have f5 : zfr [89] D (zwr (zwr D3 89 7 ((t.2.1 ||| 2 ^ b : Nat) : Int)) 89 3 (sNext t.1)) := (f3.wr (by decide)).wr (by decide)
    have q5 := h.zfr hZ f5 (by decide)
    have ob := h.1.2.1 b (by omega)
    have rb : (zwr (zwr D3 89 7 ((t.2.1 ||| 2 ^ b : Nat) : Int)) 89 3 (sNext t.1)) 4 b = K (5 * b + 2) := (q5.2.2.1 b (by omega)).2.2.1
    have c5 : cSi (zwr (zwr D3 89 7 ((t.2.1 ||| 2 ^ b : Nat) : Int)) 89 3 (sNext t.1)) K := c3.fr (by rw [zwr_off (by omega), zwr_off (by omega)]) (by rw [zwr_off (by omega), zwr_off (by omega)]) (by rw [zwr_row (by omega), zwr_row (by omega)]) (by rw [zwr_eq]; exact sNext_in o1)
    have l5 : (zwr (zwr D3 89 7 ((t.2.1 ||| 2 ^ b : Nat) : Int)) 89 3 (sNext t.1)) 89 6 = (p.2 : Int) := by rw [zwr_off (by omega), zwr_off (by omega)]; exact l3
    have g5 : (zwr (zwr D3 89 7 ((t.2.1 ||| 2 ^ b : Nat) : Int)) 89 3 (sNext t.1)) 89 7 = ((t.2.1 ||| 2 ^ b : Nat) : Int) := by rw [zwr_off (by omega), zwr_eq]
    have w5 : (zwr (zwr D3 89 7 ((t.2.1 ||| 2 ^ b : Nat) : Int)) 89 3 (sNext t.1)) 89 8 = (t.2.2 : Int) := by rw [zwr_off (by omega), zwr_off (by omega)]; exact w3
    have s5 : (zwr (zwr D3 89 7 ((t.2.1 ||| 2 ^ b : Nat) : Int)) 89 3 (sNext t.1)) 89 3 = sNext t.1 := zwr_eq
    generalize zwr (zwr D3 89 7 ((t.2.1 ||| 2 ^ b : Nat) : Int)) 89 3 (sNext t.1) = D5 at *
    have ch := c5.2.2.2 (K (5 * b + 2)).toNat (by omega)
    rw [show (((K (5 * b + 2)).toNat : Nat) : Int) = K (5 * b + 2) by omega] at ch
    rw [show min (K 101).toNat (bPop p.2 20 0) - i = (min (K 101).toNat (bPop p.2 20 0) - (i + 1)) + 1 by omega, kAnsN_s] at hN
    have go : ∀ D6 : zDa, cSi D6 K → D6 89 3 = sNext t.1 → D6 89 6 = (p.2 : Int) → D6 89 7 = ((t.2.1 ||| 2 ^ b : Nat) : Int) → D6 89 8 = ((aNext K p.2 t).2.2 : Int) → zfr [89] D D6 → qS (fX8_sit_103 F kk (i : Int) D6) (fun D' => cSi D' K ∧ D' 89 3 = R.1 ∧ D' 89 6 = (p.2 : Int) ∧ D' 89 7 = (R.2.1 : Int) ∧ D' 89 8 = (R.2.2 : Int) ∧ R.2.2 < 2 ^ 20 ∧ zfr [89] D D') := by
      intro D6 c6 s6 l6 g6 w6 f6
      unfold fX8_sit_103
      refine qS_chk (by omega) (ih _ _ ⟨i + 1, aNext K p.2 t, by omega, by omega, nx.1, hN, c6, s6, l6, ?_, w6, f6⟩ (by omega))
      show D6 89 7 = ((t.2.1 ||| 2 ^ (kSurN K p.2 t.2.1 (K 390).toNat).toNat : Nat) : Int)
      rw [eb, show ((b : Int)).toNat = b by omega]; exact g6
    have ean : (aNext K p.2 t).2.2 = if (sOf t.1 100 : Int) < kChance K (K (5 * b + 2)) then t.2.2 ||| 2 ^ b else t.2.2 := by
      unfold aNext; rw [eb, show ((b : Int)).toNat = b by omega]
    refine qS_chk (by show (0 ≤ (b : Int) ∧ (b : Int) < 20) ∧ (0 ≤ D5 4 ((b : Int)).toNat ∧ D5 4 ((b : Int)).toNat < 3); rw [show ((b : Int)).toNat = b by omega, rb]; omega) ?_
    rw [show ((b : Int)).toNat = b by omega]
    show qS (if (sOf t.1 100 : Int) < D5 90 (D5 4 b).toNat then zlet (zwr D5 89 8 (zor (D5 89 8) ((2 ^ b : Nat) : Int))) (fun D_10 => fX8_sit_103 F kk (i : Int) D_10) else fX8_sit_103 F kk (i : Int) D5) _
    rw [rb, ch, w5]
    refine qS_ite (fun hcc => ?_) (fun hcc => ?_)
    · rw [zor_nat (by omega) (by omega)]
      refine qS_leti (go _ ?_ ?_ ?_ ?_ ?_ (f5.wr (by decide)))
      · exact c5.fr (by rw [zwr_off (by omega)]) (by rw [zwr_off (by omega)]) (by rw [zwr_row (by omega)]) (by rw [zwr_off (by omega)]; exact c5.1)
      · rw [zwr_off (by omega)]; exact s5
      · rw [zwr_off (by omega)]; exact l5
      · rw [zwr_off (by omega)]; exact g5
      · rw [zwr_eq, ean, if_pos hcc]
    · exact go D5 c5 s5 l5 g5 (by rw [ean, if_neg hcc]; exact w5) f5
end SK
