section SC
variable {F : zFs} {D : zDa}
theorem sc_66 {P : zDa → Prop} {k2 : Int → zDa → Option zDa} {lv at' : Nat} (hl : lv < 3) (ha : at' < 3) (hn : qS (k2 ((lv : Int) + 1) (zwr D 55 at' (lv : Int))) P) : qS (fX2_setChances_66 F k2 (lv : Int) (at' : Int) D) P := by
  unfold fX2_setChances_66
  refine qS_chk (by omega) (qS_leti (qS_chk (by omega) ?_))
  rw [show ((at' : Int)).toNat = at' by omega]
  exact hn
/-- one step of the laying in -/
theorem sc_20 {P : zDa → Prop} {ch : Nat → Int} {k2 k20 : Int → zDa → Option zDa} {lv at' x : Nat} (hl : lv < 3) (ha : at' + 1 < 3) (hx : x < 3) (h55 : D 55 at' = (x : Int)) (hc : D 54 x = ch x ∧ D 54 lv = ch lv)
    (h1 : ch x < ch lv → qS (k20 (at' : Int) (zwr D 55 (at' + 1) (x : Int))) P) (h2 : ¬ ch x < ch lv → qS (k2 ((lv : Int) + 1) (zwr D 55 (at' + 1) (lv : Int))) P) : qS (fX2_setChances_20 F (lv : Int) k2 k20 ((at' + 1 : Nat) : Int) D) P := by
  unfold fX2_setChances_20
  refine qS_pos (by omega) ?_
  rw [show (((at' + 1 : Nat) : Int) - 1).toNat = at' by omega, h55, show ((x : Int)).toNat = x by omega, show ((lv : Int)).toNat = lv by omega, hc.1, hc.2]
  refine qS_chk (by omega) (qS_ite (fun h => qS_chk (by omega) (qS_leti (qS_chk (by omega) ?_))) (fun h => sc_66 hl (by omega) (h2 h)))
  rw [show (((at' + 1 : Nat) : Int)).toNat = at' + 1 by omega, show (((at' + 1 : Nat) : Int) + (-1)) = (at' : Int) by omega]
  exact h1 h
theorem sc_0 {P : zDa → Prop} {k2 k20 : Int → zDa → Option zDa} {lv : Nat} (hl : lv < 3) (hn : qS (k2 ((lv : Int) + 1) (zwr D 55 0 (lv : Int))) P) : qS (fX2_setChances_20 F (lv : Int) k2 k20 0 D) P := by
  unfold fX2_setChances_20
  exact qS_neg (by omega) (sc_66 (at' := 0) hl (by omega) hn)
theorem kRk_10 {ch : Nat → Int} (h : ch 0 < ch 1) : kRk ch = if ch 0 < ch 2 then (if ch 1 < ch 2 then (2, 1, 0) else (1, 2, 0)) else (1, 0, 2) := by
  unfold kRk
  rw [if_pos h]
  by_cases h1 : ch 1 < ch 2
  · rw [if_pos h1, if_pos (c := ch 0 < ch 2) (by omega), if_pos h1]
  · rw [if_neg h1, if_neg h1]
theorem kRk_01 {ch : Nat → Int} (h : ¬ ch 0 < ch 1) : kRk ch = if ch 1 < ch 2 then (if ch 0 < ch 2 then (2, 0, 1) else (0, 2, 1)) else (0, 1, 2) := by
  unfold kRk
  rw [if_neg h]
  by_cases h1 : ch 0 < ch 2
  · rw [if_pos h1, if_pos (c := ch 1 < ch 2) (by omega), if_pos h1]
  · rw [if_neg h1, if_neg h1]
theorem pX2_setChances {Z : Nat → Prop} {K : Nat → Int} (h : qSt F D Z 1 K) (hG : zG F) (hZ : ∀ a, Z a → 126 ≤ a) :
    qS (fX2_setChances F D) (fun D' => cCh D' (fun lv => kChance K (lv : Int)) ∧ zfr [49, 50, 51, 54, 55] D D') := by
  have hin : ∀ lv : Nat, lv < 3 → 0 ≤ kChance K (lv : Int) ∧ kChance K (lv : Int) ≤ 100 := fun lv hl => kChance_in (by omega)
  unfold fX2_setChances
  rw [show zfu = 999996 + 1 + 1 + 1 + 1 from rfl, zfix_succ]
  have tk : ∀ (D1 : zDa) (lv : Nat) (kk : Int → zDa → Option zDa) (P : zDa → Prop), lv < 3 → zfr [49, 50, 51, 54, 55] D D1 →
      (∀ D2, zfr [49, 50, 51, 54, 55] D D2 → (∀ k, D2 55 k = D1 55 k) → (∀ k, D2 54 k = if k = lv then kChance K (lv : Int) else D1 54 k) → qS (zfix (fun _ _ => none) (fX2_setChances_20 F (lv : Int) kk) zfu (lv : Int) D2) P) → qS (fX2_setChances_2 F kk (lv : Int) D1) P := by
    intro D1 lv kk P hl hf hn
    unfold fX2_setChances_2
    refine qS_pos (by omega) (qS_call (pX10_chanceOf (h.zfr hZ hf (by simp)) hG hZ (l := (lv : Int)) (by omega)) ?_)
    intro r hr
    obtain ⟨r1, r2⟩ := r
    obtain ⟨e1, hf2⟩ := hr
    dsimp only at e1 hf2 ⊢
    subst e1
    refine qS_chk (by omega) (qS_leti ?_)
    rw [show ((lv : Int)).toNat = lv by omega]
    refine hn _ ((hf.trans (hf2.mono (by decide))).wr (by decide)) (fun k => ?_) (fun k => ?_)
    · rw [zwr_off (by omega), hf2 55 (by decide)]
    · rw [zwr_at, hf2 54 (by decide)]
  refine tk D 0 _ _ (by omega) (zfr.rfl' _ D) ?_
  intro D2 f2 a2 b2
  rw [show zfu = 999999 + 1 from rfl, zfix_succ]
  refine sc_0 (lv := 0) (by omega) ?_
  rw [zfix_succ]
  refine tk _ 1 _ _ (by omega) (f2.wr (by decide)) ?_
  intro D3 f3 a3 b3
  have c30 : D3 54 0 = kChance K ((0 : Nat) : Int) := by rw [b3, if_neg (by omega), zwr_off (by omega), b2, if_pos rfl]
  have c31 : D3 54 1 = kChance K ((1 : Nat) : Int) := by rw [b3, if_pos rfl]
  have d30 : D3 55 0 = ((0 : Nat) : Int) := by rw [a3, zwr_eq]
  rw [show zfu = 999998 + 1 + 1 from rfl, zfix_succ]
  have last : ∀ (D4 : zDa) (x y : Nat), zfr [49, 50, 51, 54, 55] D D4 → x < 3 → y < 3 → D4 55 0 = (x : Int) → D4 55 1 = (y : Int) → (∀ k, k < 2 → D4 54 k = kChance K (k : Int)) → x < 2 → y < 2 →
      (kRk (fun lv => kChance K (lv : Int)) = if kChance K (y : Int) < kChance K ((2 : Nat) : Int) then (if kChance K (x : Int) < kChance K ((2 : Nat) : Int) then (2, x, y) else (x, 2, y)) else (x, y, 2)) →
      qS (zfix (fun _ _ => none) (fX2_setChances_2 F) (999996 + 1 + 1) (((1 : Nat) : Int) + 1) D4) (fun D' => cCh D' (fun lv => kChance K (lv : Int)) ∧ zfr [49, 50, 51, 54, 55] D D') := by
    intro D4 x y f4 hx hy e0 e1 hc hx2 hy2 hrk
    rw [zfix_succ]
    refine tk _ 2 _ _ (by omega) f4 ?_
    intro D5 f5 a5 b5
    have c5 : ∀ k, k < 3 → D5 54 k = kChance K (k : Int) := fun k hk => by
      rw [b5]
      by_cases h2 : k = 2
      · rw [if_pos h2, h2]
      · rw [if_neg h2]; exact hc k (by omega)
    have fin : ∀ D6 : zDa, zfr [55] D5 D6 → D6 55 0 = ((kRk (fun lv => kChance K (lv : Int))).1 : Int) → D6 55 1 = ((kRk (fun lv => kChance K (lv : Int))).2.1 : Int) → D6 55 2 = ((kRk (fun lv => kChance K (lv : Int))).2.2 : Int) →
        qS (zfix (fun _ _ => none) (fX2_setChances_2 F) (999996 + 1) (((2 : Nat) : Int) + 1) D6) (fun D' => cCh D' (fun lv => kChance K (lv : Int)) ∧ zfr [49, 50, 51, 54, 55] D D') := by
      intro D6 f6 g0 g1 g2
      rw [zfix_succ]
      unfold fX2_setChances_2
      refine qS_neg (by omega) (qS_ret ⟨⟨fun lv hl => ⟨by rw [f6 54 (by decide)]; exact c5 lv hl, hin lv hl⟩, g0, g1, g2⟩, f5.trans (f6.mono (by decide))⟩)
    rw [show zfu = 999997 + 1 + 1 + 1 from rfl, zfix_succ]
    refine sc_20 (ch := fun lv => kChance K (lv : Int)) (lv := 2) (at' := 1) (x := y) (by omega) (by omega) hy (by rw [a5]; exact e1) ⟨c5 y hy, c5 2 (by omega)⟩ (fun h1 => ?_) (fun h1 => ?_)
    · rw [if_pos h1] at hrk
      rw [zfix_succ]
      refine sc_20 (ch := fun lv => kChance K (lv : Int)) (lv := 2) (at' := 0) (x := x) (by omega) (by omega) hx (by rw [zwr_off (by omega), a5]; exact e0) ⟨by rw [zwr_off (by omega)]; exact c5 x hx, by rw [zwr_off (by omega)]; exact c5 2 (by omega)⟩ (fun h2 => ?_) (fun h2 => ?_)
      · rw [if_pos h2] at hrk
        rw [zfix_succ]
        refine sc_0 (lv := 2) (by omega) (fin _ ((((zfr.rfl' _ D5).wr (by decide)).wr (by decide)).wr (by decide)) ?_ ?_ ?_)
        · rw [hrk, zwr_eq]
        · rw [hrk, zwr_off (by omega), zwr_eq]
        · rw [hrk, zwr_off (by omega), zwr_off (by omega), zwr_eq]
      · rw [if_neg h2] at hrk
        refine fin _ (((zfr.rfl' _ D5).wr (by decide)).wr (by decide)) ?_ ?_ ?_
        · rw [hrk, zwr_off (by omega), zwr_off (by omega), a5]; exact e0
        · rw [hrk, zwr_eq]
        · rw [hrk, zwr_off (by omega), zwr_eq]
    · rw [if_neg h1] at hrk
      refine fin _ ((zfr.rfl' _ D5).wr (by decide)) ?_ ?_ ?_
      · rw [hrk, zwr_off (by omega), a5]; exact e0
      · rw [hrk, zwr_off (by omega), a5]; exact e1
      · rw [hrk, zwr_eq]
  refine sc_20 (ch := fun lv => kChance K (lv : Int)) (lv := 1) (at' := 0) (x := 0) (by omega) (by omega) (by omega) d30 ⟨c30, c31⟩ (fun h1 => ?_) (fun h1 => ?_)
  · rw [zfix_succ]
    refine sc_0 (lv := 1) (by omega) (last _ 1 0 ((f3.wr (by decide)).wr (by decide)) (by omega) (by omega) zwr_eq (by rw [zwr_off (by omega), zwr_eq]) (fun k hk => ?_) (by omega) (by omega) ?_)
    · rw [zwr_off (by omega), zwr_off (by omega)]
      rcases (by omega : k = 0 ∨ k = 1) with rfl | rfl
      · exact c30
      · exact c31
    · exact kRk_10 (ch := fun lv => kChance K (lv : Int)) h1
  · refine last _ 0 1 (f3.wr (by decide)) (by omega) (by omega) (by rw [zwr_off (by omega)]; exact d30) zwr_eq (fun k hk => ?_) (by omega) (by omega) ?_
    · rw [zwr_off (by omega)]
      rcases (by omega : k = 0 ∨ k = 1) with rfl | rfl
      · exact c30
      · exact c31
    · exact kRk_01 (ch := fun lv => kChance K (lv : Int)) h1
theorem pX12_laysChances {K : Nat → Int} (hK : D 93 = K) (hk : kOk K) (hP : kPOk K) :
    qS (fX12_laysChances F D) (fun D' => rCh D' (fun lv => kChance K (lv : Int)) ∧ zfm [102, 103] [18, 19, 20] D D') := by
  have hin : ∀ lv : Nat, lv < 3 → 0 ≤ kChance K (lv : Int) ∧ kChance K (lv : Int) ≤ 100 := fun lv hl => kChance_in (by omega)
  unfold fX12_laysChances
  refine qloop1 (fun v D1 => ∃ j : Nat, v = (j : Int) ∧ j ≤ 3 ∧ (∀ lv : Nat, lv < j → D1 103 lv = kChance K (lv : Int)) ∧ zfm [102, 103] [18, 19, 20] D D1) (fun v _ => (10 - v).toNat) ?_ ⟨0, rfl, by omega, fun lv hl => by omega, zfm.rfl' _ _ D⟩ (zfu_gt (by omega))
  intro kk v D1 ⟨j, ev, hj, hr, hf⟩ ih
  subst ev
  unfold fX12_laysChances_2
  refine qS_ite (fun h3 => ?_) (fun h3 => ?_)
  · refine qS_call (pX12_chanceOf (by rw [hf.1 93 (by decide) (by decide)]; exact hK) hk hP (l := (j : Int)) (by omega)) ?_
    intro r hr2
    obtain ⟨r1, D2⟩ := r
    obtain ⟨e1, f2⟩ := hr2
    dsimp only at e1 f2 ⊢
    subst e1
    refine qS_chk (by omega) (qS_leti (qS_chk (by omega) (ih _ _ ⟨j + 1, by omega, by omega, fun lv hl => ?_, (hf.trans (f2.mono (by decide) (by decide))).wr (by decide) (by decide)⟩ (by omega))))
    rw [show ((j : Int)).toNat = j by omega, zwr_at]
    by_cases e : lv = j
    · rw [if_pos e, e]
    · rw [if_neg e, f2.1 103 (by decide) (by decide)]; exact hr lv (by omega)
  · exact qS_ret ⟨fun lv hl => ⟨hr lv (by omega), hin lv hl⟩, hf⟩
end SC
