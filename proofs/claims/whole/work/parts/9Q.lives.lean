/-! ===== the reference's diary ===== -/
def rDS (D : zDa) (S : dT) (n : Int) : Prop := (∀ q : Nat, (q : Int) < n → D 115 q = S.1 q ∧ (0 < S.1 q → D 116 q = S.2.1 q)) ∧ D 91 43 = S.2.2.1 ∧ D 91 44 = S.2.2.2.1 ∧ D 91 45 = S.2.2.2.2
theorem rDS.fr {D D' : zDa} {S : dT} {n : Int} (h : rDS D S n) (h3 : D' 91 43 = D 91 43 ∧ D' 91 44 = D 91 44 ∧ D' 91 45 = D 91 45) (h4 : D' 115 = D 115) (h5 : D' 116 = D 116) : rDS D' S n := by
  unfold rDS; rw [h3.1, h3.2.1, h3.2.2, h4, h5]; exact h
theorem rDS.frm {D D' : zDa} {S : dT} {n : Int} (h : rDS D S n) (f : zfm [102] [18, 19, 20] D D') : rDS D' S n :=
  h.fr ⟨f.2 43 (by decide), f.2 44 (by decide), f.2 45 (by decide)⟩ (f.1 115 (by decide) (by decide)) (f.1 116 (by decide) (by decide))
section LV
variable {F : zFs} {D : zDa} {K : Nat → Int}
theorem pX12_isHelped (hK : D 93 = K) (hk : kOk K) {lv : Nat → Int} (hl : ∀ q : Nat, (q : Int) < K 390 → D 115 q = lv q) {q : Nat} (hq : (q : Int) < K 390) : qS (fX12_isHelped F (q : Int) D) (fun r => r = (kHlp K lv q (K 390).toNat, D)) := by
  have h0 := hk.1
  unfold fX12_isHelped
  refine qloop2 (fun v2 v D1 => ∃ j : Nat, v = (j : Int) ∧ j ≤ (K 390).toNat ∧ v2 = kHlp K lv q j ∧ D1 = D) (fun _ v _ => (100 - v).toNat) ?_ ⟨0, rfl, by omega, rfl, rfl⟩ (zfu_gt (by omega))
  intro kk v2 v D1 ⟨j, ev, hj, e2, eD⟩ ih
  subst ev eD
  have eq : fX12_questions F D1 = some (K 390, D1) := by unfold fX12_questions; rw [hK]
  unfold fX12_isHelped_4
  refine qS_step eq ?_
  refine qS_ite (fun hjn => ?_) (fun hjn => ?_)
  · have hs : kHlp K lv q (j + 1) = if kHlp K lv q j = 1 then 1 else if j ≠ q ∧ 0 < K (5 * q) ∧ K (5 * j) = K (5 * q) ∧ 0 < lv j then 1 else 0 := rfl
    have nxt : ∀ s : Int, s = kHlp K lv q (j + 1) → qS (fX12_isHelped_59 F kk (q : Int) (j : Int) s D1) (fun r => r = (kHlp K lv q (K 390).toNat, D1)) := by
      intro s es
      unfold fX12_isHelped_59
      exact qS_chk (by omega) (ih _ _ _ ⟨j + 1, by omega, by omega, es, rfl⟩ (by omega))
    have no : kHlp K lv q j = 0 → ¬ (j ≠ q ∧ 0 < K (5 * q) ∧ K (5 * j) = K (5 * q) ∧ 0 < lv j) → qS (fX12_isHelped_58 F kk (q : Int) (j : Int) D1) (fun r => r = (kHlp K lv q (K 390).toNat, D1)) := by
      intro h1 h2
      unfold fX12_isHelped_58
      exact nxt 0 (by rw [hs, if_neg (by omega), if_neg h2])
    refine qS_ite (fun e => ?_) (fun e => ?_)
    · refine qS_ite (fun e1 => no (by omega) (by omega)) (fun e1 => ?_)
      refine qS_step (pX12_factOf (q := q) (k := 0) rfl rfl (by omega)) ?_
      rw [hK, Nat.add_zero]
      refine qS_ite (fun e3 => ?_) (fun e3 => no (by omega) (by omega))
      refine qS_step (pX12_factOf (q := j) (k := 0) rfl rfl (by omega)) ?_
      refine qS_step (pX12_factOf (q := q) (k := 0) rfl rfl (by omega)) ?_
      rw [hK, Nat.add_zero, Nat.add_zero]
      refine qS_ite (fun e4 => ?_) (fun e4 => no (by omega) (by omega))
      refine qS_chk (by omega) ?_
      rw [show ((j : Int)).toNat = j by omega, hl j (by omega)]
      refine qS_ite (fun e5 => ?_) (fun e5 => no (by omega) (by omega))
      unfold fX12_isHelped_54
      exact nxt 1 (by rw [hs, if_neg (by omega), if_pos ⟨by omega, e3, e4, e5⟩])
    · unfold fX12_isHelped_54
      have : kHlp K lv q j = 1 := by rcases kHlp_in K lv q j with h | h <;> omega
      exact nxt 1 (by rw [hs, if_pos this])
  · have : j = (K 390).toNat := by omega
    subst this
    refine qS_chk ?_ (qS_ret (by rw [e2]))
    rw [e2]; exact kHlp_in _ _ _ _
theorem pX12_learns (hK : D 93 = K) (hk : kOk K) (hP : kPOk K) {S : dT} {M : Nat} (hS : rDS D S (K 390)) (hM : dOkM M S) (hMM : M ≤ 100000) {d : Nat} (hd : d < 20) : qS (fX12_learns F (d : Int) D) (fun D' => rDS D' (dNight K d S).2.2 (K 390) ∧ D' 114 d = K 106 - (dNight K d S).1 ∧ (∀ k, k ≠ d → D' 114 k = D 114 k) ∧ zfm [102, 114, 115, 116] [18, 19, 20, 43, 44] D D') := by
  have h0 := hk.1
  have h1 := hk.2.2.2.1
  have ht := kTerms hk
  unfold fX12_learns
  refine qS_step (pX12_term (k := 6) rfl (by omega)) ?_
  dsimp only
  rw [hK, show 100 + 6 = 106 from rfl]
  refine qloop3 (fun v2 v3 v4 D1 => ∃ i : Nat, v4 = (i : Int) ∧ i ≤ (K 391).toNat ∧ v2 = (dLesN K (d : Int) S i).1 ∧ v3 = (dLesN K (d : Int) S i).2.1 ∧ rDS D1 (dLesN K (d : Int) S i).2.2 (K 390) ∧ zfm [102, 115, 116] [18, 19, 20, 43, 44] D D1) (fun _ _ v4 _ => (1000 - v4).toNat) ?_ ⟨0, rfl, by omega, rfl, rfl, hS, zfm.rfl' _ _ _⟩ (zfu_gt (by omega))
  intro kk v2 v3 v4 D1 ⟨i, ev, hi, e2, e3, c1, f1⟩ ih
  have ok := dLesN_ok hk hM (day := (d : Int)) (by omega) i
  have K1 : D1 93 = K := by rw [f1.1 93 (by decide) (by decide)]; exact hK
  subst ev
  have hnx : dLesN K (d : Int) S (i + 1) = dLes K (d : Int) i (dLesN K (d : Int) S i) := rfl
  generalize hx : dLesN K (d : Int) S i = x at *
  obtain ⟨lft, ful, T⟩ := x
  dsimp only at e2 e3 c1 ok
  subst e2 e3
  unfold fX12_learns_12
  rw [K1]
  refine qS_ite (fun hin => ?_) (fun hin => ?_)
  · refine qS_chk (by omega) ?_
    have o := h1.2 i (by omega)
    rw [show (107 + 2 * (i : Int)).toNat = 107 + 2 * i by omega, show (107 + 2 * (i : Int) + 1).toNat = 108 + 2 * i by omega]
    have g189 : ∀ (l f : Int) (T' : dT) (D2 : zDa), dLes K (d : Int) i (v2, v3, T) = (l, f, T') → rDS D2 T' (K 390) → zfm [102, 115, 116] [18, 19, 20, 43, 44] D D2 → qS (fX12_learns_189 F kk (d : Int) l f (i : Int) D2) (fun D' => rDS D' (dNight K d S).2.2 (K 390) ∧ D' 114 d = K 106 - (dNight K d S).1 ∧ (∀ k, k ≠ d → D' 114 k = D 114 k) ∧ zfm [102, 114, 115, 116] [18, 19, 20, 43, 44] D D') := by
      intro l f T' D2 e c2 f2
      unfold fX12_learns_189
      refine qS_chk (by omega) (ih _ _ _ _ ⟨i + 1, by omega, by omega, by rw [hnx, e], by rw [hnx, e], by rw [hnx, e]; exact c2, f2⟩ (by omega))
    refine qS_ite (fun ed => ?_) (fun ed => ?_)
    · refine qS_chk (by omega) (qS_leti ?_)
      obtain ⟨q, hq⟩ : ∃ q : Nat, K (108 + 2 * i) = (q : Int) := ⟨(K (108 + 2 * i)).toNat, by omega⟩
      have hqn : (q : Int) < K 390 := by omega
      have hlv := ok.1.1 q
      have cq := c1.1 q hqn
      rw [hq]
      refine qS_chk (by omega) ?_
      rw [show ((q : Int)).toNat = q by omega]
      have g97 : ∀ (cost : Int) (D2 : zDa), cost = dCost K T.1 q (d : Int) → zfm [102] [18, 19, 20] D1 D2 → qS (fX12_learns_97 F kk (d : Int) v2 v3 (i : Int) (q : Int) cost D2) (fun D' => rDS D' (dNight K d S).2.2 (K 390) ∧ D' 114 d = K 106 - (dNight K d S).1 ∧ (∀ k, k ≠ d → D' 114 k = D 114 k) ∧ zfm [102, 114, 115, 116] [18, 19, 20, 43, 44] D D') := by
        intro cost D2 hco f2
        have hci := dCost_in K T.1 q (d : Int)
        have c2 : rDS D2 T (K 390) := c1.frm f2
        have f12 : zfm [102, 115, 116] [18, 19, 20, 43, 44] D D2 := f1.trans (f2.mono (by decide) (by decide))
        subst hco
        have dr : (v3 = 1 ∨ v2 < dCost K T.1 q (d : Int)) → qS (fX12_learns_114 F kk (d : Int) v2 (i : Int) (q : Int) (dCost K T.1 q (d : Int)) 1 D2) (fun D' => rDS D' (dNight K d S).2.2 (K 390) ∧ D' 114 d = K 106 - (dNight K d S).1 ∧ (∀ k, k ≠ d → D' 114 k = D 114 k) ∧ zfm [102, 114, 115, 116] [18, 19, 20, 43, 44] D D') := by
          intro hc
          have ee : dLes K (d : Int) i (v2, v3, T) = (v2, 1, dDrop T (d : Int)) := by
            unfold dLes
            rw [if_pos ed, hq, show ((q : Int)).toNat = q by omega, if_pos hc]
          unfold fX12_learns_114
          refine qS_neg (by omega) ?_
          have b := ok.1.2.1
          rw [c2.2.1]
          refine qS_chk (by omega) (qS_leti ?_)
          have e8 : (zwr D2 91 43 (T.2.2.1 + 1)) 91 44 = T.2.2.2.1 := by rw [zwr_off (by omega)]; exact c2.2.2.1
          refine qS_ite (fun h8 => ?_) (fun h8 => ?_)
          · rw [e8] at h8
            refine qS_leti (g189 _ _ _ _ ee ⟨fun p hp => ?_, ?_, ?_, ?_⟩ ?_)
            · rw [zwr_row (by omega), zwr_row (by omega), zwr_row (by omega), zwr_row (by omega)]; exact c2.1 p hp
            · rw [zwr_off (by omega), zwr_eq]; rfl
            · rw [zwr_eq]; show (d : Int) = if T.2.2.2.1 = -1 then (d : Int) else _; rw [if_pos h8]
            · rw [zwr_off (by omega), zwr_off (by omega)]; exact c2.2.2.2
            · exact (f12.wf (by decide)).wf (by decide)
          · rw [e8] at h8
            refine g189 _ _ _ _ ee ⟨fun p hp => ?_, ?_, ?_, ?_⟩ ?_
            · rw [zwr_row (by omega), zwr_row (by omega)]; exact c2.1 p hp
            · rw [zwr_eq]; rfl
            · rw [e8]; show _ = if T.2.2.2.1 = -1 then (d : Int) else _; rw [if_neg h8]
            · rw [zwr_off (by omega)]; exact c2.2.2.2
            · exact f12.wf (by decide)
        unfold fX12_learns_97
        refine qS_ite (fun e3 => ?_) (fun e3 => ?_)
        · refine qS_ite (fun hlt => ?_) (fun hlt => ?_)
          · unfold fX12_learns_109
            exact dr (Or.inr hlt)
          · have ee : dLes K (d : Int) i (v2, v3, T) = (v2 - dCost K T.1 q (d : Int), 0, dLearn T q (d : Int)) := by
              unfold dLes
              rw [if_pos ed, hq, show ((q : Int)).toNat = q by omega, if_neg (by dsimp only; omega)]
            have g180 : ∀ s0 : Int, s0 = (if T.1 q = 2 then 2 else T.1 q + 1) → qS (fX12_learns_180 F kk (d : Int) (v2 - dCost K T.1 q (d : Int)) 0 (i : Int) (q : Int) s0 (q : Int) D2) (fun D' => rDS D' (dNight K d S).2.2 (K 390) ∧ D' 114 d = K 106 - (dNight K d S).1 ∧ (∀ k, k ≠ d → D' 114 k = D 114 k) ∧ zfm [102, 114, 115, 116] [18, 19, 20, 43, 44] D D') := by
              intro s0 es
              unfold fX12_learns_180
              refine qS_chk (by omega) (qS_leti (qS_chk (by omega) (qS_leti (g189 _ _ _ _ ee ⟨fun p hp => ?_, ?_, ?_, ?_⟩ ?_))))
              · unfold dLearn
                dsimp only
                rw [show ((q : Int)).toNat = q by omega]
                by_cases e : p = q
                · subst e
                  rw [zwr_row (by omega), zwr_eq, zwr_eq, zset_eq, zset_eq]; exact ⟨es, fun _ => rfl⟩
                · rw [zwr_row (by omega), zwr_off (by omega), zwr_off (by omega), zwr_row (by omega), zset_off e, zset_off e]; exact c2.1 p hp
              · rw [zwr_row (by omega), zwr_row (by omega)]; exact c2.2.1
              · rw [zwr_row (by omega), zwr_row (by omega)]; exact c2.2.2.1
              · rw [zwr_row (by omega), zwr_row (by omega)]; exact c2.2.2.2
              · exact (f12.wr (by decide) (by decide)).wr (by decide) (by decide)
            unfold fX12_learns_114
            refine qS_pos rfl (qS_chk (by omega) (qS_leti (qS_chk (by omega) ?_)))
            rw [show ((q : Int)).toNat = q by omega, (c2.1 q hqn).1]
            refine qS_ite (fun h2 => g180 _ (by rw [if_pos h2])) (fun h2 => ?_)
            exact qS_chk (by omega) (g180 _ (by rw [if_neg h2]))
        · unfold fX12_learns_109
          exact dr (Or.inl (by rcases ok.2.2 with h | h <;> omega))
      rw [cq.1]
      refine qS_ite (fun h2 => g97 _ _ (by unfold dCost; rw [if_pos h2]) (zfm.rfl' _ _ _)) (fun h2 => ?_)
      refine qS_chk (by omega) ?_
      refine qS_call (pX12_isHelped K1 hk (fun p hp => (c1.1 p hp).1) hqn) (fun r hr => ?_)
      subst hr
      dsimp only
      refine qS_call (pX12_takesOf K1 hk hP hqn (by omega) (kHlp_in _ _ _ _) (by omega)) (fun r ⟨hr, f2⟩ => ?_)
      obtain ⟨cost, D2⟩ := r
      exact g97 cost D2 (by unfold dCost; rw [if_neg h2]; exact hr) f2
    · exact g189 _ _ _ _ (by unfold dLes; rw [if_neg ed]) c1 f1
  · have : i = (K 391).toNat := by omega
    subst this
    refine qS_step (pX12_term (k := 6) rfl (by omega)) ?_
    dsimp only
    rw [K1, show 100 + 6 = 106 from rfl]
    have hb := ok.2.1
    have hN : dNight K d S = (v2, v3, T) := hx
    refine qS_chk (by omega) (qS_leti (qS_ret ⟨?_, ?_, fun k hk => ?_, ?_⟩))
    · rw [hN]; exact c1.fr ⟨by rw [zwr_row (by omega)], by rw [zwr_row (by omega)], by rw [zwr_row (by omega)]⟩ (zwr_row (by omega)) (zwr_row (by omega))
    · rw [hN, show ((d : Int)).toNat = d by omega, zwr_eq]
    · rw [show ((d : Int)).toNat = d by omega, zwr_off (by omega), f1.1 114 (by decide) (by decide)]
    · exact (f1.mono (by decide) (by decide)).wr (by decide) (by decide)
theorem pX12_lives (hK : D 93 = K) (hk : kOk K) (hP : kPOk K) : qS (fX12_lives F D) (fun D' => (∀ d : Nat, (d : Int) < K 105 → (D' 114 d = dH K d) ∧ ∀ q : Nat, (q : Int) < K 390 → D' 113 (20 * q + d) = (dN K (d + 1)).1 q) ∧ rDS D' (dN K (K 105).toNat) (K 390) ∧ zfm [102, 113, 114, 115, 116] [18, 19, 20, 43, 44, 45] D D') := by
  have h0 := hk.1
  have ht := kTerms hk
  unfold fX12_lives
  refine qS_leti (qS_leti (qS_leti ?_))
  have f1 : zfm [102, 113, 114, 115, 116] [18, 19, 20, 43, 44, 45] D (zwr (zwr (zwr D 91 43 0) 91 44 (-1)) 91 45 0) := (((zfm.rfl' _ _ D).wf (by decide)).wf (by decide)).wf (by decide)
  have c1 : (zwr (zwr (zwr D 91 43 0) 91 44 (-1)) 91 45 0) 91 43 = 0 ∧ (zwr (zwr (zwr D 91 43 0) 91 44 (-1)) 91 45 0) 91 44 = -1 ∧ (zwr (zwr (zwr D 91 43 0) 91 44 (-1)) 91 45 0) 91 45 = 0 := by
    refine ⟨?_, ?_, ?_⟩
    · rw [zwr_off (by omega), zwr_off (by omega), zwr_eq]
    · rw [zwr_off (by omega), zwr_eq]
    · rw [zwr_eq]
  generalize zwr (zwr (zwr D 91 43 0) 91 44 (-1)) 91 45 0 = D1 at *
  refine qloop1 (fun v D2 => ∃ j : Nat, v = (j : Int) ∧ j ≤ (K 390).toNat ∧ (∀ q : Nat, q < j → D2 115 q = 0) ∧ (D2 91 43 = 0 ∧ D2 91 44 = -1 ∧ D2 91 45 = 0) ∧ zfm [102, 113, 114, 115, 116] [18, 19, 20, 43, 44, 45] D D2) (fun v _ => (100 - v).toNat) ?_ ⟨0, rfl, by omega, fun q hq => absurd hq (by omega), c1, f1⟩ (zfu_gt (by omega))
  intro kk v D2 ⟨j, ev, hj, z2, c2, f2⟩ ih
  subst ev
  have K2 : D2 93 = K := by rw [f2.1 93 (by decide) (by decide)]; exact hK
  have eq : fX12_questions F D2 = some (K 390, D2) := by unfold fX12_questions; rw [K2]
  unfold fX12_lives_17
  refine qS_step eq ?_
  refine qS_ite (fun hjn => ?_) (fun hjn => ?_)
  · refine qS_chk (by omega) (qS_leti (qS_chk (by omega) (ih _ _ ⟨j + 1, by omega, by omega, fun q hq => ?_, ?_, f2.wr (by decide) (by decide)⟩ (by omega))))
    · rw [show ((j : Int)).toNat = j by omega, zwr_at]
      by_cases e : q = j
      · rw [if_pos e]
      · rw [if_neg e]; exact z2 q (by omega)
    · rw [zwr_row (by omega)]; exact c2
  · have : j = (K 390).toNat := by omega
    subst this
    refine qloop1 (fun v D4 => ∃ d : Nat, v = (d : Int) ∧ d ≤ (K 105).toNat ∧ rDS D4 (dN K d) (K 390) ∧ (∀ i : Nat, i < d → (D4 114 i = dH K i) ∧ ∀ q : Nat, (q : Int) < K 390 → D4 113 (20 * q + i) = (dN K (i + 1)).1 q) ∧ zfm [102, 113, 114, 115, 116] [18, 19, 20, 43, 44, 45] D D4) (fun v _ => (100 - v).toNat) ?_ ⟨0, rfl, by omega, ⟨fun q hq => ⟨z2 q (by omega), fun h => absurd h (by show ¬ (0 : Int) < 0; omega)⟩, c2⟩, fun i hi => absurd hi (by omega), f2⟩ (zfu_gt (by omega))
    intro kk2 v D4 ⟨d, ev, hd, c4, b4, f4⟩ ih2
    subst ev
    have K4 : D4 93 = K := by rw [f4.1 93 (by decide) (by decide)]; exact hK
    unfold fX12_lives_40
    refine qS_step (pX12_term (k := 5) rfl (by omega)) ?_
    dsimp only
    rw [K4, show 100 + 5 = 105 from rfl]
    refine qS_ite (fun hdn => ?_) (fun hdn => ?_)
    · have ok := dN_ok hk d (by omega)
      refine qS_call (pX12_learns K4 hk hP c4 ok (by omega) (d := d) (by omega)) (fun D5 ⟨c5, g5, k5, f5⟩ => ?_)
      have ok2 := (dLesN_ok hk ok (day := (d : Int)) (by omega) (K 391).toNat).1
      have h91 := hk.2.2.2.1.1
      have eN : dN K (d + 1) = dFgN K (d : Int) (dNight K d (dN K d)).2.2 (K 390).toNat := rfl
      have eH : dH K d = K 106 - (dNight K d (dN K d)).1 := rfl
      have ok3 : dOkM (140 * d + (K 391).toNat) (dNight K d (dN K d)).2.2 := ok2
      generalize dNight K d (dN K d) = N1 at *
      refine qloop1 (fun v D6 => ∃ j : Nat, v = (j : Int) ∧ j ≤ (K 390).toNat ∧ rDS D6 (dFgN K (d : Int) N1.2.2 j) (K 390) ∧ (∀ q : Nat, q < j → D6 113 (20 * q + d) = (dFgN K (d : Int) N1.2.2 j).1 q) ∧ (∀ q : Nat, (q : Int) < K 390 → ∀ i : Nat, i < d → D6 113 (20 * q + i) = D5 113 (20 * q + i)) ∧ D6 114 = D5 114 ∧ zfm [102, 113, 115, 116] [18, 19, 20, 45] D5 D6) (fun v _ => (100 - v).toNat) ?_ ⟨0, rfl, by omega, c5, fun q hq => absurd hq (by omega), fun _ _ _ _ => rfl, rfl, zfm.rfl' _ _ _⟩ (zfu_gt (by omega))
      intro kk3 v D6 ⟨j, ev, hj, c6, a6, b6, g6, f6⟩ ih3
      subst ev
      have f56 : zfm [102, 113, 114, 115, 116] [18, 19, 20, 43, 44, 45] D D6 := (f4.trans (f5.mono (by decide) (by decide))).trans (f6.mono (by decide) (by decide))
      have K6 : D6 93 = K := by rw [f56.1 93 (by decide) (by decide)]; exact hK
      have eq6 : fX12_questions F D6 = some (K 390, D6) := by unfold fX12_questions; rw [K6]
      unfold fX12_lives_56
      refine qS_step eq6 ?_
      refine qS_ite (fun hjn2 => ?_) (fun hjn2 => ?_)
      · refine qS_chk (by omega) ?_
        have ok6 := dFgN_ok (K := K) ok3 (day := (d : Int)) (by omega) j
        have hnx : dFgN K (d : Int) N1.2.2 (j + 1) = dFg K (d : Int) j (dFgN K (d : Int) N1.2.2 j) := rfl
        generalize hT : dFgN K (d : Int) N1.2.2 j = T at *
        have cj := c6.1 j (by omega)
        have oj := ok6.1 j
        have nx : ∀ (T' : dT) (D7 : zDa), dFg K (d : Int) j T = T' → (∀ q, q < j → T'.1 q = T.1 q) → rDS D7 T' (K 390) → D7 113 = D6 113 → D7 114 = D6 114 → zfm [102, 113, 115, 116] [18, 19, 20, 45] D5 D7 → qS (fX12_lives_122 F kk2 kk3 (d : Int) (j : Int) D7) (fun D' => (∀ d : Nat, (d : Int) < K 105 → (D' 114 d = dH K d) ∧ ∀ q : Nat, (q : Int) < K 390 → D' 113 (20 * q + d) = (dN K (d + 1)).1 q) ∧ rDS D' (dN K (K 105).toNat) (K 390) ∧ zfm [102, 113, 114, 115, 116] [18, 19, 20, 43, 44, 45] D D') := by
          intro T' D7 eT hsm c7 h113 h114 f7
          unfold fX12_lives_122
          refine qS_chk (by omega) (qS_leti (qS_chk (by omega) ?_))
          rw [show ((j : Int)).toNat = j by omega, show (20 * (j : Int) + (d : Int)).toNat = 20 * j + d by omega]
          refine ih3 _ _ ⟨j + 1, by omega, by omega, ?_, fun q hq => ?_, fun q hq i hi => ?_, by rw [zwr_row (by omega), h114]; exact g6, f7.wr (by decide) (by decide)⟩ (by omega)
          · rw [hnx, eT]
            exact c7.fr ⟨by rw [zwr_row (by omega)], by rw [zwr_row (by omega)], by rw [zwr_row (by omega)]⟩ (zwr_row (by omega)) (zwr_row (by omega))
          · rw [hnx, eT]
            by_cases e : q = j
            · subst e
              rw [zwr_eq]; exact (c7.1 q (by omega)).1
            · rw [zwr_off (by omega), h113, a6 q (by omega), hsm q (by omega)]
          · rw [zwr_off (by omega), h113]; exact b6 q hq i hi
        have keep : ∀ D7 : zDa, zfm [102] [18, 19, 20] D6 D7 → dFg K (d : Int) j T = T → qS (fX12_lives_122 F kk2 kk3 (d : Int) (j : Int) D7) (fun D' => (∀ d : Nat, (d : Int) < K 105 → (D' 114 d = dH K d) ∧ ∀ q : Nat, (q : Int) < K 390 → D' 113 (20 * q + d) = (dN K (d + 1)).1 q) ∧ rDS D' (dN K (K 105).toNat) (K 390) ∧ zfm [102, 113, 114, 115, 116] [18, 19, 20, 43, 44, 45] D D') := by
          intro D7 f7 e
          exact nx T D7 e (fun _ _ => rfl) (c6.frm f7) (f7.1 113 (by decide) (by decide)) (f7.1 114 (by decide) (by decide)) (f6.trans (f7.mono (by decide) (by decide)))
        rw [show ((j : Int)).toNat = j by omega, cj.1]
        refine qS_ite (fun e1 => ?_) (fun e1 => keep D6 (zfm.rfl' _ _ _) (by unfold dFg; rw [if_neg (by omega)]))
        rw [cj.2 e1]
        refine qS_chk (by omega) ?_
        refine qS_call (pX12_keepsOf K6 hk hP (q := j) (by omega) (l := T.1 j) (by omega)) (fun r ⟨hr, f7⟩ => ?_)
        obtain ⟨kp, D7⟩ := r
        dsimp only at hr f7 ⊢
        subst hr
        refine qS_ite (fun e3 => keep D7 f7 (by unfold dFg; rw [if_neg (by omega)])) (fun e3 => ?_)
        have c7 : rDS D7 T (K 390) := c6.frm f7
        rw [(c7.1 j (by omega)).1]
        have e9 : (zwr (zwr D7 115 j (T.1 j - 1)) 116 j (d : Int)) 91 45 = T.2.2.2.2 := by rw [zwr_row (by omega), zwr_row (by omega)]; exact c7.2.2.2
        have b9 := ok6.2.2
        refine qS_chk (by omega) (qS_leti (qS_leti (qS_chk (by rw [e9]; omega) (qS_leti ?_))))
        rw [e9]
        refine nx (zset T.1 j (T.1 j - 1), zset T.2.1 j (d : Int), T.2.2.1, T.2.2.2.1, T.2.2.2.2 + 1) _ (by unfold dFg; rw [if_pos ⟨e1, by omega⟩]) (fun q hq => zset_off (by omega)) ⟨fun p hp => ?_, ?_, ?_, ?_⟩ ?_ ?_ ?_
        · dsimp only
          by_cases e : p = j
          · subst e
            rw [zwr_row (by omega), zwr_row (by omega), zwr_eq, zwr_row (by omega), zwr_eq, zset_eq, zset_eq]; exact ⟨rfl, fun _ => rfl⟩
          · rw [zwr_row (by omega), zwr_row (by omega), zwr_off (by omega), zwr_row (by omega), zwr_off (by omega), zwr_row (by omega), zset_off e, zset_off e]; exact c7.1 p hp
        · rw [zwr_off (by omega), zwr_row (by omega), zwr_row (by omega)]; exact c7.2.1
        · rw [zwr_off (by omega), zwr_row (by omega), zwr_row (by omega)]; exact c7.2.2.1
        · rw [zwr_eq]
        · rw [zwr_row (by omega), zwr_row (by omega), zwr_row (by omega), f7.1 113 (by decide) (by decide)]
        · rw [zwr_row (by omega), zwr_row (by omega), zwr_row (by omega), f7.1 114 (by decide) (by decide)]
        · exact (((f6.trans (f7.mono (by decide) (by decide))).wr (by decide) (by decide)).wr (by decide) (by decide)).wf (by decide)
      · have : j = (K 390).toNat := by omega
        subst this
        refine qS_chk (by omega) (ih2 _ _ ⟨d + 1, by omega, by omega, by rw [eN]; exact c6, fun i hi => ?_, f56⟩ (by omega))
        by_cases e : i = d
        · subst e
          refine ⟨by rw [g6, eH]; exact g5, fun q hq => ?_⟩
          rw [eN]; exact a6 q (by omega)
        · have b := b4 i (by omega)
          refine ⟨by rw [g6, k5 i e]; exact b.1, fun q hq => ?_⟩
          rw [b6 q hq i (by omega), f5.1 113 (by decide) (by decide)]; exact b.2 q hq
    · have : d = (K 105).toNat := by omega
      subst this
      exact qS_ret ⟨fun i hi => b4 i (by omega), c4, f4⟩
end LV
