def vOk (c w v : Int) : Prop := (1 ≤ c ∧ c ≤ 3 → v = c - 1) ∧ (8 ≤ c ∧ c ≤ 14 → v = c - 8) ∧ (c = 50 ∧ w ≤ 1000 → v = w)
theorem tNum_mono {tp : Nat → Int} {a m n : Nat} (h : m ≤ n) (hd : ∀ k, k < n → 48 ≤ tp (a + k) ∧ tp (a + k) ≤ 57) : tNum tp a m ≤ tNum tp a n := by
  induction n with
  | zero => have : m = 0 := by omega
            subst this; omega
  | succ n ih =>
    by_cases e : m = n + 1
    · subst e; omega
    · have h1 := ih (by omega) (fun k hk => hd k (by omega))
      have h2 := tNum_bnd a n (fun k hk => hd k (by omega))
      have h3 := hd n (by omega)
      have : tNum tp a (n + 1) = if 1000000 < tNum tp a n then tNum tp a n else 10 * tNum tp a n + tp (a + n) - 48 := rfl
      rw [this]
      split <;> omega
section TC2
variable {F : zFs} {D : zDa} {tp : Nat → Int} {L : Nat}
def nPost (D1 : zDa) (m : Nat) (c w : Int) (D' : zDa) : Prop := (∀ i, i ≠ m → D' 43 i = D1 43 i ∧ D' 44 i = D1 44 i) ∧ D' 43 m = tKind c w ∧ vOk c w (D' 44 m) ∧ zfr [43, 44] D1 D'
theorem pX6_name (ht : ∀ i, i < L → D 39 i = tp i ∧ 0 ≤ tp i ∧ tp i ≤ 255) (hL : L ≤ 400) {k m : Nat} (hk : k < L) (hm : m < 401) : qS (fX6_name F (m : Int) (k : Int) ((tEnd tp L k : Nat) : Int) D) (nPost D m (tCode tp (k, tEnd tp L k)) (tVal tp (k, tEnd tp L k))) := by
  have hel := tEnd_le (tp := tp) hk
  have htk := ht k hk
  have hmn : ((m : Int)).toNat = m := by omega
  unfold fX6_name
  rw [show ((k : Int)).toNat = k by omega, htk.1]
  refine qS_chk (by omega) ?_
  by_cases hdg : tDg (tp k) = true
  · have hsm : ¬ tSm (tp k) = true := by
      unfold tSm; unfold tDg at hdg
      rw [decide_eq_true_iff] at hdg ⊢
      omega
    refine qS_step (cDg_t hdg) (qS_neg (by omega) ?_)
    have hend : tEnd tp L k = tRun tDg tp L 400 (k + 1) := by unfold tEnd; rw [if_neg hsm, if_pos hdg]
    have hc : tCode tp (k, tEnd tp L k) = 50 := by unfold tCode; rw [if_neg hsm, if_pos hdg]
    have hw : tVal tp (k, tEnd tp L k) = tNum tp k (tEnd tp L k - k) := by unfold tVal; rw [if_pos hdg]
    have hdall : ∀ i, i < tEnd tp L k - k → 48 ≤ tp (k + i) ∧ tp (k + i) ≤ 57 := by
      intro i hi
      have hd : tDg (tp (k + i)) = true := by
        by_cases hi0 : i = 0
        · subst hi0; exact hdg
        · exact tRun_all (L := L) tDg 400 (k + 1) (k + i) (by omega) (by omega)
      unfold tDg at hd
      exact decide_eq_true_iff.mp hd
    rw [hc, hw]
    generalize tEnd tp L k = e at *
    refine qS_call (Q := fun D' => nPost D m 50 (tNum tp k (e - k)) D') ?_ (fun D' h => qS_ret h)
    unfold fX6_nameNumber
    refine qloop2 (fun v5 v6 D1 => ∃ i : Nat, v6 = (k : Int) + (i : Int) ∧ i ≤ e - k ∧ v5 = tNum tp k i ∧ D1 = D) (fun _ v6 _ => ((e : Int) - v6).toNat) ?_ ⟨0, by omega, by omega, rfl, rfl⟩ (zfu_gt (by omega))
    intro k6 v5 v6 D1 ⟨i, e6, hi, e5, eD⟩ ih
    subst eD
    subst e6
    have hnb := tNum_bnd k i (fun x hx => hdall x (by omega))
    have fin : (1000 < v5 ∨ i = e - k) → qS (fX6_nameNumber_42 F (m : Int) v5 D1) (fun D' => nPost D1 m 50 (tNum tp k (e - k)) D') := by
      intro hst
      have hmo := tNum_mono (a := k) (m := i) (n := e - k) hi hdall
      unfold fX6_nameNumber_42 fX6_nameNumber_64
      rw [hmn]
      refine qS_ite (fun hbig => qS_chk (by omega) (qS_leti (qS_chk (by omega) (qS_leti (qS_ret ⟨fun x hx => ?_, ?_, ?_, ((zfr.rfl' _ D1).wr (by decide)).wr (by decide)⟩))))) (fun hbig => qS_chk (by omega) (qS_leti (qS_chk (by omega) (qS_leti (qS_ret ⟨fun x hx => ?_, ?_, ?_, ((zfr.rfl' _ D1).wr (by decide)).wr (by decide)⟩)))))
      · rw [zwr_row (by omega), zwr_off (by omega), zwr_off (by omega), zwr_row (by omega)]; exact ⟨rfl, rfl⟩
      · rw [zwr_row (by omega), zwr_eq]
        unfold tKind
        rw [if_neg (by omega), if_neg (by omega), if_neg (by omega), if_neg (by omega), if_pos rfl, if_neg (by omega)]
      · exact ⟨fun hh => by omega, fun hh => by omega, fun hh => by omega⟩
      · rw [zwr_row (by omega), zwr_off (by omega), zwr_off (by omega), zwr_row (by omega)]; exact ⟨rfl, rfl⟩
      · have : i = e - k := by omega
        rw [zwr_row (by omega), zwr_eq, ← this]
        unfold tKind
        rw [if_neg (by omega), if_neg (by omega), if_neg (by omega), if_neg (by omega), if_pos rfl, if_pos (by omega)]
      · have : i = e - k := by omega
        refine ⟨fun hh => by omega, fun hh => by omega, fun hh => ?_⟩
        rw [zwr_eq, ← this]; exact e5
    unfold fX6_nameNumber_6
    refine qS_ite (fun hlt => qS_ite (fun hbig => fin (Or.inl hbig)) (fun hbig => ?_)) (fun hlt => fin (Or.inr (by omega)))
    have htk' := ht (k + i) (by omega)
    have hdk := hdall i (by omega)
    rw [show ((k : Int) + (i : Int)).toNat = k + i by omega, htk'.1]
    refine qS_chk (by omega) (qS_leti (qS_chk (by omega) (ih _ _ _ ⟨i + 1, by omega, by omega, ?_, rfl⟩ (by omega))))
    have : tNum tp k (i + 1) = if 1000000 < tNum tp k i then tNum tp k i else 10 * tNum tp k i + tp (k + i) - 48 := rfl
    rw [this, if_neg (by omega)]; omega
  · refine qS_step (cDg_f hdg) (qS_pos rfl ?_)
    rw [htk.1]
    by_cases hsm : tSm (tp k) = true
    · refine qS_step (cSm_t hsm) (qS_neg (by omega) ?_)
      have hw : tVal tp (k, tEnd tp L k) = 0 := by unfold tVal; rw [if_neg hdg]
      have hc : tCode tp (k, tEnd tp L k) = tFind kWords (tByt tp k (tEnd tp L k)) 1 := by unfold tCode; rw [if_pos hsm]
      obtain ⟨g0, g1, g2, g3⟩ := tIdx_all (tByt tp k (tEnd tp L k))
      rw [hw, hc]
      have hpl : ∀ D1 : zDa, zfr [43, 44] D D1 → ∀ j0, j0 < 3 → qS (fX6_placeOf F (k : Int) ((tEnd tp L k : Nat) : Int) j0 D1) (fun r => r = (tIdx (kWs j0) (tByt tp k (tEnd tp L k)) 0, D1)) := fun D1 hf j0 h3 =>
        pX6_placeOf (tp := tp) (L := L) (fun i hi => by rw [hf 39 (by decide)]; exact (ht i hi).1) (by omega) hel.2 hL h3
      generalize hf0 : tFind kWords (tByt tp k (tEnd tp L k)) 1 = f0 at *
      refine qS_call (hpl D (zfr.rfl' _ D) 0 (by omega)) (fun r hr => ?_)
      subst hr
      dsimp only
      rw [g1]
      unfold fX6_name_61
      rw [hmn]
      by_cases hh : 1 ≤ f0 ∧ f0 ≤ 3
      · rw [if_pos hh]
        refine qS_neg (by omega) (qS_chk (by omega) (qS_leti (qS_neg (by omega) ?_)))
        unfold fX6_name_100
        rw [hmn]
        refine qS_chk (by omega) (qS_leti (qS_neg (by omega) (qS_ret ⟨fun x hx => ?_, ?_, ?_, ((zfr.rfl' _ D).wr (by decide)).wr (by decide)⟩)))
        · rw [zwr_row (by omega), zwr_off (by omega), zwr_off (by omega), zwr_row (by omega)]; exact ⟨rfl, rfl⟩
        · rw [zwr_row (by omega), zwr_eq]
          unfold tKind
          rw [if_neg (by omega), if_pos (by omega)]
        · rw [zwr_eq]; exact ⟨fun _ => rfl, fun hx => by omega, fun hx => by omega⟩
      · rw [if_neg hh]
        refine qS_pos rfl (qS_chk (by omega) (qS_leti (qS_pos rfl ?_)))
        have fr1 : zfr [43, 44] D (zwr D 43 m 257) := (zfr.rfl' _ D).wr (by decide)
        refine qS_call (hpl _ fr1 1 (by omega)) (fun r hr => ?_)
        subst hr
        dsimp only
        rw [g2]
        unfold fX6_name_99 fX6_name_100
        rw [hmn]
        by_cases h8 : 8 ≤ f0
        · rw [if_pos h8]
          refine qS_neg (by omega) (qS_chk (by omega) (qS_leti (qS_chk (by omega) (qS_leti (qS_neg (by omega) (qS_ret ⟨fun x hx => ?_, ?_, ?_, (fr1.wr (by decide)).wr (by decide)⟩))))))
          · rw [zwr_row (by omega), zwr_off (by omega), zwr_off (by omega), zwr_off (by omega), zwr_row (by omega), zwr_row (by omega)]; exact ⟨rfl, rfl⟩
          · rw [zwr_row (by omega), zwr_eq]
            unfold tKind
            rw [if_neg (by omega), if_neg (by omega), if_neg (by omega), if_pos (by omega)]
          · rw [zwr_eq]; exact ⟨fun hx => by omega, fun _ => rfl, fun hx => by omega⟩
        · rw [if_neg h8]
          refine qS_pos rfl (qS_chk (by omega) (qS_leti (qS_chk (by omega) (qS_leti (qS_pos rfl ?_)))))
          have fr2 : zfr [43, 44] D (zwr (zwr (zwr D 43 m 257) 43 m 257) 44 m (-1)) := (fr1.wr (by decide)).wr (by decide)
          have w43 : ∀ x, x ≠ m → zwr (zwr (zwr D 43 m 257) 43 m 257) 44 m (-1) 43 x = D 43 x ∧ zwr (zwr (zwr D 43 m 257) 43 m 257) 44 m (-1) 44 x = D 44 x := fun x hx => by
            rw [zwr_row (by omega), zwr_off (by omega), zwr_off (by omega), zwr_off (by omega), zwr_row (by omega), zwr_row (by omega)]; exact ⟨rfl, rfl⟩
          generalize zwr (zwr (zwr D 43 m 257) 43 m 257) 44 m (-1) = D3 at *
          refine qS_call (hpl _ fr2 2 (by omega)) (fun r hr => ?_)
          subst hr
          dsimp only
          rw [g3]
          unfold fX6_name_148
          rw [hmn]
          by_cases h4 : 4 ≤ f0 ∧ f0 ≤ 7
          · rw [if_pos h4]
            refine qS_neg (by omega) (qS_chk (by omega) (qS_chk (by omega) (qS_leti (qS_ret ⟨fun x hx => ?_, ?_, ?_, fr2.wr (by decide)⟩))))
            · rw [zwr_off (by omega), zwr_row (by omega)]; exact w43 x hx
            · rw [zwr_eq]
              unfold tKind
              rw [if_neg (by omega), if_neg (by omega), if_pos (by omega)]; omega
            · exact ⟨fun hx => by omega, fun hx => by omega, fun hx => by omega⟩
          · rw [if_neg h4]
            refine qS_pos rfl (qS_chk (by omega) (qS_leti (qS_ret ⟨fun x hx => ?_, ?_, ?_, fr2.wr (by decide)⟩)))
            · rw [zwr_off (by omega), zwr_row (by omega)]; exact w43 x hx
            · rw [zwr_eq]
              unfold tKind
              rw [if_pos (by omega)]
            · exact ⟨fun hx => by omega, fun hx => by omega, fun hx => by omega⟩
    · refine qS_step (cSm_f hsm) (qS_pos rfl ?_)
      rw [hmn, htk.1]
      have hw : tVal tp (k, tEnd tp L k) = 0 := by unfold tVal; rw [if_neg hdg]
      have hc : tCode tp (k, tEnd tp L k) = 100 + tp k := by unfold tCode; rw [if_neg hsm, if_neg hdg]
      rw [hw, hc]
      refine qS_chk (by omega) (qS_leti (qS_ret ⟨fun x hx => ?_, ?_, ?_, (zfr.rfl' _ D).wr (by decide)⟩))
      · rw [zwr_off (by omega), zwr_row (by omega)]; exact ⟨rfl, rfl⟩
      · rw [zwr_eq]
        unfold tKind
        rw [if_neg (by omega), if_neg (by omega), if_neg (by omega), if_neg (by omega), if_neg (by omega)]; omega
      · exact ⟨fun hx => by omega, fun hx => by omega, fun hx => by omega⟩
/-- the class's tokens stand -/
def cTk (D : zDa) (tp : Nat → Int) (L : Nat) : Prop := (∀ i, i < (tToks tp L).length → D 43 i = tKind (tC tp L i) (tW tp L i) ∧ vOk (tC tp L i) (tW tp L i) (D 44 i)) ∧ D 43 (tToks tp L).length = 256 ∧ ∀ i, i ≤ (tToks tp L).length → D 45 i = tP tp L i
theorem pX6_cutTokens (ht : ∀ i, i < L → D 39 i = tp i ∧ 0 ≤ tp i ∧ tp i ≤ 255) (hL : L ≤ 400) : qS (fX6_cutTokens F (L : Int) D) (fun D' => cTk D' tp L ∧ zfr [43, 44, 45] D D') := by
  have hlen := tToks_len (tp := tp) (L := L)
  unfold fX6_cutTokens
  refine qloop2 (fun v3 v4 D1 => ∃ k m f : Nat, v4 = (k : Int) ∧ v3 = (m : Int) ∧ k ≤ L ∧ L < k + f ∧ (tToks tp L).drop m = tTok tp L f k ∧ m ≤ (tToks tp L).length ∧ (∀ i, i < m → D1 43 i = tKind (tC tp L i) (tW tp L i) ∧ vOk (tC tp L i) (tW tp L i) (D1 44 i) ∧ D1 45 i = tP tp L i) ∧ zfr [43, 44, 45] D D1) (fun _ v4 _ => (1000 - v4).toNat) ?_ ⟨0, 0, 401, rfl, rfl, by omega, by omega, rfl, by omega, fun i hi => by omega, zfr.rfl' _ D⟩ (zfu_gt (by omega))
  intro k5 v3 v4 D1 ⟨k, m, f, e4, e3, hk, hf, hdr, hm, hrows, hfr⟩ ih
  subst e4
  subst e3
  have hmn : ((m : Int)).toNat = m := by omega
  unfold fX6_cutTokens_5
  have hdl : ((tToks tp L).drop m).length = (tToks tp L).length - m := List.length_drop
  obtain ⟨f', rfl⟩ : ∃ f', f = f' + 1 := ⟨f - 1, by omega⟩
  refine qS_ite (fun hlt => ?_) (fun hlt => ?_)
  · have hkl : k < L := by omega
    have h39 : D1 39 = D 39 := hfr 39 (by decide)
    have hb := ht k hkl
    have hel := tEnd_le (tp := tp) hkl
    have hkn : ((k : Int)).toNat = k := by omega
    refine qS_chk (by omega) (qS_leti ?_)
    unfold tTok at hdr
    rw [if_pos hkl] at hdr
    -- behind the row of signs
    have tok : ∀ e : Nat, e = tEnd tp L k → qS (fX6_cutTokens_69 F k5 (L : Int) (m : Int) (k : Int) (e : Int) D1) (fun D' => cTk D' tp L ∧ zfr [43, 44, 45] D D') := by
      intro e he
      unfold fX6_cutTokens_69 fX6_cutTokens_99
      rw [hkn, h39, hb.1, hmn]
      refine qS_chk (by omega) ?_
      by_cases hbl : tp k = 32
      · rw [if_pos hbl] at hdr
        have he1 : tEnd tp L k = k + 1 := by
          unfold tEnd
          rw [if_neg (by unfold tSm; rw [decide_eq_true_iff]; omega), if_neg (by unfold tDg; rw [decide_eq_true_iff]; omega)]
        refine qS_pos hbl (ih _ _ _ ⟨k + 1, m, f', by omega, rfl, by omega, by omega, hdr, hm, hrows, hfr⟩ (by omega))
      · rw [if_neg hbl] at hdr
        have hmlt : m < (tToks tp L).length := by
          rw [hdr] at hdl
          simp only [List.length_cons] at hdl
          omega
        have hq : (tToks tp L)[m] = (k, tEnd tp L k) := by
          have := List.drop_eq_getElem_cons hmlt
          rw [hdr] at this
          exact (List.cons.inj this).1.symm
        have hdr2 : (tToks tp L).drop (m + 1) = tTok tp L f' (tEnd tp L k) := by
          have := List.drop_eq_getElem_cons hmlt
          rw [hdr] at this
          exact (List.cons.inj this).2.symm
        obtain ⟨c1, c2, c3⟩ := tC_lt hmlt
        rw [hq] at c1 c2 c3
        refine qS_neg hbl (qS_chk (by omega) (qS_leti ?_))
        have fr1 : zfr [43, 44, 45] D (zwr D1 45 m (k : Int)) := hfr.wr (by decide)
        subst he
        refine qS_call (pX6_name (F := F) (D := zwr D1 45 m (k : Int)) (tp := tp) (L := L) (fun i hi => by rw [fr1 39 (by decide)]; exact ht i hi) hL hkl (by omega)) (fun D2 ⟨n1, n2, n3, n4⟩ => qS_chk (by omega) (ih _ _ _ ⟨tEnd tp L k, m + 1, f', rfl, by omega, hel.2, by omega, hdr2, by omega, fun i hi => ?_, fr1.trans (n4.mono (by decide))⟩ (by omega)))
        have h45 : D2 45 = zwr D1 45 m (k : Int) 45 := n4 45 (by decide)
        rw [h45, zwr_at]
        by_cases him : i = m
        · subst him
          rw [if_pos rfl, n2, c1, c2, c3]
          exact ⟨rfl, n3, rfl⟩
        · have hr := hrows i (by omega)
          have hn := n1 i him
          rw [if_neg him, hn.1, hn.2, zwr_row (by omega), zwr_row (by omega)]
          exact hr
    rw [show ((k : Int) + 1) = ((k + 1 : Nat) : Int) by omega]
    by_cases hsm : tSm (tp k) = true
    · have hdg : ¬ tDg (tp k) = true := by
        unfold tDg; unfold tSm at hsm
        rw [decide_eq_true_iff] at hsm ⊢
        omega
      have hend : tEnd tp L k = tRun tSm tp L 400 (k + 1) := by unfold tEnd; rw [if_pos hsm]
      refine qloop1 (fun v5 D2 => ∃ t g : Nat, v5 = (t : Int) ∧ k < t ∧ t ≤ L ∧ L < t + g ∧ tRun tSm tp L g t = tEnd tp L k ∧ D2 = D1) (fun v5 _ => (1000 - v5).toNat) ?_ ⟨k + 1, 400, rfl, by omega, by omega, by omega, hend.symm, rfl⟩ (zfu_gt (by omega))
      intro k17 v5 D2 ⟨t, g, e5, h1, h2, h3, h4, eD⟩ ih4
      subst eD
      subst e5
      obtain ⟨g', rfl⟩ : ∃ g', g = g' + 1 := ⟨g - 1, by omega⟩
      unfold tRun at h4
      unfold fX6_cutTokens_17
      rw [hkn, h39, hb.1]
      refine qS_ite (fun hlt4 => qS_chk (by omega) (qS_step (cSm_t hsm) (qS_neg (by omega) (qS_chk (by omega) ?_)))) (fun hlt4 => ?_)
      · have hbt := ht t (by omega)
        rw [show ((t : Int)).toNat = t by omega, h39, hbt.1]
        by_cases hst : tSm (tp t) = true
        · rw [if_pos ⟨by omega, hst⟩] at h4
          unfold fX6_cutTokens_63
          exact qS_step (cSm_t hst) (qS_neg (by omega) (qS_chk (by omega) (ih4 _ _ ⟨t + 1, g', by omega, by omega, by omega, by omega, h4, rfl⟩ (by omega))))
        · rw [if_neg (fun hh => hst hh.2)] at h4
          refine qS_step (cSm_f hst) (qS_pos rfl ?_)
          unfold fX6_cutTokens_43
          rw [hkn, h39, hb.1]
          exact qS_chk (by omega) (qS_step (cDg_f hdg) (qS_pos rfl (tok t h4)))
      · rw [if_neg (by omega)] at h4
        exact tok t h4
    · by_cases hdg : tDg (tp k) = true
      · have hend : tEnd tp L k = tRun tDg tp L 400 (k + 1) := by unfold tEnd; rw [if_neg hsm, if_pos hdg]
        refine qloop1 (fun v5 D2 => ∃ t g : Nat, v5 = (t : Int) ∧ k < t ∧ t ≤ L ∧ L < t + g ∧ tRun tDg tp L g t = tEnd tp L k ∧ D2 = D1) (fun v5 _ => (1000 - v5).toNat) ?_ ⟨k + 1, 400, rfl, by omega, by omega, by omega, hend.symm, rfl⟩ (zfu_gt (by omega))
        intro k17 v5 D2 ⟨t, g, e5, h1, h2, h3, h4, eD⟩ ih4
        subst eD
        subst e5
        obtain ⟨g', rfl⟩ : ∃ g', g = g' + 1 := ⟨g - 1, by omega⟩
        unfold tRun at h4
        unfold fX6_cutTokens_17
        rw [hkn, h39, hb.1]
        refine qS_ite (fun hlt4 => qS_chk (by omega) (qS_step (cSm_f hsm) (qS_pos rfl ?_))) (fun hlt4 => ?_)
        · have hbt := ht t (by omega)
          unfold fX6_cutTokens_43
          rw [hkn, h39, hb.1, show ((t : Int)).toNat = t by omega]
          refine qS_chk (by omega) (qS_step (cDg_t hdg) (qS_neg (by omega) (qS_chk (by omega) ?_)))
          by_cases hst : tDg (tp t) = true
          · rw [if_pos ⟨by omega, hst⟩] at h4
            unfold fX6_cutTokens_63
            rw [h39, hbt.1]
            exact qS_step (cDg_t hst) (qS_neg (by omega) (qS_chk (by omega) (ih4 _ _ ⟨t + 1, g', by omega, by omega, by omega, by omega, h4, rfl⟩ (by omega))))
          · rw [if_neg (fun hh => hst hh.2)] at h4
            rw [h39, hbt.1]
            exact qS_step (cDg_f hst) (qS_pos rfl (tok t h4))
        · rw [if_neg (by omega)] at h4
          exact tok t h4
      · have hend : tEnd tp L k = k + 1 := by unfold tEnd; rw [if_neg hsm, if_neg hdg]
        refine qloop1 (fun v5 D2 => v5 = ((k + 1 : Nat) : Int) ∧ D2 = D1) (fun _ _ => 0) ?_ ⟨rfl, rfl⟩ (zfu_gt (by omega))
        intro k17 v5 D2 ⟨e5, eD⟩ ih4
        subst eD
        subst e5
        unfold fX6_cutTokens_17
        rw [hkn, h39, hb.1]
        refine qS_ite (fun hlt4 => qS_chk (by omega) (qS_step (cSm_f hsm) (qS_pos rfl ?_))) (fun hlt4 => tok (k + 1) hend.symm)
        unfold fX6_cutTokens_43
        rw [hkn, h39, hb.1]
        exact qS_chk (by omega) (qS_step (cDg_f hdg) (qS_pos rfl (tok (k + 1) hend.symm)))
  · have hkL : ¬ k < L := by omega
    unfold tTok at hdr
    rw [if_neg hkL] at hdr
    have hml : m = (tToks tp L).length := by
      rw [hdr] at hdl
      simp at hdl
      omega
    rw [hmn]
    refine qS_chk (by omega) (qS_leti (qS_leti (qS_ret ⟨⟨fun i hi => ?_, ?_, fun i hi => ?_⟩, (hfr.wr (by decide)).wr (by decide)⟩)))
    · rw [zwr_off (by omega), zwr_row (by omega), zwr_row (by omega), zwr_row (by omega)]
      exact ⟨(hrows i (by omega)).1, (hrows i (by omega)).2.1⟩
    · rw [← hml, zwr_eq]
    · rw [zwr_row (by omega), zwr_at]
      by_cases him : i = m
      · obtain ⟨c1, c2, c3⟩ := tC_ge (tp := tp) (L := L) (i := i) (by omega)
        rw [if_pos him, c3]
      · rw [if_neg him]
        exact (hrows i (by omega)).2.2
end TC2
