theorem tRun_all {tp : Nat → Int} {L : Nat} (P : Int → Bool) (n t : Nat) : ∀ i, t ≤ i → i < tRun P tp L n t → P (tp i) = true := by
  induction n generalizing t with
  | zero => intro i h1 h2; simp [tRun] at h2; omega
  | succ n ih =>
    intro i h1 h2
    unfold tRun at h2
    split at h2
    · next hc =>
      by_cases e : i = t
      · subst e; exact hc.2
      · exact ih (t + 1) i (by omega) h2
    · omega
section TR2
variable {F : zFs} {D : zDa} {tp : Nat → Int} {L : Nat}
theorem pX12_splits (hw : rWs D) (ht : ∀ i, i < L → D 97 i = sgn8 (tp i) ∧ 0 ≤ tp i ∧ tp i ≤ 255) (hL : L ≤ 400) :
    qS (fX12_splits F (L : Int) D) (fun D' => D' 91 14 = ((tToks tp L).length : Int) ∧ (∀ i, i ≤ (tToks tp L).length → D' 99 i = tC tp L i ∧ D' 100 i = tW tp L i ∧ D' 101 i = tP tp L i) ∧ zfm [99, 100, 101] [14] D D') := by
  have hlen := tToks_len (tp := tp) (L := L)
  unfold fX12_splits
  refine qS_leti ?_
  refine qloop1 (fun v D1 => ∃ k m f : Nat, v = (k : Int) ∧ k ≤ L ∧ L < k + f ∧ (tToks tp L).drop m = tTok tp L f k ∧ m ≤ (tToks tp L).length ∧ D1 91 14 = (m : Int) ∧ (∀ i, i < m → D1 99 i = tC tp L i ∧ D1 100 i = tW tp L i ∧ D1 101 i = tP tp L i) ∧ zfm [99, 100, 101] [14] D D1) (fun v _ => (1000 - v).toNat) ?_ ⟨0, 0, 401, rfl, by omega, by omega, rfl, by omega, zwr_eq, fun i hi => by omega, (zfm.rfl' _ _ D).wf (by decide)⟩ (zfu_gt (by omega))
  intro k7 v D1 ⟨k, m, f, ev, hk, hf, hdr, hm, h14, hrows, hfr⟩ ih
  subst ev
  unfold fX12_splits_7
  have hdl : ((tToks tp L).drop m).length = (tToks tp L).length - m := List.length_drop
  obtain ⟨f', rfl⟩ : ∃ f', f = f' + 1 := ⟨f - 1, by omega⟩
  refine qS_ite (fun hlt => ?_) (fun hlt => ?_)
  · have hkl : k < L := by omega
    have h97 : D1 97 = D 97 := hfr.1 97 (by omega) (by decide)
    have hb := ht k hkl
    rw [show ((k : Int)).toNat = k by omega, h97, hb.1]
    refine qS_chk (by omega) (qS_leti ?_)
    unfold tTok at hdr
    rw [if_pos hkl] at hdr
    by_cases hbl : tp k = 32
    · rw [if_pos hbl] at hdr
      refine qS_pos (by unfold sgn8; rw [if_pos (by omega)]; exact hbl) (qS_chk (by omega) (ih _ _ ⟨k + 1, m, f', by omega, by omega, by omega, hdr, hm, h14, hrows, hfr⟩ (by omega)))
    · rw [if_neg hbl] at hdr
      have hel := tEnd_le (tp := tp) hkl
      have hmlt : m < (tToks tp L).length := by
        rw [hdr] at hdl
        simp only [List.length_cons] at hdl
        omega
      have hq : (tToks tp L)[m] = (k, tEnd tp L k) := by
        have := List.drop_eq_getElem_cons hmlt
        rw [hdr] at this
        exact (List.cons.inj this).1.symm
      have hdr2 : (tToks tp L).drop (m + 1) = tTok tp L f' (tEnd tp L k) := by
        have := List.drop_eq_getElem_cons hmlt
        rw [hdr] at this
        exact (List.cons.inj this).2.symm
      obtain ⟨c1, c2, c3⟩ := tC_lt hmlt
      rw [hq] at c1 c2 c3
      refine qS_neg (by unfold sgn8; split <;> omega) (qS_chk (by omega) (qS_leti ?_))
      -- a token from k to e
      have tok : ∀ e : Nat, e = tEnd tp L k → qS (fX12_splits_100 F k7 (L : Int) (k : Int) (sgn8 (tp k)) (e : Int) D1) (fun D' => D' 91 14 = ((tToks tp L).length : Int) ∧ (∀ i, i ≤ (tToks tp L).length → D' 99 i = tC tp L i ∧ D' 100 i = tW tp L i ∧ D' 101 i = tP tp L i) ∧ zfm [99, 100, 101] [14] D D') := by
        intro e he
        unfold fX12_splits_100
        rw [h14, show ((m : Int)).toNat = m by omega]
        refine qS_chk (by omega) (qS_leti ?_)
        have y14 : zwr D1 101 m (k : Int) 91 14 = (m : Int) := by rw [zwr_row (by omega)]; exact h14
        rw [y14, show ((m : Int)).toNat = m by omega]
        refine qS_chk (by omega) (qS_leti ?_)
        generalize hD9 : zwr (zwr D1 101 m (k : Int)) 100 m 0 = D9
        have f9 : zfm [99, 100, 101] [14] D D9 := by rw [← hD9]; exact (hfr.wr (by decide) (by decide)).wr (by decide) (by decide)
        have g14 : D9 91 14 = (m : Int) := by rw [← hD9, zwr_row (by omega)]; exact y14
        have g99 : ∀ i, D9 99 i = D1 99 i := fun i => by rw [← hD9, zwr_row (by omega), zwr_row (by omega)]
        have g100 : ∀ i, D9 100 i = if i = m then 0 else D1 100 i := fun i => by rw [← hD9, zwr_at, zwr_row (by omega)]
        have g101 : ∀ i, D9 101 i = if i = m then (k : Int) else D1 101 i := fun i => by rw [← hD9, zwr_row (by omega), zwr_at]
        rw [g14]
        -- behind the code
        have aft : ∀ cd : Int, cd = tCode tp (k, e) → qS (fX12_splits_165 F k7 (L : Int) (k : Int) (sgn8 (tp k)) (e : Int) cd (m : Int) D9) (fun D' => D' 91 14 = ((tToks tp L).length : Int) ∧ (∀ i, i ≤ (tToks tp L).length → D' 99 i = tC tp L i ∧ D' 100 i = tW tp L i ∧ D' 101 i = tP tp L i) ∧ zfm [99, 100, 101] [14] D D') := by
          intro cd hcd
          unfold fX12_splits_165
          rw [show ((m : Int)).toNat = m by omega]
          refine qS_chk (by omega) (qS_leti ?_)
          -- the end of the token
          have fin : ∀ D5 : zDa, zfm [99, 100, 101] [14] D D5 → D5 91 14 = (m : Int) → (∀ i, D5 99 i = if i = m then cd else D1 99 i) → (∀ i, D5 100 i = if i = m then tVal tp (k, e) else D1 100 i) → (∀ i, D5 101 i = if i = m then (k : Int) else D1 101 i) → qS (fX12_splits_247 F k7 (L : Int) (e : Int) D5) (fun D' => D' 91 14 = ((tToks tp L).length : Int) ∧ (∀ i, i ≤ (tToks tp L).length → D' 99 i = tC tp L i ∧ D' 100 i = tW tp L i ∧ D' 101 i = tP tp L i) ∧ zfm [99, 100, 101] [14] D D') := by
            intro D5 f5 s14 s99 s100 s101
            unfold fX12_splits_247
            rw [s14]
            refine qS_chk (by omega) (qS_leti (ih _ _ ⟨e, m + 1, f', rfl, by omega, by omega, by rw [he]; exact hdr2, by omega, by rw [zwr_eq]; omega, fun i hi => ?_, f5.wf (by decide)⟩ (by omega)))
            rw [zwr_row (by omega), zwr_row (by omega), zwr_row (by omega), s99, s100, s101]
            by_cases him : i = m
            · subst him
              rw [if_pos rfl, if_pos rfl, if_pos rfl, c1, c2, c3, hcd, he]
              exact ⟨rfl, rfl, rfl⟩
            · rw [if_neg him, if_neg him, if_neg him]
              exact hrows i (by omega)
          have b99 : ∀ i, zwr D9 99 m cd 99 i = if i = m then cd else D1 99 i := fun i => by rw [zwr_at, g99]
          have b100 : ∀ i, zwr D9 99 m cd 100 i = if i = m then 0 else D1 100 i := fun i => by rw [zwr_row (by omega), g100]
          have b101 : ∀ i, zwr D9 99 m cd 101 i = if i = m then (k : Int) else D1 101 i := fun i => by rw [zwr_row (by omega), g101]
          have b14 : zwr D9 99 m cd 91 14 = (m : Int) := by rw [zwr_row (by omega)]; exact g14
          have bf : zfm [99, 100, 101] [14] D (zwr D9 99 m cd) := f9.wr (by decide) (by decide)
          generalize zwr D9 99 m cd = D4 at *
          by_cases hdg : tDg (tp k) = true
          · have hsm : ¬ tSm (tp k) = true := by
              unfold tSm; unfold tDg at hdg
              rw [decide_eq_true_iff] at hdg ⊢
              omega
            have hdall : ∀ i, i < e - k → 48 ≤ tp (k + i) ∧ tp (k + i) ≤ 57 := by
              intro i hi
              have hd : tDg (tp (k + i)) = true := by
                by_cases hi0 : i = 0
                · subst hi0; exact hdg
                · have he' : e = tRun tDg tp L 400 (k + 1) := by rw [he]; unfold tEnd; rw [if_neg hsm, if_pos hdg]
                  exact tRun_all (L := L) tDg 400 (k + 1) (k + i) (by omega) (by omega)
              unfold tDg at hd
              exact decide_eq_true_iff.mp hd
            have hval : tVal tp (k, e) = tNum tp k (e - k) := by unfold tVal; rw [if_pos hdg]
            refine qloop1 (fun v5 D5 => ∃ i : Nat, v5 = (k : Int) + (i : Int) ∧ i ≤ e - k ∧ zfm [99, 100, 101] [14] D D5 ∧ D5 91 14 = (m : Int) ∧ (∀ x, D5 99 x = if x = m then cd else D1 99 x) ∧ (∀ x, D5 100 x = if x = m then tNum tp k i else D1 100 x) ∧ (∀ x, D5 101 x = if x = m then (k : Int) else D1 101 x)) (fun v5 _ => ((e : Int) - v5).toNat) ?_ ⟨0, by omega, by omega, bf, b14, b99, b100, b101⟩ (zfu_gt (by omega))
            intro k169 v5 D5 ⟨i, e5, hi, f5, s14, s99, s100, s101⟩ ih5
            subst e5
            unfold fX12_splits_169
            refine qS_ite (fun hlt5 => ?_) (fun hlt5 => ?_)
            · refine qS_step (rDg_t hb.2 hdg) (qS_neg (by omega) ?_)
              rw [s14, show ((m : Int)).toNat = m by omega, s100, if_pos rfl]
              have hnb := tNum_bnd k i (fun x hx => hdall x (by omega))
              have h97' : D5 97 = D 97 := f5.1 97 (by omega) (by decide)
              have htk := ht (k + i) (by omega)
              have hdk := hdall i (by omega)
              rw [h97', show ((k : Int) + (i : Int)).toNat = k + i by omega, htk.1]
              have hsg : sgn8 (tp (k + i)) = tp (k + i) := by unfold sgn8; rw [if_pos (by omega)]
              rw [hsg]
              unfold fX12_splits_240
              rw [show ((m : Int)).toNat = m by omega]
              refine qS_chk (by omega) (qS_ite (fun hbig => qS_chk (by omega) (qS_leti (qS_chk (by omega) (ih5 _ _ ⟨i + 1, by omega, by omega, f5.wr (by decide) (by decide), by rw [zwr_row (by omega)]; exact s14, fun x => by rw [zwr_row (by omega)]; exact s99 x, fun x => ?_, fun x => by rw [zwr_row (by omega)]; exact s101 x⟩ (by omega))))) (fun hbig => qS_chk (by omega) (qS_chk (by omega) (qS_leti (qS_chk (by omega) (ih5 _ _ ⟨i + 1, by omega, by omega, f5.wr (by decide) (by decide), by rw [zwr_row (by omega)]; exact s14, fun x => by rw [zwr_row (by omega)]; exact s99 x, fun x => ?_, fun x => by rw [zwr_row (by omega)]; exact s101 x⟩ (by omega)))))))
              · rw [zwr_at]
                by_cases hx : x = m
                · rw [if_pos hx, if_pos hx]; conv => rhs; unfold tNum
                  rw [if_pos hbig]
                · rw [if_neg hx, if_neg hx, s100, if_neg hx]
              · rw [zwr_at]
                by_cases hx : x = m
                · rw [if_pos hx, if_pos hx]; conv => rhs; unfold tNum
                  rw [if_neg hbig]
                · rw [if_neg hx, if_neg hx, s100, if_neg hx]
            · have : i = e - k := by omega
              subst this
              exact fin D5 f5 s14 s99 (fun x => by rw [s100, hval]) s101
          · have hval : tVal tp (k, e) = 0 := by unfold tVal; rw [if_neg hdg]
            refine qloop1 (fun v5 D5 => v5 = (k : Int) ∧ D5 = D4) (fun _ _ => 0) ?_ ⟨rfl, rfl⟩ (zfu_gt (by omega))
            intro k169 v5 D5 ⟨e5, eD⟩ ih5
            subst eD
            subst e5
            unfold fX12_splits_169
            have ff := fin D5 bf b14 b99 (fun x => by rw [b100, hval]) b101
            exact qS_ite (fun _ => qS_step (rDg_f hb.2 hdg) (qS_pos rfl ff)) (fun _ => ff)
        by_cases hsm : tSm (tp k) = true
        · refine qS_step (rSm_t hb.2 hsm) (qS_neg (by omega) ?_)
          have hw9 : rWs D9 := fun i hi => by rw [f9.1 96 (by omega) (by decide)]; exact hw i hi
          refine qS_call (pX12_wordOf (F := F) (tp := tp) (L := L) hw9 (fun i hi => by rw [f9.1 97 (by omega) (by decide)]; exact ht i hi) (a := k) (b := e) (by omega) (by omega) hL) (fun r hr => ?_)
          subst hr
          exact aft _ (by unfold tCode; rw [if_pos hsm])
        · refine qS_step (rSm_f hb.2 hsm) (qS_pos rfl ?_)
          by_cases hdg : tDg (tp k) = true
          · exact qS_step (rDg_t hb.2 hdg) (qS_neg (by omega) (aft 50 (by unfold tCode; rw [if_neg hsm, if_pos hdg])))
          · refine qS_step (rDg_f hb.2 hdg) (qS_pos rfl ?_)
            rw [zand_sgn8 hb.2]
            exact qS_chk (by omega) (aft _ (by unfold tCode; rw [if_neg hsm, if_neg hdg]))
      by_cases hsm : tSm (tp k) = true
      · have hdg : ¬ tDg (tp k) = true := by
          unfold tDg; unfold tSm at hsm
          rw [decide_eq_true_iff] at hsm ⊢
          omega
        refine qS_step (rSm_t hb.2 hsm) (qS_neg (by omega) ?_)
        have hend : tEnd tp L k = tRun tSm tp L 400 (k + 1) := by unfold tEnd; rw [if_pos hsm]
        refine qloop1 (fun v4 D2 => ∃ t g : Nat, v4 = (t : Int) ∧ k < t ∧ t ≤ L ∧ L < t + g ∧ tRun tSm tp L g t = tEnd tp L k ∧ D2 = D1) (fun v4 _ => (1000 - v4).toNat) ?_ ⟨k + 1, 400, by omega, by omega, by omega, by omega, hend.symm, rfl⟩ (zfu_gt (by omega))
        intro k43 v4 D2 ⟨t, g, e4, h1, h2, h3, h4, eD⟩ ih4
        subst eD
        subst e4
        obtain ⟨g', rfl⟩ : ∃ g', g = g' + 1 := ⟨g - 1, by omega⟩
        unfold tRun at h4
        unfold fX12_splits_43 fX12_splits_68
        have stop : t = tEnd tp L k → qS ((fX12_isDigit F (sgn8 (tp k)) D2).bind (fun (r_6, D_7) => if r_6 = 0 then fX12_splits_100 F k7 (L : Int) (k : Int) (sgn8 (tp k)) (t : Int) D_7 else zfix (fun _ _ => none) (fX12_splits_75 F (L : Int) (k : Int) (sgn8 (tp k)) k7) zfu (t : Int) D_7)) (fun D' => D' 91 14 = ((tToks tp L).length : Int) ∧ (∀ i, i ≤ (tToks tp L).length → D' 99 i = tC tp L i ∧ D' 100 i = tW tp L i ∧ D' 101 i = tP tp L i) ∧ zfm [99, 100, 101] [14] D D') :=
          fun h => qS_step (rDg_f hb.2 hdg) (qS_pos rfl (tok t h))
        refine qS_ite (fun hlt4 => qS_chk (by omega) ?_) (fun hlt4 => ?_)
        · have hbt := ht t (by omega)
          rw [show ((t : Int)).toNat = t by omega, h97, hbt.1]
          by_cases hst : tSm (tp t) = true
          · rw [if_pos ⟨by omega, hst⟩] at h4
            exact qS_step (rSm_t hbt.2 hst) (qS_neg (by omega) (qS_chk (by omega) (ih4 _ _ ⟨t + 1, g', by omega, by omega, by omega, by omega, h4, rfl⟩ (by omega))))
          · rw [if_neg (fun hh => hst hh.2)] at h4
            exact qS_step (rSm_f hbt.2 hst) (qS_pos rfl (stop h4))
        · rw [if_neg (by omega)] at h4
          exact stop h4
      · refine qS_step (rSm_f hb.2 hsm) (qS_pos rfl ?_)
        unfold fX12_splits_68
        by_cases hdg : tDg (tp k) = true
        · refine qS_step (rDg_t hb.2 hdg) (qS_neg (by omega) ?_)
          have hend : tEnd tp L k = tRun tDg tp L 400 (k + 1) := by unfold tEnd; rw [if_neg hsm, if_pos hdg]
          rw [show ((k : Int) + 1) = ((k + 1 : Nat) : Int) by omega]
          refine qloop1 (fun v4 D2 => ∃ t g : Nat, v4 = (t : Int) ∧ k < t ∧ t ≤ L ∧ L < t + g ∧ tRun tDg tp L g t = tEnd tp L k ∧ D2 = D1) (fun v4 _ => (1000 - v4).toNat) ?_ ⟨k + 1, 400, rfl, by omega, by omega, by omega, hend.symm, rfl⟩ (zfu_gt (by omega))
          intro k75 v4 D2 ⟨t, g, e4, h1, h2, h3, h4, eD⟩ ih4
          subst eD
          subst e4
          obtain ⟨g', rfl⟩ : ∃ g', g = g' + 1 := ⟨g - 1, by omega⟩
          unfold tRun at h4
          unfold fX12_splits_75
          refine qS_ite (fun hlt4 => qS_chk (by omega) ?_) (fun hlt4 => ?_)
          · have hbt := ht t (by omega)
            rw [show ((t : Int)).toNat = t by omega, h97, hbt.1]
            by_cases hst : tDg (tp t) = true
            · rw [if_pos ⟨by omega, hst⟩] at h4
              exact qS_step (rDg_t hbt.2 hst) (qS_neg (by omega) (qS_chk (by omega) (ih4 _ _ ⟨t + 1, g', by omega, by omega, by omega, by omega, h4, rfl⟩ (by omega))))
            · rw [if_neg (fun hh => hst hh.2)] at h4
              exact qS_step (rDg_f hbt.2 hst) (qS_pos rfl (tok t h4))
          · rw [if_neg (by omega)] at h4
            exact tok t h4
        · have hend : tEnd tp L k = k + 1 := by unfold tEnd; rw [if_neg hsm, if_neg hdg]
          have := tok (k + 1) hend.symm
          rw [show ((k + 1 : Nat) : Int) = (k : Int) + 1 by omega] at this
          exact qS_step (rDg_f hb.2 hdg) (qS_pos rfl this)
  · have hkL : ¬ k < L := by omega
    unfold tTok at hdr
    rw [if_neg hkL] at hdr
    have hml : m = (tToks tp L).length := by
      rw [hdr] at hdl
      simp at hdl
      omega
    rw [h14, show ((m : Int)).toNat = m by omega]
    refine qS_chk (by omega) (qS_leti ?_)
    have y1 : zwr D1 101 m (L : Int) 91 14 = (m : Int) := by rw [zwr_row (by omega)]; exact h14
    rw [y1, show ((m : Int)).toNat = m by omega]
    refine qS_chk (by omega) (qS_leti ?_)
    have y2 : zwr (zwr D1 101 m (L : Int)) 99 m 0 91 14 = (m : Int) := by rw [zwr_row (by omega)]; exact y1
    rw [y2, show ((m : Int)).toNat = m by omega]
    refine qS_chk (by omega) (qS_leti (qS_ret ⟨?_, fun i hi => ?_, ((hfr.wr (by decide) (by decide)).wr (by decide) (by decide)).wr (by decide) (by decide)⟩))
    · rw [zwr_row (by omega), y2, hml]
    · rw [zwr_row (b := 99) (by omega), zwr_at, zwr_row (b := 99) (by omega), zwr_at, zwr_row (b := 100) (by omega), zwr_row (b := 100) (by omega), zwr_row (b := 101) (by omega), zwr_row (b := 101) (by omega), zwr_at]
      by_cases him : i = m
      · obtain ⟨c1, c2, c3⟩ := tC_ge (tp := tp) (L := L) (i := i) (by omega)
        rw [if_pos him, if_pos him, if_pos him, c1, c2, c3]
        exact ⟨rfl, rfl, rfl⟩
      · rw [if_neg him, if_neg him, if_neg him]
        exact hrows i (by omega)
end TR2
