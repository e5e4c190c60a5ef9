section EX
variable {F : zFs} {D : zDa} {K : Nat → Int}
theorem pX12_goes (hK : D 93 = K) (hk : kOk K) (hP : kPOk K) {s : Int} (h63 : D 91 63 = s) (hs : 0 ≤ s ∧ s < 1000003) : qS (fX12_goes F D) (fun r => r.1 = (bPop (kAns K (kLay K s)).2.2 20 0 : Int) ∧ gEnd D r.2 (kLay K s) (kAns K (kLay K s))) := by
  have h0 := hk.1
  have ht := kTerms hk
  unfold fX12_goes
  refine qS_call (pX12_laysChances hK hk hP) (fun D1 ⟨c1, f1⟩ => ?_)
  have f1' : zfm [102, 103] [18, 19, 20, 63, 67, 68, 69] D D1 := f1.mono (by decide) (by decide)
  have K1 : D1 93 = K := by rw [f1.1 93 (by decide) (by decide)]; exact hK
  have s1 : D1 91 63 = s := by rw [f1.2 63 (by decide)]; exact h63
  refine qloop3 (fun v1 v2 v3 D2 => ∃ j : Nat, v3 = (j : Int) ∧ j ≤ (K 390).toNat ∧ v1 = (kAllN K j : Int) ∧ v2 = (kLkN K j : Int) ∧ D2 = D1) (fun _ _ v3 _ => (100 - v3).toNat) ?_ ⟨0, rfl, by omega, rfl, rfl, rfl⟩ (zfu_gt (by omega))
  intro kk v1 v2 v3 D2 ⟨j, e3, hj, e1, e2, eD⟩ ih
  subst e3 eD
  have eq : fX12_questions F D2 = some (K 390, D2) := by unfold fX12_questions; rw [K1]
  unfold fX12_goes_10
  refine qS_step eq ?_
  refine qS_ite (fun hjn => ?_) (fun hjn => ?_)
  · have o := hk.2.1 j (by omega)
    have hA := kAllN_lt K j 20 (by omega)
    have hL := kLkN_lt K j 20 (by omega)
    have hp : 2 ^ j < 2 ^ 20 := Nat.pow_lt_pow_right (by omega) (by omega)
    have nx : ∀ u1 u2 : Int, u1 = (kAllN K (j + 1) : Int) → u2 = (kLkN K (j + 1) : Int) → qS (fX12_goes_46 F kk u1 u2 (j : Int) D2) (fun r => r.1 = (bPop (kAns K (kLay K s)).2.2 20 0 : Int) ∧ gEnd D r.2 (kLay K s) (kAns K (kLay K s))) := by
      intro u1 u2 h1 h2
      unfold fX12_goes_46
      exact qS_chk (by omega) (ih _ _ _ _ ⟨j + 1, by omega, by omega, h1, h2, rfl⟩ (by omega))
    have ea : kAllN K (j + 1) = kAllN K j ||| (if K (5 * j + 4) = 0 then 2 ^ j else 0) := rfl
    have el : kLkN K (j + 1) = kLkN K j ||| (if K (5 * j + 4) = 0 ∧ K (5 * j + 3) = 1 then 2 ^ j else 0) := rfl
    refine qS_step (pX12_isBowl (q := j) rfl (by omega)) ?_
    rw [K1]
    by_cases ho : K (5 * j + 4) = 0
    · rw [if_pos ho] at ea
      rw [if_pos (c := K (5 * j + 4) = 0) ho]
      refine qS_neg (by omega) (qS_leti ?_)
      refine qS_step (pX12_factOf (q := j) (k := 3) rfl rfl (by omega)) ?_
      rw [K1]
      refine qS_leti (nx _ _ ?_ ?_)
      · rw [e1, ea, zone_shl (by omega), zor_nat (by omega) (by omega)]
      · rw [e2, el]
        by_cases h3 : K (5 * j + 3) = 1
        · rw [h3, if_pos ⟨ho, rfl⟩, zone_shl (by omega), zor_nat (by omega) (by omega)]
        · rw [if_neg (fun e => h3 e.2), show K (5 * j + 3) = ((0 : Nat) : Int) by omega, zshl_nat (by omega) (by omega), Nat.zero_mul, zor_nat (by omega) (by omega)]
    · rw [if_neg ho, Nat.or_zero] at ea
      rw [if_neg (fun e => ho e.1), Nat.or_zero] at el
      rw [if_neg (c := K (5 * j + 4) = 0) ho]
      exact qS_pos rfl (nx _ _ (by rw [e1, ea]) (by rw [e2, el]))
  · have : j = (K 390).toNat := by omega
    subst this
    subst e1 e2
    have hA := kAllN_lt K (K 390).toNat 20 (by omega)
    have hL := kLkN_lt K (K 390).toNat 20 (by omega)
    have hk0 := kLay0_ok hk hs
    have hA20 := bPop_le (kAllN K (K 390).toNat) 20 0
    refine qS_step (pX12_term (k := 0) rfl (by omega)) ?_
    rw [K1, show 100 + 0 = 100 from rfl]
    refine qS_call (pX12_ones hA) (fun r hr => ?_)
    subst hr
    refine qS_ite (fun hlt => ?_) (fun hlt => ?_)
    · have hlt' : K 100 < (bPop (kAllN K (K 390).toNat) 20 0 : Int) := hlt
      have eL : kLay K s = kLayN (kAllN K (K 390).toNat) ((K 100).toNat - bPop (kLay0 K s).2 20 0) (kLay0 K s) := by unfold kLay; rw [if_pos (by omega)]
      unfold fX12_goes_71
      refine qS_neg (by omega) ?_
      unfold fX12_goes_84
      refine qS_leti ?_
      have l3 : (zwr D2 91 67 0) 91 67 = 0 := zwr_eq
      have s3 : (zwr D2 91 67 0) 91 63 = s := by rw [zwr_off (by omega)]; exact s1
      have K3 : (zwr D2 91 67 0) 93 = K := by rw [zwr_row (by omega)]; exact K1
      have c3 : rCh (zwr D2 91 67 0) (fun lv => kChance K (lv : Int)) := c1.fr (by rw [zwr_row (by omega)])
      have f3 : zfm [102, 103] [18, 19, 20, 63, 67, 68, 69] D (zwr D2 91 67 0) := f1'.wf (by decide)
      generalize zwr D2 91 67 0 = D3 at *
      have loop : ∀ D4 : zDa, D4 93 = K → rCh D4 (fun lv => kChance K (lv : Int)) → D4 91 63 = (kLay0 K s).1 → D4 91 67 = ((kLay0 K s).2 : Int) → zfm [102, 103] [18, 19, 20, 63, 67, 68, 69] D D4 → qS (zfix (fun _ => none) (fX12_goes_128 F (kAllN K (K 390).toNat : Int) (K 100) 1) zfu D4) (fun r => r.1 = (bPop (kAns K (kLay K s)).2.2 20 0 : Int) ∧ gEnd D r.2 (kLay K s) (kAns K (kLay K s))) := by
        intro D4 K4 c4 s4 l4 f4
        rw [eL]
        generalize kLay0 K s = p0 at *
        generalize hR : kLayN (kAllN K (K 390).toNat) ((K 100).toNat - bPop p0.2 20 0) p0 = R at *
        refine qloop0 (fun D5 => ∃ p : Int × Nat, bPop p.2 20 0 ≤ (K 100).toNat ∧ lOk (kAllN K (K 390).toNat) p ∧ kLayN (kAllN K (K 390).toNat) ((K 100).toNat - bPop p.2 20 0) p = R ∧ D5 93 = K ∧ rCh D5 (fun lv => kChance K (lv : Int)) ∧ D5 91 63 = p.1 ∧ D5 91 67 = (p.2 : Int) ∧ zfm [102, 103] [18, 19, 20, 63, 67, 68, 69] D D5) (fun D5 => 20 - bPop (D5 91 67).toNat 20 0) ?_ ⟨p0, by have := hk0.2; omega, hk0.1, hR, K4, c4, s4, l4, f4⟩ (zfu_gt (by omega))
        intro kk2 D5 ⟨p, hp, ok, hN, K5, c5, s5, l5, f5⟩ ih2
        have hp20 := ok.2.1
        unfold fX12_goes_128
        refine qS_neg (by omega) ?_
        rw [l5]
        refine qS_call (pX12_ones ok.2.1) (fun r hr => ?_)
        subst hr
        refine qS_ite (fun hl => ?_) (fun hl => ?_)
        · have hl' : (bPop p.2 20 0 : Int) < K 100 := hl
          have st := ok.step hA (by omega)
          have go : ∀ z : Int, z = ((zdiff (kAllN K (K 390).toNat) p.2 : Nat) : Int) → ∀ w : Int, w = (p.2 : Int) → qS ((fX12_ones F z D5).bind (fun (r_40, D_41) => (fX12_draws F r_40 D_41).bind (fun (r_42, D_43) => (fX12_nth F z r_42 D_43).bind (fun (r_44, D_45) => zlet (zwr D_45 91 67 (zor w (zshl 1 r_44))) (fun D_46 => kk2 D_46))))) (fun r => r.1 = (bPop (kAns K R).2.2 20 0 : Int) ∧ gEnd D r.2 R (kAns K R)) := by
            intro z hz w hw
            subst hz hw
            refine qS_call (pX12_ones st.2.2.2.1) (fun r hr => ?_)
            subst hr
            refine qS_step (pX12_draws st.2.2.1 (by rw [s5]; exact ok.1)) ?_
            rw [s5]
            have hso := (sOf_lt ok.1 st.2.2.1).1
            refine qS_call (pX12_nth (x := zdiff (kAllN K (K 390).toNat) p.2) (k := sOf p.1 (bPop (zdiff (kAllN K (K 390).toNat) p.2) 20 0)) st.2.2.2.1 hso) (fun r hr => ?_)
            subst hr
            have hb := st.2.2.2.2
            have hpb : 2 ^ sOne p.1 (zdiff (kAllN K (K 390).toNat) p.2) < 2 ^ 20 := Nat.pow_lt_pow_right (by omega) hb
            have ez : zor (p.2 : Int) (zshl 1 ((bNth (zdiff (kAllN K (K 390).toNat) p.2) 20 0 (sOf p.1 (bPop (zdiff (kAllN K (K 390).toNat) p.2) 20 0)) : Nat) : Int)) = ((p.2 ||| 2 ^ sOne p.1 (zdiff (kAllN K (K 390).toNat) p.2) : Nat) : Int) := by
              show zor (p.2 : Int) (zshl 1 ((sOne p.1 (zdiff (kAllN K (K 390).toNat) p.2) : Nat) : Int)) = _
              rw [zone_shl (by omega), zor_nat (by omega) (by omega)]
            dsimp only
            rw [ez]
            refine qS_leti (ih2 _ ⟨(sNext p.1, p.2 ||| 2 ^ sOne p.1 (zdiff (kAllN K (K 390).toNat) p.2)), by dsimp only; rw [st.2.1]; omega, st.1, ?_, ?_, ?_, ?_, ?_, (f5.wf (by decide)).wf (by decide)⟩ ?_)
            · rw [show (K 100).toNat - bPop p.2 20 0 = ((K 100).toNat - (bPop p.2 20 0 + 1)) + 1 by omega, kLayN_s] at hN
              dsimp only
              rw [st.2.1]; exact hN
            · rw [zwr_row (by omega), zwr_row (by omega)]; exact K5
            · exact c5.fr (by rw [zwr_row (by omega), zwr_row (by omega)])
            · rw [zwr_off (by omega), zwr_eq]
            · rw [zwr_eq]
            · rw [zwr_eq, l5, show (((p.2 ||| 2 ^ sOne p.1 (zdiff (kAllN K (K 390).toNat) p.2) : Nat) : Int)).toNat = p.2 ||| 2 ^ sOne p.1 (zdiff (kAllN K (K 390).toNat) p.2) by omega, show ((p.2 : Int)).toNat = p.2 by omega, st.2.1]
              omega
          refine go _ ?_ _ ?_
          · show zand (kAllN K (K 390).toNat : Int) (zxor (D5 91 67) (-1)) = _
            rw [l5]
            exact zdiff_nat (by omega) (by omega)
          · exact l5
        · have hl' : ¬ (bPop p.2 20 0 : Int) < K 100 := hl
          rw [show (K 100).toNat - bPop p.2 20 0 = 0 by omega, kLayN_0] at hN
          subst hN
          exact rG_184 K5 hk c5 ok.2.1 ok.2.2 ok.1 s5 l5 f5
      refine qS_neg (by omega) ?_
      by_cases hl0 : kLkN K (K 390).toNat = 0
      · have e : kLay0 K s = (s, 0) := by unfold kLay0; rw [if_pos hl0]
        refine qS_pos (by rw [hl0]; rfl) ?_
        exact loop D3 K3 c3 (by rw [e]; exact s3) (by rw [e]; exact l3) f3
      · have hp : 0 < bPop (kLkN K (K 390).toNat) 20 0 := by
          rcases Nat.eq_zero_or_pos (bPop (kLkN K (K 390).toNat) 20 0) with e | e
          · exact absurd (bEq hL (show 0 < 2 ^ 20 by decide) (fun j hj => by rw [bPop_0 20 0 e j (by omega) (by omega), Nat.zero_testBit])) hl0
          · exact e
        refine qS_neg (by omega) ?_
        rw [show (100 : Int) = ((100 : Nat) : Int) from rfl]
        refine qS_step (pX12_draws (by omega) (by rw [s3]; exact hs)) ?_
        rw [s3]
        have K4 : (zwr D3 91 63 (sNext s)) 93 = K := by rw [zwr_row (by omega)]; exact K3
        have c4 : rCh (zwr D3 91 63 (sNext s)) (fun lv => kChance K (lv : Int)) := c3.fr (by rw [zwr_row (by omega)])
        have s4 : (zwr D3 91 63 (sNext s)) 91 63 = sNext s := zwr_eq
        have l4 : (zwr D3 91 63 (sNext s)) 91 67 = 0 := by rw [zwr_off (by omega)]; exact l3
        have f4 : zfm [102, 103] [18, 19, 20, 63, 67, 68, 69] D (zwr D3 91 63 (sNext s)) := f3.wf (by decide)
        generalize zwr D3 91 63 (sNext s) = D4 at *
        refine qS_step (pX12_term (k := 3) rfl (by omega)) ?_
        rw [K4, show 100 + 3 = 103 from rfl]
        by_cases hln : (sOf s 100 : Int) < K 103
        · have e : kLay0 K s = (sNext (sNext s), 2 ^ sOne (sNext s) (kLkN K (K 390).toNat)) := by unfold kLay0; rw [if_neg hl0, if_pos hln]
          refine qS_pos hln ?_
          refine qS_call (pX12_ones hL) (fun r hr => ?_)
          subst hr
          have hs4 := sNext_in hs
          refine qS_step (pX12_draws hp (by rw [s4]; exact hs4)) ?_
          rw [s4]
          have hso := (sOf_lt hs4 hp).1
          refine qS_call (pX12_nth (x := kLkN K (K 390).toNat) (k := sOf (sNext s) (bPop (kLkN K (K 390).toNat) 20 0)) hL hso) (fun r hr => ?_)
          subst hr
          have hb := (sOne_in hs4 hp).1
          have ez : zshl 1 ((bNth (kLkN K (K 390).toNat) 20 0 (sOf (sNext s) (bPop (kLkN K (K 390).toNat) 20 0)) : Nat) : Int) = ((2 ^ sOne (sNext s) (kLkN K (K 390).toNat) : Nat) : Int) := by
            show zshl 1 ((sOne (sNext s) (kLkN K (K 390).toNat) : Nat) : Int) = _
            exact zone_shl (by omega)
          dsimp only
          rw [ez]
          refine qS_leti (loop _ ?_ ?_ ?_ ?_ ((f4.wf (by decide)).wf (by decide)))
          · rw [zwr_row (by omega), zwr_row (by omega)]; exact K4
          · exact c4.fr (by rw [zwr_row (by omega), zwr_row (by omega)])
          · rw [e, zwr_off (by omega), zwr_eq]
          · rw [e, zwr_eq]
        · have e : kLay0 K s = (sNext s, 0) := by unfold kLay0; rw [if_neg hl0, if_neg hln]
          refine qS_neg hln ?_
          exact loop D4 K4 c4 (by rw [e]; exact s4) (by rw [e]; exact l4) f4
    · have hlt' : ¬ K 100 < (bPop (kAllN K (K 390).toNat) 20 0 : Int) := hlt
      have eL : kLay K s = (s, kAllN K (K 390).toNat) := by unfold kLay; rw [if_neg (by omega)]
      unfold fX12_goes_71
      refine qS_pos rfl ?_
      unfold fX12_goes_84
      refine qS_leti (qS_pos rfl ?_)
      rw [eL]
      refine qloop0 (fun D5 => D5 = zwr D2 91 67 (kAllN K (K 390).toNat : Int)) (fun _ => 0) ?_ rfl (zfu_gt (by omega))
      intro kk2 D5 e5 _
      subst e5
      unfold fX12_goes_128
      refine qS_pos rfl ?_
      exact rG_184 (p := (s, kAllN K (K 390).toNat)) (by rw [zwr_row (by omega)]; exact K1) hk (c1.fr (by rw [zwr_row (by omega)])) hA (fun _ h => h) hs (by rw [zwr_off (by omega)]; exact s1) zwr_eq (f1'.wf (by decide))
end EX
