section GO
variable {F : zFs} {D : zDa} {K : Nat → Int}
/-- the reference's exam is at its end -/
def gEnd (D D' : zDa) (p : Int × Nat) (R : Int × Nat × Nat) : Prop := D' 91 63 = R.1 ∧ D' 91 67 = (p.2 : Int) ∧ D' 91 68 = (R.2.1 : Int) ∧ D' 91 69 = (R.2.2 : Int) ∧ (0 ≤ R.1 ∧ R.1 < 1000003) ∧ R.2.2 < 2 ^ 20 ∧ zfm [102, 103] [18, 19, 20, 63, 67, 68, 69] D D'
theorem rG_245 (hK : D 93 = K) (hk : kOk K) (hc : rCh D (fun lv => kChance K (lv : Int))) {lay gave : Nat} (hl : lay < 2 ^ 20) (hg : gave < 2 ^ 20) (h67 : D 91 67 = (lay : Int)) (h68 : D 91 68 = (gave : Int)) {b : Nat} (hb : kSurN K lay gave (K 390).toNat = (b : Int)) (hbn : b < (K 390).toNat) {P : Int × zDa → Prop} {o5 o6 o7 : Int} {k232 : Int → Int → zDa → Option (Int × zDa)}
    (hn2 : qS (zlet (zwr D 91 68 (zor (D 91 68) (zshl 1 (b : Int)))) (fun D_30 => (fX12_draws F 100 D_30).bind (fun (r_31, D_32) => (fX12_factOf F (b : Int) 2 D_32).bind (fun (r_33, D_34) => if (0 ≤ r_33 ∧ r_33 < 3) then (if r_31 < (D_34 103 r_33.toNat) then zlet (zwr D_34 91 69 (zor (D_34 91 69) (zshl 1 (b : Int)))) (fun D_35 => if (-2147483648 ≤ o5 + 1 ∧ o5 + 1 ≤ 2147483647) then fX12_goes_375 F k232 (o5 + 1) o6 o7 D_35 else none) else fX12_goes_375 F k232 o5 o6 o7 D_34) else none)))) P) :
    qS (zfix (fun _ _ _ => none) (fX12_goes_245 F o5 o6 o7 k232) zfu (-1) 0 D) P := by
  have h0 := hk.1
  refine qloop2 (fun v8 v9 D1 => ∃ j : Nat, v9 = (j : Int) ∧ j ≤ (K 390).toNat ∧ v8 = kSurN K lay gave j ∧ D1 = D) (fun _ v9 _ => (100 - v9).toNat) ?_ ⟨0, rfl, by omega, rfl, rfl⟩ (zfu_gt (by omega))
  intro kk v8 v9 D1 ⟨j, e9, hj, e8, eD⟩ ih
  subst e9 eD
  have eq : fX12_questions F D1 = some (K 390, D1) := by unfold fX12_questions; rw [hK]
  unfold fX12_goes_245
  refine qS_step eq ?_
  refine qS_ite (fun hjn => ?_) (fun hjn => ?_)
  · have bl := zbit_shr (a := lay) (k := j) (by omega) (by omega)
    have bg := zbit_shr (a := gave) (k := j) (by omega) (by omega)
    have nx : ∀ v : Int, v = kSurN K lay gave (j + 1) → qS (fX12_goes_316 F k232 kk o5 o6 o7 v (j : Int) D1) P := by
      intro v hv
      unfold fX12_goes_316
      exact qS_chk (by omega) (ih _ _ _ ⟨j + 1, by omega, by omega, hv, rfl⟩ (by omega))
    have hs : kSurN K lay gave (j + 1) = if lay.testBit j = true ∧ gave.testBit j = false then (if kSurN K lay gave j = -1 then (j : Int) else if kChance K (K (5 * (kSurN K lay gave j).toNat + 2)) < kChance K (K (5 * j + 2)) then (j : Int) else kSurN K lay gave j) else kSurN K lay gave j := rfl
    by_cases h1 : lay.testBit j = true
    · rw [if_pos h1] at bl
      refine qS_pos (by show zand (zshr (D1 91 67) (j : Int)) 1 = 1; rw [h67]; exact bl) ?_
      by_cases h2 : gave.testBit j = true
      · rw [if_pos h2] at bg
        rw [if_neg (by rw [h2]; simp)] at hs
        exact qS_neg (by show ¬ zand (zshr (D1 91 68) (j : Int)) 1 = 0; rw [h68, bg]; omega) (nx _ (by rw [hs]; exact e8))
      · rw [if_neg h2] at bg
        rw [if_pos ⟨h1, by simpa using h2⟩] at hs
        refine qS_pos (by show zand (zshr (D1 91 68) (j : Int)) 1 = 0; rw [h68, bg]) ?_
        refine qS_ite (fun e => ?_) (fun e => ?_)
        · unfold fX12_goes_312
          exact nx _ (by rw [hs, if_pos (by rw [← e8]; exact e)])
        · rw [if_neg (by rw [← e8]; exact e)] at hs
          obtain ⟨w, hw, hwj, _⟩ : ∃ w : Nat, kSurN K lay gave j = (w : Int) ∧ w < j ∧ lay.testBit w = true ∧ gave.testBit w = false := by
            rcases kSurN_in K lay gave j with ⟨h1, _⟩ | h1
            · exact absurd (e8.trans h1) e
            · exact h1
          rw [hw, show ((w : Int)).toNat = w by omega] at hs
          have oj := hk.2.1 j (by omega)
          have ow := hk.2.1 w (by omega)
          have cj : D1 103 (K (5 * j + 2)).toNat = kChance K (((K (5 * j + 2)).toNat : Nat) : Int) := (hc (K (5 * j + 2)).toNat (by omega)).1
          have cw : D1 103 (K (5 * w + 2)).toNat = kChance K (((K (5 * w + 2)).toNat : Nat) : Int) := (hc (K (5 * w + 2)).toNat (by omega)).1
          rw [show (((K (5 * j + 2)).toNat : Nat) : Int) = K (5 * j + 2) by omega] at cj
          rw [show (((K (5 * w + 2)).toNat : Nat) : Int) = K (5 * w + 2) by omega] at cw
          refine qS_step (pX12_factOf (q := j) (k := 2) rfl rfl (by omega)) ?_
          rw [hK]
          refine qS_chk (by omega) ?_
          refine qS_step (pX12_factOf (q := w) (k := 2) (by rw [e8, hw]) rfl (by omega)) ?_
          rw [hK]
          refine qS_chk (by omega) ?_
          refine qS_ite (fun e4 => ?_) (fun e4 => ?_)
          · unfold fX12_goes_312
            exact nx _ (by rw [hs, if_pos (by rw [← cj, ← cw]; exact e4)])
          · exact nx _ (by rw [hs, if_neg (by rw [← cj, ← cw]; exact e4), e8, hw])
    · rw [if_neg h1] at bl
      rw [if_neg (fun e => h1 e.1)] at hs
      exact qS_neg (by show ¬ zand (zshr (D1 91 67) (j : Int)) 1 = 1; rw [h67, bl]; omega) (nx _ (by rw [hs]; exact e8))
  · have : j = (K 390).toNat := by omega
    subst this
    rw [e8, hb]
    exact hn2
theorem rG_184 {Dz : zDa} {p : Int × Nat} (hK : D 93 = K) (hk : kOk K) (hc : rCh D (fun lv => kChance K (lv : Int))) (hl : p.2 < 2 ^ 20) (hsub : bSub p.2 (kAllN K (K 390).toNat)) (hs : 0 ≤ p.1 ∧ p.1 < 1000003) (h63 : D 91 63 = p.1) (h67 : D 91 67 = (p.2 : Int)) (fz : zfm [102, 103] [18, 19, 20, 63, 67, 68, 69] Dz D) : qS (fX12_goes_184 F D) (fun r => r.1 = (bPop (kAns K p).2.2 20 0 : Int) ∧ gEnd Dz r.2 p (kAns K p)) := by
  have h0 := hk.1
  have ht := kTerms hk
  unfold fX12_goes_184
  refine qS_leti (qS_leti ?_)
  have f2 : zfm [102, 103] [18, 19, 20, 63, 67, 68, 69] Dz (zwr (zwr D 91 68 0) 91 69 0) := (fz.wf (by decide)).wf (by decide)
  have K2 : (zwr (zwr D 91 68 0) 91 69 0) 93 = K := by rw [zwr_row (by omega), zwr_row (by omega)]; exact hK
  have s2 : (zwr (zwr D 91 68 0) 91 69 0) 91 63 = p.1 := by rw [zwr_off (by omega), zwr_off (by omega)]; exact h63
  have l2 : (zwr (zwr D 91 68 0) 91 69 0) 91 67 = (p.2 : Int) := by rw [zwr_off (by omega), zwr_off (by omega)]; exact h67
  have g2 : (zwr (zwr D 91 68 0) 91 69 0) 91 68 = 0 := by rw [zwr_off (by omega), zwr_eq]
  have w2 : (zwr (zwr D 91 68 0) 91 69 0) 91 69 = 0 := zwr_eq
  have c2 : rCh (zwr (zwr D 91 68 0) 91 69 0) (fun lv => kChance K (lv : Int)) := hc.fr (by rw [zwr_row (by omega), zwr_row (by omega)])
  generalize zwr (zwr D 91 68 0) 91 69 0 = D2 at *
  have hn : ∀ j, p.2.testBit j = true → j < (K 390).toNat := fun j hj => kAll_n (hsub j hj)
  have hp20 := bPop_le p.2 20 0
  have go : ∀ s0 : Int, s0 = ((min (K 101).toNat (bPop p.2 20 0) : Nat) : Int) → qS (fX12_goes_227 F 0 s0 D2) (fun r => r.1 = (bPop (kAns K p).2.2 20 0 : Int) ∧ gEnd Dz r.2 p (kAns K p)) := by
    intro s0 es
    subst es
    unfold kAns
    generalize hR : kAnsN K p.2 (min (K 101).toNat (bPop p.2 20 0)) (p.1, 0, 0) = R at *
    unfold fX12_goes_227
    refine qloop2 (fun v5 v D3 => ∃ (i : Nat) (t : Int × Nat × Nat), v = (i : Int) ∧ i ≤ min (K 101).toNat (bPop p.2 20 0) ∧ v5 = (bPop t.2.2 20 0 : Int) ∧ aOk p.2 i t ∧ kAnsN K p.2 (min (K 101).toNat (bPop p.2 20 0) - i) t = R ∧ rCh D3 (fun lv => kChance K (lv : Int)) ∧ D3 93 = K ∧ D3 91 63 = t.1 ∧ D3 91 67 = (p.2 : Int) ∧ D3 91 68 = (t.2.1 : Int) ∧ D3 91 69 = (t.2.2 : Int) ∧ zfm [102, 103] [18, 19, 20, 63, 67, 68, 69] Dz D3) (fun _ v _ => (100 - v).toNat) ?_ ⟨0, (p.1, 0, 0), rfl, by omega, by dsimp only; rw [bPop_nil]; rfl, ⟨hs, by show 0 < 2 ^ 20; omega, bNil _, bPop_nil, by show 0 < 2 ^ 20; omega, bNil _⟩, by rw [Nat.sub_zero]; exact hR, c2, K2, s2, l2, g2, w2, f2⟩ (zfu_gt (by omega))
    intro kk v5 v D3 ⟨i, t, ev, hi, e5, ok, hN, c3, K3, s3, l3, g3, w3, f3⟩ ih
    subst ev e5
    have ok' := ok
    obtain ⟨o1, o2, o3, o4, o5, o6⟩ := ok'
    have hb20 := bPop_le t.2.2 20 0
    unfold fX12_goes_232
    refine qS_ite (fun hlt => ?_) (fun hlt => ?_)
    · have hlt2 : i < bPop p.2 20 0 := by omega
      obtain ⟨b, eb, b1, b2, b3⟩ := aSur hn (by omega) ok hlt2
      have nx := ok.next hn (by omega) hlt2
      have hpb : 2 ^ b < 2 ^ 20 := Nat.pow_lt_pow_right (by omega) (by omega)
      refine rG_245 K3 hk c3 hl o2 l3 g3 eb b1 ?_
      rw [g3, zone_shl (by omega), zor_nat (by omega) (by omega)]
      refine qS_leti ?_
      have s4 : (zwr D3 91 68 ((t.2.1 ||| 2 ^ b : Nat) : Int)) 91 63 = t.1 := by rw [zwr_off (by omega)]; exact s3
      rw [show (100 : Int) = ((100 : Nat) : Int) from rfl]
      refine qS_step (pX12_draws (by omega) (by rw [s4]; exact o1)) ?_
      rw [s4]
      have f5 : zfm [102, 103] [18, 19, 20, 63, 67, 68, 69] Dz (zwr (zwr D3 91 68 ((t.2.1 ||| 2 ^ b : Nat) : Int)) 91 63 (sNext t.1)) := (f3.wf (by decide)).wf (by decide)
      have K5 : (zwr (zwr D3 91 68 ((t.2.1 ||| 2 ^ b : Nat) : Int)) 91 63 (sNext t.1)) 93 = K := by rw [zwr_row (by omega), zwr_row (by omega)]; exact K3
      have c5 : rCh (zwr (zwr D3 91 68 ((t.2.1 ||| 2 ^ b : Nat) : Int)) 91 63 (sNext t.1)) (fun lv => kChance K (lv : Int)) := c3.fr (by rw [zwr_row (by omega), zwr_row (by omega)])
      have l5 : (zwr (zwr D3 91 68 ((t.2.1 ||| 2 ^ b : Nat) : Int)) 91 63 (sNext t.1)) 91 67 = (p.2 : Int) := by rw [zwr_off (by omega), zwr_off (by omega)]; exact l3
      have g5 : (zwr (zwr D3 91 68 ((t.2.1 ||| 2 ^ b : Nat) : Int)) 91 63 (sNext t.1)) 91 68 = ((t.2.1 ||| 2 ^ b : Nat) : Int) := by rw [zwr_off (by omega), zwr_eq]
      have w5 : (zwr (zwr D3 91 68 ((t.2.1 ||| 2 ^ b : Nat) : Int)) 91 63 (sNext t.1)) 91 69 = (t.2.2 : Int) := by rw [zwr_off (by omega), zwr_off (by omega)]; exact w3
      have s5 : (zwr (zwr D3 91 68 ((t.2.1 ||| 2 ^ b : Nat) : Int)) 91 63 (sNext t.1)) 91 63 = sNext t.1 := zwr_eq
      generalize zwr (zwr D3 91 68 ((t.2.1 ||| 2 ^ b : Nat) : Int)) 91 63 (sNext t.1) = D5 at *
      have ob := hk.2.1 b (by omega)
      have ch : D5 103 (K (5 * b + 2)).toNat = kChance K (((K (5 * b + 2)).toNat : Nat) : Int) := (c5 (K (5 * b + 2)).toNat (by omega)).1
      rw [show (((K (5 * b + 2)).toNat : Nat) : Int) = K (5 * b + 2) by omega] at ch
      rw [show min (K 101).toNat (bPop p.2 20 0) - i = (min (K 101).toNat (bPop p.2 20 0) - (i + 1)) + 1 by omega, kAnsN_s] at hN
      have ean : (aNext K p.2 t).2.2 = if (sOf t.1 100 : Int) < kChance K (K (5 * b + 2)) then t.2.2 ||| 2 ^ b else t.2.2 := by
        unfold aNext; rw [eb, show ((b : Int)).toNat = b by omega]
      have nx2 := nx.2
      rw [eb, show ((b : Int)).toNat = b by omega] at nx2
      have go2 : ∀ (v : Int) (D6 : zDa), v = (bPop (aNext K p.2 t).2.2 20 0 : Int) → rCh D6 (fun lv => kChance K (lv : Int)) → D6 93 = K → D6 91 63 = sNext t.1 → D6 91 67 = (p.2 : Int) → D6 91 68 = ((t.2.1 ||| 2 ^ b : Nat) : Int) → D6 91 69 = ((aNext K p.2 t).2.2 : Int) → zfm [102, 103] [18, 19, 20, 63, 67, 68, 69] Dz D6 → qS (fX12_goes_375 F kk v ((min (K 101).toNat (bPop p.2 20 0) : Nat) : Int) (i : Int) D6) (fun r => r.1 = (bPop R.2.2 20 0 : Int) ∧ gEnd Dz r.2 p R) := by
        intro v D6 hv c6 K6 s6 l6 g6 w6 f6
        unfold fX12_goes_375
        refine qS_chk (by omega) (ih _ _ _ ⟨i + 1, aNext K p.2 t, by omega, by omega, hv, nx.1, hN, c6, K6, s6, l6, ?_, w6, f6⟩ (by omega))
        show D6 91 68 = ((t.2.1 ||| 2 ^ (kSurN K p.2 t.2.1 (K 390).toNat).toNat : Nat) : Int)
        rw [eb, show ((b : Int)).toNat = b by omega]; exact g6
      refine qS_step (pX12_factOf (q := b) (k := 2) rfl rfl (by omega)) ?_
      rw [K5]
      refine qS_chk (by omega) ?_
      refine qS_ite (fun hcc => ?_) (fun hcc => ?_)
      · have hcc' : (sOf t.1 100 : Int) < kChance K (K (5 * b + 2)) := by rw [← ch]; exact hcc
        rw [if_pos hcc'] at nx2 ean
        refine qS_leti (qS_chk (by omega) (go2 _ _ (by rw [nx2]; omega) ?_ ?_ ?_ ?_ ?_ ?_ (f5.wf (by decide))))
        · exact c5.fr (by rw [zwr_row (by omega)])
        · rw [zwr_row (by omega)]; exact K5
        · rw [zwr_off (by omega)]; exact s5
        · rw [zwr_off (by omega)]; exact l5
        · rw [zwr_off (by omega)]; exact g5
        · rw [zwr_eq, ean]
          show zor (D5 91 69) ((2 ^ b : Nat) : Int) = _
          rw [w5, zor_nat (by omega) (by omega)]
      · have hcc' : ¬ (sOf t.1 100 : Int) < kChance K (K (5 * b + 2)) := by rw [← ch]; exact hcc
        rw [if_neg hcc'] at nx2 ean
        exact go2 _ D5 (by rw [nx2]; omega) c5 K5 s5 l5 g5 (by rw [ean]; exact w5) f5
    · rw [show min (K 101).toNat (bPop p.2 20 0) - i = 0 by omega, kAnsN_0] at hN
      subst hN
      exact qS_ret ⟨rfl, s3, l3, g3, w3, o1, o5, f3⟩
  refine qS_step (pX12_term (k := 1) rfl (by omega)) ?_
  rw [K2, show 100 + 1 = 101 from rfl]
  refine qS_bind (qS_mono (Q := fun r => qS _ _) (x := fX12_ones F (D2 91 67) D2) (by rw [l2]; exact pX12_ones hl) (fun r hr => ?_))
  subst hr
  refine qS_ite (fun e => ?_) (fun e => ?_)
  · refine qS_step (pX12_term (k := 1) rfl (by omega)) ?_
    rw [K2, show 100 + 1 = 101 from rfl]
    have e' : K 101 < (bPop p.2 20 0 : Int) := e
    exact go _ (by omega)
  · have e' : ¬ K 101 < (bPop p.2 20 0 : Int) := e
    refine qS_bind (qS_mono (Q := fun r => qS _ _) (x := fX12_ones F (D2 91 67) D2) (by rw [l2]; exact pX12_ones hl) (fun r hr => ?_))
    subst hr
    exact go _ (by omega)
end GO
