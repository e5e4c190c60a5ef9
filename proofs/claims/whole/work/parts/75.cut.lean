/-! ===== the class's tokens ===== -/
def kWs (j0 : Nat) : List (List Int) := if j0 = 0 then kWords.take 3 else if j0 = 1 then kWords.drop 7 else (kWords.drop 3).take 4
def kBg (j0 : Nat) : List Nat := if j0 = 0 then [0, 6, 12, 19] else if j0 = 1 then [0, 5, 11, 17, 24, 30, 34, 43] else [0, 3, 6, 10, 14]
def tIdx (ws : List (List Int)) (B : List Int) (k : Int) : Int := match ws with
  | [] => -1
  | w :: r => if w = B then k else tIdx r B (k + 1)
theorem kBg_ok : ∀ j0, j0 < 3 → ∀ j, j < (kWs j0).length → (kBg j0).getD (j + 1) 0 = (kBg j0).getD j 0 + ((kWs j0).getD j []).length + 1 ∧ (kBg j0).getD (j + 1) 0 ≤ zsl j0 ∧ (∀ k, k < ((kWs j0).getD j []).length → zsg j0 ((kBg j0).getD j 0 + k) = ((kWs j0).getD j []).getD k 0 ∧ ((kWs j0).getD j []).getD k 0 ≠ 32) ∧ zsg j0 ((kBg j0).getD j 0 + ((kWs j0).getD j []).length) = 32 := by decide +kernel
theorem kBg_end : ∀ j0, j0 < 3 → (kBg j0).getD (kWs j0).length 0 = zsl j0 ∧ (kBg j0).getD 0 0 = 0 ∧ zsl j0 ≤ 43 ∧ (kWs j0).length ≤ 7 := by decide +kernel
theorem zsg_ch : ∀ j0, j0 < 3 → ∀ k, k < 43 → k < zsl j0 → zi2c (zand (zsg j0 k) 255) = zsg j0 k ∧ 0 ≤ zsg j0 k ∧ zsg j0 k ≤ 255 := by decide +kernel
theorem kW_ne {B : List Int} {i j : Nat} (hi : i < 14) (hj : j < 14) (h1 : kWords.getD i [] = B) (h2 : kWords.getD j [] = B) : i = j := by
  have : ∀ i, i < 14 → ∀ j, j < 14 → kWords.getD i [] = kWords.getD j [] → i = j := by decide
  exact this i hi j hj (h1.trans h2.symm)
theorem tFind_lt {B : List Int} {j : Nat} (hj : j < 14) (h : kWords.getD j [] = B) : tFind kWords B 1 = (j : Int) + 1 := by
  subst h
  have : ∀ j, j < 14 → tFind kWords (kWords.getD j []) 1 = (j : Int) + 1 := by decide
  exact this j hj
theorem tFind_no {B : List Int} (h : ∀ j, j < 14 → kWords.getD j [] ≠ B) : tFind kWords B 1 = 0 ∧ tIdx (kWs 0) B 0 = -1 ∧ tIdx (kWs 1) B 0 = -1 ∧ tIdx (kWs 2) B 0 = -1 := by
  have h0 := h 0 (by omega)
  have h1 := h 1 (by omega)
  have h2 := h 2 (by omega)
  have h3 := h 3 (by omega)
  have h4 := h 4 (by omega)
  have h5 := h 5 (by omega)
  have h6 := h 6 (by omega)
  have h7 := h 7 (by omega)
  have h8 := h 8 (by omega)
  have h9 := h 9 (by omega)
  have h10 := h 10 (by omega)
  have h11 := h 11 (by omega)
  have h12 := h 12 (by omega)
  have h13 := h 13 (by omega)
  simp [kWords] at h0 h1 h2 h3 h4 h5 h6 h7 h8 h9 h10 h11 h12 h13
  simp [kWords, kWs, tFind, tIdx, h0, h1, h2, h3, h4, h5, h6, h7, h8, h9, h10, h11, h12, h13]
/-- what each search finds -/
theorem tIdx_all (B : List Int) : (0 ≤ tFind kWords B 1 ∧ tFind kWords B 1 ≤ 14) ∧ tIdx (kWs 0) B 0 = (if 1 ≤ tFind kWords B 1 ∧ tFind kWords B 1 ≤ 3 then tFind kWords B 1 - 1 else -1) ∧ tIdx (kWs 1) B 0 = (if 8 ≤ tFind kWords B 1 then tFind kWords B 1 - 8 else -1) ∧ tIdx (kWs 2) B 0 = (if 4 ≤ tFind kWords B 1 ∧ tFind kWords B 1 ≤ 7 then tFind kWords B 1 - 4 else -1) := by
  by_cases h : ∃ j, j < 14 ∧ kWords.getD j [] = B
  · obtain ⟨j, hj, hB⟩ := h
    subst hB
    have : ∀ j, j < 14 → (0 ≤ tFind kWords (kWords.getD j []) 1 ∧ tFind kWords (kWords.getD j []) 1 ≤ 14) ∧ tIdx (kWs 0) (kWords.getD j []) 0 = (if 1 ≤ tFind kWords (kWords.getD j []) 1 ∧ tFind kWords (kWords.getD j []) 1 ≤ 3 then tFind kWords (kWords.getD j []) 1 - 1 else -1) ∧ tIdx (kWs 1) (kWords.getD j []) 0 = (if 8 ≤ tFind kWords (kWords.getD j []) 1 then tFind kWords (kWords.getD j []) 1 - 8 else -1) ∧ tIdx (kWs 2) (kWords.getD j []) 0 = (if 4 ≤ tFind kWords (kWords.getD j []) 1 ∧ tFind kWords (kWords.getD j []) 1 ≤ 7 then tFind kWords (kWords.getD j []) 1 - 4 else -1) := by decide +kernel
    exact this j hj
  · obtain ⟨f0, f1, f2, f3⟩ := tFind_no (B := B) (fun j hj hb => h ⟨j, hj, hb⟩)
    rw [f0, f1, f2, f3]
    exact ⟨by omega, by rw [if_neg (by omega)], by rw [if_neg (by omega)], by rw [if_neg (by omega)]⟩
def tKind (c w : Int) : Int := if c = 0 then 257 else if c ≤ 3 then 259 else if c ≤ 7 then 257 + c else if c ≤ 14 then 260 else if c = 50 then (if w ≤ 1000 then 258 else 257) else c - 100
section TC
variable {F : zFs} {D : zDa} {tp : Nat → Int} {L : Nat}
theorem cSm_t {b : Int} {D1 : zDa} (hs : tSm b = true) : fX6_isLetter F b D1 = some (1, D1) := by
  have : 97 ≤ b ∧ b ≤ 122 := by unfold tSm at hs; exact decide_eq_true_iff.mp hs
  unfold fX6_isLetter; rw [if_neg (by omega), if_neg (by omega)]
theorem cSm_f {b : Int} {D1 : zDa} (hs : ¬ tSm b = true) : fX6_isLetter F b D1 = some (0, D1) := by
  have : ¬ (97 ≤ b ∧ b ≤ 122) := fun hh => hs (by unfold tSm; exact decide_eq_true_iff.mpr hh)
  unfold fX6_isLetter
  by_cases h1 : b < 97
  · rw [if_pos h1]
  · rw [if_neg h1, if_pos (by omega)]
theorem cDg_t {b : Int} {D1 : zDa} (hs : tDg b = true) : fX6_isDigit F b D1 = some (1, D1) := by
  have : 48 ≤ b ∧ b ≤ 57 := by unfold tDg at hs; exact decide_eq_true_iff.mp hs
  unfold fX6_isDigit; rw [if_neg (by omega), if_neg (by omega)]
theorem cDg_f {b : Int} {D1 : zDa} (hs : ¬ tDg b = true) : fX6_isDigit F b D1 = some (0, D1) := by
  have : ¬ (48 ≤ b ∧ b ≤ 57) := fun hh => hs (by unfold tDg; exact decide_eq_true_iff.mpr hh)
  unfold fX6_isDigit
  by_cases h1 : b < 48
  · rw [if_pos h1]
  · rw [if_neg h1, if_pos (by omega)]
theorem pJ0_charAt {j0 : Nat} (h3 : j0 < 3) {k : Nat} (hk : k < zsl j0) : fJ0_charAt_5068e F j0 (k : Int) D = some (zsg j0 k, D) := by
  have h43 := (kBg_end j0 h3).2.2.1
  obtain ⟨c1, c2, c3⟩ := zsg_ch j0 h3 k (by omega) hk
  have e1 : fJ0_isLatin1_aae02 F j0 D = some (1, D) := by
    unfold fJ0_isLatin1_aae02
    rw [if_neg (by omega), if_pos h3, if_pos rfl]
  have e2 : fJ1_charAt_3b067 F j0 (k : Int) D = some (zsg j0 k, D) := by
    unfold fJ1_charAt_3b067
    rw [show ((k : Int)).toNat = k by omega, c1, if_pos ⟨h3, by omega, by omega, by omega⟩]
  unfold fJ0_charAt_5068e
  rw [if_pos h3, e1, Option.bind_some]
  dsimp only
  rw [if_neg (by omega), e2, Option.bind_some]
  dsimp only
  rw [if_pos (by omega)]
theorem pJ0_length {j0 : Nat} (h3 : j0 < 3) : fJ0_length_8abf5 F j0 D = some ((zsl j0 : Int), D) := by
  have h43 := (kBg_end j0 h3).2.2.1
  have e1 : fJ0_coder_7d493 F j0 D = some (0, D) := by
    unfold fJ0_coder_7d493
    rw [if_neg (by omega), if_pos h3]
  unfold fJ0_length_8abf5
  rw [if_pos h3, e1, Option.bind_some]
  dsimp only
  have := zshr_nat (a := zsl j0) (k := 0) (by omega) (by omega)
  rw [show ((0 : Nat) : Int) = 0 from rfl] at this
  rw [this]
  simp
theorem pX6_placeOf (ht : ∀ i, i < L → D 39 i = tp i) {a b : Nat} (hab : a ≤ b) (hb : b ≤ L) (hL : L ≤ 400) {j0 : Nat} (h3 : j0 < 3) : qS (fX6_placeOf F (a : Int) (b : Int) j0 D) (fun r => r = (tIdx (kWs j0) (tByt tp a b) 0, D)) := by
  obtain ⟨n1, n2, n3, n4⟩ := kBg_end j0 h3
  unfold fX6_placeOf
  refine qloop3 (fun v4 v5 v6 D1 => ∃ j x : Nat, v4 = (j : Int) ∧ v6 = (x : Int) ∧ j ≤ (kWs j0).length ∧ v5 = (((kBg j0).getD j 0 : Nat) : Int) ∧ (kBg j0).getD j 0 ≤ x ∧ x ≤ zsl j0 ∧ (j < (kWs j0).length → x ≤ (kBg j0).getD j 0 + ((kWs j0).getD j []).length) ∧ tIdx (kWs j0) (tByt tp a b) 0 = tIdx ((kWs j0).drop j) (tByt tp a b) (j : Int) ∧ D1 = D) (fun _ _ v6 _ => (1000 - v6).toNat) ?_ ⟨0, 0, rfl, rfl, by omega, by rw [n2]; rfl, by rw [n2]; omega, by omega, fun _ => by omega, rfl, rfl⟩ (zfu_gt (by omega))
  intro k9 v4 v5 v6 D1 ⟨j, x, e4, e6, hj, e5, hx1, hx2, hx3, hix, eD⟩ ih
  subst eD
  subst e4
  subst e6
  unfold fX6_placeOf_9
  refine qS_chk h3 (qS_step (pJ0_length h3) ?_)
  dsimp only
  refine qS_ite (fun hlt => ?_) (fun hlt => qS_ret ?_)
  · have hxl : x < zsl j0 := by omega
    have hjl : j < (kWs j0).length := by
      by_cases e : j = (kWs j0).length
      · rw [e, n1] at hx1; omega
      · omega
    obtain ⟨b1, b2, b3, b4⟩ := kBg_ok j0 h3 j hjl
    have hx3' := hx3 hjl
    have hdrop : (kWs j0).drop j = (kWs j0).getD j [] :: (kWs j0).drop (j + 1) := by
      rw [List.getD_eq_getElem?_getD, List.getElem?_eq_getElem hjl]
      exact List.drop_eq_getElem_cons hjl
    generalize hwd : (kWs j0).getD j [] = wd at *
    generalize hbg : (kBg j0).getD j 0 = bg at *
    refine qS_step (pJ0_charAt h3 hxl) ?_
    dsimp only
    by_cases hend : x = bg + wd.length
    · subst hend
      refine qS_pos b4 (qS_chk (by omega) ?_)
      have nextw : ¬ (wd = tByt tp a b) → qS (fX6_placeOf_94 F k9 (a : Int) (b : Int) j0 (j : Int) ((bg + wd.length : Nat) : Int) 0 D1) (fun r => r = (tIdx (kWs j0) (tByt tp a b) 0, D1)) := by
        intro hne
        unfold fX6_placeOf_94 fX6_placeOf_111
        refine qS_pos rfl (qS_chk (by omega) (qS_leti (qS_chk (by omega) (ih _ _ _ _ ⟨j + 1, bg + wd.length + 1, by omega, by omega, by omega, by rw [b1]; omega, by omega, by omega, fun _ => by omega, ?_, rfl⟩ (by omega)))))
        rw [hix, hdrop]
        conv => lhs; unfold tIdx
        rw [if_neg hne]
        rfl
      have found : wd = tByt tp a b → qS (fX6_placeOf_94 F k9 (a : Int) (b : Int) j0 (j : Int) ((bg + wd.length : Nat) : Int) 1 D1) (fun r => r = (tIdx (kWs j0) (tByt tp a b) 0, D1)) := by
        intro he
        unfold fX6_placeOf_94
        refine qS_neg (by omega) (qS_ret ?_)
        rw [hix, hdrop]
        conv => rhs; unfold tIdx
        rw [if_pos he]
      subst e5
      unfold fX6_placeOf_45
      refine qS_ite (fun hl => ?_) (fun hl => ?_)
      · refine qloop2 (fun v7 v8 D3 => ∃ n : Nat, v8 = (bg : Int) + (n : Int) ∧ n ≤ wd.length ∧ D3 = D1 ∧ ((v7 = 1 ∧ ∀ i, i < n → wd.getD i 0 = tp (a + i)) ∨ (v7 = 0 ∧ ∃ i, i < wd.length ∧ wd.getD i 0 ≠ tp (a + i)))) (fun v7 v8 _ => ((bg : Int) + wd.length - v8).toNat) ?_ ⟨0, by omega, by omega, rfl, Or.inl ⟨rfl, fun i hi => by omega⟩⟩ (zfu_gt (by omega))
        intro k51 v7 v8 D3 ⟨n, e8, hn, eD, hv⟩ ih3
        subst eD
        subst e8
        unfold fX6_placeOf_51
        rcases hv with ⟨rfl, hv⟩ | ⟨rfl, i0, hi0, hne0⟩
        · refine qS_neg (by omega) (qS_ite (fun hlt => ?_) (fun hlt => ?_))
          · refine qS_chk ⟨by omega, by omega, by omega, h3⟩ ?_
            have hch := pJ0_charAt (F := F) (D := D3) h3 (k := bg + n) (by omega)
            rw [show ((bg + n : Nat) : Int) = (bg : Int) + (n : Int) by omega] at hch
            refine qS_step hch ?_
            dsimp only
            rw [show ((a : Int) + ((bg : Int) + (n : Int)) - (bg : Int)).toNat = a + n by omega, ht (a + n) (by omega), (b3 n (by omega)).1]
            unfold fX6_placeOf_86
            refine qS_ite (fun he => ?_) (fun he => ?_)
            · refine qS_chk (by omega) (ih3 _ _ _ ⟨n + 1, by omega, by omega, rfl, Or.inl ⟨rfl, fun i hi => ?_⟩⟩ (by omega))
              by_cases hin : i = n
              · subst hin; exact he.symm
              · exact hv i (by omega)
            · exact qS_chk (by omega) (ih3 _ _ _ ⟨n + 1, by omega, by omega, rfl, Or.inr ⟨rfl, n, by omega, fun hh => he hh.symm⟩⟩ (by omega))
          · have : n = wd.length := by omega
            subst this
            exact found ((tByt_eq hab wd).mpr ⟨by omega, hv⟩)
        · have hne : ¬ (wd = tByt tp a b) := fun he => hne0 (((tByt_eq hab wd).mp he).2 i0 hi0)
          exact qS_pos rfl (nextw hne)
      · have hne : ¬ (wd = tByt tp a b) := fun he => by
          have := ((tByt_eq hab wd).mp he).1
          omega
        refine qloop2 (fun v7 v8 D3 => v7 = 0 ∧ D3 = D1) (fun _ _ _ => 0) ?_ ⟨rfl, rfl⟩ (zfu_gt (by omega))
        intro k51 v7 v8 D3 ⟨e7, eD⟩ ih3
        subst eD
        subst e7
        unfold fX6_placeOf_51
        exact qS_pos rfl (nextw hne)
    · have hc := b3 (x - bg) (by omega)
      rw [show bg + (x - bg) = x by omega] at hc
      unfold fX6_placeOf_111
      refine qS_neg (by rw [hc.1]; exact hc.2) (qS_chk (by omega) (ih _ _ _ _ ⟨j, x + 1, rfl, by omega, by omega, e5.trans (by rw [hbg]), by rw [hbg]; omega, by omega, fun _ => by rw [hbg, hwd]; omega, hix, rfl⟩ (by omega)))
  · have hjl : j = (kWs j0).length := by
      by_cases e : j < (kWs j0).length
      · obtain ⟨b1, b2, b3, b4⟩ := kBg_ok j0 h3 j e
        have := hx3 e
        omega
      · omega
    rw [hix, hjl, List.drop_length]
    rfl
end TC
