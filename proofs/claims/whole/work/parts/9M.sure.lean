/-! ===== fractions and millionths of odds ===== -/
def kFrac (w o : Nat) (part : Int) : Int := if part = 0 then ((w / Nat.gcd o w : Nat) : Int) else if part = 1 then ((o / Nat.gcd o w : Nat) : Int) else -1
def kMil (w o : Nat) : Int := ((w * 1000000 / o : Nat) : Int)
theorem kAtl_in {s : Nat → Int} {o k : Nat} (h : odOk s o) (hk : k ≤ 3) : 0 ≤ kAtl s k ∧ kAtl s k ≤ (o : Int) := by
  obtain ⟨h1, h2, _⟩ := h
  have a0 := h1 0 (by omega)
  have a1 := h1 1 (by omega)
  have a2 := h1 2 (by omega)
  have a3 := h1 3 (by omega)
  rcases (by omega : k = 0 ∨ k = 1 ∨ k = 2 ∨ k = 3) with rfl | rfl | rfl | rfl
  · show 0 ≤ 0 + s 0 + s 1 + s 2 + s 3 ∧ 0 + s 0 + s 1 + s 2 + s 3 ≤ _
    omega
  · show 0 ≤ 0 + s 1 + s 2 + s 3 ∧ 0 + s 1 + s 2 + s 3 ≤ _
    omega
  · show 0 ≤ 0 + s 2 + s 3 ∧ 0 + s 2 + s 3 ≤ _
    omega
  · show 0 ≤ 0 + s 3 ∧ 0 + s 3 ≤ _
    omega
theorem odOk_le {s : Nat → Int} {o m : Nat} (h : odOk s o) (hm : m < 4) : 0 ≤ s m ∧ s m ≤ (o : Int) := by
  obtain ⟨h1, h2, _⟩ := h
  have a0 := h1 0 (by omega)
  have a1 := h1 1 (by omega)
  have a2 := h1 2 (by omega)
  have a3 := h1 3 (by omega)
  rcases (by omega : m = 0 ∨ m = 1 ∨ m = 2 ∨ m = 3) with rfl | rfl | rfl | rfl <;> omega
section FR
variable {F : zFs} {D : zDa}
theorem sc_le {t o : Nat} {x : Int} (h : 0 ≤ x ∧ x ≤ (o : Int)) (hb : t * o ≤ 3695120000000000) : 0 ≤ (t : Int) * x ∧ (t : Int) * x ≤ 3695120000000000 := by
  refine ⟨Int.mul_nonneg (by omega) h.1, ?_⟩
  have := Int.mul_le_mul_of_nonneg_left h.2 (show (0 : Int) ≤ (t : Int) by omega)
  rw [← Int.natCast_mul] at this
  omega
theorem pX2_fraction {t w o : Nat} {part : Int} (ht : 0 < t) (ho : 0 < o) (h52 : D 52 7 = (t : Int) * (o : Int)) (hb : t * w < 2 ^ 63) : qS (fX2_fraction F ((t : Int) * (w : Int)) part D) (fun r => r = (kFrac w o part, D)) := by
  unfold fX2_fraction
  refine qS_id' ?_
  rw [h52, ← Int.natCast_mul, ← Int.natCast_mul]
  by_cases hp : part = 0 ∨ part = 1
  · refine qS_mono (pX2_lowest (Nat.mul_pos ht ho) hb hp) (fun r hr => ?_)
    rw [hr, (low_scale (w := w) (o := o) ht).1, (low_scale (w := w) (o := o) ht).2]
    unfold kFrac
    rcases hp with rfl | rfl
    · rfl
    · rw [if_neg (by omega), if_neg (by omega), if_pos rfl]
  · have e : kFrac w o part = -1 := by unfold kFrac; rw [if_neg (by omega), if_neg (by omega)]
    rw [e]
    unfold fX2_lowest
    by_cases h1 : part < 0
    · exact qS_pos h1 (qS_ret rfl)
    · exact qS_neg h1 (qS_pos (by omega) (qS_ret rfl))
theorem pX12_frac {w o : Nat} {part : Int} (ho : 0 < o) (hw : o < 2 ^ 63) (hp : part = 0 ∨ part = 1) : qS (fX12_reduced F (w : Int) (o : Int) part D) (fun r => r = (kFrac w o part, D)) := by
  refine qS_mono (pX12_reduced ho hw) (fun r hr => ?_)
  rw [hr]
  unfold kFrac
  rcases hp with rfl | rfl
  · rfl
  · rw [if_neg (by omega), if_neg (by omega), if_pos rfl]
theorem odC_atl {s : Nat → Int} {o k : Nat} (h : odC D s o) (ok : odOk s o) (hk : k ≤ 3) : ∃ t : Nat, 0 < t ∧ fX2_atLeast F (k : Int) D = some ((t : Int) * (((kAtl s k).toNat : Nat) : Int), D) ∧ D 52 7 = (t : Int) * (o : Int) ∧ t * o ≤ 3695120000000000 ∧ t * (kAtl s k).toNat ≤ t * o := by
  obtain ⟨t, h0, h1, h2, h3⟩ := h
  refine ⟨t, h0, ?_, h2, h3, Nat.mul_le_mul_left _ (by have := kAtl_in ok hk; omega)⟩
  have hs : ∀ m, m < 4 → D 59 m = (t : Int) * s m ∧ 0 ≤ (t : Int) * s m ∧ (t : Int) * s m ≤ 2000000000000000000 := fun m hm => by
    have := sc_le (t := t) (odOk_le ok hm) h3
    exact ⟨h1 m hm, this.1, by omega⟩
  obtain ⟨r, e, hr⟩ := pX2_atLeast (F := F) (s := fun m => (t : Int) * s m) (k := k) (by omega) hs
  rw [e, hr]
  have : kAtl (fun m => (t : Int) * s m) k = (t : Int) * kAtl s k := by unfold kAtl; rw [zsum_mul]
  have h4 := kAtl_in ok hk
  rw [this, show (((kAtl s k).toNat : Nat) : Int) = kAtl s k by omega]
theorem odR_atl {K : Nat → Int} {s : Nat → Int} {o : Nat} (hK : D 93 = K) (hk : kOk K) (h : odR D s o) (ok : odOk s o) : fX12_passes F D = some ((((kAtl s (K 102).toNat).toNat : Nat) : Int), D) := by
  have ht := kTerms hk
  obtain ⟨r, e, hr⟩ := pX12_passes (F := F) (s := s) (k := (K 102).toNat) hK (by omega) (by omega) (fun m hm => by
    have := odOk_le ok hm
    have := ok.2.2.2
    exact ⟨h.1 m hm, by omega, by omega⟩)
  have h4 := kAtl_in (k := (K 102).toNat) ok (by omega)
  rw [e, hr, show (((kAtl s (K 102).toNat).toNat : Nat) : Int) = kAtl s (K 102).toNat by omega]
theorem pX2_mil {t w o : Nat} (ht : 0 < t) (ho : 0 < o) (hb : t * o ≤ 3695120000000000) (hw : t * w ≤ t * o) : qS (fX2_millionths F ((t : Int) * (w : Int)) ((t : Int) * (o : Int)) D) (fun r => r = (kMil w o, D)) := by
  rw [← Int.natCast_mul, ← Int.natCast_mul]
  refine qS_mono (pX2_millionths (Nat.mul_pos ht ho) hw (by omega)) (fun r hr => ?_)
  rw [hr, mil_scale ht]; rfl
/-! ===== odds with so many of a level ===== -/
def kSu (K : Nat → Int) (half well : Nat) : Nat → Int := kOd (fun lv => kChance K (lv : Int)) (nOf ((kBowl K).toNat - half - well) half well) (fun _ => 0) (K 100).toNat (K 101).toNat 0
def kSuO (K : Nat → Int) (half well : Nat) : Nat := kWh (nOf ((kBowl K).toNat - half - well) half well) (fun _ => 0) (K 100).toNat (K 101).toNat 0
theorem kBowl_in {K : Nat → Int} (hk : kOk K) : 0 ≤ kBowl K ∧ kBowl K ≤ K 390 := by
  have := kBowlN_in K (K 390).toNat
  have h0 := hk.1
  unfold kBowl
  omega
theorem odOk_su {K : Nat → Int} (hk : kOk K) {half well : Nat} (h : half + well ≤ (kBowl K).toNat) : odOk (kSu K half well) (kSuO K half well) := by
  have ht := kTerms hk
  have hb := kBowl_in hk
  have h0 := hk.1
  refine odOk_of ?_ (fun _ _ => Nat.zero_le _) (kChs K) (by omega) (by omega) (by omega)
  show (kBowl K).toNat - half - well + half + well ≤ 20
  omega
theorem pX11_spreadSure {Z : Nat → Prop} {K : Nat → Int} (h : qSt F D Z 1 K) (hG : zG F) (hZ : ∀ a, Z a → 126 ≤ a) (hLt : cLot D) (hc : cCh D (fun lv => kChance K (lv : Int))) {w : Nat} (hw : w ≤ (kBowl K).toNat) :
    qS (fX11_spreadSure F (w : Int) D) (fun D' => odC D' (kSu K 0 w) (kSuO K 0 w) ∧ zfr [52, 56, 57, 58, 59] D D') := by
  have hk := h.1
  have ht := kTerms hk
  have h0 := hk.1
  have hb := kBowl_in hk
  unfold fX11_spreadSure
  refine qS_call (pX9_bowlSize h) (fun r hr => ?_)
  subst hr
  dsimp only
  refine qS_call (pX2_empty hG) (fun D2 ⟨a2, b2, f2⟩ => ?_)
  refine qloop1 (fun v D3 => ∃ j : Nat, v = (j : Int) ∧ j ≤ (kBowl K).toNat ∧ (∀ lv, lv < 3 → D3 56 lv = (nOf (j - min j w) 0 (min j w) lv : Int)) ∧ (∀ lv, lv < 3 → D3 57 lv = 0) ∧ zfr [56, 57] D D3) (fun v _ => (100 - v).toNat) ?_ ⟨0, rfl, by omega, fun lv h => ?_, fun lv h => b2 lv h, f2⟩ (zfu_gt (by omega))
  · intro kk v D3 ⟨j, ev, hj, a3, b3, f3⟩ ih
    subst ev
    have hq := h.zfr hZ f3 (by decide)
    have put : ∀ s : Nat, s = (if j < w then 2 else 0) → j < (kBowl K).toNat → qS (fX11_spreadSure_36 F kk (w : Int) (kBowl K) (j : Int) (s : Int) D3) (fun D' => odC D' (kSu K 0 w) (kSuO K 0 w) ∧ zfr [52, 56, 57, 58, 59] D D') := by
      intro s es hjb
      have hs3 : s < 3 := by rw [es]; split <;> omega
      have m1 := a3 s hs3
      have m2 := b3 s hs3
      have m3 : nOf (j - min j w) 0 (min j w) s ≤ 20 := by unfold nOf; repeat' split
                                                           all_goals omega
      unfold fX11_spreadSure_36
      refine qS_step (pX2_put hs3 (by omega) (by omega) (by omega)) ?_
      refine qS_chk (by omega) (ih _ _ ⟨j + 1, by omega, by omega, fun lv hlv => ?_, fun lv hlv => ?_, (f3.wr (by decide)).wr (by decide)⟩ (by omega))
      · rw [zwr_row (by omega), zwr_at, m1]
        by_cases hjw : j < w
        · rw [if_pos hjw] at es
          subst es
          rw [show min (j + 1) w = min j w + 1 by omega]
          rcases (by omega : lv = 0 ∨ lv = 1 ∨ lv = 2) with rfl | rfl | rfl
          · rw [if_neg (by omega), a3 0 (by omega)]
            show ((j - min j w : Nat) : Int) = ((j + 1 - (min j w + 1) : Nat) : Int)
            omega
          · rw [if_neg (by omega), a3 1 (by omega)]; rfl
          · rw [if_pos rfl]
            show ((min j w : Nat) : Int) + 1 = ((min j w + 1 : Nat) : Int)
            omega
        · rw [if_neg hjw] at es
          subst es
          rw [show min (j + 1) w = min j w by omega]
          rcases (by omega : lv = 0 ∨ lv = 1 ∨ lv = 2) with rfl | rfl | rfl
          · rw [if_pos rfl]
            show ((j - min j w : Nat) : Int) + 1 = ((j + 1 - min j w : Nat) : Int)
            omega
          · rw [if_neg (by omega), a3 1 (by omega)]; rfl
          · rw [if_neg (by omega), a3 2 (by omega)]; rfl
      · rw [zwr_at, m2]
        by_cases hls : lv = s
        · rw [if_pos hls]; rfl
        · rw [if_neg hls, zwr_row (by omega), b3 lv hlv]
    unfold fX11_spreadSure_17
    refine qS_ite (fun hjn => ?_) (fun hjn => ?_)
    · refine qS_ite (fun hjw => ?_) (fun hjw => ?_)
      · exact put 2 (by rw [if_pos (by omega)]) (by omega)
      · exact put 0 (by rw [if_neg (by omega)]) (by omega)
    · have : j = (kBowl K).toNat := by omega
      subst this
      have t0 := hq.2.2.2.1 0 (by omega)
      have t1 := hq.2.2.2.1 1 (by omega)
      have e0 : D3 7 0 = (((K 100).toNat : Nat) : Int) := by rw [show D3 7 0 = K 100 from t0]; omega
      have e1 : D3 7 1 = (((K 101).toNat : Nat) : Int) := by rw [show D3 7 1 = K 101 from t1]; omega
      rw [e0, e1, show (0 : Int) = ((0 : Nat) : Int) from rfl]
      have hbb : nOf ((kBowl K).toNat - 0 - w) 0 w 0 + nOf ((kBowl K).toNat - 0 - w) 0 w 1 + nOf ((kBowl K).toNat - 0 - w) 0 w 2 ≤ 20 := by
        show (kBowl K).toNat - 0 - w + 0 + w ≤ 20
        omega
      refine qS_call (pX2_spread (ch := fun lv => kChance K (lv : Int)) (B := nOf ((kBowl K).toNat - 0 - w) 0 w) (Q := fun _ => 0) hG (hc.fr (f3 54 (by decide)) (f3 55 (by decide))) (hLt.fr (f3 53 (by decide))) (fun lv hlv => ?_) (fun lv hlv => b3 lv hlv) hbb (fun _ _ => Nat.zero_le _) (by omega) (by omega) (by omega)) ?_
      · rw [a3 lv hlv, show min (kBowl K).toNat w = w by omega, Nat.sub_zero]
      intro D4 ⟨g1, g2, g3⟩
      exact qS_ret ⟨odC_of hbb (fun _ _ => Nat.zero_le _) (by omega) (by omega) g1 g2, (f3.mono (by decide)).trans (g3.mono (by decide))⟩
  · rw [a2 lv h]
    rcases (by omega : lv = 0 ∨ lv = 1 ∨ lv = 2) with rfl | rfl | rfl
    · rfl
    · rfl
    · show (0 : Int) = ((min 0 w : Nat) : Int)
      omega
theorem pX12_passesWith {K : Nat → Int} (hK : D 93 = K) (hk : kOk K) (hc : rCh D (fun lv => kChance K (lv : Int))) {half well : Nat} (hw : half + well ≤ (kBowl K).toNat) :
    qS (fX12_passesWith F (half : Int) (well : Int) D) (fun r => r.1 = (((kAtl (kSu K half well) (K 102).toNat).toNat : Nat) : Int) ∧ odR r.2 (kSu K half well) (kSuO K half well) ∧ zfm [104, 105, 106, 107, 108] [28, 29, 30] D r.2) := by
  have ht := kTerms hk
  have h0 := hk.1
  have hb := kBowl_in hk
  unfold fX12_passesWith
  refine qS_call (pX12_bowl hK hk) (fun r hr => ?_)
  subst hr
  dsimp only
  refine qS_chk (by omega) (qS_leti (qS_leti (qS_leti ?_)))
  have r2 : ∀ lv, lv < 3 → (zwr (zwr (zwr D 104 0 (kBowl K - (half : Int) - (well : Int))) 104 1 (half : Int)) 104 2 (well : Int)) 104 lv = (nOf ((kBowl K).toNat - half - well) half well lv : Int) := fun lv hlv => by
    rcases (by omega : lv = 0 ∨ lv = 1 ∨ lv = 2) with rfl | rfl | rfl
    · rw [zwr_off (by omega), zwr_off (by omega), zwr_eq]
      show _ = (((kBowl K).toNat - half - well : Nat) : Int)
      omega
    · rw [zwr_off (by omega), zwr_eq]; rfl
    · rw [zwr_eq]; rfl
  have f2 : zfr [104, 105] D (zwr (zwr (zwr D 104 0 (kBowl K - (half : Int) - (well : Int))) 104 1 (half : Int)) 104 2 (well : Int)) := (((zfr.rfl' _ D).wr (by decide)).wr (by decide)).wr (by decide)
  generalize zwr (zwr (zwr D 104 0 (kBowl K - (half : Int) - (well : Int))) 104 1 (half : Int)) 104 2 (well : Int) = D2 at *
  refine qloop1 (fun v D3 => ∃ j : Nat, v = (j : Int) ∧ j ≤ 3 ∧ (∀ lv, lv < 3 → D3 104 lv = (nOf ((kBowl K).toNat - half - well) half well lv : Int)) ∧ (∀ lv, lv < j → D3 105 lv = 0) ∧ zfr [104, 105] D D3) (fun v _ => (100 - v).toNat) ?_ ⟨0, rfl, by omega, r2, fun lv h => absurd h (by omega), f2⟩ (zfu_gt (by omega))
  intro kk v D3 ⟨j, ev, hj, r3, z3, f3⟩ ih
  subst ev
  unfold fX12_passesWith_30
  refine qS_ite (fun hj3 => ?_) (fun hj3 => ?_)
  · refine qS_chk (by omega) (qS_leti (qS_chk (by omega) (ih _ _ ⟨j + 1, by omega, by omega, fun lv hlv => by rw [zwr_row (by omega)]; exact r3 lv hlv, fun lv hlv => ?_, f3.wr (by decide)⟩ (by omega))))
    rw [show ((j : Int)).toNat = j by omega, zwr_at]
    by_cases hlj : lv = j
    · rw [if_pos hlj]
    · rw [if_neg hlj]; exact z3 lv (by omega)
  · have : j = 3 := by omega
    subst this
    have hbb : nOf ((kBowl K).toNat - half - well) half well 0 + nOf ((kBowl K).toNat - half - well) half well 1 + nOf ((kBowl K).toNat - half - well) half well 2 ≤ 20 := by
      show (kBowl K).toNat - half - well + half + well ≤ 20
      omega
    have K3 : D3 93 = K := by rw [f3 93 (by decide)]; exact hK
    rw [show (0 : Int) = ((0 : Nat) : Int) from rfl]
    refine qS_call (pX12_odds (K := K) (ch := fun lv => kChance K (lv : Int)) (B := nOf ((kBowl K).toNat - half - well) half well) (Q := fun _ => 0) (lie := (K 100).toNat) (A := (K 101).toNat) K3 (hc.fr (f3 103 (by decide))) r3 (fun lv hlv => z3 lv hlv) hbb (fun _ _ => Nat.zero_le _) (by omega) (by omega) (by omega) (by omega) (by omega)) ?_
    intro D4 ⟨g1, g2, _, g3⟩
    have f4 : zfm [104, 105, 106, 107, 108] [28, 29, 30] D D4 := (zfm.ofr f3 (by decide) (by decide)).trans (g3.mono (by decide) (by decide))
    refine qS_step (odR_atl (s := kSu K half well) (o := kSuO K half well) (by rw [g3.1 93 (by decide) (by decide)]; exact K3) hk ⟨g1, g2⟩ (odOk_su hk hw)) ?_
    exact qS_ret ⟨rfl, ⟨g1, g2⟩, f4⟩
end FR
