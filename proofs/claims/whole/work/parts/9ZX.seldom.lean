/-! ===== seldom ===== -/
section SO
variable {F : zFs} {D : zDa} {K : Nat → Int}
theorem kTimes_in {K : Nat → Int} (hk : kOk K) (q : Nat) : 0 ≤ kTimes K q ∧ kTimes K q ≤ K 392 := by
  have h392 := hk.2.2.2.2.2.1.1
  have : ∀ n, 0 ≤ kTimesN K q n ∧ kTimesN K q n ≤ (n : Int) := by
    intro n
    induction n with
    | zero => exact ⟨Int.le_refl _, Int.le_refl _⟩
    | succ n ih =>
      have b : 0 ≤ kBit (K (350 + n)) q ∧ kBit (K (350 + n)) q ≤ 1 := by unfold kBit; split <;> omega
      show 0 ≤ kTimesN K q n + kBit (K (350 + n)) q ∧ kTimesN K q n + kBit (K (350 + n)) q ≤ ((n + 1 : Nat) : Int)
      omega
  have := this (K 392).toNat
  unfold kTimes
  omega
theorem pX12_seldomOf (hK : D 93 = K) (hk : kOk K) (hG : zG F) {q : Nat} (hq : (q : Int) < K 390) : qS (fX12_seldomOf F (q : Int) D) (fun x => x.1 = (kSel K (kTimes K q).toNat : Int) ∧ zfm [123, 124, 125] [] D x.2) := by
  have h0 := hk.1
  have hT := kTerms hk
  have h392 := hk.2.2.2.2.2.1.1
  have hti := kTimes_in hk q
  have tm : ∀ D0 : zDa, D0 93 = K → fX12_term F 0 D0 = some (K 100, D0) := fun D0 h => by rw [pX12_term (w := 0) (k := 0) rfl (by omega), h]
  unfold fX12_seldomOf
  have eq : fX12_questions F D = some (K 390, D) := by unfold fX12_questions; rw [hK]
  refine qS_step eq (qS_leti (qS_step (tm D hK) ?_))
  dsimp only
  rw [hK]
  by_cases hlt : K 100 < K 390
  · refine qS_pos hlt ?_
    obtain ⟨lie, hlie⟩ : ∃ x : Nat, K 100 = (x : Int) := ⟨(K 100).toNat, by omega⟩
    obtain ⟨rest, hrest⟩ : ∃ x : Nat, K 390 - K 100 = (x : Int) := ⟨(K 390 - K 100).toNat, by omega⟩
    obtain ⟨all, hall⟩ : ∃ x : Nat, K 390 = (x : Int) := ⟨(K 390).toNat, by omega⟩
    obtain ⟨y, hy⟩ : ∃ x : Nat, K 392 = (x : Int) := ⟨(K 392).toNat, by omega⟩
    obtain ⟨t, het⟩ : ∃ x : Nat, kTimes K q = (x : Int) := ⟨(kTimes K q).toNat, by omega⟩
    rw [het, show ((t : Int)).toNat = t by omega]
    have esel : kSel K t = 1000000 * kTs y lie rest (t + 1) / all ^ y := by
      unfold kSel
      rw [if_pos hlt, hlie, hall, hy, ← hlie, ← hall, hrest, hlie, hall]
      rfl
    have P := pow20 (all := all) (y := y) (by omega) (by omega)
    have sle : ∀ s, kTs y lie rest s ≤ all ^ y := fun s => by
      have := kTs_le lie rest y s
      rw [show lie + rest = all by omega] at this
      exact this
    have tle : ∀ j, kT1 y lie rest j ≤ all ^ y := fun j => by
      have := kT1_le y lie rest j
      rw [show lie + rest = all by omega] at this
      exact this
    have nb := n20b
    have ppos : 0 < all ^ y := Nat.pow_pos (by omega)
    -- bounds: everything stays below (2 ^ 40) * (20 ^ 40) * 1000000
    have big : ∀ x z w : Nat, x ≤ 2 ^ 40 → z ≤ all ^ y → w ≤ 1000000 → x * z * w < 100000000 ^ 12 := fun x z w h1 h2 h3 =>
      Nat.lt_of_le_of_lt (Nat.mul_le_mul (Nat.mul_le_mul h1 (Nat.le_trans h2 P)) h3) nb
    have p40 : 1 ≤ 2 ^ 40 := Nat.one_le_two_pow
    clear nb
    rw [hall, hy]
    refine qS_call (pX12_be (F := F) (a := 123) (v := 0) (by omega) (gk_123 hG) (gl_123 hG) (by omega)) (fun D7 ⟨r7, f7⟩ => ?_)
    refine qloop1 (fun v D1 => ∃ j : Nat, v = (j : Int) ∧ j ≤ t + 1 ∧ rV D1 123 100000000 12 (kTs y lie rest j) ∧ zfm [123, 124, 125] [] D D1) (fun v _ => (100 - v).toNat) ?_ ⟨0, rfl, by omega, r7, f7.mono (by decide) (by decide)⟩ (zfu_gt (by omega))
    intro k37 v D1 ⟨j, ev, hj, r1, f1⟩ ih
    subst ev
    have K1 : D1 93 = K := by rw [f1.1 93 (by decide) (by decide)]; exact hK
    unfold fX12_seldomOf_37
    refine qS_call (pX12_drawnTimes K1 hk (q := q) (by omega)) (fun x hx => ?_)
    subst hx
    dsimp only
    rw [het]
    refine qS_ite (fun c1 => ?_) (fun c1 => ?_)
    · have : j = t + 1 := by omega
      subst this
      refine qS_call (pX12_be (F := F) (a := 124) (v := 1) (by omega) (gk_124 hG) (gl_124 hG) (by omega)) (fun D11 ⟨r11, f11⟩ => ?_)
      have b1 := big 1 (all ^ y) 1 p40 (Nat.le_refl _) (by omega)
      rw [Nat.one_mul] at b1
      refine qS_call (pX12_makes (F := F) (a := 124) (y := all) (t := y) (by omega) (gk_124 hG) (gl_124 hG) r11 (by omega) (by omega) b1) (fun D13 ⟨r13, f13⟩ => ?_)
      have s13 : rV D13 123 100000000 12 (kTs y lie rest (t + 1)) := r1.fr (by rw [f13.1 123 (by decide) (by decide), f11.1 123 (by decide) (by decide)])
      have b2 := big 1 (kTs y lie rest (t + 1)) 1000000 p40 (sle _) (by omega)
      rw [Nat.one_mul, Nat.mul_comm] at b2
      refine qS_call (pX12_makes (F := F) (a := 123) (y := 1000000) (t := 1) (by omega) (gk_123 hG) (gl_123 hG) s13 (by omega) (by omega) (by rw [Nat.pow_one]; exact b2)) (fun D15 ⟨r15, f15⟩ => ?_)
      rw [Nat.pow_one] at r15
      rw [Nat.mul_one] at r13
      have t15 : rV D15 124 100000000 12 (all ^ y) := r13.fr (f15.1 124 (by decide) (by decide))
      have f15' : zfm [123, 124, 125] [] D D15 := ((f1.trans (f11.mono (by decide) (by decide))).trans (f13.mono (by decide) (by decide))).trans (f15.mono (by decide) (by decide))
      have sin := kSel_in hk t
      -- the search
      refine qloop2 (fun v4 v5 D2 => ∃ lo hi : Nat, v4 = (lo : Int) ∧ v5 = (hi : Int) ∧ hi ≤ 1000000 ∧ lo ≤ kSel K t ∧ kSel K t ≤ hi ∧ rV D2 123 100000000 12 (1000000 * kTs y lie rest (t + 1)) ∧ rV D2 124 100000000 12 (all ^ y) ∧ zfm [123, 124, 125] [] D D2) (fun v4 v5 _ => min (v5 - v4).toNat 999999) ?_ ⟨0, 1000000, rfl, rfl, by omega, Nat.zero_le _, sin, r15, t15, f15'⟩ (zfu_gt (by omega))
      intro k178 v4 v5 D2 ⟨lo, hi, e4, e5, hh, hlo, hhi, s2, t2, f2⟩ ih2
      subst e4 e5
      unfold fX12_seldomOf_178
      refine qS_ite (fun c2 => ?_) (fun c2 => ?_)
      · refine qS_chk (by omega) (qS_leti ?_)
        have em : Int.tdiv ((lo : Int) + (hi : Int) + 1) 2 = (((lo + hi + 1) / 2 : Nat) : Int) := by
          rw [show (lo : Int) + (hi : Int) + 1 = ((lo + hi + 1 : Nat) : Int) by omega]; rfl
        rw [em]
        generalize hm : (lo + hi + 1) / 2 = m
        have mb : lo < m ∧ m ≤ hi := by omega
        refine qloop1 (fun v7 D3 => ∃ i : Nat, v7 = (i : Int) ∧ i ≤ 12 ∧ (∀ x, x < i → D3 125 x = D2 124 x) ∧ zfm [125] [] D2 D3) (fun v7 _ => (100 - v7).toNat) ?_ ⟨0, rfl, by omega, fun x hx => absurd hx (by omega), zfm.rfl' _ _ D2⟩ (zfu_gt (by omega))
        intro k199 v7 D3 ⟨i, e7, hi12, c3, f3⟩ ih3
        subst e7
        unfold fX12_seldomOf_199
        refine qS_ite (fun c4 => ?_) (fun c4 => ?_)
        · refine qS_chk (by omega) (qS_leti (qS_chk (by omega) (ih3 _ _ ⟨i + 1, by omega, by omega, fun x hx => ?_, f3.wr (by decide) (by decide)⟩ (by omega))))
          rw [show ((i : Int)).toNat = i by omega, zwr_at]
          by_cases e : x = i
          · rw [if_pos e, e, f3.1 124 (by decide) (by decide)]
          · rw [if_neg e]; exact c3 x (by omega)
        · have : i = 12 := by omega
          subst this
          have s3 : rV D3 125 100000000 12 (all ^ y) := by
            obtain ⟨d, g1, g2⟩ := t2
            exact ⟨d, fun x hx => by rw [c3 x hx]; exact g1 x hx, g2⟩
          have b3 := big 1 (all ^ y) m p40 (Nat.le_refl _) (by omega)
          rw [Nat.one_mul, Nat.mul_comm] at b3
          refine qS_call (pX12_makes (F := F) (a := 125) (y := m) (t := 1) (by omega) (gk_125 hG) (gl_125 hG) s3 (by omega) (by omega) (by rw [Nat.pow_one]; exact b3)) (fun D19 ⟨r19, f19⟩ => ?_)
          rw [Nat.pow_one] at r19
          have f39 := f3.trans f19
          have o19 : rV D19 123 100000000 12 (1000000 * kTs y lie rest (t + 1)) := s2.fr (f39.1 123 (by decide) (by decide))
          have t19 : rV D19 124 100000000 12 (all ^ y) := t2.fr (f39.1 124 (by decide) (by decide))
          have fe : zfm [123, 124, 125] [] D D19 := f2.trans (f39.mono (by decide) (by decide))
          refine qS_call (pX12_order (F := F) (gk_125 hG) (gl_125 hG) (gk_123 hG) (gl_123 hG) r19 o19) (fun x ⟨hx2, hx⟩ => ?_)
          obtain ⟨x1, D21⟩ := x
          dsimp only at hx2 hx ⊢
          subst hx2
          have iff : m * all ^ y ≤ 1000000 * kTs y lie rest (t + 1) ↔ m ≤ kSel K t := by
            rw [esel]; exact (Nat.le_div_iff_mul_le ppos).symm
          rcases hx with ⟨hx, hc⟩ | ⟨hx, hc⟩
          · refine qS_pos hx (qS_chk (by omega) (qS_leti ?_))
            unfold fX12_seldomOf_263
            have : ¬ m ≤ kSel K t := fun g => by have := iff.2 g; omega
            exact ih2 _ _ _ ⟨lo, m - 1, rfl, by omega, by omega, hlo, by omega, o19, t19, fe⟩ (by omega)
          · refine qS_neg (by omega) ?_
            unfold fX12_seldomOf_263
            exact ih2 _ _ _ ⟨m, hi, rfl, rfl, hh, iff.1 hc, hhi, o19, t19, fe⟩ (by omega)
      · exact qS_ret ⟨by dsimp only; omega, f2⟩
    · have hjt : j ≤ t := by omega
      refine qS_call (pX12_be (F := F) (a := 125) (v := 1) (by omega) (gk_125 hG) (gl_125 hG) (by omega)) (fun D24 ⟨r24, f24⟩ => ?_)
      have s24 : rV D24 123 100000000 12 (kTs y lie rest j) := r1.fr (f24.1 123 (by decide) (by decide))
      refine qloop1 (fun v5 D2 => ∃ e : Nat, v5 = (e : Int) + 1 ∧ e ≤ j ∧ rV D2 125 100000000 12 (kC (y - j + e) e) ∧ rV D2 123 100000000 12 (kTs y lie rest j) ∧ zfm [123, 124, 125] [] D D2) (fun v5 _ => (100 - v5).toNat) ?_ ⟨0, rfl, by omega, by rw [kC_0]; exact r24, s24, f1.trans (f24.mono (by decide) (by decide))⟩ (zfu_gt (by omega))
      intro k58 v5 D2 ⟨e, ev, he, r2, s2, f2⟩ ih2
      subst ev
      have K2 : D2 93 = K := by rw [f2.1 93 (by decide) (by decide)]; exact hK
      unfold fX12_seldomOf_58
      refine qS_ite (fun c2 => ?_) (fun c2 => ?_)
      · have : e = j := by omega
        subst this
        rw [show y - e + e = y by omega] at r2
        have ck : kC y e ≤ 2 ^ 40 := Nat.le_trans (kC_pow y e) (Nat.pow_le_pow_right (by omega) (by omega))
        refine qS_step (tm D2 K2) ?_
        dsimp only
        rw [hlie]
        have pw1 : lie ^ e ≤ all ^ y := by
          have := powm (lie := lie) (rest := rest) (all := all) (j := e) (e := 0) (y := y) (by omega) (by omega) (by omega) (by omega)
          rw [Nat.pow_zero, Nat.mul_one] at this; exact this
        have b3 := big (kC y e) (lie ^ e) 1 ck pw1 (by omega)
        rw [Nat.mul_one, Nat.mul_comm] at b3
        refine qS_call (pX12_makes (F := F) (a := 125) (y := lie) (t := e) (by omega) (gk_125 hG) (gl_125 hG) r2 (by omega) (by omega) b3) (fun D28 ⟨r28, f28⟩ => ?_)
        have f28' := f2.trans (f28.mono (bs := [123, 124, 125]) (js := []) (by decide) (by decide))
        have K28 : D28 93 = K := by rw [f28'.1 93 (by decide) (by decide)]; exact hK
        refine qS_step (tm D28 K28) ?_
        dsimp only
        rw [hlie, show (all : Int) - (lie : Int) = (rest : Int) by omega, show (y : Int) - (e : Int) = ((y - e : Nat) : Int) by omega]
        refine qS_chk (by omega) ?_
        have eT : rest ^ (y - e) * (lie ^ e * kC y e) = kT1 y lie rest e := by unfold kT1; ac_rfl
        have tb := tle e
        have b4 := big 1 (kT1 y lie rest e) 1 p40 tb (by omega)
        rw [Nat.one_mul, Nat.mul_one] at b4
        refine qS_call (pX12_makes (F := F) (a := 125) (y := rest) (t := y - e) (by omega) (gk_125 hG) (gl_125 hG) r28 (by omega) (by omega) (by rw [eT]; exact b4)) (fun D32 ⟨r32, f32⟩ => ?_)
        rw [eT] at r32
        have s32 : rV D32 123 100000000 12 (kTs y lie rest e) := s2.fr (by rw [f32.1 123 (by decide) (by decide), f28.1 123 (by decide) (by decide)])
        have sb := sle (e + 1)
        have b5 := big 1 (kTs y lie rest (e + 1)) 1 p40 sb (by omega)
        rw [Nat.one_mul, Nat.mul_one, kTs_s] at b5
        refine qS_call (pX12_adds (F := F) (a := 123) (b := 125) (by omega) (by omega) (by omega) (gk_123 hG) (gl_123 hG) (gk_125 hG) (gl_125 hG) s32 r32 b5) (fun D34 ⟨r34, f34⟩ => ?_)
        exact qS_chk (by omega) (ih _ _ ⟨e + 1, by omega, by omega, by rw [kTs_s]; exact r34, (f28'.trans (f32.mono (by decide) (by decide))).trans (f34.mono (by decide) (by decide))⟩ (by omega))
      · have ck : kC (y - j + e) e ≤ 2 ^ 40 := Nat.le_trans (kC_pow _ e) (Nat.pow_le_pow_right (by omega) (by omega))
        rw [show (y : Int) - (j : Int) + ((e : Int) + 1) = ((y - j + e + 1 : Nat) : Int) by omega, show (e : Int) + 1 = ((e + 1 : Nat) : Int) by omega]
        refine qS_chk (by omega) ?_
        have b3 := big (kC (y - j + e) e) 1 (y - j + e + 1) ck (Nat.pow_pos (by omega)) (by omega)
        rw [Nat.mul_one, Nat.mul_comm] at b3
        refine qS_call (pX12_makes (F := F) (a := 125) (y := y - j + e + 1) (t := 1) (by omega) (gk_125 hG) (gl_125 hG) r2 (by omega) (by omega) (by rw [Nat.pow_one]; exact b3)) (fun D36 ⟨r36, f36⟩ => ?_)
        rw [Nat.pow_one] at r36
        refine qS_call (pX12_shares1 (F := F) (a := 125) (y := e + 1) (by omega) (gk_125 hG) (gl_125 hG) r36 (by omega)) (fun D38 ⟨r38, f38⟩ => ?_)
        rw [kC_next] at r38
        refine qS_chk (by omega) (ih2 _ _ ⟨e + 1, by omega, by omega, r38, s2.fr (by rw [f38.1 123 (by decide) (by decide), f36.1 123 (by decide) (by decide)]), (f2.trans (f36.mono (by decide) (by decide))).trans (f38.mono (by decide) (by decide))⟩ (by omega))
  · refine qS_neg hlt (qS_ret ⟨?_, zfm.rfl' _ _ D⟩)
    unfold kSel
    rw [if_neg hlt]
    rfl
def kFewN (K : Nat → Int) (m : Nat) : Int := match m with
  | 0 => 40
  | m + 1 => min (kFewN K m) (kTimes K m)
theorem kFewN_s (K : Nat → Int) (m : Nat) : kFewN K (m + 1) = min (kFewN K m) (kTimes K m) := rfl
theorem kFewN_in (hk : kOk K) : ∀ m, (0 ≤ kFewN K m ∧ kFewN K m ≤ 40) ∧ (0 < m → kFewN K m ≤ K 392)
  | 0 => ⟨⟨by show (0 : Int) ≤ 40; omega, Int.le_refl _⟩, fun h => absurd h (by omega)⟩
  | m + 1 => by
    have ih := kFewN_in hk m
    have t := kTimes_in hk m
    rw [kFewN_s]
    refine ⟨by omega, fun _ => by omega⟩
def oSeldom (K : Nat → Int) (q : Int) : Int :=
  if q = -1 then (if K 390 = 0 then -1 else min 1000000 (K 390 * (kSel K (kFewN K (K 390).toNat).toNat : Int))) else if 0 ≤ q ∧ q < K 390 then (kSel K (kTimes K q.toNat).toNat : Int) else -1
theorem pr_seldom (hK : D 93 = K) (hk : kOk K) (hG : zG F) (q : Int) : qS (fX12_seldom F q D) (fun x => x.1 = oSeldom K q ∧ zfm [123, 124, 125] [] D x.2) := by
  have h0 := hk.1
  unfold fX12_seldom oSeldom
  by_cases e : q = -1
  · rw [if_pos e, if_pos e]
    have eq : ∀ D0 : zDa, D0 93 = K → fX12_questions F D0 = some (K 390, D0) := fun D0 h => by unfold fX12_questions; rw [h]
    refine qS_step (eq D hK) ?_
    dsimp only
    by_cases e0 : K 390 = 0
    · rw [if_pos e0, if_pos e0]; exact qS_ret ⟨rfl, zfm.rfl' _ _ D⟩
    · rw [if_neg e0, if_neg e0]
      refine qloop2 (fun v2 v3 D1 => ∃ m : Nat, v3 = (m : Int) ∧ m ≤ (K 390).toNat ∧ ((m = 0 ∧ v2 = 1000000) ∨ (0 < m ∧ v2 = (kSel K (kFewN K m).toNat : Int))) ∧ zfm [123, 124, 125] [] D D1) (fun _ v3 _ => (100 - v3).toNat) ?_ ⟨0, rfl, by omega, Or.inl ⟨rfl, rfl⟩, zfm.rfl' _ _ D⟩ (zfu_gt (by omega))
      intro k37 v2 v3 D1 ⟨m, e3, hm, hv, f1⟩ ih
      subst e3
      have K1 : D1 93 = K := by rw [f1.1 93 (by decide) (by decide)]; exact hK
      unfold fX12_seldom_37
      refine qS_step (eq D1 K1) ?_
      dsimp only
      refine qS_ite (fun c => ?_) (fun c => ?_)
      · refine qS_call (pX12_seldomOf K1 hk hG (q := m) c) (fun x ⟨hx, f2⟩ => ?_)
        obtain ⟨x1, D2⟩ := x
        dsimp only at hx f2 ⊢
        rw [pLess]
        refine qS_step rfl (qS_chk (by omega) (ih _ _ _ ⟨m + 1, by omega, by omega, Or.inr ⟨by omega, ?_⟩, f1.trans f2⟩ (by omega)))
        dsimp only
        rw [hx, kFewN_s]
        have t := kTimes_in hk m
        have fw := kFewN_in hk m
        have h392 := hk.2.2.2.2.2.1.1
        rcases hv with ⟨rfl, hv⟩ | ⟨hm0, hv⟩
        · have : kFewN K 0 = 40 := rfl
          rw [hv, this, Int.min_eq_right (by omega : kTimes K 0 ≤ 40)]
          have := kSel_in hk (kTimes K 0).toNat
          omega
        · rw [hv]
          rcases Int.le_total (kFewN K m) (kTimes K m) with g | g
          · rw [Int.min_eq_left g]
            have := kSel_mono (K := K) (s := (kFewN K m).toNat) (t := (kTimes K m).toNat) (by omega)
            omega
          · rw [Int.min_eq_right g]
            have := kSel_mono (K := K) (s := (kTimes K m).toNat) (t := (kFewN K m).toNat) (by omega)
            omega
      · have : m = (K 390).toNat := by omega
        subst this
        refine qS_step (eq D1 K1) ?_
        dsimp only
        rcases hv with ⟨h1, _⟩ | ⟨_, hv⟩
        · omega
        · have sin := kSel_in hk (kFewN K (K 390).toNat).toNat
          have mb := mul2b (a := (kSel K (kFewN K (K 390).toNat).toNat : Int)) (b := K 390) (A := 1000000) (B := 20) (by omega) h0
          rw [hv]
          refine qS_chk (by omega) ?_
          rw [pLess]
          exact qS_step rfl (qS_ret ⟨by dsimp only; rw [Int.mul_comm], f1⟩)
  · rw [if_neg e, if_neg e]
    by_cases hq : 0 ≤ q ∧ q < K 390
    · rw [if_pos hq]
      refine qS_step (isQ_t hK hk hq) (qS_neg (by omega) ?_)
      obtain ⟨m, rfl⟩ : ∃ m : Nat, q = (m : Int) := ⟨q.toNat, by omega⟩
      refine qS_call (pX12_seldomOf hK hk hG (q := m) hq.2) (fun x hx => ?_)
      exact qS_ret hx
    · rw [if_neg hq]
      exact qS_step (isQ_f hK hk hq) (qS_pos rfl (qS_ret ⟨rfl, zfm.rfl' _ _ D⟩))
theorem pc_seldom {Z : Nat → Prop} (h : qSt F D Z 1 K) (hG : zG F) (hZ : ∀ a, Z a → 126 ≤ a) (q : Int) : qS (fX11_seldom F q D) (fun x => x.1 = oSeldom K q ∧ zfr [87, 88] D x.2) := by
  have hk := h.1
  have h0 := hk.1
  have h392 := hk.2.2.2.2.2.1.1
  unfold fX11_seldom oSeldom
  by_cases e : q = -1
  · rw [if_pos e, if_pos e]
    unfold fX11_seldom_16
    rw [h.2.1]
    by_cases e0 : K 390 = 0
    · rw [if_pos e0, if_pos e0]; exact qS_ret ⟨rfl, zfr.rfl' _ _⟩
    · rw [if_neg e0, if_neg e0, if_pos e]
      refine qloop2 (fun v2 v3 D1 => ∃ m : Nat, v3 = (m : Int) ∧ m ≤ (K 390).toNat ∧ v2 = kFewN K m ∧ D1 = D) (fun _ v3 _ => (100 - v3).toNat) ?_ ⟨0, rfl, by omega, rfl, rfl⟩ (zfu_gt (by omega))
      intro k58 v2 v3 D1 ⟨m, e3, hm, hv, eD⟩ ih
      subst e3 eD hv
      unfold fX11_seldom_58
      rw [h.2.1]
      refine qS_ite (fun c => ?_) (fun c => ?_)
      · refine qS_call (pX9_timesDrawn h (q := m) (by omega)) (fun x hx => ?_)
        subst hx
        dsimp only
        rw [pMinI]
        exact qS_step rfl (qS_chk (by omega) (ih _ _ _ ⟨m + 1, by omega, by omega, by rw [kFewN_s], rfl⟩ (by omega)))
      · have : m = (K 390).toNat := by omega
        subst this
        have fw := kFewN_in hk (K 390).toNat
        have fw2 := fw.2 (by omega)
        have nm := pX5_noMoreThan (F := F) h hG hZ (t := (kFewN K (K 390).toNat).toNat) (by omega)
        rw [show (((kFewN K (K 390).toNat).toNat : Nat) : Int) = kFewN K (K 390).toNat by omega] at nm
        refine qS_call nm (fun x ⟨hx, f2⟩ => ?_)
        obtain ⟨x1, D2⟩ := x
        dsimp only at hx f2 ⊢
        have sin := kSel_in hk (kFewN K (K 390).toNat).toNat
        have mb := mul2b (a := K 390) (b := (kSel K (kFewN K (K 390).toNat).toNat : Int)) (A := 20) (B := 1000000) h0 (by omega)
        rw [hx]
        refine qS_chk (by omega) ?_
        rw [pMinI]
        exact qS_step rfl (qS_ret ⟨rfl, f2⟩)
  · rw [if_neg e, if_neg e]
    refine qS_step (pX9_has q) ?_
    rw [h.2.1]
    by_cases hq : 0 ≤ q ∧ q < K 390
    · rw [if_pos hq, if_pos hq]
      refine qS_neg (by omega) ?_
      unfold fX11_seldom_16
      rw [h.2.1, if_neg (by omega), if_neg e]
      obtain ⟨m, rfl⟩ : ∃ m : Nat, q = (m : Int) := ⟨q.toNat, by omega⟩
      have t := kTimes_in hk m
      refine qS_call (pX9_timesDrawn h (q := m) (by omega)) (fun x hx => ?_)
      subst hx
      dsimp only
      have nm := pX5_noMoreThan (F := F) h hG hZ (t := (kTimes K m).toNat) (by omega)
      rw [show (((kTimes K m).toNat : Nat) : Int) = kTimes K m by omega] at nm
      refine qS_call nm (fun x hx => ?_)
      exact qS_ret hx
    · rw [if_neg hq, if_neg hq]
      exact qS_pos rfl (qS_ret ⟨rfl, zfr.rfl' _ _⟩)
end SO
