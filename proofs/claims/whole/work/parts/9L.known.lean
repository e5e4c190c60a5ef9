/-! ===== odds by what is known ===== -/
theorem kTerms {K : Nat → Int} (hk : kOk K) : (1 ≤ K 100 ∧ K 100 ≤ 10) ∧ (1 ≤ K 101 ∧ K 101 ≤ 3) ∧ (1 ≤ K 102 ∧ K 102 ≤ 3) ∧ (0 ≤ K 103 ∧ K 103 ≤ 100) ∧ (0 ≤ K 104 ∧ K 104 ≤ 100) ∧ (1 ≤ K 105 ∧ K 105 ≤ 20) ∧ (0 ≤ K 106 ∧ K 106 ≤ 16) :=
  ⟨hk.2.2.1 0 (by omega), hk.2.2.1 1 (by omega), hk.2.2.1 2 (by omega), hk.2.2.1 3 (by omega), hk.2.2.1 4 (by omega), hk.2.2.1 5 (by omega), hk.2.2.1 6 (by omega)⟩
/-- the class's lot holds ways s of o, in a common measure; the reference's holds them -/
def odC (D : zDa) (s : Nat → Int) (o : Nat) : Prop := ∃ t : Nat, 0 < t ∧ (∀ m, m < 4 → D 59 m = (t : Int) * s m) ∧ D 52 7 = (t : Int) * (o : Int) ∧ t * o ≤ 3695120000000000
def odR (D : zDa) (s : Nat → Int) (o : Nat) : Prop := (∀ m, m < 4 → D 108 m = s m) ∧ D 91 30 = (o : Int)
def odOk (s : Nat → Int) (o : Nat) : Prop := (∀ m, m < 4 → 0 ≤ s m) ∧ s 0 + s 1 + s 2 + s 3 ≤ (o : Int) ∧ 0 < o ∧ o ≤ 3695120000000000
def kOne (K : Nat → Int) (as level : Int) (lv q : Nat) : Nat := if K (5 * q + 4) = 0 ∧ (if (q : Int) = as then level else K (5 * q + 2)) = (lv : Int) then 1 else 0
def kBn (K : Nat → Int) (as level : Int) (j lv : Nat) : Nat := match j with
  | 0 => 0
  | j + 1 => kBn K as level j lv + kOne K as level lv j
def kQn (K : Nat → Int) (as level : Int) (j lv : Nat) : Nat := match j with
  | 0 => 0
  | j + 1 => kQn K as level j lv + kOne K as level lv j * (K (5 * j + 3)).toNat
theorem kOne_in (K : Nat → Int) (as level : Int) (lv q : Nat) : kOne K as level lv q ≤ 1 := by
  unfold kOne
  generalize (if (q : Int) = as then level else K (5 * q + 2)) = x
  split <;> omega
theorem kOne_sum (K : Nat → Int) (as level : Int) (q : Nat) : kOne K as level 0 q + kOne K as level 1 q + kOne K as level 2 q ≤ 1 := by
  unfold kOne
  generalize (if (q : Int) = as then level else K (5 * q + 2)) = x
  by_cases h0 : K (5 * q + 4) = 0 ∧ x = ((0 : Nat) : Int)
  · rw [if_pos h0, if_neg (by omega), if_neg (by omega)]; omega
  · rw [if_neg h0]
    by_cases h1 : K (5 * q + 4) = 0 ∧ x = ((1 : Nat) : Int)
    · rw [if_pos h1, if_neg (by omega)]; omega
    · rw [if_neg h1]; split <;> omega
theorem kBn_sum (K : Nat → Int) (as level : Int) (j : Nat) : kBn K as level j 0 + kBn K as level j 1 + kBn K as level j 2 ≤ j := by
  induction j with
  | zero => exact Nat.le_refl _
  | succ j ih =>
    have := kOne_sum K as level j
    simp only [kBn]
    omega
theorem kBn_le (K : Nat → Int) (as level : Int) (j lv : Nat) : kBn K as level j lv ≤ j := by
  induction j with
  | zero => exact Nat.le_refl _
  | succ j ih =>
    have := kOne_in K as level lv j
    simp only [kBn]
    omega
theorem kQn_le {K : Nat → Int} {as level : Int} {j lv : Nat} (h : ∀ q : Nat, q < j → 0 ≤ K (5 * q + 3) ∧ K (5 * q + 3) ≤ 1) : kQn K as level j lv ≤ kBn K as level j lv := by
  induction j with
  | zero => exact Nat.le_refl _
  | succ j ih =>
    have h1 := ih (fun q hq => h q (by omega))
    have h2 := h j (by omega)
    have h3 : kOne K as level lv j * (K (5 * j + 3)).toNat ≤ kOne K as level lv j * 1 := Nat.mul_le_mul_left _ (by omega)
    simp only [kBn, kQn]
    omega
section KN
variable {F : zFs} {D : zDa}
theorem pX2_put {s : Nat} {x : Int} (hs : s < 3) (h6 : 0 ≤ D 56 s ∧ D 56 s ≤ 1000) (h7 : 0 ≤ D 57 s ∧ D 57 s ≤ 1000) (hx : 0 ≤ x ∧ x ≤ 1) : fX2_put F (s : Int) x D = some (zwr (zwr D 56 s (D 56 s + 1)) 57 s (D 57 s + x)) := by
  unfold fX2_put
  rw [if_neg (by omega), if_pos (by omega), show ((s : Int)).toNat = s by omega, if_pos (by omega)]
  simp only [zlet]
  rw [zwr_row (a := 56) (b := 57) (by omega), if_pos (by omega)]
theorem pX2_empty (hG : zG F) : qS (fX2_empty F D) (fun D' => (∀ lv, lv < 3 → D' 56 lv = 0) ∧ (∀ lv, lv < 3 → D' 57 lv = 0) ∧ zfr [56, 57] D D') := by
  unfold fX2_empty
  refine qS_call (pFill_53178 0 (gk_56 hG) (gl_56 hG) (by omega)) (fun D1 ⟨a1, f1⟩ => ?_)
  refine qS_call (pFill_53178 0 (gk_57 hG) (gl_57 hG) (by omega)) (fun D2 ⟨a2, f2⟩ => ?_)
  exact qS_ret ⟨fun lv h => by rw [f2 56 (by decide)]; exact a1 lv h, a2, (f1.mono (by decide)).trans (f2.mono (by decide))⟩
/-- what is known, as counts -/
def kSk (K : Nat → Int) (as level : Int) : Nat → Int := kOd (fun lv => kChance K (lv : Int)) (kBn K as level (K 390).toNat) (kQn K as level (K 390).toNat) (K 100).toNat (K 101).toNat (K 103).toNat
def kOk' (K : Nat → Int) (as level : Int) : Nat := kWh (kBn K as level (K 390).toNat) (kQn K as level (K 390).toNat) (K 100).toNat (K 101).toNat (K 103).toNat
theorem kChs (K : Nat → Int) : ∀ lv : Nat, lv < 3 → 0 ≤ kChance K (lv : Int) ∧ kChance K (lv : Int) ≤ 100 := fun lv hl => kChance_in (by omega)
theorem odOk_of {ch : Nat → Int} {B Q : Nat → Nat} {lie A lean : Nat} (hB : B 0 + B 1 + B 2 ≤ 20) (hQ : ∀ lv, lv < 3 → Q lv ≤ B lv) (hh : ∀ lv, lv < 3 → 0 ≤ ch lv ∧ ch lv ≤ 100) (hl : 1 ≤ lie ∧ lie ≤ 10) (hA : A ≤ 3) (hn : lean ≤ 100) : odOk (kOd ch B Q lie A lean) (kWh B Q lie A lean) := by
  refine ⟨fun m hm => kOd_nn hB hQ hh hl.2 hA hn hm, kOd_sum hQ hh hl.1 hn, kWh_pos hl.1, ?_⟩
  have h := kWh_max (lean := lean) hB hQ hl.2 hA
  have h2 : 0 < 100 ^ (3 - min (min lie (B 0 + B 1 + B 2)) A) := Nat.pow_pos (by omega)
  exact Nat.le_trans (Nat.le_mul_of_pos_left _ h2) h
theorem odC_of {ch : Nat → Int} {B Q : Nat → Nat} {lie A lean : Nat} (hB : B 0 + B 1 + B 2 ≤ 20) (hQ : ∀ lv, lv < 3 → Q lv ≤ B lv) (hl : lie ≤ 10) (hA : A ≤ 3) (h1 : ∀ m, m < 4 → D 59 m = 100 ^ (3 - min (min lie (B 0 + B 1 + B 2)) A) * kOd ch B Q lie A lean m) (h2 : D 52 7 = 100 ^ (3 - min (min lie (B 0 + B 1 + B 2)) A) * (kWh B Q lie A lean : Int)) : odC D (kOd ch B Q lie A lean) (kWh B Q lie A lean) := by
  have e : ((100 ^ (3 - min (min lie (B 0 + B 1 + B 2)) A) : Nat) : Int) = (100 : Int) ^ (3 - min (min lie (B 0 + B 1 + B 2)) A) := by exact_mod_cast rfl
  exact ⟨100 ^ (3 - min (min lie (B 0 + B 1 + B 2)) A), Nat.pow_pos (by omega), fun m hm => by rw [h1 m hm, e], by rw [h2, e], kWh_max hB hQ hl hA⟩
theorem kKn_ok {K : Nat → Int} (hk : kOk K) (as level : Int) : kBn K as level (K 390).toNat 0 + kBn K as level (K 390).toNat 1 + kBn K as level (K 390).toNat 2 ≤ 20 ∧ ∀ lv, lv < 3 → kQn K as level (K 390).toNat lv ≤ kBn K as level (K 390).toNat lv := by
  have h0 := hk.1
  have := kBn_sum K as level (K 390).toNat
  exact ⟨by omega, fun lv _ => kQn_le (fun q hq => (hk.2.1 q (by omega)).2.2.2.1)⟩
theorem odOk_known {K : Nat → Int} (hk : kOk K) (as level : Int) : odOk (kSk K as level) (kOk' K as level) := by
  have ht := kTerms hk
  have hb := kKn_ok hk as level
  exact odOk_of hb.1 hb.2 (kChs K) (by omega) (by omega) (by omega)
theorem pX11_spreadKnown {Z : Nat → Prop} {K : Nat → Int} (h : qSt F D Z 1 K) (hG : zG F) (hZ : ∀ a, Z a → 126 ≤ a) (hLt : cLot D) {as level : Int} (hl : as = -1 ∨ (0 ≤ level ∧ level ≤ 2)) :
    qS (fX11_spreadKnown F as level D) (fun D' => odC D' (kSk K as level) (kOk' K as level) ∧ zfr [49, 50, 51, 52, 54, 55, 56, 57, 58, 59] D D') := by
  have hk := h.1
  have ht := kTerms hk
  have h0 := hk.1
  have hb := kKn_ok hk as level
  unfold fX11_spreadKnown
  refine qS_call (pX2_setChances h hG hZ) (fun D1 ⟨c1, f1⟩ => ?_)
  refine qS_call (pX2_empty hG) (fun D2 ⟨a2, b2, f2⟩ => ?_)
  have f12 : zfr [49, 50, 51, 54, 55, 56, 57] D D2 := (f1.mono (by decide)).trans (f2.mono (by decide))
  refine qloop1 (fun v D3 => ∃ j : Nat, v = (j : Int) ∧ j ≤ (K 390).toNat ∧ (∀ lv, lv < 3 → D3 56 lv = (kBn K as level j lv : Int)) ∧ (∀ lv, lv < 3 → D3 57 lv = (kQn K as level j lv : Int)) ∧ zfr [56, 57] D2 D3) (fun v _ => (100 - v).toNat) ?_ ⟨0, rfl, by omega, fun lv h => a2 lv h, fun lv h => b2 lv h, zfr.rfl' _ _⟩ (zfu_gt (by omega))
  intro kk v D3 ⟨j, ev, hj, a3, b3, f3⟩ ih
  subst ev
  have f13 : zfr [49, 50, 51, 54, 55, 56, 57] D D3 := f12.trans (f3.mono (by decide))
  have hq := h.zfr hZ f13 (by decide)
  unfold fX11_spreadKnown_20
  rw [hq.2.1]
  refine qS_ite (fun hjn => ?_) (fun hjn => ?_)
  · refine qS_chk (by omega) ?_
    have r := hq.2.2.1 j (by omega)
    have o := hk.2.1 j (by omega)
    rw [show ((j : Int)).toNat = j by omega, r.2.2.2.2]
    have put : K (5 * j + 4) = 0 → ∀ s0 : Int, s0 = (if (j : Int) = as then level else K (5 * j + 2)) → qS (fX11_spreadKnown_65 F kk as level (j : Int) s0 D3) (fun D' => odC D' (kSk K as level) (kOk' K as level) ∧ zfr [49, 50, 51, 52, 54, 55, 56, 57, 58, 59] D D') := by
      intro ho s0 e0
      have hs0 : 0 ≤ s0 ∧ s0 ≤ 2 := by
        rw [e0]; split
        · rcases hl with h | h <;> omega
        · omega
      obtain ⟨s, rfl⟩ : ∃ s : Nat, s0 = (s : Int) := ⟨s0.toNat, by omega⟩
      unfold fX11_spreadKnown_65
      refine qS_chk (by omega) ?_
      rw [show ((j : Int)).toNat = j by omega, show D3 5 j = K (5 * j + 3) from r.2.2.2.1]
      have n1 := kBn_le K as level j s
      have n2 := kQn_le (as := as) (level := level) (lv := s) (fun q hq => (hk.2.1 q (by omega)).2.2.2.1 : ∀ q : Nat, q < j → 0 ≤ K (5 * q + 3) ∧ K (5 * q + 3) ≤ 1)
      have m1 := a3 s (by omega)
      have m2 := b3 s (by omega)
      refine qS_step (pX2_put (by omega) (by omega) (by omega) o.2.2.2.1) ?_
      unfold fX11_spreadKnown_77
      refine qS_chk (by omega) (ih _ _ ⟨j + 1, by omega, by omega, fun lv hlv => ?_, fun lv hlv => ?_, (f3.wr (by decide)).wr (by decide)⟩ (by omega))
      · rw [zwr_row (by omega), zwr_at]
        simp only [kBn, kOne]
        rw [← e0]
        by_cases hls : lv = s
        · rw [if_pos hls, if_pos ⟨ho, by rw [hls]⟩, hls, m1]; omega
        · rw [if_neg hls, if_neg (by omega), a3 lv hlv]; omega
      · rw [zwr_at]
        simp only [kQn, kOne]
        rw [← e0]
        by_cases hls : lv = s
        · rw [if_pos hls, if_pos ⟨ho, by rw [hls]⟩, hls, m2]; omega
        · rw [if_neg hls, if_neg (by omega), zwr_row (by omega), b3 lv hlv]; omega
    refine qS_ite (fun ho => ?_) (fun ho => ?_)
    · refine qS_ite (fun hs => put ho _ (by rw [if_pos hs])) (fun hs => put ho _ ?_)
      rw [if_neg hs]; exact r.2.2.1
    · unfold fX11_spreadKnown_77
      refine qS_chk (by omega) (ih _ _ ⟨j + 1, by omega, by omega, fun lv hlv => ?_, fun lv hlv => ?_, f3⟩ (by omega))
      · simp only [kBn, kOne]
        rw [if_neg (by omega)]; exact a3 lv hlv
      · simp only [kQn, kOne]
        rw [if_neg (by omega), Nat.zero_mul]; exact b3 lv hlv
  · have : j = (K 390).toNat := by omega
    subst this
    have t0 := hq.2.2.2.1 0 (by omega)
    have t1 := hq.2.2.2.1 1 (by omega)
    have t3 := hq.2.2.2.1 3 (by omega)
    have e0 : D3 7 0 = (((K 100).toNat : Nat) : Int) := by rw [show D3 7 0 = K 100 from t0]; omega
    have e1 : D3 7 1 = (((K 101).toNat : Nat) : Int) := by rw [show D3 7 1 = K 101 from t1]; omega
    have e3 : D3 7 3 = (((K 103).toNat : Nat) : Int) := by rw [show D3 7 3 = K 103 from t3]; omega
    rw [e0, e1, e3]
    have fz : zfr [56, 57] D1 D3 := f2.trans f3
    refine qS_call (pX2_spread (ch := fun lv => kChance K (lv : Int)) (B := kBn K as level (K 390).toNat) (Q := kQn K as level (K 390).toNat) hG (c1.fr (fz 54 (by decide)) (fz 55 (by decide))) (hLt.fr (f13 53 (by decide))) a3 b3 hb.1 hb.2 (by omega) (by omega) (by omega)) ?_
    intro D4 ⟨g1, g2, g3⟩
    exact qS_ret ⟨odC_of hb.1 hb.2 (by omega) (by omega) g1 g2, (f13.mono (by decide)).trans (g3.mono (by decide))⟩
theorem pX12_known {K : Nat → Int} (hK : D 93 = K) (hk : kOk K) (hP : kPOk K) {as level : Int} (hl : as = -1 ∨ (0 ≤ level ∧ level ≤ 2)) :
    qS (fX12_known F as level D) (fun D' => odR D' (kSk K as level) (kOk' K as level) ∧ zfm [102, 103, 104, 105, 106, 107, 108] [18, 19, 20, 28, 29, 30] D D') := by
  have ht := kTerms hk
  have h0 := hk.1
  have hb := kKn_ok hk as level
  unfold fX12_known
  refine qS_call (pX12_laysChances hK hk hP) (fun D1 ⟨c1, f1⟩ => ?_)
  refine qloop1 (fun v D2 => ∃ j : Nat, v = (j : Int) ∧ j ≤ 3 ∧ (∀ lv, lv < j → D2 104 lv = 0 ∧ D2 105 lv = 0) ∧ zfr [104, 105] D1 D2) (fun v _ => (100 - v).toNat) ?_ ⟨0, rfl, by omega, fun lv h => absurd h (by omega), zfr.rfl' _ _⟩ (zfu_gt (by omega))
  intro kk v D2 ⟨j, ev, hj, z2, f2⟩ ih
  subst ev
  unfold fX12_known_6
  refine qS_ite (fun hj3 => ?_) (fun hj3 => ?_)
  · refine qS_chk (by omega) (qS_leti (qS_leti (qS_chk (by omega) (ih _ _ ⟨j + 1, by omega, by omega, fun lv hlv => ?_, (f2.wr (by decide)).wr (by decide)⟩ (by omega)))))
    rw [show ((j : Int)).toNat = j by omega, zwr_row (a := 105) (b := 104) (by omega), zwr_at, zwr_at, zwr_row (a := 104) (b := 105) (by omega)]
    by_cases hlj : lv = j
    · rw [if_pos hlj, if_pos hlj]; exact ⟨rfl, rfl⟩
    · rw [if_neg hlj, if_neg hlj]; exact z2 lv (by omega)
  · have : j = 3 := by omega
    subst this
    refine qloop1 (fun v D3 => ∃ j : Nat, v = (j : Int) ∧ j ≤ (K 390).toNat ∧ (∀ lv, lv < 3 → D3 104 lv = (kBn K as level j lv : Int)) ∧ (∀ lv, lv < 3 → D3 105 lv = (kQn K as level j lv : Int)) ∧ zfr [104, 105] D1 D3) (fun v _ => (100 - v).toNat) ?_ ⟨0, rfl, by omega, fun lv h => (z2 lv h).1, fun lv h => (z2 lv h).2, f2⟩ (zfu_gt (by omega))
    intro kk2 v D3 ⟨j, ev, hj, a3, b3, f3⟩ ih2
    subst ev
    have f13 : zfm [102, 103, 104, 105] [18, 19, 20] D D3 := (f1.mono (by decide) (by decide)).trans (zfm.ofr f3 (by decide) (by decide))
    have K3 : D3 93 = K := by rw [f13.1 93 (by decide) (by decide)]; exact hK
    have eq : fX12_questions F D3 = some (K 390, D3) := by unfold fX12_questions; rw [K3]
    unfold fX12_known_33
    refine qS_step eq ?_
    refine qS_ite (fun hjn => ?_) (fun hjn => ?_)
    · have o := hk.2.1 j (by omega)
      refine qS_step (pX12_isBowl (q := j) rfl (by omega)) ?_
      dsimp only
      rw [K3]
      have put : K (5 * j + 4) = 0 → ∀ s0 : Int, s0 = (if (j : Int) = as then level else K (5 * j + 2)) → qS (fX12_known_67 F kk2 as level (j : Int) s0 D3) (fun D' => odR D' (kSk K as level) (kOk' K as level) ∧ zfm [102, 103, 104, 105, 106, 107, 108] [18, 19, 20, 28, 29, 30] D D') := by
        intro ho s0 e0
        have hs0 : 0 ≤ s0 ∧ s0 ≤ 2 := by
          rw [e0]; split
          · rcases hl with h | h <;> omega
          · omega
        obtain ⟨s, rfl⟩ : ∃ s : Nat, s0 = (s : Int) := ⟨s0.toNat, by omega⟩
        have n1 := kBn_le K as level j s
        have n2 := kQn_le (as := as) (level := level) (lv := s) (fun q hq => (hk.2.1 q (by omega)).2.2.2.1 : ∀ q : Nat, q < j → 0 ≤ K (5 * q + 3) ∧ K (5 * q + 3) ≤ 1)
        have m1 := a3 s (by omega)
        have m2 := b3 s (by omega)
        unfold fX12_known_67
        rw [show ((s : Int)).toNat = s by omega]
        refine qS_chk (by omega) (qS_leti ?_)
        refine qS_step (pX12_factOf (q := j) (k := 3) rfl rfl (by omega)) ?_
        dsimp only
        rw [zwr_row (a := 104) (b := 93) (by omega), zwr_row (a := 104) (b := 105) (by omega), K3]
        refine qS_chk (by omega) (qS_leti ?_)
        unfold fX12_known_96
        refine qS_chk (by omega) (ih2 _ _ ⟨j + 1, by omega, by omega, fun lv hlv => ?_, fun lv hlv => ?_, (f3.wr (by decide)).wr (by decide)⟩ (by omega))
        · rw [zwr_row (by omega), zwr_at]
          simp only [kBn, kOne]
          rw [← e0]
          by_cases hls : lv = s
          · rw [if_pos hls, if_pos ⟨ho, by rw [hls]⟩, hls, m1]; omega
          · rw [if_neg hls, if_neg (by omega), a3 lv hlv]; omega
        · rw [zwr_at]
          simp only [kQn, kOne]
          rw [← e0]
          by_cases hls : lv = s
          · rw [if_pos hls, if_pos ⟨ho, by rw [hls]⟩, hls, m2]; omega
          · rw [if_neg hls, if_neg (by omega), zwr_row (by omega), b3 lv hlv]; omega
      by_cases ho : K (5 * j + 4) = 0
      · rw [if_pos ho]
        refine qS_neg (by omega) ?_
        refine qS_ite (fun hs => put ho _ (by rw [if_pos hs])) (fun hs => ?_)
        refine qS_step (pX12_factOf (q := j) (k := 2) rfl rfl (by omega)) ?_
        exact put ho _ (by rw [if_neg hs, K3])
      · rw [if_neg ho]
        refine qS_pos rfl ?_
        unfold fX12_known_96
        refine qS_chk (by omega) (ih2 _ _ ⟨j + 1, by omega, by omega, fun lv hlv => ?_, fun lv hlv => ?_, f3⟩ (by omega))
        · simp only [kBn, kOne]
          rw [if_neg (by omega)]; exact a3 lv hlv
        · simp only [kQn, kOne]
          rw [if_neg (by omega), Nat.zero_mul]; exact b3 lv hlv
    · have : j = (K 390).toNat := by omega
      subst this
      refine qS_step (pX12_term (k := 3) rfl (by omega)) ?_
      dsimp only
      rw [K3, show K (100 + 3) = (((K 103).toNat : Nat) : Int) by show K 103 = _; omega]
      refine qS_call (pX12_odds (K := K) (ch := fun lv => kChance K (lv : Int)) (B := kBn K as level (K 390).toNat) (Q := kQn K as level (K 390).toNat) (lie := (K 100).toNat) (A := (K 101).toNat) K3 (c1.fr (f3 103 (by decide))) a3 b3 hb.1 hb.2 (by omega) (by omega) (by omega) (by omega) (by omega)) ?_
      intro D4 ⟨g1, g2, _, g3⟩
      exact qS_ret ⟨⟨g1, g2⟩, (f13.mono (by decide) (by decide)).trans (g3.mono (by decide) (by decide))⟩
end KN
