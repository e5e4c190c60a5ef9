/-! ===== plans hang on prices and terms alone ===== -/
section CG
variable {K K' : Nat → Int}
theorem kCo_cg (h : eP K K') {q : Nat} (hq : q < 20) (l e : Nat) : kCo K' q l e = kCo K q l e := by
  unfold kCo; rw [kTakes_cg h hq, kTakes_cg h hq]
theorem kHb_cg (h : eP K K') {q : Nat} (hq : q < 20) (r : Nat) : kHb K' q r = kHb K q r := by
  unfold kHb; rw [h.2.1 (5 * q) (by omega) (by omega)]
theorem kKw_cg (h : eP K K') {q : Nat} (hq : q < 20) (r : Nat) : kKw K' q r = kKw K q r := by
  unfold kKw; rw [h.2.1 (5 * q) (by omega) (by omega)]
theorem kLe_cg (h : eP K K') {n : Nat} (hn : n ≤ 20) : ∀ m, m ≤ n → kLe K' n m = kLe K n m
  | 0, _ => rfl
  | m + 1, hm => by
    have ih := kLe_cg h hn m (by omega)
    show kLeS K' (n - (m + 1)) (kLe K' n m) = kLeS K (n - (m + 1)) (kLe K n m)
    rw [ih]
    have hq : n - (m + 1) < 20 := by omega
    funext x y z
    unfold kLeS
    rw [h.2.1 (5 * (n - (m + 1)) + 4) (by omega) (by omega), kHb_cg h hq, kKw_cg h hq, kCo_cg h hq, kCo_cg h hq]
theorem kBowlN_cg (h : eP K K') : ∀ n, n ≤ 20 → kBowlN K' n = kBowlN K n
  | 0, _ => rfl
  | n + 1, hn => by rw [kBowlN_s, kBowlN_s, kBowlN_cg h n (by omega), h.2.1 (5 * n + 4) (by omega) (by omega)]
theorem kBowl_cg (hk : kOk K) (h : eP K K') : kBowl K' = kBowl K := by
  have h0 := hk.1
  unfold kBowl; rw [h.1, kBowlN_cg h _ (by omega)]
theorem kTm_cg (h : eP K K') {N : Nat} {bq : Nat → Nat} (hb : ∀ i, i < N → bq i < 20) : ∀ m, m ≤ N → kTm K' N bq m = kTm K N bq m
  | 0, _ => rfl
  | m + 1, hm => by
    have ih := kTm_cg h hb m (by omega)
    have hq := hb (N - (m + 1)) (by omega)
    show kLeB K' (bq (N - (m + 1))) (kTm K' N bq m) = kLeB K (bq (N - (m + 1))) (kTm K N bq m)
    rw [ih]
    funext x y z
    unfold kLeB
    rw [kHb_cg h hq, kKw_cg h hq, kCo_cg h hq, kCo_cg h hq]
theorem kNm_cg {P P' : Int → Prop} {g g' kb b : Nat → Int} {i : Nat} (h : kNm P g i kb b) (hg : ∀ j, j < i → g' j = g j) (hP : ∀ x, P x → P' x) : kNm P' g' i kb b := by
  obtain ⟨h1, h2, h3, h4, h5, h6, M, h7, h8⟩ := h
  refine ⟨h1, fun j hj hne => by rw [hg j hj]; exact h2 j hj hne, fun j j' hj hj' hne => by rw [hg j hj, hg j' hj']; exact h3 j j' hj hj' hne, fun j hj e hp => by rw [hg j hj] at hp ⊢; exact hP _ (h4 j hj e hp), h5, h6, M, h7, fun k => ?_⟩
  rw [h8 k]
  constructor
  · intro ⟨j, hj, a, d⟩; exact ⟨j, hj, a, by rw [hg j hj]; exact d⟩
  · intro ⟨j, hj, a, d⟩; exact ⟨j, hj, a, by rw [← hg j hj]; exact d⟩
theorem cHr.keep {F F' : zFs} {D D' : zDa} {N r : Nat} {bq : Nat → Nat} (hk : kOk K) (h : cHr F D K N bq r) (e : eP K K') (h60 : D' 60 = D 60) (hr : ∀ a, 61 ≤ a → a ≤ 65 → D' a = D a) (hrr : D' r = D r) (hF : F' r = F r) : cHr F' D' K' N bq r := by
  have h0 := hk.1
  obtain ⟨⟨b1, b2⟩, ⟨s1, s2, s3, s4, s5⟩, h11, hl, hc⟩ := h
  have hb : ∀ i, i < N → bq i < 20 := fun i hi => by have := (b2 i hi).1; omega
  have g5 : ∀ i, i < N → K' (5 * bq i) = K (5 * bq i) := fun i hi => e.2.1 _ (by have := hb i hi; omega) (by omega)
  refine ⟨⟨by rw [e.1, kBowlN_cg e _ (by omega)]; exact b1, fun i hi => ?_⟩, ⟨s1, by rw [h60]; exact s2, fun i hi => ?_, ?_, ?_⟩, by rw [h60]; exact h11, ?_, fun i hi c hc' s t ht hs => ?_⟩
  · have := b2 i hi
    rw [e.1, e.2.1 (5 * bq i + 4) (by omega) (by omega), kBowlN_cg e _ (by omega)]
    exact this
  · have := s3 i hi
    have q := hb i hi
    unfold cPi at this ⊢
    rw [hr 61 (by omega) (by omega), hr 62 (by omega) (by omega), e.1]
    refine ⟨this.1, this.2.1, fun x hx => ?_⟩
    rw [kCo_cg e q, kCo_cg e q]; exact this.2.2 x hx
  · rw [hr 63 (by omega) (by omega), hr 64 (by omega) (by omega)]
    refine kNm_cg s4 g5 (fun x hx i hi hki => ?_)
    have q := hb i hi
    rw [kCo_cg e q, kCo_cg e q, kCo_cg e q, kCo_cg e q]
    exact hx i hi (by rw [← g5 i hi]; exact hki)
  · rw [hr 64 (by omega) (by omega), hr 65 (by omega) (by omega)]; exact s5
  · rw [hr 64 (by omega) (by omega), hF]; exact hl
  · rw [hr 63 (by omega) (by omega), hr 64 (by omega) (by omega), hrr]
    rw [hr 64 (by omega) (by omega)] at hc'
    have := hc i hi c hc' s t ht hs
    refine ⟨this.1, fun x hx cm => ?_⟩
    rw [kTm_cg e hb (N - i) (by omega)]
    refine this.2 x hx (fun j hj hne => ?_)
    have := cm j hj hne
    dsimp only at this ⊢
    rw [g5 j hj] at this
    exact this
theorem kPw_cg (hk : kOk K) (h : eV K K') : kPw K' = kPw K ∧ kCm K' = kCm K ∧ kSuO K' = kSuO K := by
  have eb := kBowl_cg hk h.1
  have ech : (fun lv : Nat => kChance K' (lv : Int)) = fun lv : Nat => kChance K (lv : Int) := by funext lv; rw [kChance_cg h.1]
  refine ⟨?_, ?_, ?_⟩
  · funext a b
    unfold kPw kSu
    rw [ech, eb, h.2.1 100 (by omega) (by omega), h.2.1 101 (by omega) (by omega), h.2.1 102 (by omega) (by omega)]
  · unfold kCm
    rw [eb, h.2.1 100 (by omega) (by omega), h.2.1 101 (by omega) (by omega)]
  · funext a b
    unfold kSuO
    rw [eb, h.2.1 100 (by omega) (by omega), h.2.1 101 (by omega) (by omega)]
theorem kL0_cg (hk : kOk K) (h : eP K K') : kL0 K' = kL0 K := by
  have h0 := hk.1
  funext a b
  unfold kL0
  rw [h.1, kLe_cg h (by omega) _ (Nat.le_refl _)]
theorem kBst_cg (hk : kOk K) (h : eV K K') (x y z : Int) : kBst K' x y z = kBst K x y z := by
  unfold kBst
  rw [kBowl_cg hk h.1, (kPw_cg hk h).1, kL0_cg hk h.1]
theorem kCan_cg (hk : kOk K) (h : eV K K') (bp : Int) (q r a b : Nat) (l : Int) : kCan K' bp q r a b l = kCan K bp q r a b l := by
  have h0 := hk.1
  unfold kCan
  rw [kBowl_cg hk h.1, (kPw_cg hk h).1, h.1.1, kLe_cg h.1 (by omega) _ (Nat.sub_le _ _)]
theorem itp {P Q : Prop} {a b c d : Nat} (e : P = Q) (h1 : a = c) (h2 : b = d) : @ite Nat P (Classical.propDecidable P) a b = @ite Nat Q (Classical.propDecidable Q) c d := by
  subst e h1 h2; rfl
theorem kLv_cg (hk : kOk K) (h : eV K K') (bp : Int) {q : Nat} (hq : q < 20) (r a b : Nat) (l : Int) : kLv K' bp q r a b l = kLv K bp q r a b l := by
  unfold kLv
  refine itp (kCan_cg hk h ..) rfl (itp ?_ rfl rfl)
  rw [kCan_cg hk h, kKw_cg h.1 hq, kHb_cg h.1 hq, kCo_cg h.1 hq]
theorem kSs_cg (hk : kOk K) (h : eV K K') (bp bh : Int) : ∀ q, q ≤ 20 → kSs K' bp bh q = kSs K bp bh q
  | 0, _ => rfl
  | q + 1, hq => by
    rw [kSs_s, kSs_s, kSs_cg hk h bp bh q (by omega)]
    unfold kSn
    simp only [kLv_cg hk h bp (show q < 20 by omega), kKw_cg h.1 (show q < 20 by omega), kHb_cg h.1 (show q < 20 by omega), kCo_cg h.1 (show q < 20 by omega), h.1.2.1 (5 * q + 4) (by omega) (by omega)]
theorem kFl_cg (hk : kOk K) (h : eV K K') (bp bh : Int) {q : Nat} (hq : q < 20) : kFl K' bp bh q = kFl K bp bh q := by
  unfold kFl
  rw [kSs_cg hk h bp bh q (by omega), kLv_cg hk h bp hq, h.1.2.1 (5 * q + 4) (by omega) (by omega)]
theorem cPn.keep {F F' : zFs} {D D' : zDa} {r : Nat} (hk : kOk K) (h : cPn F D K r) (h60 : ∀ a, 60 ≤ a → a ≤ 70 → a ≠ 66 → D' a = D a) (hrr : D' r = D r) (hF : F' r = F r) (v : vI D D' K K') : cPn F' D' K' r := by
  obtain ⟨⟨c1, c2⟩, c3, c4⟩ := h
  obtain ⟨v1, v2⟩ := v
  have e60 := h60 60 (by omega) (by omega) (by omega)
  unfold cPn
  rw [e60]
  refine ⟨by omega, fun e => ?_, fun e => ?_⟩
  · rcases v1 with ⟨v1, ep⟩ | v1
    · obtain ⟨N, bq, hH⟩ := c3 (by omega)
      exact ⟨N, bq, hH.keep hk ep e60 (fun a h1 h2 => h60 a (by omega) (by omega) (by omega)) hrr hF⟩
    · omega
  · rcases v2 with ⟨v2, ev⟩ | v2
    · obtain ⟨⟨N, bq, hH⟩, ⟨d2, d3⟩, d4⟩ := c4 (by omega)
      have pw := kPw_cg hk ev
      refine ⟨⟨N, bq, hH.keep hk ev.1 e60 (fun a h1 h2 => h60 a (by omega) (by omega) (by omega)) hrr hF⟩, ⟨fun a b hab => ?_, ?_⟩, fun h0 => ?_⟩
      · rw [kBowl_cg hk ev.1] at hab
        rw [h60 67 (by omega) (by omega) (by omega), pw.1, pw.2.1]; exact d2 a b hab
      · rw [e60, pw.2.1, pw.2.2]; exact d3
      · rw [e60] at h0 ⊢
        obtain ⟨bp, bh, g1, g2⟩ := d4 h0
        refine ⟨bp, bh, by rw [kBst_cg hk ev]; exact g1, fun q hq => ?_⟩
        have := g2 q hq
        rw [h60 69 (by omega) (by omega) (by omega), h60 70 (by omega) (by omega) (by omega), ev.1.1, kFl_cg hk ev bp bh hq, ev.1.2.1 (5 * q + 4) (by omega) (by omega), kSs_cg hk ev bp bh q (by omega), kHb_cg ev.1 hq]
        simp only [kCo_cg ev.1 hq]
        exact this
    · omega
end CG
