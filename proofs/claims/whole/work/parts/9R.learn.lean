/-! ===== rows of the calls' own don't count ===== -/
section SC
variable {F : zFs} {D D' : zDa} {Z : Nat → Prop} {K : Nat → Int} {im : Nat → Option (Nat → Int)} {tp : Nat → Int} {tl : Int} {ms : Nat → Int} {c : Nat}
theorem cA.scr (h : cA F D Z K im tp tl ms c) {as : List Nat} (f : zfr as D D') (ha : ∀ a ∈ as, 42 ≤ a ∧ a < 126) : cA F D' Z K im tp tl ms c := by
  have lo : ∀ a, a < 42 → D' a = D a := fun a h => f a (fun h' => by have := ha a h'; omega)
  have hi : ∀ a, 126 ≤ a → D' a = D a := fun a h => f a (fun h' => by have := ha a h'; omega)
  obtain ⟨h1, h2, h3, h4, h5, h6, h7, h8⟩ := h
  refine ⟨h1.rows h8 hi (fun a _ hb => lo a (by omega)), cA.images h2 h8 hi (fun a _ hb => lo a (by omega)), ?_, ?_, ?_, h6, h7, h8⟩
  · rw [lo 0 (by omega), lo 39 (by omega)]; exact h3
  · rw [lo 0 (by omega), lo 40 (by omega), lo 41 (by omega)]; exact h4
  · intro s hs
    have := h5 s hs
    simp only [List.mem_cons, List.not_mem_nil, or_false] at hs
    rw [lo s (by omega)]; exact this
theorem rA.scr (h : rA D K im tp tl ms c) {as ks : List Nat} (f : zfm as ks D D') (ha : ∀ a ∈ as, 98 ≤ a) (hk : ∀ k ∈ ([0, 1, 9, 10, 59, 64, 65, 66] : List Nat), k ∉ ks) : rA D' K im tp tl ms c := by
  have lo : ∀ a, a ≠ 91 → a < 98 → D' a = D a := fun a h0 h => f.1 a h0 (fun h' => by have := ha a h'; omega)
  have e : ∀ k ∈ ([0, 1, 9, 10, 59, 64, 65, 66] : List Nat), D' 91 k = D 91 k := fun k h => f.2 k (hk k h)
  unfold rA
  rw [lo 93 (by omega) (by omega), lo 95 (by omega) (by omega), lo 94 (by omega) (by omega), lo 97 (by omega) (by omega), lo 92 (by omega) (by omega), e 0 (by decide), e 1 (by decide), e 9 (by decide), e 10 (by decide), e 59 (by decide), e 64 (by decide), e 65 (by decide), e 66 (by decide)]
  exact h
end SC
/-! ===== the diary hangs on prices, terms and lessons alone ===== -/
theorem kAsk_cg {K K' : Nat → Int} (h : eP K K') {q : Nat} (hq : q < 20) (l e d : Int) : kAsk K' q l e d = kAsk K q l e d := by
  funext k
  unfold kAsk
  rw [h.2.1 (5 * q) (by omega) (by omega), h.2.1 (5 * q + 1) (by omega) (by omega), h.2.1 (5 * q + 3) (by omega) (by omega)]
theorem kTakes_cg {K K' : Nat → Int} (h : eP K K') {q : Nat} (hq : q < 20) (l e d : Int) : kTakes K' q l e d = kTakes K q l e d := by
  unfold kTakes; rw [kAsk_cg h hq, h.2.2]
theorem kKeeps_cg {K K' : Nat → Int} (h : eP K K') {q : Nat} (hq : q < 20) (l : Int) : kKeeps K' q l = kKeeps K q l := by
  unfold kKeeps; rw [kAsk_cg h hq, h.2.2]
theorem kChance_cg {K K' : Nat → Int} (h : eP K K') (l : Int) : kChance K' l = kChance K l := by
  unfold kChance; rw [h.2.2]
theorem dCost_cg {K K' : Nat → Int} (hk : kOk K) (h : eP K K') {q : Nat} (hq : q < 20) (lv : Nat → Int) (d : Int) : dCost K' lv q d = dCost K lv q d := by
  have h0 := hk.1
  unfold dCost
  rw [h.1, kHlp_cg (K := K) (K' := K') (lv := lv) (lv' := lv) (q := q) (j := (K 390).toNat) (fun i hi => ⟨h.2.1 (5 * i) (by omega) (by omega), rfl⟩) (h.2.1 (5 * q) (by omega) (by omega)), kTakes_cg h hq]
theorem dLesN_cg {K K' : Nat → Int} (hk : kOk K) (h : eV K K') (day : Int) (S : dT) {n : Nat} (hn : n ≤ (K 391).toNat) : dLesN K' day S n = dLesN K day S n := by
  have h1 := hk.2.2.2.1
  have h0 := hk.1
  induction n with
  | zero => unfold dLesN; rw [h.2.1 106 (by omega) (by omega)]
  | succ n ih =>
    have o := h1.2 n (by omega)
    have ih' := ih (by omega)
    show dLes K' day n (dLesN K' day S n) = dLes K day n (dLesN K day S n)
    rw [ih']
    unfold dLes
    rw [h.2.2.2 (107 + 2 * n) (by omega) (by omega), h.2.2.2 (108 + 2 * n) (by omega) (by omega), dCost_cg hk h.1 (by omega)]
theorem dFgN_cg {K K' : Nat → Int} (hk : kOk K) (h : eP K K') (day : Int) (S : dT) {n : Nat} (hn : n ≤ (K 390).toNat) : dFgN K' day S n = dFgN K day S n := by
  have h0 := hk.1
  induction n with
  | zero => rfl
  | succ n ih =>
    show dFg K' day n (dFgN K' day S n) = dFg K day n (dFgN K day S n)
    rw [ih (by omega)]
    unfold dFg
    rw [kKeeps_cg h (by omega)]
theorem dN_cg {K K' : Nat → Int} (hk : kOk K) (h : eV K K') (d : Nat) : dN K' d = dN K d := by
  induction d with
  | zero => rfl
  | succ d ih =>
    unfold dN dNight
    rw [ih, h.2.2.1, h.1.1, dLesN_cg hk h _ _ (Nat.le_refl _), dFgN_cg hk h.1 _ _ (Nat.le_refl _)]
theorem dH_cg {K K' : Nat → Int} (hk : kOk K) (h : eV K K') (d : Nat) : dH K' d = dH K d := by
  unfold dH dNight
  rw [dN_cg hk h, h.2.2.1, dLesN_cg hk h _ _ (Nat.le_refl _), h.2.1 106 (by omega) (by omega)]
theorem cDi.keep {D D' : zDa} {K K' : Nat → Int} (hk : kOk K) (h : cDi D K) (hr : ∀ a, 73 ≤ a → a ≤ 77 → D' a = D a) (hv : (D' 1 17 = D 1 17 ∧ eV K K') ∨ D 1 17 < D' 1 17) : cDi D' K' := by
  rcases hv with ⟨e1, e2⟩ | e1
  · unfold cDi cDc
    rw [hr 73 (by omega) (by omega), hr 76 (by omega) (by omega), hr 77 (by omega) (by omega), e1, e2.1.1, e2.2.1 105 (by omega) (by omega)]
    refine ⟨h.1, fun e => ?_⟩
    obtain ⟨a, b⟩ := h.2 e
    refine ⟨fun d hd => ?_, ?_⟩
    · rw [dH_cg hk e2, dN_cg hk e2]; exact a d hd
    · rw [dN_cg hk e2]; exact b
  · have := h.1
    refine ⟨by rw [hr 73 (by omega) (by omega)]; omega, fun e => absurd e (by rw [hr 73 (by omega) (by omega)]; omega)⟩
/-! ===== behind, judge, learn ===== -/
def oBehind (K : Nat → Int) (day q : Int) : Int :=
  if (0 ≤ day ∧ day < K 105) ∧ (q = -1 ∨ (0 ≤ q ∧ q < K 390)) then (if q = -1 then dH K day.toNat else (dN K (day.toNat + 1)).1 q.toNat) else -1
def oJudge (K : Nat → Int) (w : Int) : Int :=
  if w = 0 then (dN K (K 105).toNat).2.2.1 else if w = 1 then (dN K (K 105).toNat).2.2.2.1 else if w = 2 then (dN K (K 105).toNat).2.2.2.2 else -1
def kLrn (K : Nat → Int) (j : Nat) : Nat → Int := fun i => if i % 5 = 2 ∧ i / 5 < j then (dN K (K 105).toNat).1 (i / 5) else K i
theorem kLrn_s (K : Nat → Int) (j : Nat) : zset (kLrn K j) (5 * j + 2) ((dN K (K 105).toNat).1 j) = kLrn K (j + 1) := by
  funext i
  unfold kLrn
  by_cases e : i = 5 * j + 2
  · subst e
    rw [zset_eq, if_pos (by omega), show (5 * j + 2) / 5 = j by omega]
  · rw [zset_off e]
    by_cases h : i % 5 = 2 ∧ i / 5 < j
    · rw [if_pos h, if_pos (by omega)]
    · rw [if_neg h, if_neg (by omega)]
theorem kLrn_0 (K : Nat → Int) : kLrn K 0 = K := by funext i; unfold kLrn; rw [if_neg (by omega)]
theorem kLrn_off {K : Nat → Int} {j i : Nat} (h : 100 ≤ i) (hj : j ≤ 20) : kLrn K j i = K i := by unfold kLrn; rw [if_neg (by omega)]
theorem kLrn_at {K : Nat → Int} {j q k : Nat} (h : k < 5) (hk : k ≠ 2) : kLrn K j (5 * q + k) = K (5 * q + k) := by unfold kLrn; rw [if_neg (by omega)]
theorem kLrn_2 {K : Nat → Int} {j q : Nat} (h : q < j) : kLrn K j (5 * q + 2) = (dN K (K 105).toNat).1 q := by unfold kLrn; rw [if_pos (by omega), show (5 * q + 2) / 5 = q by omega]
theorem kLrn_eV {K : Nat → Int} {j : Nat} (hj : j ≤ 20) : eV K (kLrn K j) :=
  ⟨⟨kLrn_off (by omega) hj, fun i hi h5 => by unfold kLrn; rw [if_neg (by omega)], fun _ _ _ _ _ => kTold_congr (fun i hi => kLrn_off (by omega) hj) _ _ _ _ _⟩, fun i h1 _ => kLrn_off h1 hj, kLrn_off (by omega) hj, fun i h1 _ => kLrn_off (by omega) hj⟩
theorem kLrn_ok {K : Nat → Int} (hk : kOk K) {j : Nat} (hj : j ≤ (K 390).toNat) : kOk (kLrn K j) := by
  have h0 := hk.1
  have ht := kTerms hk
  have hd := dN_ok hk (K 105).toNat (by omega)
  have of : ∀ i, 100 ≤ i → kLrn K j i = K i := fun i h => kLrn_off h (by omega)
  obtain ⟨a1, a2, a3, ⟨a4, a5⟩, a6, ⟨a7, a8⟩, a9⟩ := hk
  refine ⟨by rw [of 390 (by omega)]; exact a1, fun q hq => ?_, fun k hk => by rw [of (100 + k) (by omega)]; exact a3 k hk, ⟨by rw [of 391 (by omega)]; exact a4, fun i hi => ?_⟩, fun f hf => by rw [of (347 + f) (by omega)]; exact a6 f hf, ⟨by rw [of 392 (by omega)]; exact a7, fun y hy => ?_⟩, by rw [of 393 (by omega), of 394 (by omega)]; exact a9⟩
  · rw [of 390 (by omega)] at hq
    have o := a2 q hq
    have e0 : kLrn K j (5 * q) = K (5 * q) := kLrn_at (k := 0) (by omega) (by omega)
    rw [e0, kLrn_at (k := 1) (by omega) (by omega), kLrn_at (k := 3) (by omega) (by omega), kLrn_at (k := 4) (by omega) (by omega)]
    refine ⟨o.1, o.2.1, ?_, o.2.2.2⟩
    by_cases e : q < j
    · rw [kLrn_2 e]; exact (hd.1 q).1
    · have : kLrn K j (5 * q + 2) = K (5 * q + 2) := by unfold kLrn; rw [if_neg (by omega)]
      rw [this]; exact o.2.2.1
  · rw [of 391 (by omega)] at hi
    rw [of (107 + 2 * i) (by omega), of (108 + 2 * i) (by omega), of 390 (by omega)]; exact a5 i hi
  · rw [of 392 (by omega)] at hy
    rw [of (350 + y) (by omega), of 390 (by omega)]; exact a8 y hy
def oLearn (K : Nat → Int) : Int × Int × (Nat → Int) := (0, kKnown (kLrn K (K 390).toNat), kLrn K (K 390).toNat)
section LQ
variable {F : zFs} {D : zDa} {Z : Nat → Prop} {K : Nat → Int} {im : Nat → Option (Nat → Int)} {tp : Nat → Int} {tl : Int} {ms : Nat → Int} {c : Nat}
theorem cDi.now {D D' : zDa} {K : Nat → Int} (h1 : cDc D' K) (h2 : D' 73 2 = D 1 17) (h3 : D' 1 = D 1) : cDi D' K := ⟨by rw [h2, h3]; exact Int.le_refl _, fun _ => h1⟩
theorem pc_behind (h : qSt F D Z 1 K) (hG : zG F) (hZ : ∀ a, Z a → 126 ≤ a) (hi : cDi D K) (day q : Int) : qS (fX11_behind F day q D) (fun r => r.1 = oBehind K day q ∧ cDi r.2 K ∧ zfr [49, 50, 51, 73, 74, 75, 76, 77] D r.2) := by
  have h0 := h.1.1
  have ht := kTerms h.1
  have e5 : D 7 5 = K 105 := h.2.2.2.1 5 (by omega)
  unfold fX11_behind oBehind
  by_cases hd : 0 ≤ day ∧ day < K 105
  · refine qS_neg (by omega) (qS_pos (by rw [e5]; omega) ?_)
    obtain ⟨d, rfl⟩ : ∃ d : Nat, day = (d : Int) := ⟨day.toNat, by omega⟩
    have go : (q = -1 ∨ (0 ≤ q ∧ q < K 390)) → qS (fX11_behind_35 F (d : Int) q D) (fun r => r.1 = (if q = -1 then dH K d else (dN K (d + 1)).1 q.toNat) ∧ cDi r.2 K ∧ zfr [49, 50, 51, 73, 74, 75, 76, 77] D r.2) := by
      intro hq
      unfold fX11_behind_35
      refine qS_call (pX1_refresh h hG hZ hi) (fun D1 ⟨c1, s1, f1⟩ => ?_)
      have i1 := cDi.now c1 s1 (f1 1 (by decide))
      refine qS_ite (fun e => ?_) (fun e => ?_)
      · refine qS_chk (by omega) (qS_ret ⟨?_, i1, f1⟩)
        rw [if_pos e]; exact (c1.1 d (by omega)).1
      · unfold fX1_levelBehind
        refine qS_bind (qS_chk (by omega) (qS_ret (qS_ret ⟨?_, i1, f1⟩)))
        rw [if_neg e, show ((d : Int) * 20 + q).toNat = 20 * d + q.toNat by omega]
        exact (c1.1 d (by omega)).2 q.toNat (by omega)
    rw [show ((d : Int)).toNat = d by omega]
    by_cases hq : q = -1
    · rw [if_pos (c := (0 ≤ (d : Int) ∧ (d : Int) < K 105) ∧ (q = -1 ∨ (0 ≤ q ∧ q < K 390))) (by omega)]
      exact qS_pos hq (go (Or.inl hq))
    · refine qS_neg hq ?_
      by_cases hq2 : 0 ≤ q ∧ q < K 390
      · rw [if_pos (c := (0 ≤ (d : Int) ∧ (d : Int) < K 105) ∧ (q = -1 ∨ (0 ≤ q ∧ q < K 390))) (by omega)]
        exact qS_step (has_t (by rw [h.2.1]; exact hq2)) (qS_neg (by omega) (go (Or.inr hq2)))
      · rw [if_neg (c := (0 ≤ (d : Int) ∧ (d : Int) < K 105) ∧ (q = -1 ∨ (0 ≤ q ∧ q < K 390))) (by omega)]
        exact qS_step (has_f (by rw [h.2.1]; exact hq2)) (qS_pos rfl (qS_ret ⟨rfl, hi, zfr.rfl' _ D⟩))
  · rw [if_neg (c := (0 ≤ day ∧ day < K 105) ∧ (q = -1 ∨ (0 ≤ q ∧ q < K 390))) (by omega)]
    by_cases h1 : day < 0
    · exact qS_pos h1 (qS_ret ⟨rfl, hi, zfr.rfl' _ D⟩)
    · exact qS_neg h1 (qS_neg (by rw [e5]; omega) (qS_ret ⟨rfl, hi, zfr.rfl' _ D⟩))
theorem pr_behind (hK : D 93 = K) (hk : kOk K) (hP : kPOk K) (day q : Int) : qS (fX12_behind F day q D) (fun r => r.1 = oBehind K day q ∧ zfm [102, 113, 114, 115, 116] [18, 19, 20, 43, 44, 45] D r.2) := by
  have h0 := hk.1
  have ht := kTerms hk
  unfold fX12_behind oBehind
  refine qS_step (pX12_term (k := 5) rfl (by omega)) ?_
  rw [hK, show 100 + 5 = 105 from rfl]
  refine qS_chk (by omega) ?_
  by_cases hd : 0 ≤ day ∧ day < K 105
  · refine qS_step (lies_t (by omega)) (qS_neg (by omega) ?_)
    obtain ⟨d, rfl⟩ : ∃ d : Nat, day = (d : Int) := ⟨day.toNat, by omega⟩
    have go : (q = -1 ∨ (0 ≤ q ∧ q < K 390)) → qS (fX12_behind_30 F (d : Int) q D) (fun r => r.1 = (if q = -1 then dH K d else (dN K (d + 1)).1 q.toNat) ∧ zfm [102, 113, 114, 115, 116] [18, 19, 20, 43, 44, 45] D r.2) := by
      intro hq
      unfold fX12_behind_30
      refine qS_call (pX12_lives hK hk hP) (fun D1 ⟨c1, _, f1⟩ => ?_)
      refine qS_ite (fun e => ?_) (fun e => ?_)
      · refine qS_chk (by omega) (qS_ret ⟨?_, f1⟩)
        rw [if_pos e]; exact (c1 d (by omega)).1
      · refine qS_chk (by omega) (qS_ret ⟨?_, f1⟩)
        rw [if_neg e, show (20 * q + (d : Int)).toNat = 20 * q.toNat + d by omega]
        exact (c1 d (by omega)).2 q.toNat (by omega)
    rw [show ((d : Int)).toNat = d by omega]
    by_cases hq : q = -1
    · rw [if_pos (c := (0 ≤ (d : Int) ∧ (d : Int) < K 105) ∧ (q = -1 ∨ (0 ≤ q ∧ q < K 390))) (by omega)]
      exact qS_pos hq (go (Or.inl hq))
    · refine qS_neg hq ?_
      by_cases hq2 : 0 ≤ q ∧ q < K 390
      · rw [if_pos (c := (0 ≤ (d : Int) ∧ (d : Int) < K 105) ∧ (q = -1 ∨ (0 ≤ q ∧ q < K 390))) (by omega)]
        exact qS_step (isQ_t hK hk hq2) (qS_neg (by omega) (go (Or.inr hq2)))
      · rw [if_neg (c := (0 ≤ (d : Int) ∧ (d : Int) < K 105) ∧ (q = -1 ∨ (0 ≤ q ∧ q < K 390))) (by omega)]
        exact qS_step (isQ_f hK hk hq2) (qS_pos rfl (qS_ret ⟨rfl, zfm.rfl' _ _ D⟩))
  · rw [if_neg (c := (0 ≤ day ∧ day < K 105) ∧ (q = -1 ∨ (0 ≤ q ∧ q < K 390))) (by omega)]
    exact qS_step (lies_f (by omega)) (qS_pos rfl (qS_ret ⟨rfl, zfm.rfl' _ _ D⟩))
theorem pc_judge (h : qSt F D Z 1 K) (hG : zG F) (hZ : ∀ a, Z a → 126 ≤ a) (hi : cDi D K) (w : Int) : qS (fX11_judge F w D) (fun r => r.1 = oJudge K w ∧ cDi r.2 K ∧ zfr [49, 50, 51, 73, 74, 75, 76, 77] D r.2) := by
  unfold fX11_judge oJudge
  refine qS_call (pX1_refresh h hG hZ hi) (fun D1 ⟨c1, s1, f1⟩ => ?_)
  have i1 := cDi.now c1 s1 (f1 1 (by decide))
  refine qS_ite (fun e => ?_) (fun e => ?_)
  · rw [if_pos e]; exact qS_ret ⟨c1.2.1, i1, f1⟩
  rw [if_neg e]
  refine qS_ite (fun e => ?_) (fun e => ?_)
  · rw [if_pos e]; exact qS_ret ⟨c1.2.2.1, i1, f1⟩
  rw [if_neg e]
  refine qS_ite (fun e => ?_) (fun e => ?_)
  · rw [if_pos e]; exact qS_ret ⟨c1.2.2.2, i1, f1⟩
  rw [if_neg e]
  exact qS_ret ⟨rfl, i1, f1⟩
theorem pr_judge (hK : D 93 = K) (hk : kOk K) (hP : kPOk K) (w : Int) : qS (fX12_judge F w D) (fun r => r.1 = oJudge K w ∧ zfm [102, 113, 114, 115, 116] [18, 19, 20, 43, 44, 45] D r.2) := by
  unfold fX12_judge oJudge
  by_cases hw : 0 ≤ w ∧ w ≤ 2
  · refine qS_step (lies_t hw) (qS_neg (by omega) ?_)
    refine qS_call (pX12_lives hK hk hP) (fun D1 ⟨_, c1, f1⟩ => ?_)
    refine qS_ite (fun e => ?_) (fun e => ?_)
    · rw [if_pos e]; exact qS_ret ⟨c1.2.1, f1⟩
    rw [if_neg e]
    refine qS_ite (fun e => ?_) (fun e => ?_)
    · rw [if_pos e]; exact qS_ret ⟨c1.2.2.1, f1⟩
    rw [if_neg e, if_pos (by omega)]
    exact qS_ret ⟨c1.2.2.2, f1⟩
  · rw [if_neg (by omega), if_neg (by omega), if_neg (by omega)]
    exact qS_step (lies_f hw) (qS_pos rfl (qS_ret ⟨rfl, zfm.rfl' _ _ D⟩))
end LQ
