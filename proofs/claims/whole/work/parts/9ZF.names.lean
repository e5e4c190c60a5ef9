/-! ===== names of kings ===== -/
/-- names kb of kings g up to place i; b: how many names stand ahead of a place; P: help changes nothing for that king -/
def kNm (P : Int → Prop) (g : Nat → Int) (i : Nat) (kb b : Nat → Int) : Prop :=
  (∀ j, j < i → kb j = -1 ∨ (0 ≤ kb j ∧ kb j < b (j + 1))) ∧
  (∀ j, j < i → kb j ≠ -1 → 0 < g j) ∧
  (∀ j j', j < i → j' < i → kb j ≠ -1 → (kb j' = kb j ↔ g j' = g j)) ∧
  (∀ j, j < i → kb j = -1 → 0 < g j → P (g j)) ∧
  (∀ j j', j ≤ j' → j' ≤ i → b j ≤ b j') ∧ b 0 = 0 ∧
  ∃ M : Nat, b i = (bPop M 4 1 : Int) ∧ ∀ k : Nat, M.testBit k = true ↔ ∃ j, j < i ∧ kb j ≠ -1 ∧ g j = (k : Int)
theorem kNm_0 (P : Int → Prop) (g : Nat → Int) (kb b : Nat → Int) (h : b 0 = 0) : kNm P g 0 kb b := by
  refine ⟨fun j hj => absurd hj (by omega), fun j hj => absurd hj (by omega), fun j _ hj => absurd hj (by omega), fun j hj => absurd hj (by omega), fun j j' h1 h2 => ?_, h, 0, ?_, fun k => ?_⟩
  · rw [show j = j' by omega]; exact Int.le_refl _
  · rw [h]; simp [bPop]
  · constructor
    · intro h1; simp at h1
    · intro ⟨j, hj, _⟩; exact absurd hj (by omega)
theorem kNm.b4 {P : Int → Prop} {g kb b : Nat → Int} {i : Nat} (h : kNm P g i kb b) {j : Nat} (hj : j ≤ i) : 0 ≤ b j ∧ b j ≤ 4 := by
  obtain ⟨_, _, _, _, h5, h6, M, h7, _⟩ := h
  have a := h5 0 j (by omega) hj
  have c := h5 j i hj (by omega)
  have := bPop_le M 4 1
  omega
theorem kNm.lt {P : Int → Prop} {g kb b : Nat → Int} {i : Nat} (h : kNm P g i kb b) {j j' : Nat} (hj : j < j') (hi : j' ≤ i) : kb j < b j' := by
  have b0 := (h.b4 (j := j + 1) (by omega)).1
  have a := h.1 j (by omega)
  have c := h.2.2.2.2.1 (j + 1) j' (by omega) hi
  omega
theorem kNm_step {P : Int → Prop} {g kb b kb' b' : Nat → Int} {i : Nat} (h : kNm P g i kb b) (hk : ∀ j, j < i → kb' j = kb j) (hb : ∀ j, j ≤ i → b' j = b j)
    (hc : (kb' i = -1 ∧ b' (i + 1) = b i ∧ (∀ j, j < i → g j = g i → kb j = -1) ∧ (0 < g i → P (g i)))
      ∨ (kb' i ≠ -1 ∧ b' (i + 1) = b i ∧ ∃ j, j < i ∧ g j = g i ∧ kb' i = kb j)
      ∨ (kb' i = b i ∧ b' (i + 1) = b i + 1 ∧ 0 < g i ∧ g i ≤ 4 ∧ ∀ j, j < i → g j ≠ g i)) : kNm P g (i + 1) kb' b' := by
  have hlt : ∀ j, j < i → kb j < b i := fun j hj => h.lt hj (Nat.le_refl _)
  have hb4 := h.b4 (j := i) (Nat.le_refl _)
  obtain ⟨h1, h2, h3, h4, h5, h6, M, h7, h8⟩ := h
  have hbi : b' i = b i := hb i (Nat.le_refl _)
  have hup : b i ≤ b' (i + 1) := by rcases hc with c | c | c <;> omega
  refine ⟨?_, ?_, ?_, ?_, ?_, by rw [hb 0 (by omega)]; exact h6, ?_⟩
  · intro j hj
    by_cases e : j = i
    · subst e
      rcases hc with c | ⟨c1, c2, j', c3, _, c5⟩ | c
      · exact Or.inl c.1
      · refine Or.inr ?_
        have a := h1 j' c3
        have d := hlt j' c3
        omega
      · exact Or.inr (by omega)
    · rw [hk j (by omega), hb (j + 1) (by omega)]; exact h1 j (by omega)
  · intro j hj hne
    by_cases e : j = i
    · subst e
      rcases hc with c | ⟨c1, c2, j', c3, c4, c5⟩ | c
      · exact absurd c.1 hne
      · rw [← c4]; exact h2 j' c3 (by rw [← c5]; exact c1)
      · exact c.2.2.1
    · rw [hk j (by omega)] at hne; exact h2 j (by omega) hne
  · intro j j' hj hj' hne
    by_cases e : j = i
    · subst e
      by_cases e' : j' = j
      · subst e'; exact ⟨fun _ => rfl, fun _ => rfl⟩
      · have hj'' : j' < j := by omega
        rw [hk j' hj'']
        rcases hc with c | ⟨c1, c2, j2, c3, c4, c5⟩ | ⟨c1, c2, c3, c4, c5⟩
        · exact absurd c.1 hne
        · rw [c5, ← c4]; exact h3 j2 j' c3 hj'' (by rw [← c5]; exact c1)
        · rw [c1]
          have := hlt j' hj''
          exact ⟨fun e => by omega, fun e => absurd e (c5 j' hj'')⟩
    · have hji : j < i := by omega
      rw [hk j hji] at hne ⊢
      by_cases e' : j' = i
      · subst e'
        rcases hc with ⟨c1, c2, c3, c4⟩ | ⟨c1, c2, j2, c3, c4, c5⟩ | ⟨c1, c2, c3, c4, c5⟩
        · refine ⟨fun e => by omega, fun e => absurd (c3 j hji e.symm) hne⟩
        · rw [c5, ← c4]; exact h3 j j2 hji c3 hne
        · rw [c1]
          have := hlt j hji
          exact ⟨fun e => by omega, fun e => absurd e.symm (c5 j hji)⟩
      · rw [hk j' (by omega)]; exact h3 j j' hji (by omega) hne
  · intro j hj hne hg
    by_cases e : j = i
    · subst e
      rcases hc with ⟨c1, c2, c3, c4⟩ | ⟨c1, _⟩ | ⟨c1, c2, c3, c4, c5⟩
      · exact c4 hg
      · exact absurd hne c1
      · omega
    · rw [hk j (by omega)] at hne; exact h4 j (by omega) hne hg
  · intro j j' hj hj'
    by_cases e' : j' = i + 1
    · by_cases e : j = i + 1
      · rw [e, e']; exact Int.le_refl _
      · rw [hb j (by omega), e']
        have := h5 j i (by omega) (Nat.le_refl _)
        omega
    · rw [hb j (by omega), hb j' (by omega)]; exact h5 j j' hj (by omega)
  · rcases hc with ⟨c1, c2, c3, c4⟩ | ⟨c1, c2, j2, c3, c4, c5⟩ | ⟨c1, c2, c3, c4, c5⟩
    · refine ⟨M, by rw [c2]; exact h7, fun k => ?_⟩
      rw [h8 k]
      constructor
      · intro ⟨j, hj, a, d⟩; exact ⟨j, by omega, by rw [hk j hj]; exact a, d⟩
      · intro ⟨j, hj, a, d⟩
        by_cases e : j = i
        · subst e; exact absurd c1 a
        · exact ⟨j, by omega, by rw [← hk j (by omega)]; exact a, d⟩
    · refine ⟨M, by rw [c2]; exact h7, fun k => ?_⟩
      rw [h8 k]
      constructor
      · intro ⟨j, hj, a, d⟩; exact ⟨j, by omega, by rw [hk j hj]; exact a, d⟩
      · intro ⟨j, hj, a, d⟩
        by_cases e : j = i
        · subst e; exact ⟨j2, c3, by rw [← c5]; exact a, by rw [c4]; exact d⟩
        · exact ⟨j, by omega, by rw [← hk j (by omega)]; exact a, d⟩
    · have hbit : M.testBit (g i).toNat = false := by
        cases hm : M.testBit (g i).toNat with
        | false => rfl
        | true =>
          obtain ⟨j, hj, _, d⟩ := (h8 _).1 hm
          exact absurd (by omega : g j = g i) (c5 j hj)
      refine ⟨M ||| 2 ^ (g i).toNat, ?_, fun k => ?_⟩
      · rw [bPop_or hbit 4 1 (by omega) (by omega), c2, h7]; omega
      · rw [Nat.testBit_or, Nat.testBit_two_pow, Bool.or_eq_true, h8 k]
        constructor
        · rintro (⟨j, hj, a, d⟩ | e)
          · exact ⟨j, by omega, by rw [hk j hj]; exact a, d⟩
          · have e2 := of_decide_eq_true e
            exact ⟨i, by omega, by omega, by omega⟩
        · intro ⟨j, hj, a, d⟩
          by_cases e : j = i
          · subst e; exact Or.inr (decide_eq_true (by omega))
          · exact Or.inl ⟨j, by omega, by rw [← hk j (by omega)]; exact a, d⟩
section NK
variable {F : zFs} {D : zDa} {Z : Nat → Prop} {K : Nat → Int}
theorem pX4_nameKings (h : qSt F D Z 1 K) {N : Nat} {bq : Nat → Nat} (hZ : ∀ a, Z a → 126 ≤ a) (hN : N ≤ 20) (h60 : D 60 5 = (N : Int)) (hB : cBq D K N bq) :
    qS (fX4_nameKings F D) (fun D' => kNm (kSame K N bq) (fun j => K (5 * bq j)) N (D' 63) (D' 64) ∧ zfr [63, 64] D D') := by
  have h0 := h.1.1
  unfold fX4_nameKings
  refine qloop2 (fun v1 v2 D1 => ∃ i : Nat, v2 = (i : Int) ∧ i ≤ N ∧ kNm (kSame K N bq) (fun j => K (5 * bq j)) i (D1 63) (fun j => if j = i then v1 else D1 64 j) ∧ zfr [63, 64] D D1) (fun _ v2 _ => (100 - v2).toNat) ?_ ⟨0, rfl, by omega, kNm_0 _ _ _ _ rfl, zfr.rfl' _ _⟩ (zfu_gt (by omega))
  intro k4 v1 v2 D1 ⟨i, e2, hi, nm, f1⟩ ih
  subst e2
  have n1 : D1 60 5 = (N : Int) := by rw [f1 60 (by decide)]; exact h60
  unfold fX4_nameKings_4
  rw [n1]
  have hb4 := nm.b4 (j := i) (Nat.le_refl _)
  rw [if_pos rfl] at hb4
  refine qS_ite (fun hlt => ?_) (fun hlt => ?_)
  · have hiN : i < N := by omega
    have Bi := hB i hiN
    refine qS_chk (by omega) (qS_leti ?_)
    have e61 : (zwr D1 64 ((i : Int)).toNat v1) 61 ((i : Int)).toNat = (bq i : Int) := by rw [zwr_row (by omega), f1 61 (by decide), show ((i : Int)).toNat = i by omega]; exact Bi.1
    rw [e61]
    refine qS_chk (by omega) (qS_leti (qS_leti ?_))
    have e2 : (zwr D1 64 ((i : Int)).toNat v1) 2 ((bq i : Int)).toNat = K (5 * bq i) := by rw [zwr_row (by omega), f1 2 (by decide), show ((bq i : Int)).toNat = bq i by omega]; exact (h.2.2.1 (bq i) Bi.2.1).1
    rw [e2]
    have gi := (h.1.2.1 (bq i) Bi.2.1).1
    -- the inner loop
    refine qloop1 (fun v4 D2 => ∃ j : Nat, v4 = (j : Int) ∧ j ≤ i ∧ (∀ t, t ≠ i → D2 63 t = D1 63 t) ∧ (∀ t, D2 64 t = if t = i then v1 else D1 64 t) ∧ ((D2 63 i = -1 ∧ ∀ t, t < j → K (5 * bq t) = K (5 * bq i) → D1 63 t = -1) ∨ (D2 63 i ≠ -1 ∧ ∃ t, t < j ∧ K (5 * bq t) = K (5 * bq i) ∧ D2 63 i = D1 63 t)) ∧ zfr [63, 64] D D2) (fun v4 _ => (100 - v4).toNat) ?_ ⟨0, rfl, by omega, fun t ht => ?_, fun t => ?_, Or.inl ⟨?_, fun t ht => absurd ht (by omega)⟩, (f1.wr (by decide)).wr (by decide)⟩ (zfu_gt (by omega))
    · intro k44 v4 D2 ⟨j, ej, hj, r63, r64, rc, f2⟩ ih2
      subst ej
      unfold fX4_nameKings_44
      refine qS_ite (fun hl => ?_) (fun hl => ?_)
      · have Bj := hB j (by omega)
        have e61 : D2 61 ((j : Int)).toNat = (bq j : Int) := by rw [f2 61 (by decide), show ((j : Int)).toNat = j by omega]; exact Bj.1
        rw [e61]
        refine qS_chk (by omega) ?_
        have e2 : D2 2 ((bq j : Int)).toNat = K (5 * bq j) := by rw [f2 2 (by decide), show ((bq j : Int)).toNat = bq j by omega]; exact (h.2.2.1 (bq j) Bj.2.1).1
        rw [e2]
        refine qS_ite (fun hs => ?_) (fun hs => ?_)
        · refine qS_chk (by omega) (qS_leti ?_)
          unfold fX4_nameKings_82
          refine qS_chk (by omega) (ih2 _ _ ⟨j + 1, by omega, by omega, fun t ht => ?_, fun t => ?_, ?_, f2.wr (by decide)⟩ (by omega))
          · rw [zwr_off (by omega)]; exact r63 t ht
          · rw [zwr_row (by omega)]; exact r64 t
          · rw [show ((i : Int)).toNat = i by omega, zwr_eq, show ((j : Int)).toNat = j by omega, r63 j (by omega)]
            by_cases ej : D1 63 j = -1
            · refine Or.inl ⟨ej, fun t ht hk => ?_⟩
              by_cases et : D1 63 t = -1
              · exact et
              · have := (nm.2.2.1 t j (by omega) (by omega) et).2 (by show K (5 * bq j) = K (5 * bq t); rw [hs, hk])
                rw [← this]; exact ej
            · exact Or.inr ⟨ej, j, by omega, hs, rfl⟩
        · unfold fX4_nameKings_82
          refine qS_chk (by omega) (ih2 _ _ ⟨j + 1, by omega, by omega, r63, r64, ?_, f2⟩ (by omega))
          rcases rc with ⟨a, d⟩ | ⟨a, t, d, e, f⟩
          · refine Or.inl ⟨a, fun t ht hk => ?_⟩
            by_cases et : t = j
            · rw [et] at hk; exact absurd hk hs
            · exact d t (by omega) hk
          · exact Or.inr ⟨a, t, by omega, e, f⟩
      · have : j = i := by omega
        subst this
        have n2 : D2 60 5 = (N : Int) := by rw [f2 60 (by decide)]; exact h60
        have B2 : cBq D2 K N bq := by
          unfold cBq cPi
          rw [f2 61 (by decide), f2 62 (by decide)]; exact hB
        have ei : ((j : Int)).toNat = j := by omega
        rw [ei]
        refine qS_chk (by omega) ?_
        have fin : ∀ (w : Int) (D3 : zDa), (∀ t, t ≠ j → D3 63 t = D1 63 t) → (∀ t, D3 64 t = if t = j then v1 else D1 64 t) → zfr [63, 64] D D3 →
            ((D3 63 j = -1 ∧ w = v1 ∧ (∀ t, t < j → K (5 * bq t) = K (5 * bq j) → D1 63 t = -1) ∧ (0 < K (5 * bq j) → kSame K N bq (K (5 * bq j))))
              ∨ (D3 63 j ≠ -1 ∧ w = v1 ∧ ∃ t, t < j ∧ K (5 * bq t) = K (5 * bq j) ∧ D3 63 j = D1 63 t)
              ∨ (D3 63 j = v1 ∧ w = v1 + 1 ∧ 0 < K (5 * bq j) ∧ K (5 * bq j) ≤ 4 ∧ ∀ t, t < j → K (5 * bq t) ≠ K (5 * bq j))) →
            qS (fX4_nameKings_120 F k4 w (j : Int) D3) (fun D' => kNm (kSame K N bq) (fun j => K (5 * bq j)) N (D' 63) (D' 64) ∧ zfr [63, 64] D D') := by
          intro w D3 q63 q64 f3 hc
          unfold fX4_nameKings_120
          refine qS_chk (by omega) (ih _ _ _ ⟨j + 1, by omega, by omega, kNm_step nm (fun t ht => q63 t (by omega)) (fun t ht => ?_) ?_, f3⟩ (by omega))
          · show (if t = j + 1 then w else D3 64 t) = if t = j then v1 else D1 64 t
            rw [if_neg (by omega), q64 t]
          · show (D3 63 j = -1 ∧ (if j + 1 = j + 1 then w else D3 64 (j + 1)) = (if j = j then v1 else D1 64 j) ∧ _) ∨ (D3 63 j ≠ -1 ∧ (if j + 1 = j + 1 then w else D3 64 (j + 1)) = (if j = j then v1 else D1 64 j) ∧ _) ∨ (D3 63 j = (if j = j then v1 else D1 64 j) ∧ (if j + 1 = j + 1 then w else D3 64 (j + 1)) = (if j = j then v1 else D1 64 j) + 1 ∧ _)
            rw [if_pos rfl, if_pos rfl]
            exact hc
        rcases rc with ⟨a, d⟩ | ⟨a, t, d, e, f⟩
        · refine qS_pos a ?_
          refine qS_ite (fun hz => ?_) (fun hz => ?_)
          · exact fin v1 D2 r63 r64 f2 (Or.inl ⟨a, rfl, d, fun hp => absurd hp (by omega)⟩)
          · refine qS_call (pX4_helpMatters (h.zfr hZ f2 (by decide)) hN n2 B2 (K (5 * bq j))) (fun r ⟨hr2, hr⟩ => ?_)
            obtain ⟨x, D3⟩ := r
            dsimp only at hr2 hr ⊢
            subst hr2
            rcases hr with ⟨hx, hs⟩ | ⟨hx, hs⟩
            · exact qS_pos hx (fin v1 D3 r63 r64 f2 (Or.inl ⟨a, rfl, d, fun _ => hs⟩))
            · refine qS_neg (by omega) (qS_leti (qS_chk (by omega) (fin (v1 + 1) _ (fun t ht => ?_) (fun t => ?_) (f2.wr (by decide)) (Or.inr (Or.inr ⟨zwr_eq, rfl, by omega, gi.2, fun t ht hk => ?_⟩)))))
              · rw [zwr_off (by omega)]; exact r63 t ht
              · rw [zwr_row (by omega)]; exact r64 t
              · have := nm.2.2.2.1 t ht (d t ht hk) (by show 0 < K (5 * bq t); omega)
                exact hs (by rw [← hk]; exact this)
        · exact qS_neg a (fin v1 D2 r63 r64 f2 (Or.inr (Or.inl ⟨a, rfl, t, d, e, f⟩)))
    · rw [zwr_off (by omega), zwr_row (by omega)]
    · rw [zwr_row (by omega), show ((i : Int)).toNat = i by omega, zwr_at]
    · rw [show ((i : Int)).toNat = i by omega, zwr_eq]
  · have : i = N := by omega
    subst this
    refine qS_chk (by omega) (qS_leti (qS_ret ⟨?_, f1.wr (by decide)⟩))
    have e : (fun j => if j = i then v1 else D1 64 j) = (zwr D1 64 ((i : Int)).toNat v1) 64 := by
      funext j
      rw [show ((i : Int)).toNat = i by omega, zwr_at]
    rw [← e, zwr_row (by omega)]
    exact nm
end NK
