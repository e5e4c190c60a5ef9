section C4
variable {F : zFs} {D D1 : zDa} {Z : Nat → Prop} {K K' : Nat → Int} {im : Nat → Option (Nat → Int)} {tp : Nat → Int} {tl : Int} {ms : Nat → Int} {c : Nat}
theorem eP.off {i : Nat} {v : Int} (h : 100 ≤ i) (h2 : i < 393) (h3 : i ≠ 390) : eP K (zset K i v) :=
  ⟨zset_off (by omega), fun j _ hj => zset_off (by omega), fun _ _ _ _ _ => kTold_congr (fun j hj => zset_off (by omega)) _ _ _ _ _⟩
theorem eV.off {i : Nat} {v : Int} (h : 347 ≤ i) (h2 : i < 393) (h3 : i ≠ 390) (h4 : i ≠ 391) : eV K (zset K i v) :=
  ⟨eP.off (by omega) h2 h3, fun j _ _ => zset_off (by omega), zset_off (by omega), fun j _ _ => zset_off (by omega)⟩
theorem eP.trans {K1 K2 : Nat → Int} (h1 : eP K K1) (h2 : eP K1 K2) : eP K K2 :=
  ⟨h2.1.trans h1.1, fun i a b => (h2.2.1 i a b).trans (h1.2.1 i a b), fun a b c d A => (h2.2.2 a b c d A).trans (h1.2.2 a b c d A)⟩
theorem eV.trans {K1 K2 : Nat → Int} (h1 : eV K K1) (h2 : eV K1 K2) : eV K K2 :=
  ⟨h1.1.trans h2.1, fun i a b => (h2.2.1 i a b).trans (h1.2.1 i a b), h2.2.2.1.trans h1.2.2.1, fun i a b => (h2.2.2.2 i a b).trans (h1.2.2.2 i a b)⟩
def oTerms (K : Nat → Int) (w v : Int) : Int × Int × (Nat → Int) :=
  if ¬ ((0 ≤ w ∧ w ≤ 6) ∧ (zTLf w.toNat ≤ v ∧ v ≤ zTMf w.toNat)) then (-1, -1, K) else (0, K (100 + w.toNat), zset K (100 + w.toNat) v)
theorem kOk.terms (h : kOk K) {w : Nat} {v : Int} (hw : w < 7) (hv : zTLf w ≤ v ∧ v ≤ zTMf w) : kOk (zset K (100 + w) v) := by
  obtain ⟨h1, h2, h3, ⟨h4, h4'⟩, h5, ⟨h6, h6'⟩, h7⟩ := h
  refine ⟨?_, ?_, ?_, ?_, ?_, ?_, ?_⟩
  · exact by simp (disch := omega) only [zset_off]; exact h1
  · intro q hq
    simp (disch := omega) only [zset_off] at hq
    have hq20 : (q : Int) < 20 := by omega
    simp (disch := omega) only [zset_off]
    exact h2 q hq
  · intro k hk
    by_cases e : k = w
    · subst e; rw [zset_eq]; exact hv
    · rw [zset_off (by omega)]; exact h3 k hk
  · exact ⟨by simp (disch := omega) only [zset_off]; exact h4, by
    intro i hi
    simp (disch := omega) only [zset_off] at hi
    have hi2 : (i : Int) < 120 := by omega
    simp (disch := omega) only [zset_off]
    exact h4' i hi⟩
  · intro f hf
    simp (disch := omega) only [zset_off]
    exact h5 f hf
  · exact ⟨by simp (disch := omega) only [zset_off]; exact h6, by
    intro y hy
    simp (disch := omega) only [zset_off] at hy
    have hy2 : (y : Int) < 40 := by omega
    simp (disch := omega) only [zset_off]
    exact h6' y hy⟩
  · exact by simp (disch := omega) only [zset_off]; exact h7
theorem qSt.terms (h : cA F D Z K im tp tl ms c) {w : Nat} {v : Int} (hw : w < 7) (hvv : zTLf w ≤ v ∧ v ≤ zTMf w) (gr : ∀ a, a ≠ 1 ∧ a ≠ 7 → D1 a = D a) (g1 : ∀ j, j < 16 → D1 1 j = D 1 j) (g7 : ∀ j, D1 7 j = if j = w then v else D 7 j) : qSt F D1 Z 1 (zset K (100 + w) v) := by
  have hv := h.ver
  obtain ⟨hk, e5, e2, e3, ⟨e4, e4'⟩, e6, ⟨e7, e7'⟩, e8, e9, e10, e11⟩ := h.st
  have hk1 := hk.1
  have hk4 := hk.2.2.2.1.1
  have hk6 := hk.2.2.2.2.2.1.1
  have hk7 := hk.2.2.2.2.2.2
  refine qSt.mk1 h.st (hk.terms hw hvv) (fun a ha => gr a (by have := h.2.2.2.2.2.2.2 a ha; omega)) (gr 8 (by omega)) (fun i hi => zset_off (by omega)) (zset_off (by omega)) ?_ ?_ ?_ ?_ ?_ ?_ ?_ ?_ ?_ ?_
  · exact by rw [g1 5 (by omega)]; simp (disch := omega) only [zset_off]; exact e5
  · intro q hq
    simp (disch := omega) only [zset_off] at hq
    have hq20 : (q : Int) < 20 := by omega
    rw [gr 2 (by omega), gr 3 (by omega), gr 4 (by omega), gr 5 (by omega), gr 6 (by omega)]
    simp (disch := omega) only [zset_off]
    exact e2 q hq
  · intro k hk
    rw [g7]
    by_cases e : k = w
    · subst e; rw [zset_eq, if_pos rfl]
    · rw [zset_off (by omega), if_neg e]; exact e3 k hk
  · exact by rw [g1 12 (by omega)]; simp (disch := omega) only [zset_off]; exact e4
  · intro i hi
    simp (disch := omega) only [zset_off] at hi
    have hi2 : (i : Int) < 120 := by omega
    rw [gr 9 (by omega), gr 10 (by omega)]
    simp (disch := omega) only [zset_off]
    exact e4' i hi
  · intro f hf
    rw [gr 11 (by omega)]
    simp (disch := omega) only [zset_off]
    exact e6 f hf
  · exact by rw [g1 15 (by omega)]; simp (disch := omega) only [zset_off]; exact e7
  · intro y hy
    simp (disch := omega) only [zset_off] at hy
    have hy2 : (y : Int) < 40 := by omega
    rw [gr 12 (by omega)]
    simp (disch := omega) only [zset_off]
    exact e7' y hy
  · exact g1 8 (by omega)
  · exact by rw [g1 9 (by omega)]; simp (disch := omega) only [zset_off]; exact e9
theorem pc_terms (h : cA F D Z K im tp tl ms c) (hc : c < 1000) (w v : Int) : qS (fX11_terms F w v D) (cP F D Z K im tp tl ms c (oTerms K w v)) := by
  have hv := h.ver
  unfold fX11_terms fX11_terms_28
  have bad : ¬ ((0 ≤ w ∧ w ≤ 6) ∧ (zTLf w.toNat ≤ v ∧ v ≤ zTMf w.toNat)) → qS ((fX11_refuse F (-1) D).bind (fun (r, D') => some (r, D'))) (cP F D Z K im tp tl ms c (oTerms K w v)) := fun hb => cP.refuse h hc (-1) (by omega) (by unfold oTerms; rw [if_pos hb])
  refine qS_ite (fun h1 => bad (by omega)) (fun h1 => qS_ite (fun h2 => ?_) (fun h2 => bad (by omega)))
  refine qS_chk (by omega) ?_
  refine qS_ite (fun h3 => bad (by omega)) (fun h3 => qS_ite (fun h4 => bad (by omega)) (fun h4 => ?_))
  have e3 := h.st.2.2.2.1 w.toNat (by omega)
  refine qS_leti (qS_leti (qS_chk (by rw [zwr_row (by omega)]; omega) (qS_leti ?_)))
  rw [zwr_row (by omega)]
  refine cP.accept h hc (qSt.terms (D1 := zwr (zwr D 7 w.toNat v) 1 17 (D 1 17 + 1)) (w := w.toNat) (v := v) h (by omega) (by omega) (fun a ha => ?_) (fun j hj => ?_) (fun j => ?_)) (fun a ha => ?_) ?_ ?_ _ ?_
  · rw [zwr_row (by omega), zwr_row (by omega)]
  · rw [zwr_off (by omega), zwr_row (by omega)]
  · rw [zwr_row (by omega), zwr_at]
  · rw [zwr_row (by omega), zwr_row (by omega)]
  · rw [zwr_eq, zwr_off (by omega), zwr_row (by omega)]; omega
  · unfold vI; rw [zwr_eq, zwr_off (by omega), zwr_row (by omega)]
    exact ⟨Or.inl ⟨rfl, eP.off (by omega) (by omega) (by omega)⟩, Or.inr (by omega)⟩
  · unfold oTerms; rw [if_neg (by omega), ← e3]
theorem pr_terms (h : rA D K im tp tl ms c) (hc : c < 1000) (w v : Int) : qS (fX12_terms F w v D) (rP D K im tp tl ms c (oTerms K w v)) := by
  have hk := h.1.2.1
  unfold fX12_terms fX12_terms_25
  have bad : ¬ ((0 ≤ w ∧ w ≤ 6) ∧ (zTLf w.toNat ≤ v ∧ v ≤ zTMf w.toNat)) → qS ((fX12_refuses F (-1) D).bind (fun (r, D') => some (r, D'))) (rP D K im tp tl ms c (oTerms K w v)) := fun hb => rP.refuse h hc (-1) (by omega) (by unfold oTerms; rw [if_pos hb])
  refine qS_step (pX12_lies _ _ _) ?_
  dsimp only
  by_cases hw : 0 ≤ w ∧ w ≤ 6
  · rw [if_pos hw]
    refine qS_neg (by omega) ?_
    obtain ⟨n, rfl⟩ : ∃ n : Nat, w = (n : Int) := ⟨w.toNat, by omega⟩
    have e1 : fX12_leastOf F (n : Int) D = some (zTLf n, D) := by
      have : n = 0 ∨ n = 1 ∨ n = 2 ∨ n = 3 ∨ n = 4 ∨ n = 5 ∨ n = 6 := by omega
      rcases this with rfl | rfl | rfl | rfl | rfl | rfl | rfl <;> rfl
    have e2 : fX12_mostOf F (n : Int) D = some (zTMf n, D) := by
      have : n = 0 ∨ n = 1 ∨ n = 2 ∨ n = 3 ∨ n = 4 ∨ n = 5 ∨ n = 6 := by omega
      rcases this with rfl | rfl | rfl | rfl | rfl | rfl | rfl <;> rfl
    refine qS_step e1 (qS_step e2 (qS_step (pX12_lies _ _ _) ?_))
    dsimp only
    have en : ((n : Int)).toNat = n := by omega
    rw [en] at bad
    by_cases hv : zTLf n ≤ v ∧ v ≤ zTMf n
    · rw [if_pos hv]
      refine qS_neg (by omega) (qS_chk (by omega) ?_)
      refine pX12_replaces (i := 100 + n) (by omega) (by omega) h hc (hk.terms (by omega) hv) ?_
      unfold oTerms; rw [en, if_neg (fun hb => hb ⟨hw, hv⟩)]
    · rw [if_neg hv]
      exact qS_pos rfl (bad (fun hb => hv hb.2))
  · rw [if_neg hw]
    exact qS_pos rfl (bad (fun hb => hw hb.1))
def oUse (K : Nat → Int) (p : Int) : Int × Int × (Nat → Int) :=
  if ¬ (-1 ≤ p ∧ p < K 393) then (-2, -2, K) else (0, K 394, zset K 394 p)
theorem kOk.use (h : kOk K) {p : Int} (hp : -1 ≤ p ∧ p < K 393) : kOk (zset K 394 p) := by
  obtain ⟨h1, h2, h3, ⟨h4, h4'⟩, h5, ⟨h6, h6'⟩, h7⟩ := h
  refine ⟨?_, ?_, ?_, ?_, ?_, ?_, ?_⟩
  · exact by simp (disch := omega) only [zset_off]; exact h1
  · intro q hq
    simp (disch := omega) only [zset_off] at hq
    have hq20 : (q : Int) < 20 := by omega
    simp (disch := omega) only [zset_off]
    exact h2 q hq
  · intro k hk
    simp (disch := omega) only [zset_off]
    exact h3 k hk
  · exact ⟨by simp (disch := omega) only [zset_off]; exact h4, by
    intro i hi
    simp (disch := omega) only [zset_off] at hi
    have hi2 : (i : Int) < 120 := by omega
    simp (disch := omega) only [zset_off]
    exact h4' i hi⟩
  · intro f hf
    simp (disch := omega) only [zset_off]
    exact h5 f hf
  · exact ⟨by simp (disch := omega) only [zset_off]; exact h6, by
    intro y hy
    simp (disch := omega) only [zset_off] at hy
    have hy2 : (y : Int) < 40 := by omega
    simp (disch := omega) only [zset_off]
    exact h6' y hy⟩
  · rw [zset_eq, zset_off (by omega)]
    exact ⟨h7.1, hp⟩
theorem qSt.use (h : cA F D Z K im tp tl ms c) {p : Int} (hp : -1 ≤ p ∧ p < K 393) (gr : ∀ a, a ≠ 1 → D1 a = D a) (g1 : ∀ j, j < 16 ∧ j ≠ 9 → D1 1 j = D 1 j) (g9 : D1 1 9 = p) : qSt F D1 Z 1 (zset K 394 p) := by
  have hv := h.ver
  obtain ⟨hk, e5, e2, e3, ⟨e4, e4'⟩, e6, ⟨e7, e7'⟩, e8, e9, e10, e11⟩ := h.st
  have hk1 := hk.1
  have hk4 := hk.2.2.2.1.1
  have hk6 := hk.2.2.2.2.2.1.1
  have hk7 := hk.2.2.2.2.2.2
  refine qSt.mk1 h.st (hk.use hp) (fun a ha => gr a (by have := h.2.2.2.2.2.2.2 a ha; omega)) (gr 8 (by omega)) (fun i hi => zset_off (by omega)) (zset_off (by omega)) ?_ ?_ ?_ ?_ ?_ ?_ ?_ ?_ ?_ ?_
  · exact by rw [g1 5 (by omega)]; simp (disch := omega) only [zset_off]; exact e5
  · intro q hq
    simp (disch := omega) only [zset_off] at hq
    have hq20 : (q : Int) < 20 := by omega
    rw [gr 2 (by omega), gr 3 (by omega), gr 4 (by omega), gr 5 (by omega), gr 6 (by omega)]
    simp (disch := omega) only [zset_off]
    exact e2 q hq
  · intro k hk
    rw [gr 7 (by omega)]
    simp (disch := omega) only [zset_off]
    exact e3 k hk
  · exact by rw [g1 12 (by omega)]; simp (disch := omega) only [zset_off]; exact e4
  · intro i hi
    simp (disch := omega) only [zset_off] at hi
    have hi2 : (i : Int) < 120 := by omega
    rw [gr 9 (by omega), gr 10 (by omega)]
    simp (disch := omega) only [zset_off]
    exact e4' i hi
  · intro f hf
    rw [gr 11 (by omega)]
    simp (disch := omega) only [zset_off]
    exact e6 f hf
  · exact by rw [g1 15 (by omega)]; simp (disch := omega) only [zset_off]; exact e7
  · intro y hy
    simp (disch := omega) only [zset_off] at hy
    have hy2 : (y : Int) < 40 := by omega
    rw [gr 12 (by omega)]
    simp (disch := omega) only [zset_off]
    exact e7' y hy
  · exact g1 8 (by omega)
  · exact by rw [g9, zset_eq]
theorem pc_use (h : cA F D Z K im tp tl ms c) (hc : c < 1000) (p : Int) : qS (fX11_use F p D) (cP F D Z K im tp tl ms c (oUse K p)) := by
  have hv := h.ver
  have e8 := h.st.2.2.2.2.2.2.2.1
  have e9 := h.st.2.2.2.2.2.2.2.2.1
  unfold fX11_use fX11_use_16
  have bad : ¬ (-1 ≤ p ∧ p < K 393) → qS ((fX11_refuse F (-2) D).bind (fun (r, D') => some (r, D'))) (cP F D Z K im tp tl ms c (oUse K p)) := fun hb => cP.refuse h hc (-2) (by omega) (by unfold oUse; rw [if_pos hb])
  refine qS_ite (fun h1 => bad (by omega)) (fun h1 => qS_ite (fun h2 => ?_) (fun h2 => bad (by omega)))
  refine qS_leti (qS_leti ?_)
  have r1 : ∀ j, j ≠ 9 → zwr D 1 9 p 1 j = D 1 j := fun j hj => by rw [zwr_off (by omega)]
  refine qS_step (pX9_pricesChanged h.good (by rw [r1 16 (by omega), r1 17 (by omega)]; omega)) ?_
  rw [r1 16 (by omega), r1 17 (by omega)]
  refine cP.accept h hc (qSt.use (D1 := zwr (zwr (zwr D 1 9 p) 1 16 (D 1 16 + 1)) 1 17 (D 1 17 + 1)) (p := p) h (by omega) (fun a ha => ?_) (fun j hj => ?_) ?_) (fun a ha => ?_) ?_ ?_ _ ?_
  · rw [zwr_row (by omega), zwr_row (by omega), zwr_row (by omega)]
  · rw [zwr_off (by omega), zwr_off (by omega), zwr_off (by omega)]
  · rw [zwr_off (by omega), zwr_off (by omega), zwr_eq]
  · rw [zwr_row (by omega), zwr_row (by omega), zwr_row (by omega)]
  · rw [zwr_eq, zwr_off (by omega), zwr_eq]; omega
  · unfold vI; rw [zwr_eq, zwr_off (by omega), zwr_eq]
    exact ⟨Or.inr (by omega), Or.inr (by omega)⟩
  · unfold oUse; rw [if_neg (by omega), e9]
theorem pr_use (h : rA D K im tp tl ms c) (hc : c < 1000) (p : Int) : qS (fX12_use F p D) (rP D K im tp tl ms c (oUse K p)) := by
  have hk := h.1.2.1
  have hK := h.1.1
  have hk7 := hk.2.2.2.2.2.2
  unfold fX12_use fX12_use_30
  have gd : (-1 ≤ p ∧ p < K 393) → qS ((fX12_replaces F 394 p D).bind (fun (r, D') => some (r, D'))) (rP D K im tp tl ms c (oUse K p)) := fun hp =>
    pX12_replaces (i := 394) rfl (by omega) h hc (hk.use hp) (by unfold oUse; rw [if_neg (fun hb => hb hp)])
  refine qS_ite (fun h1 => gd (by omega)) (fun h1 => ?_)
  rw [hK]
  refine qS_chk (by omega) (qS_step (pX12_lies _ _ _) ?_)
  dsimp only
  by_cases hp : 0 ≤ p ∧ p ≤ K 393 - 1
  · rw [if_pos hp]; exact qS_neg (by omega) (gd (by omega))
  · rw [if_neg hp]; exact qS_pos rfl (rP.refuse h hc (-2) (by omega) (by unfold oUse; rw [if_pos (by omega)]))
def oLesson (K : Nat → Int) (d q : Int) : Int × Int × (Nat → Int) :=
  if ¬ (0 ≤ d ∧ d ≤ 19) then (-1, -1, K) else if ¬ (0 ≤ q ∧ q < K 390) then (-2, -2, K) else if K 391 = 120 then (-5, -5, K)
  else (0, K 391 + 1, zset (zset (zset K (107 + 2 * (K 391).toNat) d) (108 + 2 * (K 391).toNat) q) 391 (K 391 + 1))
theorem kOk.lesson (h : kOk K) {d q : Int} {n : Nat} (hn : K 391 = (n : Int)) (hn2 : n < 120) (hd : 0 ≤ d ∧ d ≤ 19) (hq : 0 ≤ q ∧ q < K 390) : kOk (zset (zset (zset K (107 + 2 * n) d) (108 + 2 * n) q) 391 (K 391 + 1)) := by
  obtain ⟨h1, h2, h3, ⟨h4, h4'⟩, h5, ⟨h6, h6'⟩, h7⟩ := h
  refine ⟨?_, ?_, ?_, ?_, ?_, ?_, ?_⟩
  · exact by simp (disch := omega) only [zset_off]; exact h1
  · intro q hq
    simp (disch := omega) only [zset_off] at hq
    have hq20 : (q : Int) < 20 := by omega
    simp (disch := omega) only [zset_off]
    exact h2 q hq
  · intro k hk
    simp (disch := omega) only [zset_off]
    exact h3 k hk
  · refine ⟨by rw [zset_eq]; omega, ?_⟩
    intro i hi
    rw [zset_eq] at hi
    rw [zset_off (j := 390) (by omega), zset_off (j := 390) (by omega), zset_off (j := 390) (by omega)]
    by_cases e : i = n
    · subst e
      rw [zset_off (by omega), zset_off (by omega), zset_eq, zset_off (by omega), zset_eq]; exact ⟨hd, hq⟩
    · rw [zset_off (by omega), zset_off (by omega), zset_off (by omega), zset_off (by omega), zset_off (by omega), zset_off (by omega)]
      exact h4' i (by omega)
  · intro f hf
    simp (disch := omega) only [zset_off]
    exact h5 f hf
  · exact ⟨by simp (disch := omega) only [zset_off]; exact h6, by
    intro y hy
    simp (disch := omega) only [zset_off] at hy
    have hy2 : (y : Int) < 40 := by omega
    simp (disch := omega) only [zset_off]
    exact h6' y hy⟩
  · exact by simp (disch := omega) only [zset_off]; exact h7
theorem qSt.lesson (h : cA F D Z K im tp tl ms c) {d q : Int} {n : Nat} (hn : K 391 = (n : Int)) (hn2 : n < 120) (hd : 0 ≤ d ∧ d ≤ 19) (hq : 0 ≤ q ∧ q < K 390) (gr : ∀ a, a ≠ 1 ∧ a ≠ 9 ∧ a ≠ 10 → D1 a = D a) (g1 : ∀ j, j < 16 ∧ j ≠ 12 → D1 1 j = D 1 j) (g12 : D1 1 12 = K 391 + 1) (g9' : ∀ j, D1 9 j = if j = n then d else D 9 j) (g10' : ∀ j, D1 10 j = if j = n then q else D 10 j) : qSt F D1 Z 1 (zset (zset (zset K (107 + 2 * n) d) (108 + 2 * n) q) 391 (K 391 + 1)) := by
  have hv := h.ver
  obtain ⟨hk, e5, e2, e3, ⟨e4, e4'⟩, e6, ⟨e7, e7'⟩, e8, e9, e10, e11⟩ := h.st
  have hk1 := hk.1
  have hk4 := hk.2.2.2.1.1
  have hk6 := hk.2.2.2.2.2.1.1
  have hk7 := hk.2.2.2.2.2.2
  refine qSt.mk1 h.st (hk.lesson hn hn2 hd hq) (fun a ha => gr a (by have := h.2.2.2.2.2.2.2 a ha; omega)) (gr 8 (by omega)) (fun i hi => by rw [zset_off (by omega), zset_off (by omega), zset_off (by omega)]) (by rw [zset_off (by omega), zset_off (by omega), zset_off (by omega)]) ?_ ?_ ?_ ?_ ?_ ?_ ?_ ?_ ?_ ?_
  · exact by rw [g1 5 (by omega)]; simp (disch := omega) only [zset_off]; exact e5
  · intro q hq
    simp (disch := omega) only [zset_off] at hq
    have hq20 : (q : Int) < 20 := by omega
    rw [gr 2 (by omega), gr 3 (by omega), gr 4 (by omega), gr 5 (by omega), gr 6 (by omega)]
    simp (disch := omega) only [zset_off]
    exact e2 q hq
  · intro k hk
    rw [gr 7 (by omega)]
    simp (disch := omega) only [zset_off]
    exact e3 k hk
  · exact by rw [g12, zset_eq]
  · intro i hi
    rw [zset_eq] at hi
    rw [g9', g10']
    by_cases e : i = n
    · subst e
      rw [zset_off (by omega), zset_off (by omega), zset_eq, zset_off (by omega), zset_eq, if_pos rfl, if_pos rfl]; exact ⟨rfl, rfl⟩
    · rw [zset_off (by omega), zset_off (by omega), zset_off (by omega), zset_off (by omega), zset_off (by omega), zset_off (by omega), if_neg e, if_neg e]
      exact e4' i (by omega)
  · intro f hf
    rw [gr 11 (by omega)]
    simp (disch := omega) only [zset_off]
    exact e6 f hf
  · exact by rw [g1 15 (by omega)]; simp (disch := omega) only [zset_off]; exact e7
  · intro y hy
    simp (disch := omega) only [zset_off] at hy
    have hy2 : (y : Int) < 40 := by omega
    rw [gr 12 (by omega)]
    simp (disch := omega) only [zset_off]
    exact e7' y hy
  · exact g1 8 (by omega)
  · exact by rw [g1 9 (by omega)]; simp (disch := omega) only [zset_off]; exact e9
theorem pc_lesson (h : cA F D Z K im tp tl ms c) (hc : c < 1000) (d q : Int) : qS (fX11_lesson F d q D) (cP F D Z K im tp tl ms c (oLesson K d q)) := by
  have hv := h.ver
  have e5 := h.st.2.1
  have e4 := h.st.2.2.2.2.1.1
  have hk4 := h.st.1.2.2.2.1.1
  unfold fX11_lesson fX11_lesson_10
  have bad : ¬ (0 ≤ d ∧ d ≤ 19) → qS ((fX11_refuse F (-1) D).bind (fun (r, D') => some (r, D'))) (cP F D Z K im tp tl ms c (oLesson K d q)) := fun hb => cP.refuse h hc (-1) (by omega) (by unfold oLesson; rw [if_pos hb])
  refine qS_ite (fun h1 => bad (by omega)) (fun h1 => qS_ite (fun h2 => ?_) (fun h2 => bad (by omega)))
  refine qS_step (pX9_has q) ?_
  dsimp only
  rw [e5]
  by_cases hq : 0 ≤ q ∧ q < K 390
  · rw [if_pos hq]
    refine qS_neg (by omega) ?_
    refine qS_ite (fun h3 => ?_) (fun h3 => cP.refuse h hc (-5) (by omega) (by unfold oLesson; rw [if_neg (by omega), if_neg (by omega), if_pos (by omega)]))
    obtain ⟨n, hn⟩ : ∃ n : Nat, K 391 = (n : Int) := ⟨(K 391).toNat, by omega⟩
    have en : (D 1 12).toNat = n := by omega
    have en' : (K 391).toNat = n := by omega
    have r1 : ∀ j, zwr D 9 n d 1 j = D 1 j := fun j => by rw [zwr_row (by omega)]
    have r2 : ∀ j, zwr (zwr D 9 n d) 10 n q 1 j = D 1 j := fun j => by rw [zwr_row (by omega), zwr_row (by omega)]
    rw [en]
    refine qS_chk (by omega) (qS_leti (qS_chk (by rw [r1]; omega) ?_))
    rw [r1, en]
    refine qS_leti (qS_chk (by rw [r2]; omega) (qS_leti ?_))
    rw [r2, zwr_off (j := 17) (by omega), r2]
    refine qS_chk (by omega) (qS_leti ?_)
    rw [zwr_off (j := 12) (by omega), zwr_eq]
    refine cP.accept h hc (qSt.lesson (D1 := zwr (zwr (zwr (zwr D 9 n d) 10 n q) 1 12 (D 1 12 + 1)) 1 17 (D 1 17 + 1)) (d := d) h hn (by omega) (by omega) hq (fun a ha => ?_) (fun j hj => ?_) ?_ (fun j => ?_) (fun j => ?_)) (fun a ha => ?_) ?_ ?_ _ ?_
    · rw [zwr_row (by omega), zwr_row (by omega), zwr_row (by omega), zwr_row (by omega)]
    · rw [zwr_off (by omega), zwr_off (by omega), r2]
    · rw [zwr_off (by omega), zwr_eq, e4]
    · rw [zwr_row (by omega), zwr_row (by omega), zwr_row (by omega), zwr_at]
    · rw [zwr_row (by omega), zwr_row (by omega), zwr_at, zwr_row (by omega)]
    · rw [zwr_row (by omega), zwr_row (by omega), zwr_row (by omega), zwr_row (by omega)]
    · rw [zwr_eq, zwr_off (by omega), zwr_off (by omega), r2]; omega
    · unfold vI; rw [zwr_eq, zwr_off (by omega), zwr_off (by omega), r2]
      exact ⟨Or.inl ⟨rfl, ((eP.off (by omega) (by omega) (by omega)).trans (eP.off (by omega) (by omega) (by omega))).trans (eP.off (by omega) (by omega) (by omega))⟩, Or.inr (by omega)⟩
    · unfold oLesson; rw [if_neg (by omega), if_neg (by omega), if_neg (by omega), en', e4]
  · rw [if_neg hq]
    exact qS_pos rfl (cP.refuse h hc (-2) (by omega) (by unfold oLesson; rw [if_neg (by omega), if_pos hq]))
theorem pr_lesson (h : rA D K im tp tl ms c) (hc : c < 1000) (d q : Int) : qS (fX12_lesson F d q D) (rP D K im tp tl ms c (oLesson K d q)) := by
  have hk := h.1.2.1
  have hK := h.1.1
  have hk4 := hk.2.2.2.1.1
  unfold fX12_lesson
  refine qS_step (pX12_lies _ _ _) ?_
  dsimp only
  by_cases hd : 0 ≤ d ∧ d ≤ 19
  · rw [if_pos hd]
    refine qS_neg (by omega) (qS_step (pX12_isQuestion (by rw [hK]; exact hk) _) ?_)
    dsimp only
    rw [hK]
    by_cases hq : 0 ≤ q ∧ q < K 390
    · rw [if_pos hq]
      refine qS_neg (by omega) (qS_leti ?_)
      refine qS_ite (fun h3 => rP.refuse h hc (-5) (by omega) (by unfold oLesson; rw [if_neg (by omega), if_neg (by omega), if_pos (by omega)])) (fun h3 => ?_)
      obtain ⟨n, hn⟩ : ∃ n : Nat, K 391 = (n : Int) := ⟨(K 391).toNat, by omega⟩
      have en' : (K 391).toNat = n := by omega
      have x1 : (107 + 2 * K 391).toNat = 107 + 2 * n := by omega
      have x2 : ((107 + 2 * K 391) + 1).toNat = 108 + 2 * n := by omega
      rw [x1, x2]
      have x3 : zwr (zwr D 93 (107 + 2 * n) d) 93 (108 + 2 * n) q 93 391 = K 391 := by rw [zwr_off (by omega), zwr_off (by omega), hK]
      refine qS_chk (by omega) (qS_leti (qS_chk (by omega) (qS_leti (qS_chk (by rw [x3]; omega) (qS_leti (qS_chk (by omega) ?_))))))
      rw [x3]
      refine rP.good h hc ?_ (hk.lesson hn (by omega) hd hq) ?_ ?_ _ ?_
      · rw [zwr_self, zwr_self, zwr_self, hK]
      · intro j hj
        rw [zset_off (by omega), zset_off (by omega), zset_off (by omega)]; exact h.1.2.2 j hj
      · intro a ha; rw [zwr_row ha, zwr_row ha, zwr_row ha]
      · unfold oLesson; rw [if_neg (by omega), if_neg (by omega), if_neg (by omega), en']
    · rw [if_neg hq]
      exact qS_pos rfl (rP.refuse h hc (-2) (by omega) (by unfold oLesson; rw [if_neg (by omega), if_pos hq]))
  · rw [if_neg hd]
    exact qS_pos rfl (rP.refuse h hc (-1) (by omega) (by unfold oLesson; rw [if_pos hd]))
def oFriend (K : Nat → Int) (f v : Int) : Int × Int × (Nat → Int) :=
  if ¬ ((0 ≤ f ∧ f ≤ 2) ∧ (0 ≤ v ∧ v ≤ 99)) then (-1, -1, K) else (0, K (347 + f.toNat), zset K (347 + f.toNat) v)
theorem kOk.friend (h : kOk K) {g : Nat} {v : Int} (hg : g < 3) (hv : 0 ≤ v ∧ v ≤ 99) : kOk (zset K (347 + g) v) := by
  obtain ⟨h1, h2, h3, ⟨h4, h4'⟩, h5, ⟨h6, h6'⟩, h7⟩ := h
  refine ⟨?_, ?_, ?_, ?_, ?_, ?_, ?_⟩
  · exact by simp (disch := omega) only [zset_off]; exact h1
  · intro q hq
    simp (disch := omega) only [zset_off] at hq
    have hq20 : (q : Int) < 20 := by omega
    simp (disch := omega) only [zset_off]
    exact h2 q hq
  · intro k hk
    simp (disch := omega) only [zset_off]
    exact h3 k hk
  · exact ⟨by simp (disch := omega) only [zset_off]; exact h4, by
    intro i hi
    simp (disch := omega) only [zset_off] at hi
    have hi2 : (i : Int) < 120 := by omega
    simp (disch := omega) only [zset_off]
    exact h4' i hi⟩
  · intro f hf
    by_cases e : f = g
    · subst e; rw [zset_eq]; exact hv
    · rw [zset_off (by omega)]; exact h5 f hf
  · exact ⟨by simp (disch := omega) only [zset_off]; exact h6, by
    intro y hy
    simp (disch := omega) only [zset_off] at hy
    have hy2 : (y : Int) < 40 := by omega
    simp (disch := omega) only [zset_off]
    exact h6' y hy⟩
  · exact by simp (disch := omega) only [zset_off]; exact h7
theorem qSt.friend (h : cA F D Z K im tp tl ms c) {g : Nat} {v : Int} (hg : g < 3) (hvv : 0 ≤ v ∧ v ≤ 99) (gr : ∀ a, a ≠ 11 → D1 a = D a) (g1 : ∀ j, j < 16 → D1 1 j = D 1 j) (g11 : ∀ j, D1 11 j = if j = g then v else D 11 j) : qSt F D1 Z 1 (zset K (347 + g) v) := by
  have hv := h.ver
  obtain ⟨hk, e5, e2, e3, ⟨e4, e4'⟩, e6, ⟨e7, e7'⟩, e8, e9, e10, e11⟩ := h.st
  have hk1 := hk.1
  have hk4 := hk.2.2.2.1.1
  have hk6 := hk.2.2.2.2.2.1.1
  have hk7 := hk.2.2.2.2.2.2
  refine qSt.mk1 h.st (hk.friend hg hvv) (fun a ha => gr a (by have := h.2.2.2.2.2.2.2 a ha; omega)) (gr 8 (by omega)) (fun i hi => zset_off (by omega)) (zset_off (by omega)) ?_ ?_ ?_ ?_ ?_ ?_ ?_ ?_ ?_ ?_
  · exact by rw [g1 5 (by omega)]; simp (disch := omega) only [zset_off]; exact e5
  · intro q hq
    simp (disch := omega) only [zset_off] at hq
    have hq20 : (q : Int) < 20 := by omega
    rw [gr 2 (by omega), gr 3 (by omega), gr 4 (by omega), gr 5 (by omega), gr 6 (by omega)]
    simp (disch := omega) only [zset_off]
    exact e2 q hq
  · intro k hk
    rw [gr 7 (by omega)]
    simp (disch := omega) only [zset_off]
    exact e3 k hk
  · exact by rw [g1 12 (by omega)]; simp (disch := omega) only [zset_off]; exact e4
  · intro i hi
    simp (disch := omega) only [zset_off] at hi
    have hi2 : (i : Int) < 120 := by omega
    rw [gr 9 (by omega), gr 10 (by omega)]
    simp (disch := omega) only [zset_off]
    exact e4' i hi
  · intro f hf
    rw [g11]
    by_cases e : f = g
    · subst e; rw [zset_eq, if_pos rfl]
    · rw [zset_off (by omega), if_neg e]; exact e6 f hf
  · exact by rw [g1 15 (by omega)]; simp (disch := omega) only [zset_off]; exact e7
  · intro y hy
    simp (disch := omega) only [zset_off] at hy
    have hy2 : (y : Int) < 40 := by omega
    rw [gr 12 (by omega)]
    simp (disch := omega) only [zset_off]
    exact e7' y hy
  · exact g1 8 (by omega)
  · exact by rw [g1 9 (by omega)]; simp (disch := omega) only [zset_off]; exact e9
theorem pc_friend (h : cA F D Z K im tp tl ms c) (hc : c < 1000) (f v : Int) : qS (fX11_friend F f v D) (cP F D Z K im tp tl ms c (oFriend K f v)) := by
  have hv := h.ver
  unfold fX11_friend fX11_friend_19
  have bad : ¬ ((0 ≤ f ∧ f ≤ 2) ∧ (0 ≤ v ∧ v ≤ 99)) → qS ((fX11_refuse F (-1) D).bind (fun (r, D') => some (r, D'))) (cP F D Z K im tp tl ms c (oFriend K f v)) := fun hb => cP.refuse h hc (-1) (by omega) (by unfold oFriend; rw [if_pos hb])
  refine qS_ite (fun h1 => bad (by omega)) (fun h1 => qS_ite (fun h2 => ?_) (fun h2 => bad (by omega)))
  refine qS_ite (fun h3 => bad (by omega)) (fun h3 => qS_ite (fun h4 => bad (by omega)) (fun h4 => ?_))
  have e6 := h.st.2.2.2.2.2.1 f.toNat (by omega)
  refine qS_chk (by omega) (qS_leti (qS_leti ?_))
  have r1 : ∀ j, zwr D 11 f.toNat v 1 j = D 1 j := fun j => by rw [zwr_row (by omega)]
  refine cP.accept h hc (qSt.friend (D1 := zwr D 11 f.toNat v) (g := f.toNat) (v := v) h (by omega) (by omega) (fun a ha => zwr_row (by omega)) (fun j _ => r1 j) (fun j => zwr_at)) (fun a ha => zwr_row (by omega)) (by rw [r1, r1]; omega) ?_ _ ?_
  · unfold vI; rw [r1, r1]
    exact ⟨Or.inl ⟨rfl, eP.off (by omega) (by omega) (by omega)⟩, Or.inl ⟨rfl, eV.off (by omega) (by omega) (by omega) (by omega)⟩⟩
  · unfold oFriend; rw [if_neg (by omega), ← e6]
theorem pr_friend (h : rA D K im tp tl ms c) (hc : c < 1000) (f v : Int) : qS (fX12_friend F f v D) (rP D K im tp tl ms c (oFriend K f v)) := by
  have hk := h.1.2.1
  unfold fX12_friend fX12_friend_32
  have bad : ¬ ((0 ≤ f ∧ f ≤ 2) ∧ (0 ≤ v ∧ v ≤ 99)) → qS ((fX12_refuses F (-1) D).bind (fun (r, D') => some (r, D'))) (rP D K im tp tl ms c (oFriend K f v)) := fun hb => rP.refuse h hc (-1) (by omega) (by unfold oFriend; rw [if_pos hb])
  refine qS_step (pX12_lies _ _ _) ?_
  dsimp only
  by_cases hf : 0 ≤ f ∧ f ≤ 2
  · rw [if_pos hf]
    refine qS_neg (by omega) (qS_step (pX12_lies _ _ _) ?_)
    dsimp only
    by_cases hv : 0 ≤ v ∧ v ≤ 99
    · rw [if_pos hv]
      refine qS_neg (by omega) (qS_chk (by omega) ?_)
      exact pX12_replaces (i := 347 + f.toNat) (by omega) (by omega) h hc (hk.friend (by omega) hv) (by unfold oFriend; rw [if_neg (by omega)])
    · rw [if_neg hv]
      exact qS_pos rfl (bad (fun hb => hv hb.2))
  · rw [if_neg hf]
    exact qS_pos rfl (bad (fun hb => hf hb.1))
end C4
