section C3
variable {F : zFs} {D D1 : zDa} {Z : Nat → Prop} {K K' : Nat → Int} {im : Nat → Option (Nat → Int)} {tp : Nat → Int} {tl : Int} {ms : Nat → Int} {c : Nat}
def oKnow (K : Nat → Int) (q w v : Int) : Int × Int × (Nat → Int) :=
  if ¬ ((0 ≤ w ∧ w ≤ 2) ∧ (0 ≤ v ∧ v ≤ if w = 0 then 2 else 1)) then (-1, -1, K) else if ¬ (0 ≤ q ∧ q < K 390) then (-2, -2, K)
  else (0, K (5 * q.toNat + 2 + w.toNat), zset K (5 * q.toNat + 2 + w.toNat) v)
theorem kOk.know (h : kOk K) {q w : Nat} {v : Int} (hq : (q : Int) < K 390) (hw : w ≤ 2) (hv : 0 ≤ v ∧ v ≤ if w = 0 then 2 else 1) : kOk (zset K (5 * q + 2 + w) v) := by
  obtain ⟨h1, h2, h3, ⟨h4, h4'⟩, h5, ⟨h6, h6'⟩, h7⟩ := h
  refine ⟨?_, ?_, ?_, ?_, ?_, ?_, ?_⟩
  · exact by simp (disch := omega) only [zset_off]; exact h1
  · intro p hp
    simp (disch := omega) only [zset_off] at hp
    have hq20 : (p : Int) < 20 := by omega
    have hp2 := h2 p hp
    by_cases e : p = q
    · subst e
      have hw' : w = 0 ∨ w = 1 ∨ w = 2 := by omega
      rcases hw' with rfl | rfl | rfl
      · rw [if_pos rfl] at hv
        rw [zset_off (by omega), zset_off (by omega), show 5 * p + 2 + 0 = 5 * p + 2 from rfl, zset_eq, zset_off (by omega), zset_off (by omega)]; omega
      · rw [if_neg (by omega)] at hv
        rw [zset_off (by omega), zset_off (by omega), show 5 * p + 2 + 1 = 5 * p + 3 from rfl, zset_eq, zset_off (by omega), zset_off (by omega)]; omega
      · rw [if_neg (by omega)] at hv
        rw [zset_off (by omega), zset_off (by omega), show 5 * p + 2 + 2 = 5 * p + 4 from rfl, zset_eq, zset_off (by omega), zset_off (by omega)]; omega
    · rw [zset_off (by omega), zset_off (by omega), zset_off (by omega), zset_off (by omega), zset_off (by omega)]
      exact hp2
  · intro k hk
    simp (disch := omega) only [zset_off]
    exact h3 k hk
  · exact ⟨by simp (disch := omega) only [zset_off]; exact h4, by
    intro i hi
    simp (disch := omega) only [zset_off] at hi
    have hi2 : (i : Int) < 120 := by omega
    simp (disch := omega) only [zset_off]
    exact h4' i hi⟩
  · intro f hf
    simp (disch := omega) only [zset_off]
    exact h5 f hf
  · exact ⟨by simp (disch := omega) only [zset_off]; exact h6, by
    intro y hy
    simp (disch := omega) only [zset_off] at hy
    have hy2 : (y : Int) < 40 := by omega
    simp (disch := omega) only [zset_off]
    exact h6' y hy⟩
  · exact by simp (disch := omega) only [zset_off]; exact h7
theorem qSt.know (h : cA F D Z K im tp tl ms c) {q w : Nat} {v : Int} (hq : (q : Int) < K 390) (hw : w ≤ 2) (hvv : 0 ≤ v ∧ v ≤ if w = 0 then 2 else 1)
    (gr : ∀ a, a ≠ 1 ∧ a ≠ 4 ∧ a ≠ 5 ∧ a ≠ 6 → D1 a = D a) (g1 : ∀ j, j < 16 → D1 1 j = D 1 j) (g4 : ∀ j, D1 4 j = if j = q ∧ w = 0 then v else D 4 j) (g5 : ∀ j, D1 5 j = if j = q ∧ w = 1 then v else D 5 j) (g6 : ∀ j, D1 6 j = if j = q ∧ w = 2 then v else D 6 j) : qSt F D1 Z 1 (zset K (5 * q + 2 + w) v) := by
  have hv := h.ver
  obtain ⟨hk, e5, e2, e3, ⟨e4, e4'⟩, e6, ⟨e7, e7'⟩, e8, e9, e10, e11⟩ := h.st
  have hk1 := hk.1
  have hk4 := hk.2.2.2.1.1
  have hk6 := hk.2.2.2.2.2.1.1
  have hk7 := hk.2.2.2.2.2.2
  refine qSt.mk1 h.st (hk.know hq hw hvv) (fun a ha => gr a (by have := h.2.2.2.2.2.2.2 a ha; omega)) (gr 8 (by omega)) (fun i hi => zset_off (by omega)) (zset_off (by omega)) ?_ ?_ ?_ ?_ ?_ ?_ ?_ ?_ ?_ ?_
  · exact by rw [g1 5 (by omega)]; simp (disch := omega) only [zset_off]; exact e5
  · intro p hp
    simp (disch := omega) only [zset_off] at hp
    have hq20 : (p : Int) < 20 := by omega
    have hp2 := e2 p hp
    rw [gr 2 (by omega), gr 3 (by omega), g4, g5, g6]
    by_cases e : p = q
    · subst e
      have hw' : w = 0 ∨ w = 1 ∨ w = 2 := by omega
      rcases hw' with rfl | rfl | rfl
      · rw [zset_off (by omega), zset_off (by omega), show 5 * p + 2 + 0 = 5 * p + 2 from rfl, zset_eq, zset_off (by omega), zset_off (by omega), if_pos (by omega), if_neg (by omega), if_neg (by omega)]
        exact ⟨hp2.1, hp2.2.1, rfl, hp2.2.2.2⟩
      · rw [zset_off (by omega), zset_off (by omega), show 5 * p + 2 + 1 = 5 * p + 3 from rfl, zset_eq, zset_off (by omega), zset_off (by omega), if_neg (by omega), if_pos (by omega), if_neg (by omega)]
        exact ⟨hp2.1, hp2.2.1, hp2.2.2.1, rfl, hp2.2.2.2.2⟩
      · rw [zset_off (by omega), zset_off (by omega), show 5 * p + 2 + 2 = 5 * p + 4 from rfl, zset_eq, zset_off (by omega), zset_off (by omega), if_neg (by omega), if_neg (by omega), if_pos (by omega)]
        exact ⟨hp2.1, hp2.2.1, hp2.2.2.1, hp2.2.2.2.1, rfl⟩
    · rw [zset_off (by omega), zset_off (by omega), zset_off (by omega), zset_off (by omega), zset_off (by omega), if_neg (by omega), if_neg (by omega), if_neg (by omega)]
      exact hp2
  · intro k hk
    rw [gr 7 (by omega)]
    simp (disch := omega) only [zset_off]
    exact e3 k hk
  · exact by rw [g1 12 (by omega)]; simp (disch := omega) only [zset_off]; exact e4
  · intro i hi
    simp (disch := omega) only [zset_off] at hi
    have hi2 : (i : Int) < 120 := by omega
    rw [gr 9 (by omega), gr 10 (by omega)]
    simp (disch := omega) only [zset_off]
    exact e4' i hi
  · intro f hf
    rw [gr 11 (by omega)]
    simp (disch := omega) only [zset_off]
    exact e6 f hf
  · exact by rw [g1 15 (by omega)]; simp (disch := omega) only [zset_off]; exact e7
  · intro y hy
    simp (disch := omega) only [zset_off] at hy
    have hy2 : (y : Int) < 40 := by omega
    rw [gr 12 (by omega)]
    simp (disch := omega) only [zset_off]
    exact e7' y hy
  · exact g1 8 (by omega)
  · exact by rw [g1 9 (by omega)]; simp (disch := omega) only [zset_off]; exact e9
theorem eP.know {i : Nat} {v : Int} (h : i < 100) (h2 : i % 5 = 2) : eP K (zset K i v) :=
  ⟨zset_off (by omega), fun j _ hj => zset_off (fun e => hj (by rw [e]; exact h2)), fun _ _ _ _ _ => kTold_congr (fun j hj => zset_off (by omega)) _ _ _ _ _⟩
theorem eV.know {i : Nat} {v : Int} (h : i < 100) (h2 : i % 5 = 2) : eV K (zset K i v) :=
  ⟨eP.know h h2, fun j _ _ => zset_off (by omega), zset_off (by omega), fun j _ _ => zset_off (by omega)⟩
theorem pc_know96 (h : cA F D Z K im tp tl ms c) (hc : c < 1000) {q w : Nat} {v : Int} (hq : (q : Int) < K 390) (hw : w ≤ 2) (hvv : 0 ≤ v ∧ v ≤ if w = 0 then 2 else 1) {s0 : Nat} (hs : s0 = 4 + w) :
    qS (fX11_know_96 F (q : Int) (w : Int) v s0 D) (cP F D Z K im tp tl ms c (0, K (5 * q + 2 + w), zset K (5 * q + 2 + w) v)) := by
  have hv := h.ver
  have hk1 := h.st.1.1
  have e2 := h.st.2.2.1 q hq
  have hG := h.good
  have hw' : w = 0 ∨ w = 1 ∨ w = 2 := by omega
  have hF : (F s0).1 = 20 ∧ (F s0).2.1 = 20 := by
    rcases hw' with rfl | rfl | rfl
    · subst hs; exact ⟨gk_4 hG, gl_4 hG⟩
    · subst hs; exact ⟨gk_5 hG, gl_5 hG⟩
    · subst hs; exact ⟨gk_6 hG, gl_6 hG⟩
  unfold fX11_know_96 fX11_know_120
  have eq0 : ((q : Int)).toNat = q := by omega
  rw [eq0]
  have es : D s0 q = K (5 * q + 2 + w) := by
    rcases hw' with rfl | rfl | rfl
    · subst hs; exact e2.2.2.1
    · subst hs; exact e2.2.2.2.1
    · subst hs; exact e2.2.2.2.2
  refine qS_chk ⟨hF.1, by rw [hF.2]; omega⟩ (qS_leti (qS_leti ?_))
  rw [es]
  have r1 : ∀ j, zwr D s0 q v 1 j = D 1 j := fun j => by rw [zwr_row (by omega)]
  refine qS_ite (fun h0 => ?_) (fun h0 => ?_)
  · have hw0 : w = 0 := by omega
    subst hw0
    subst hs
    refine cP.accept h hc (qSt.know (D1 := zwr D 4 q v) h hq hw hvv (fun a ha => zwr_row (by omega)) (fun j _ => r1 j) (fun j => ?_) (fun j => ?_) (fun j => ?_)) (fun a ha => zwr_row (by omega)) (by rw [r1, r1]; omega) ?_ _ rfl
    · rw [zwr_at]; simp
    · rw [zwr_row (by omega)]; simp
    · rw [zwr_row (by omega)]; simp
    · unfold vI; rw [r1, r1]
      exact ⟨Or.inl ⟨rfl, eP.know (by omega) (by omega)⟩, Or.inl ⟨rfl, eV.know (by omega) (by omega)⟩⟩
  · refine qS_step (pX9_pricesChanged hG (by rw [r1, r1]; omega)) ?_
    rw [r1, r1]
    refine cP.accept h hc (qSt.know (D1 := zwr (zwr (zwr D s0 q v) 1 16 (D 1 16 + 1)) 1 17 (D 1 17 + 1)) h hq hw hvv (fun a ha => ?_) (fun j hj => ?_) (fun j => ?_) (fun j => ?_) (fun j => ?_)) (fun a ha => ?_) ?_ ?_ _ rfl
    · rw [zwr_row (by omega), zwr_row (by omega), zwr_row (by omega)]
    · rw [zwr_off (by omega), zwr_off (by omega), r1]
    · rw [zwr_row (by omega), zwr_row (by omega)]
      rcases hw' with rfl | rfl | rfl
      · exact absurd rfl h0
      · subst hs; rw [zwr_row (by omega), if_neg (by omega)]
      · subst hs; rw [zwr_row (by omega), if_neg (by omega)]
    · rw [zwr_row (by omega), zwr_row (by omega)]
      rcases hw' with rfl | rfl | rfl
      · exact absurd rfl h0
      · subst hs; rw [zwr_at]; simp
      · subst hs; rw [zwr_row (by omega), if_neg (by omega)]
    · rw [zwr_row (by omega), zwr_row (by omega)]
      rcases hw' with rfl | rfl | rfl
      · exact absurd rfl h0
      · subst hs; rw [zwr_row (by omega), if_neg (by omega)]
      · subst hs; rw [zwr_at]; simp
    · rw [zwr_row (by omega), zwr_row (by omega), zwr_row (by omega)]
    · rw [zwr_off (by omega), zwr_eq, zwr_eq]; omega
    · unfold vI; rw [zwr_off (by omega), zwr_eq, zwr_eq]; exact ⟨Or.inr (by omega), Or.inr (by omega)⟩
theorem pc_know (h : cA F D Z K im tp tl ms c) (hc : c < 1000) (q w v : Int) : qS (fX11_know F q w v D) (cP F D Z K im tp tl ms c (oKnow K q w v)) := by
  have e5 := h.st.2.1
  unfold fX11_know fX11_know_9 fX11_know_24 fX11_know_36
  have bad : ¬ ((0 ≤ w ∧ w ≤ 2) ∧ (0 ≤ v ∧ v ≤ if w = 0 then 2 else 1)) → qS ((fX11_refuse F (-1) D).bind (fun (r, D') => some (r, D'))) (cP F D Z K im tp tl ms c (oKnow K q w v)) := fun hb => cP.refuse h hc (-1) (by omega) (by unfold oKnow; rw [if_pos hb])
  have rest : (0 ≤ w ∧ w ≤ 2) → (0 ≤ v ∧ v ≤ if w = 0 then 2 else 1) → ∀ s0 : Nat, (s0 : Int) = 4 + w → (0 ≤ q ∧ q < K 390) → qS (fX11_know_96 F q w v s0 D) (cP F D Z K im tp tl ms c (oKnow K q w v)) := by
    intro hw hvv s0 hs hq
    obtain ⟨n, rfl⟩ : ∃ n : Nat, q = (n : Int) := ⟨q.toNat, by omega⟩
    obtain ⟨m, rfl⟩ : ∃ n : Nat, w = (n : Int) := ⟨w.toNat, by omega⟩
    have hx : (if (m : Int) = 0 then (2 : Int) else 1) = if m = 0 then 2 else 1 := by
      by_cases e : m = 0
      · subst e; rfl
      · rw [if_neg e, if_neg (by omega)]
    have := pc_know96 (F := F) h hc (q := n) (w := m) (v := v) hq.2 (by omega) (by rw [← hx]; exact hvv) (s0 := s0) (by omega)
    unfold oKnow
    rw [if_neg (fun hb => hb ⟨hw, hvv⟩), if_neg (fun hb => hb hq)]
    exact this
  refine qS_ite (fun h1 => bad (by omega)) (fun h1 => qS_ite (fun h2 => bad (by omega)) (fun h2 => ?_))
  have tail : ∀ b : Int, b = (if w = 0 then 2 else 1) → qS (if v < 0 then (fX11_refuse F (-1) D).bind (fun (r_3, D_4) => some (r_3, D_4)) else if b < v then (fX11_refuse F (-1) D).bind (fun (r_3, D_4) => some (r_3, D_4)) else (fX9_has F q D).bind (fun (r_5, D_6) => if r_5 = 0 then (fX11_refuse F (-2) D_6).bind (fun (r_7, D_8) => some (r_7, D_8)) else if w = 0 then fX11_know_96 F q w v 4 D_6 else if w = 1 then fX11_know_96 F q w v 5 D_6 else fX11_know_96 F q w v 6 D_6)) (cP F D Z K im tp tl ms c (oKnow K q w v)) := by
    intro b hb
    refine qS_ite (fun h3 => bad (by omega)) (fun h3 => qS_ite (fun h4 => bad (by rw [← hb]; omega)) (fun h4 => ?_))
    have hvv : 0 ≤ v ∧ v ≤ if w = 0 then 2 else 1 := by rw [← hb]; omega
    refine qS_step (pX9_has q) ?_
    dsimp only
    rw [e5]
    by_cases hq : 0 ≤ q ∧ q < K 390
    · rw [if_pos hq]
      refine qS_neg (by omega) ?_
      refine qS_ite (fun h5 => rest (by omega) hvv 4 (by omega) hq) (fun h5 => qS_ite (fun h6 => rest (by omega) hvv 5 (by omega) hq) (fun h6 => rest (by omega) hvv 6 (by omega) hq))
    · rw [if_neg hq]
      refine qS_pos rfl ?_
      exact cP.refuse h hc (-2) (by omega) (by unfold oKnow; rw [if_neg (fun hb => hb ⟨by omega, hvv⟩), if_pos hq])
  refine qS_ite (fun h3 => tail 2 (by rw [if_pos h3])) (fun h3 => tail 1 (by rw [if_neg h3]))
theorem pr_know (h : rA D K im tp tl ms c) (hc : c < 1000) (q w v : Int) : qS (fX12_know F q w v D) (rP D K im tp tl ms c (oKnow K q w v)) := by
  have hk := h.1.2.1
  have hK := h.1.1
  have hk1 := hk.1
  unfold fX12_know fX12_know_26
  refine qS_step (pX12_lies _ _ _) ?_
  dsimp only
  have bad : ¬ ((0 ≤ w ∧ w ≤ 2) ∧ (0 ≤ v ∧ v ≤ if w = 0 then 2 else 1)) → qS ((fX12_refuses F (-1) D).bind (fun (r, D') => some (r, D'))) (rP D K im tp tl ms c (oKnow K q w v)) := fun hb => rP.refuse h hc (-1) (by omega) (by unfold oKnow; rw [if_pos hb])
  by_cases hw : 0 ≤ w ∧ w ≤ 2
  · rw [if_pos hw]
    refine qS_neg (by omega) ?_
    have tail : ∀ b : Int, b = (if w = 0 then 2 else 1) → qS (fX12_know_20 F q w v b 0 v D) (rP D K im tp tl ms c (oKnow K q w v)) := by
      intro b hb
      unfold fX12_know_20 fX12_know_26
      refine qS_step (pX12_lies _ _ _) ?_
      dsimp only
      rw [hb]
      by_cases hvv : 0 ≤ v ∧ v ≤ if w = 0 then 2 else 1
      · rw [if_pos hvv]
        refine qS_neg (by omega) ?_
        refine qS_step (pX12_isQuestion (by rw [hK]; exact hk) _) ?_
        dsimp only
        rw [hK]
        by_cases hq : 0 ≤ q ∧ q < K 390
        · rw [if_pos hq]
          refine qS_neg (by omega) (qS_chk (by omega) ?_)
          have hx : (if (w.toNat) = 0 then (2 : Int) else 1) = if w = 0 then 2 else 1 := by
            by_cases e : w = 0
            · subst e; rfl
            · rw [if_neg e, if_neg (by omega)]
          refine pX12_replaces (i := 5 * q.toNat + 2 + w.toNat) (by omega) (by omega) h hc (hk.know (by omega) (by omega) (by rw [hx]; exact hvv)) ?_
          unfold oKnow
          rw [if_neg (fun hb => hb ⟨hw, hvv⟩), if_neg (fun hb => hb hq)]
        · rw [if_neg hq]
          refine qS_pos rfl ?_
          exact rP.refuse h hc (-2) (by omega) (by unfold oKnow; rw [if_neg (fun hb => hb ⟨hw, hvv⟩), if_pos hq])
      · rw [if_neg hvv]
        exact qS_pos rfl (bad (fun hb => hvv hb.2))
    exact qS_ite (fun h3 => tail 2 (by rw [if_pos h3])) (fun h3 => tail 1 (by rw [if_neg h3]))
  · rw [if_neg hw]
    exact qS_pos rfl (bad (fun hb => hw hb.1))

end C3
