theorem pFill_53178 {F : zFs} {D : zDa} {a len : Nat} (v : Int) (hk : (F a).1 = 20) (hl : (F a).2.1 = len) (h9 : len < 900000) : qS (fJ7_fill_53178 F a v D) (fun D' => (∀ k, k < len → D' a k = v) ∧ zfr [a] D D') := by
  unfold fJ7_fill_53178
  refine qS_chk hk (qS_leti ?_)
  rw [hl]
  refine qloop1 (fun x D1 => ∃ i : Nat, x = (i : Int) ∧ i ≤ len ∧ (∀ k, k < i → D1 a k = v) ∧ zfr [a] D D1) (fun x _ => ((len : Int) - x).toNat) ?_ ⟨0, by omega, by omega, fun k hk => by omega, zfr.rfl' _ D⟩ (zfu_gt (by omega))
  intro k x D1 ⟨i, ex, hi, h0, hf⟩ ih
  subst ex
  unfold fJ7_fill_53178_5
  refine qS_ite (fun hlt => qS_chk ⟨hk, by omega, by rw [hl]; omega⟩ (qS_leti (qS_chk (by omega) (ih _ _ ⟨i + 1, by omega, by omega, fun k hk => ?_, hf.wr (by simp)⟩ (by omega))))) (fun hlt => qS_ret ⟨fun k hk => h0 k (by omega), hf⟩)
  rw [zwr_at, show ((i : Int)).toNat = i by omega]
  by_cases e : k = i
  · rw [if_pos e]
  · rw [if_neg e]; exact h0 k (by omega)
theorem pFill_d0a16 {F : zFs} {D : zDa} {a len : Nat} (v : Int) (hk : (F a).1 = 21) (hl : (F a).2.1 = len) (h9 : len < 900000) : qS (fJ7_fill_d0a16 F a v D) (fun D' => (∀ k, k < len → D' a k = v) ∧ zfr [a] D D') := by
  unfold fJ7_fill_d0a16
  refine qS_chk hk (qS_leti ?_)
  rw [hl]
  refine qloop1 (fun x D1 => ∃ i : Nat, x = (i : Int) ∧ i ≤ len ∧ (∀ k, k < i → D1 a k = v) ∧ zfr [a] D D1) (fun x _ => ((len : Int) - x).toNat) ?_ ⟨0, by omega, by omega, fun k hk => by omega, zfr.rfl' _ D⟩ (zfu_gt (by omega))
  intro k x D1 ⟨i, ex, hi, h0, hf⟩ ih
  subst ex
  unfold fJ7_fill_d0a16_6
  refine qS_ite (fun hlt => qS_chk ⟨hk, by omega, by rw [hl]; omega⟩ (qS_leti (qS_chk (by omega) (ih _ _ ⟨i + 1, by omega, by omega, fun k hk => ?_, hf.wr (by simp)⟩ (by omega))))) (fun hlt => qS_ret ⟨fun k hk => h0 k (by omega), hf⟩)
  rw [zwr_at, show ((i : Int)).toNat = i by omega]
  by_cases e : k = i
  · rw [if_pos e]
  · rw [if_neg e]; exact h0 k (by omega)
section TM
variable {F : zFs} {D : zDa} {Z : Nat → Prop} {K : Nat → Int}
theorem has_t {v : Int} (h : 0 ≤ v ∧ v < D 1 5) : fX9_has F v D = some (1, D) := by rw [pX9_has, if_pos h]
theorem has_f {v : Int} (h : ¬ (0 ≤ v ∧ v < D 1 5)) : fX9_has F v D = some (0, D) := by rw [pX9_has, if_neg h]
theorem lies_t {v a b : Int} (h : a ≤ v ∧ v ≤ b) : fX12_lies F v a b D = some (1, D) := by rw [pX12_lies, if_pos h]
theorem lies_f {v a b : Int} (h : ¬ (a ≤ v ∧ v ≤ b)) : fX12_lies F v a b D = some (0, D) := by rw [pX12_lies, if_neg h]
theorem isQ_t {v : Int} (hK : D 93 = K) (hk : kOk K) (h : 0 ≤ v ∧ v < K 390) : fX12_isQuestion F v D = some (1, D) := by rw [pX12_isQuestion (by rw [hK]; exact hk), hK, if_pos h]
theorem isQ_f {v : Int} (hK : D 93 = K) (hk : kOk K) (h : ¬ (0 ≤ v ∧ v < K 390)) : fX12_isQuestion F v D = some (0, D) := by rw [pX12_isQuestion (by rw [hK]; exact hk), hK, if_neg h]
/-- a State's rows and the frozen ones stay when others are written -/
theorem qSt.zfr {D' : zDa} {as : List Nat} (h : qSt F D Z 1 K) (hZ : ∀ a, Z a → 126 ≤ a) (hf : zfr as D D') (ha : ∀ a ∈ as, 12 < a ∧ a < 126) : qSt F D' Z 1 K :=
  h.rows hZ (fun a h1 => hf a (fun h2 => by have := ha a h2; omega)) (fun a h1 h2 => hf a (fun h3 => by have := ha a h3; omega))
theorem pX10_ask (h : qSt F D Z 1 K) (hG : zG F) {q : Nat} (hq : (q : Int) < K 390) (l : Int) : qS (fX10_ask F (q : Int) l D) (fun D' => (∀ k, k < 7 → D' 50 k = kAsk K q l 0 0 k) ∧ zfr [50] D D') := by
  have hk1 := h.1.1
  have e5 := h.2.1
  have e2 := h.2.2.1 q hq
  unfold fX10_ask
  refine qS_call (pFill_53178 (len := 7) 0 (gk_50 hG) (gl_50 hG) (by omega)) (fun D1 ⟨f0, fr⟩ => qS_leti ?_)
  have fr2 : zfr [50] D (zwr D1 50 2 l) := fr.wr (by decide)
  have g1 : ∀ a, a ≠ 50 → zwr D1 50 2 l a = D a := fun a ha => fr2 a (by simp; exact ha)
  refine qS_step (has_t (by rw [g1 1 (by omega), e5]; omega)) ?_
  dsimp only
  refine qS_neg (by omega) (qS_chk (by omega) ?_)
  rw [show ((q : Int)).toNat = q by omega, g1 2 (by omega)]
  refine qS_leti ?_
  rw [zwr_row (by omega), g1 3 (by omega)]
  refine qS_leti ?_
  rw [zwr_row (by omega), zwr_row (by omega), g1 5 (by omega)]
  refine qS_leti (qS_leti (qS_ret ⟨fun k hk => ?_, (((fr2.wr (by decide)).wr (by decide)).wr (by decide)).wr (by decide)⟩))
  have e20 : D 2 q = K (5 * q) := e2.1
  have e30 : D 3 q = K (5 * q + 1) := e2.2.1
  have e50 : D 5 q = K (5 * q + 3) := e2.2.2.2.1
  rw [e20, e30, e50]
  have : k = 0 ∨ k = 1 ∨ k = 2 ∨ k = 3 ∨ k = 4 ∨ k = 5 ∨ k = 6 := by omega
  rcases this with rfl | rfl | rfl | rfl | rfl | rfl | rfl <;> simp [zwr, kAsk, f0]
theorem pX10_hoursOf (h : qSt F D Z 1 K) (hG : zG F) (hZ : ∀ a, Z a → 126 ≤ a) {q : Nat} (hq : (q : Int) < K 390) {l e d : Int} (hl : -1000 ≤ l ∧ l ≤ 1000) (hh : -1000 ≤ e ∧ e ≤ 1000) (hd : -1000 ≤ d ∧ d ≤ 1000) :
    qS (fX10_hoursOf F (q : Int) l e d D) (fun r => r.1 = kTakes K q l e d ∧ zfr [49, 50, 51] D r.2) := by
  unfold fX10_hoursOf
  refine qS_call (pX10_ask h hG hq l) (fun D1 ⟨f0, fr⟩ => qS_leti (qS_leti ?_))
  have fr2 : zfr [50] D (zwr (zwr D1 50 3 e) 50 5 d) := (fr.wr (by decide)).wr (by decide)
  refine qS_call (pX10_told (h.zfr hZ fr2 (by simp)) hZ (A := kAsk K q l e d) (fun k hk => ?_) (kAsk_in h.1 hq hl hh hd) 0 1 20 4 (by omega)) (fun r hr => qS_ret ⟨hr.1, (fr2.mono (by decide)).trans (hr.2.mono (by decide))⟩)
  rw [zwr_at, zwr_at, f0 k hk]
  have : k = 0 ∨ k = 1 ∨ k = 2 ∨ k = 3 ∨ k = 4 ∨ k = 5 ∨ k = 6 := by omega
  rcases this with rfl | rfl | rfl | rfl | rfl | rfl | rfl <;> simp [kAsk]
theorem pX10_daysKept (h : qSt F D Z 1 K) (hG : zG F) (hZ : ∀ a, Z a → 126 ≤ a) {q : Nat} (hq : (q : Int) < K 390) {l : Int} (hl : -1000 ≤ l ∧ l ≤ 1000) :
    qS (fX10_daysKept F (q : Int) l D) (fun r => r.1 = kKeeps K q l ∧ zfr [49, 50, 51] D r.2) := by
  unfold fX10_daysKept
  refine qS_call (pX10_ask h hG hq l) (fun D1 ⟨f0, fr⟩ => ?_)
  refine qS_call (pX10_told (h.zfr hZ fr (by simp)) hZ (A := kAsk K q l 0 0) f0 (kAsk_in h.1 hq hl (by omega) (by omega)) 1 1 30 10 (by omega)) (fun r hr => qS_ret ⟨hr.1, (fr.mono (by decide)).trans (hr.2.mono (by decide))⟩)
theorem pX10_chanceOf (h : qSt F D Z 1 K) (hG : zG F) (hZ : ∀ a, Z a → 126 ≤ a) {l : Int} (hl : 0 ≤ l ∧ l ≤ 2) :
    qS (fX10_chanceOf F l D) (fun r => r.1 = kChance K l ∧ zfr [49, 50, 51] D r.2) := by
  unfold fX10_chanceOf fX10_ask
  refine qS_bind (qS_call (pFill_53178 (len := 7) 0 (gk_50 hG) (gl_50 hG) (by omega)) (fun D1 ⟨f0, fr⟩ => qS_leti ?_))
  have fr2 : zfr [50] D (zwr D1 50 2 l) := fr.wr (by decide)
  refine qS_step (has_f (by omega)) ?_
  dsimp only
  refine qS_pos rfl (qS_ret (qS_chk (by omega) ?_))
  refine qS_call (pX10_told (h.zfr hZ fr2 (by simp)) hZ (A := fun k => if k = 2 then l else 0) (fun k hk => ?_) (fun k => ?_) 2 0 100 (50 * l) (by omega)) (fun r hr => qS_ret ⟨hr.1, (fr2.mono (by decide)).trans (hr.2.mono (by decide))⟩)
  · rw [zwr_at]
    by_cases e : k = 2
    · rw [if_pos e, if_pos e]
    · rw [if_neg e, if_neg e]; exact f0 k hk
  · split <;> omega
def oTakes (K : Nat → Int) (q l e : Int) : Int := if (0 ≤ q ∧ q < K 390) ∧ (1 ≤ l ∧ l ≤ 3) ∧ (0 ≤ e ∧ e ≤ 1) then (if l = 3 then 1 else kTakes K q.toNat l e 0) else -1
def oKeeps (K : Nat → Int) (q l : Int) : Int := if (0 ≤ q ∧ q < K 390) ∧ (1 ≤ l ∧ l ≤ 2) then kKeeps K q.toNat l else -1
def oChance (K : Nat → Int) (l : Int) : Int := if 0 ≤ l ∧ l ≤ 2 then kChance K l else -1
theorem pc_takes (h : qSt F D Z 1 K) (hG : zG F) (hZ : ∀ a, Z a → 126 ≤ a) (q l e : Int) : qS (fX11_takes F q l e D) (fun r => r.1 = oTakes K q l e ∧ zfr [49, 50, 51] D r.2) := by
  have e5 := h.2.1
  unfold fX11_takes oTakes
  by_cases hq : 0 ≤ q ∧ q < K 390
  · refine qS_step (has_t (by rw [e5]; exact hq)) ?_
    dsimp only
    refine qS_neg (by omega) ?_
    refine qS_ite (fun h1 => qS_ret ⟨by rw [if_neg (by omega)], zfr.rfl' _ D⟩) (fun h1 => qS_ite (fun h2 => qS_ret ⟨by rw [if_neg (by omega)], zfr.rfl' _ D⟩) (fun h2 => qS_ite (fun h3 => qS_ret ⟨by rw [if_neg (by omega)], zfr.rfl' _ D⟩) (fun h3 => qS_ite (fun h4 => qS_ret ⟨by rw [if_neg (by omega)], zfr.rfl' _ D⟩) (fun h4 => qS_ite (fun h5 => qS_ret ⟨by rw [if_pos (by omega), if_pos h5], zfr.rfl' _ D⟩) (fun h5 => ?_)))))
    rw [if_pos (by omega), if_neg h5]
    have en : q = (q.toNat : Int) := by omega
    have := pX10_hoursOf (F := F) h hG hZ (q := q.toNat) (l := l) (e := e) (d := 0) (by omega) (by omega) (by omega) (by omega)
    rw [← en] at this
    exact qS_call this (fun r hr => qS_ret hr)
  · refine qS_step (has_f (by rw [e5]; exact hq)) ?_
    dsimp only
    exact qS_pos rfl (qS_ret ⟨by rw [if_neg (fun hh => hq hh.1)], zfr.rfl' _ D⟩)
theorem pr_takes (hK : D 93 = K) (hk : kOk K) (hP : kPOk K) (q l e : Int) : qS (fX12_takes F q l e D) (fun r => r.1 = oTakes K q l e ∧ zfm [102] [18, 19, 20] D r.2) := by
  unfold fX12_takes oTakes
  by_cases hq : 0 ≤ q ∧ q < K 390
  · refine qS_step (isQ_t hK hk hq) (qS_neg (by omega) ?_)
    by_cases hl : 1 ≤ l ∧ l ≤ 3
    · refine qS_step (lies_t hl) (qS_neg (by omega) ?_)
      by_cases he : 0 ≤ e ∧ e ≤ 1
      · refine qS_step (lies_t he) (qS_neg (by omega) ?_)
        refine qS_ite (fun h3 => qS_ret ⟨by rw [if_pos ⟨hq, hl, he⟩, if_pos h3], zfm.rfl' _ _ D⟩) (fun h3 => ?_)
        have hs : (if (0 ≤ q ∧ q < K 390) ∧ (1 ≤ l ∧ l ≤ 3) ∧ (0 ≤ e ∧ e ≤ 1) then (if l = 3 then 1 else kTakes K q.toNat l e 0) else -1) = kTakes K q.toNat l e 0 := by rw [if_pos ⟨hq, hl, he⟩, if_neg h3]
        rw [hs]
        have en : q = (q.toNat : Int) := by omega
        have hc := pX12_takesOf (F := F) hK hk hP (q := q.toNat) (l := l) (h := e) (d := 0) (by omega) (by omega) (by omega) (by omega)
        rw [← en] at hc
        unfold fX12_takes_50
        refine qS_ite (fun h4 => ?_) (fun h4 => ?_)
        · subst h4; exact qS_call hc (fun r hr => qS_ret hr)
        · have : e = 0 := by omega
          subst this; exact qS_call hc (fun r hr => qS_ret hr)
      · exact qS_step (lies_f he) (qS_pos rfl (qS_ret ⟨by rw [if_neg (fun hh => he hh.2.2)], zfm.rfl' _ _ D⟩))
    · exact qS_step (lies_f hl) (qS_pos rfl (qS_ret ⟨by rw [if_neg (fun hh => hl hh.2.1)], zfm.rfl' _ _ D⟩))
  · exact qS_step (isQ_f hK hk hq) (qS_pos rfl (qS_ret ⟨by rw [if_neg (fun hh => hq hh.1)], zfm.rfl' _ _ D⟩))
theorem pc_keeps (h : qSt F D Z 1 K) (hG : zG F) (hZ : ∀ a, Z a → 126 ≤ a) (q l : Int) : qS (fX11_keeps F q l D) (fun r => r.1 = oKeeps K q l ∧ zfr [49, 50, 51] D r.2) := by
  have e5 := h.2.1
  unfold fX11_keeps oKeeps
  by_cases hq : 0 ≤ q ∧ q < K 390
  · refine qS_step (has_t (by rw [e5]; exact hq)) (qS_neg (by omega) ?_)
    refine qS_ite (fun h1 => qS_ret ⟨by rw [if_neg (by omega)], zfr.rfl' _ D⟩) (fun h1 => qS_ite (fun h2 => ?_) (fun h2 => qS_ret ⟨by rw [if_neg (by omega)], zfr.rfl' _ D⟩))
    rw [if_pos (by omega)]
    have en : q = (q.toNat : Int) := by omega
    have := pX10_daysKept (F := F) h hG hZ (q := q.toNat) (l := l) (by omega) (by omega)
    rw [← en] at this
    exact qS_call this (fun r hr => qS_ret hr)
  · exact qS_step (has_f (by rw [e5]; exact hq)) (qS_pos rfl (qS_ret ⟨by rw [if_neg (fun hh => hq hh.1)], zfr.rfl' _ D⟩))
theorem pr_keeps (hK : D 93 = K) (hk : kOk K) (hP : kPOk K) (q l : Int) : qS (fX12_keeps F q l D) (fun r => r.1 = oKeeps K q l ∧ zfm [102] [18, 19, 20] D r.2) := by
  unfold fX12_keeps oKeeps
  by_cases hq : 0 ≤ q ∧ q < K 390
  · refine qS_step (isQ_t hK hk hq) (qS_neg (by omega) ?_)
    by_cases hl : 1 ≤ l ∧ l ≤ 2
    · refine qS_step (lies_t hl) (qS_neg (by omega) ?_)
      rw [if_pos ⟨hq, hl⟩]
      have en : q = (q.toNat : Int) := by omega
      have hc := pX12_keepsOf (F := F) hK hk hP (q := q.toNat) (l := l) (by omega) (by omega)
      rw [← en] at hc
      exact qS_call hc (fun r hr => qS_ret hr)
    · exact qS_step (lies_f hl) (qS_pos rfl (qS_ret ⟨by rw [if_neg (fun hh => hl hh.2)], zfm.rfl' _ _ D⟩))
  · exact qS_step (isQ_f hK hk hq) (qS_pos rfl (qS_ret ⟨by rw [if_neg (fun hh => hq hh.1)], zfm.rfl' _ _ D⟩))
theorem pc_chance (h : qSt F D Z 1 K) (hG : zG F) (hZ : ∀ a, Z a → 126 ≤ a) (l : Int) : qS (fX11_chance F l D) (fun r => r.1 = oChance K l ∧ zfr [49, 50, 51] D r.2) := by
  unfold fX11_chance oChance
  refine qS_ite (fun h1 => qS_ret ⟨by rw [if_neg (by omega)], zfr.rfl' _ D⟩) (fun h1 => qS_ite (fun h2 => ?_) (fun h2 => qS_ret ⟨by rw [if_neg (by omega)], zfr.rfl' _ D⟩))
  rw [if_pos (by omega)]
  exact qS_call (pX10_chanceOf h hG hZ (by omega)) (fun r hr => qS_ret hr)
theorem pr_chance (hK : D 93 = K) (hk : kOk K) (hP : kPOk K) (l : Int) : qS (fX12_chance F l D) (fun r => r.1 = oChance K l ∧ zfm [102] [18, 19, 20] D r.2) := by
  unfold fX12_chance oChance
  by_cases hl : 0 ≤ l ∧ l ≤ 2
  · rw [if_pos hl]
    exact qS_step (lies_t hl) (qS_neg (by omega) (qS_call (pX12_chanceOf hK hk hP hl) (fun r hr => qS_ret hr)))
  · rw [if_neg hl]
    exact qS_step (lies_f hl) (qS_pos rfl (qS_ret ⟨rfl, zfm.rfl' _ _ D⟩))
end TM
