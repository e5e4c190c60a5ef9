/-! ===== row, clear, end ===== -/
def kWord (tp : Nat → Int) (a : Nat) : Int := zor (zshl (zor (zshl (zor (zshl (zor (zshl 0 8) (tp a)) 8) (tp (a + 1))) 8) (tp (a + 2))) 8) (tp (a + 3))
theorem kWord_in (tp : Nat → Int) (a : Nat) : -2147483648 ≤ kWord tp a ∧ kWord tp a ≤ 2147483647 := by unfold kWord zor; exact z32_rng _
/-- so many words of the tape: the state, how many came, how many were lost -/
def kRowN (K tp : Nat → Int) (j : Nat) : (Nat → Int) × Int × Int := match j with
  | 0 => (K, 0, 0)
  | j + 1 =>
    if (0 ≤ kWord tp (4 * j) ∧ kWord tp (4 * j) < 2 ^ ((kRowN K tp j).1 390).toNat) ∧ (kRowN K tp j).1 392 < 40 then
      (zset (zset (kRowN K tp j).1 (350 + ((kRowN K tp j).1 392).toNat) (kWord tp (4 * j))) 392 ((kRowN K tp j).1 392 + 1), (kRowN K tp j).2.1 + 1, (kRowN K tp j).2.2)
    else ((kRowN K tp j).1, (kRowN K tp j).2.1, (kRowN K tp j).2.2 + 1)
theorem kRowN_ok {K tp : Nat → Int} (hk : kOk K) (h0 : ∀ i, 5201 ≤ i → K i = 0) (j : Nat) : kOk (kRowN K tp j).1 ∧ (∀ i, 5201 ≤ i → (kRowN K tp j).1 i = 0) ∧ eV K (kRowN K tp j).1 ∧ (0 ≤ (kRowN K tp j).2.1 ∧ (kRowN K tp j).2.1 ≤ j) ∧ (0 ≤ (kRowN K tp j).2.2 ∧ (kRowN K tp j).2.2 ≤ j) := by
  induction j with
  | zero => exact ⟨hk, h0, eV.rfl' K, by simp [kRowN], by simp [kRowN]⟩
  | succ j ih =>
    obtain ⟨i1, i2, i3, i4, i5⟩ := ih
    have h6 := i1.2.2.2.2.2.1.1
    unfold kRowN
    generalize kRowN K tp j = s at *
    split
    · next hc =>
      dsimp only
      refine ⟨i1.year (n := (s.1 392).toNat) (by omega) (by omega) hc.1, fun i hi => by rw [zset_off (by omega), zset_off (by omega)]; exact i2 i hi, i3.trans (eV.year (by omega)), ?_, ?_⟩
      · omega
      · omega
    · exact ⟨i1, i2, i3, by simp only; omega, by simp only; omega⟩
/-- one of the misc numbers -/
def msl (ms : Nat → Int) (l : Int) : Nat → Int := fun k => if k = 8 then l else ms k
section C6
variable {F : zFs} {D D1 : zDa} {Z : Nat → Prop} {K K' : Nat → Int} {im : Nat → Option (Nat → Int)} {tp : Nat → Int} {tl : Int} {ms : Nat → Int} {c : Nat}
theorem cA.settl (h : cA F D Z K im tp tl ms c) {t : Int} (h0 : 0 ≤ t) (h1 : t ≤ tl) : cA F (zwr D 0 4 t) Z K im tp t ms c := by
  obtain ⟨h1, h2, h3, ⟨m0, m1, m2, m3, m4, m5, m6⟩, h5, h6, h7, h8⟩ := h
  refine ⟨h1.rows h8 (fun a ha => zwr_row (by omega)) (fun a ha hb => zwr_row (by omega)), cA.images h2 h8 (fun a ha => zwr_row (by omega)) (fun a ha hb => zwr_row (by omega)), ?_, ?_, ?_, h6, h7, h8⟩
  · rw [zwr_eq, zwr_row (by omega)]
    exact ⟨⟨rfl, by omega, by omega⟩, fun i hi => h3.2 i (by omega)⟩
  · rw [zwr_off (by omega), zwr_off (by omega), zwr_off (by omega), zwr_row (by omega), zwr_row (by omega)]
    exact ⟨m0, m1, m2, m3, m4, m5, m6⟩
  · intro s hs
    have := h5 s hs
    simp only [List.mem_cons, List.not_mem_nil, or_false] at hs
    rw [zwr_row (by omega)]; exact this
theorem cA.setlost (h : cA F D Z K im tp tl ms c) (l : Int) : cA F (zwr D 0 6 l) Z K im tp tl (msl ms l) c := by
  obtain ⟨h1, h2, h3, ⟨m0, m1, m2, m3, m4, m5, m6⟩, h5, h6, h7, h8⟩ := h
  refine ⟨h1.rows h8 (fun a ha => zwr_row (by omega)) (fun a ha hb => zwr_row (by omega)), cA.images h2 h8 (fun a ha => zwr_row (by omega)) (fun a ha hb => zwr_row (by omega)), ?_, ?_, ?_, h6, h7, h8⟩
  · rw [zwr_off (by omega), zwr_row (by omega)]; exact h3
  · rw [zwr_off (by omega), zwr_off (by omega), zwr_eq, zwr_row (by omega), zwr_row (by omega)]
    refine ⟨m0, m1, rfl, m3, m4, m5, fun k k1 k6 => ?_⟩
    have := m6 k k1 k6
    unfold msl; rw [if_neg (by omega)]; exact this
  · intro s hs
    have := h5 s hs
    simp only [List.mem_cons, List.not_mem_nil, or_false] at hs
    rw [zwr_row (by omega)]; exact this
theorem rA.settl (h : rA D K im tp tl ms c) {t : Int} (h0 : 0 ≤ t) (h1 : t ≤ tl) : rA (zwr D 91 9 t) K im tp t ms c := by
  obtain ⟨h1, h2, h3, ⟨m0, m1, m2, m3, m4, m5, m6⟩, h5, h6⟩ := h
  refine ⟨by rw [zwr_row (by omega)]; exact h1, by rw [zwr_row (by omega), zwr_row (by omega)]; exact h2, ?_, ?_, by rw [zwr_off (by omega)]; exact h5, h6⟩
  · rw [zwr_eq, zwr_row (by omega)]
    exact ⟨⟨rfl, by omega, by omega⟩, fun i hi => h3.2 i (by omega)⟩
  · rw [zwr_off (by omega), zwr_off (by omega), zwr_off (by omega), zwr_off (by omega), zwr_off (by omega), zwr_off (by omega), zwr_row (by omega)]
    exact ⟨m0, m1, m2, m3, m4, m5, m6⟩
theorem rA.setlost (h : rA D K im tp tl ms c) (l : Int) : rA (zwr D 91 59 l) K im tp tl (msl ms l) c := by
  obtain ⟨h1, h2, h3, ⟨m0, m1, m2, m3, m4, m5, m6⟩, h5, h6⟩ := h
  refine ⟨by rw [zwr_row (by omega)]; exact h1, by rw [zwr_row (by omega), zwr_row (by omega)]; exact h2, ?_, ?_, by rw [zwr_off (by omega)]; exact h5, h6⟩
  · rw [zwr_off (by omega), zwr_row (by omega)]; exact h3
  · rw [zwr_off (by omega), zwr_off (by omega), zwr_eq, zwr_off (by omega), zwr_off (by omega), zwr_off (by omega), zwr_row (by omega)]
    refine ⟨m0, m1, rfl, m3, m4, m5, fun k k1 k6 => ?_⟩
    have := m6 k k1 k6
    unfold msl; rw [if_neg (by omega)]; exact this
theorem cA.weak (h : cA F D Z K im tp tl ms c) (hc : c < 1000) : cA F D Z K im tp tl ms (c + 1) := by
  obtain ⟨h1, h2, h3, ⟨m0, m1, m2, m3, m4, m5, m6⟩, h5, h6, h7, h8⟩ := h
  exact ⟨h1, h2, h3, ⟨m0, m1, m2, m3, m4, m5, fun k a b => by have := m6 k a b; omega⟩, fun s hs => by have := h5 s hs; omega, by omega, h7, h8⟩
theorem rA.weak (h : rA D K im tp tl ms c) (hc : c < 1000) : rA D K im tp tl ms (c + 1) := by
  obtain ⟨h1, h2, h3, ⟨m0, m1, m2, m3, m4, m5, m6⟩, h5, h6⟩ := h
  exact ⟨h1, h2, h3, ⟨m0, m1, m2, m3, m4, m5, fun k a b => by have := m6 k a b; omega⟩, by omega, by omega⟩
/-! end -/
def oEnd (tl n : Int) : Int := if 0 ≤ n ∧ n ≤ tl then n else -1
def tlEnd (tl n : Int) : Int := if 0 ≤ n ∧ n ≤ tl then n else tl
theorem pc_end (h : cA F D Z K im tp tl ms c) (hc : c < 1000) (n : Int) : qS (fX11_end F n D) (fun r => r.1 = oEnd tl n ∧ cA F r.2 Z K im tp (tlEnd tl n) ms (c + 1) ∧ fC D r.2 ∧ r.2 1 = D 1) := by
  have e4 := h.2.2.1.1
  unfold fX11_end oEnd tlEnd
  refine qS_ite (fun h1 => qS_ret ?_) (fun h1 => qS_ite (fun h2 => qS_ret ?_) (fun h2 => qS_leti (qS_ret ?_)))
  · rw [if_neg (by omega), if_neg (by omega)]; exact ⟨rfl, h.weak hc, fun _ _ => rfl, rfl⟩
  · rw [if_neg (by omega), if_neg (by omega)]; exact ⟨rfl, h.weak hc, fun _ _ => rfl, rfl⟩
  · dsimp only
    rw [if_pos (by omega), if_pos (by omega)]
    exact ⟨rfl, (h.settl (by omega) (by omega)).weak hc, fun a ha => zwr_row (by omega), zwr_row (by omega)⟩
theorem pr_end (h : rA D K im tp tl ms c) (hc : c < 1000) (n : Int) : qS (fX12_end F n D) (fun r => r.1 = oEnd tl n ∧ rA r.2 K im tp (tlEnd tl n) ms (c + 1) ∧ fR D r.2 ∧ r.2 91 1 = D 91 1) := by
  have e4 := h.2.2.1.1
  unfold fX12_end oEnd tlEnd
  refine qS_step (pX12_lies _ _ _) ?_
  dsimp only
  rw [e4.1]
  by_cases hn : 0 ≤ n ∧ n ≤ tl
  · rw [if_pos hn]
    refine qS_neg (by omega) (qS_leti (qS_ret ?_))
    dsimp only
    rw [if_pos hn, if_pos hn]
    exact ⟨rfl, (h.settl (by omega) (by omega)).weak hc, (zfm.rfl' _ _ D).wf (by decide), zwr_off (by omega)⟩
  · rw [if_neg hn]
    refine qS_pos rfl (qS_ret ?_)
    rw [if_neg hn, if_neg hn]
    exact ⟨rfl, h.weak hc, zfm.rfl' _ _ D, rfl⟩
/-! clear -/
theorem kOk.clear (h : kOk K) : kOk (zset K 391 0) := by
  obtain ⟨h1, h2, h3, ⟨h4, h4'⟩, h5, ⟨h6, h6'⟩, h7⟩ := h
  refine ⟨?_, ?_, ?_, ⟨?_, ?_⟩, ?_, ⟨?_, ?_⟩, ?_⟩
  · simp (disch := omega) only [zset_off]; exact h1
  · intro q hq
    simp (disch := omega) only [zset_off] at hq
    have hq20 : (q : Int) < 20 := by omega
    simp (disch := omega) only [zset_off]
    exact h2 q hq
  · intro k hk; simp (disch := omega) only [zset_off]; exact h3 k hk
  · rw [zset_eq]; omega
  · intro i hi
    rw [zset_eq] at hi; omega
  · intro f hf; simp (disch := omega) only [zset_off]; exact h5 f hf
  · simp (disch := omega) only [zset_off]; exact h6
  · intro y hy
    simp (disch := omega) only [zset_off] at hy
    have : (y : Int) < 40 := by omega
    simp (disch := omega) only [zset_off]; exact h6' y hy
  · simp (disch := omega) only [zset_off]; exact h7
theorem pc_clear (h : cA F D Z K im tp tl ms c) (hc : c < 1000) : qS (fX11_clear F D) (fun r => r.1 = K 391 ∧ cA F r.2 Z (zset K 391 0) im tp tl ms (c + 1) ∧ fC D r.2 ∧ vI D r.2 K (zset K 391 0)) := by
  have hv := h.ver
  obtain ⟨hk, e5, e2, e3, ⟨e4, e4'⟩, e6, ⟨e7, e7'⟩, e8, e9, e10, e11⟩ := h.st
  have hk1 := hk.1
  have hk6 := hk.2.2.2.2.2.1.1
  unfold fX11_clear
  refine qS_leti (qS_leti (qS_chk (by rw [zwr_off (by omega)]; omega) (qS_leti (qS_ret ?_))))
  dsimp only
  rw [zwr_off (by omega)]
  have g1 : ∀ j, j ≠ 12 → j ≠ 17 → zwr (zwr D 1 12 0) 1 17 (D 1 17 + 1) 1 j = D 1 j := fun j n1 n2 => by rw [zwr_off (by omega), zwr_off (by omega)]
  have gr : ∀ a, a ≠ 1 → zwr (zwr D 1 12 0) 1 17 (D 1 17 + 1) a = D a := fun a n1 => by rw [zwr_row (by omega), zwr_row (by omega)]
  have gc : zwr (zwr D 1 12 0) 1 17 (D 1 17 + 1) 1 12 = 0 := by rw [zwr_off (by omega), zwr_eq]
  have gv : zwr (zwr D 1 12 0) 1 17 (D 1 17 + 1) 1 17 = D 1 17 + 1 := zwr_eq
  generalize zwr (zwr D 1 12 0) 1 17 (D 1 17 + 1) = D1 at *
  obtain ⟨q1, q2, q3, q4, q5, q6, q7, q8⟩ := h
  refine ⟨e4, ⟨?_, cA.images q2 q8 (fun a ha => gr a (by omega)) (fun a ha hb => gr a (by omega)), by rw [gr 0 (by omega), gr 39 (by omega)]; exact q3, ?_, ?_, by omega, q7, q8⟩, fun a ha => gr a (by omega), ?_⟩
  · refine qSt.mk1 q1 hk.clear (fun a ha => gr a (by have := q8 a ha; omega)) (gr 8 (by omega)) (fun i hi => zset_off (by omega)) (zset_off (by omega)) ?_ ?_ ?_ ?_ ?_ ?_ ?_ ?_ ?_ ?_
    · rw [g1 5 (by omega) (by omega)]; simp (disch := omega) only [zset_off]; exact e5
    · intro q hq
      simp (disch := omega) only [zset_off] at hq
      have hq20 : (q : Int) < 20 := by omega
      rw [gr 2 (by omega), gr 3 (by omega), gr 4 (by omega), gr 5 (by omega), gr 6 (by omega)]
      simp (disch := omega) only [zset_off]
      exact e2 q hq
    · intro k hk; rw [gr 7 (by omega)]; simp (disch := omega) only [zset_off]; exact e3 k hk
    · rw [gc, zset_eq]
    · intro i hi
      rw [zset_eq] at hi; omega
    · intro f hf; rw [gr 11 (by omega)]; simp (disch := omega) only [zset_off]; exact e6 f hf
    · rw [g1 15 (by omega) (by omega)]; simp (disch := omega) only [zset_off]; exact e7
    · intro y hy
      simp (disch := omega) only [zset_off] at hy
      have : (y : Int) < 40 := by omega
      rw [gr 12 (by omega)]; simp (disch := omega) only [zset_off]; exact e7' y hy
    · exact g1 8 (by omega) (by omega)
    · rw [g1 9 (by omega) (by omega)]; simp (disch := omega) only [zset_off]; exact e9
  · rw [gr 0 (by omega), gr 40 (by omega), gr 41 (by omega)]
    exact ⟨q4.1, q4.2.1, q4.2.2.1, q4.2.2.2.1, q4.2.2.2.2.1, q4.2.2.2.2.2.1, fun k a b => by have := q4.2.2.2.2.2.2 k a b; omega⟩
  · intro s hs
    have := q5 s hs
    simp only [List.mem_cons, List.not_mem_nil, or_false] at hs
    rcases hs with rfl | rfl | rfl
    · rw [gv, g1 16 (by omega) (by omega)]; omega
    · rw [gr 14 (by omega)]; omega
    · rw [gr 26 (by omega)]; omega
  · show vI D D1 K _
    unfold vI; rw [gv, g1 16 (by omega) (by omega)]
    exact ⟨Or.inl ⟨rfl, eP.off (by omega) (by omega) (by omega)⟩, Or.inr (by omega)⟩
theorem pr_clear (h : rA D K im tp tl ms c) (hc : c < 1000) : qS (fX12_clear F D) (fun r => r.1 = K 391 ∧ rA r.2 (zset K 391 0) im tp tl ms (c + 1) ∧ fR D r.2 ∧ D 91 1 < r.2 91 1) := by
  obtain ⟨h1, h2, h3, ⟨m0, m1, m2, m3, m4, m5, m6⟩, h5, h6⟩ := h
  unfold fX12_clear
  refine qS_leti (qS_leti (qS_chk (by rw [zwr_row (by omega)]; omega) (qS_leti (qS_ret ?_))))
  dsimp only
  rw [zwr_row (a := 93) (b := 91) (by omega)]
  refine ⟨by rw [h1.1], ⟨⟨?_, h1.2.1.clear, fun i hi => by rw [zset_off (by omega)]; exact h1.2.2 i hi⟩, ?_, ?_, ?_, ?_, by omega⟩, ?_, ?_⟩
  · rw [zwr_row (by omega), zwr_self, h1.1]
  · rw [zwr_row (b := 95) (by omega), zwr_row (b := 95) (by omega), zwr_row (b := 94) (by omega), zwr_row (b := 94) (by omega)]; exact h2
  · rw [zwr_off (by omega), zwr_row (by omega), zwr_row (by omega), zwr_row (by omega)]; exact h3
  · simp (disch := omega) only [zwr_off]
    exact ⟨m0, m1, m2, m3, m4, m5, fun k a b => by have := m6 k a b; omega⟩
  · rw [zwr_eq]; omega
  · exact ((zfm.rfl' _ _ D).wr (by decide) (by decide)).wf (by decide)
  · show D 91 1 < zwr (zwr D 93 391 0) 91 1 (D 91 1 + 1) 91 1
    rw [zwr_eq]; omega
end C6
