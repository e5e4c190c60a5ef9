/-! ===== lessons from the last day back ===== -/
abbrev bT : Type := Int × Int × Int × Int × (Nat → Int)
def kLd (H : Int) (T : bT) (cost : Int) (ix : Nat) : bT :=
  if T.1 < 0 then (T.1, T.2.1, T.2.2.1 + 1, T.2.2.2.1, T.2.2.2.2)
  else if cost ≤ T.2.1 then (T.1, T.2.1 - cost, T.2.2.1, T.1, zset T.2.2.2.2 ix T.1)
  else if 0 < T.1 ∧ cost ≤ H then (T.1 - 1, H - cost, T.2.2.1, T.1 - 1, zset T.2.2.2.2 ix (T.1 - 1))
  else (-1, 0, T.2.2.1 + 1, T.2.2.2.1, T.2.2.2.2)
def bTo (T : bT) (c : Nat) : Prop := (-1 ≤ T.1 ∧ T.1 ≤ 19) ∧ (0 ≤ T.2.1 ∧ T.2.1 ≤ 16) ∧ (0 ≤ T.2.2.1 ∧ T.2.2.1 ≤ (c : Int))
theorem kLd_ok {H cost : Int} {T : bT} {c ix : Nat} (h : bTo T c) (hH : 0 ≤ H ∧ H ≤ 16) (hc : 1 ≤ cost) : bTo (kLd H T cost ix) (c + 1) := by
  obtain ⟨d, l, o, f, g⟩ := T
  obtain ⟨h1, h2, h3⟩ := h
  dsimp only at h1 h2 h3
  unfold kLd bTo
  dsimp only
  by_cases e1 : d < 0
  · rw [if_pos e1]; dsimp only; omega
  · rw [if_neg e1]
    by_cases e2 : cost ≤ l
    · rw [if_pos e2]; dsimp only; omega
    · rw [if_neg e2]
      by_cases e3 : 0 < d ∧ cost ≤ H
      · rw [if_pos e3]; dsimp only; omega
      · rw [if_neg e3]; dsimp only; omega
noncomputable def kByQ (K : Nat → Int) (bp bh H : Int) (lev q : Nat) (T : bT) : bT :=
  if kFl K bp bh q = (lev : Int) then
    (if lev = 2 then kLd H (kLd H T (kTakes K q 2 (kHb K q (kSs K bp bh q).1 : Int) 0) (2 * q + 1)) (kTakes K q 1 (kHb K q (kSs K bp bh q).1 : Int) 0) (2 * q)
     else kLd H T (kTakes K q 1 (kHb K q (kSs K bp bh q).1 : Int) 0) (2 * q))
  else T
noncomputable def kByN (K : Nat → Int) (bp bh H : Int) (lev : Nat) (T : bT) (m : Nat) : bT := match m with
  | 0 => T
  | m + 1 => kByQ K bp bh H lev m (kByN K bp bh H lev T m)
theorem kByN_s (K : Nat → Int) (bp bh H : Int) (lev : Nat) (T : bT) (m : Nat) : kByN K bp bh H lev T (m + 1) = kByQ K bp bh H lev m (kByN K bp bh H lev T m) := rfl
theorem kByQ_ok {K : Nat → Int} {bp bh H : Int} {lev q c : Nat} {T : bT} (h : bTo T c) (hH : 0 ≤ H ∧ H ≤ 16) : bTo (kByQ K bp bh H lev q T) (c + 2) := by
  unfold kByQ
  have t1 := kTakes_in K q 1 (kHb K q (kSs K bp bh q).1 : Int) 0
  have t2 := kTakes_in K q 2 (kHb K q (kSs K bp bh q).1 : Int) 0
  have up : ∀ {T : bT} {c c' : Nat}, bTo T c → c ≤ c' → bTo T c' := fun h hc => ⟨h.1, h.2.1, by have := h.2.2; omega⟩
  split
  · split
    · exact kLd_ok (kLd_ok h hH t2.1) hH t1.1
    · exact up (kLd_ok h hH t1.1) (by omega)
  · exact up h (by omega)
theorem kByN_ok {K : Nat → Int} {bp bh H : Int} {lev c : Nat} {T : bT} (h : bTo T c) (hH : 0 ≤ H ∧ H ≤ 16) : ∀ m, bTo (kByN K bp bh H lev T m) (c + 2 * m)
  | 0 => h
  | m + 1 => by rw [kByN_s]; exact kByQ_ok (kByN_ok h hH m) hH
noncomputable def kBack (K : Nat → Int) : bT :=
  kByN K (kBB K (K 105 * K 106)).1 (kBB K (K 105 * K 106)).2 (K 106) 1 (kByN K (kBB K (K 105 * K 106)).1 (kBB K (K 105 * K 106)).2 (K 106) 2 (K 105 - 1, K 106, 0, -1, fun _ => -1) (K 390).toNat) (K 390).toNat
noncomputable def oBackward (K : Nat → Int) (q level : Int) : Int :=
  if (1 ≤ level ∧ level ≤ 2) ∧ (q = -1 ∨ (0 ≤ q ∧ q < K 390)) then (if q = -1 then (if level = 1 then (kBack K).2.2.1 else (kBack K).2.2.2.1) else (kBack K).2.2.2.2 (2 * q + level - 1).toNat) else -1
/-! the class -/
def cBk (D : zDa) (T : bT) (H : Int) : Prop := D 71 2 = T.1 ∧ (0 ≤ T.1 → D 71 3 = T.2.1) ∧ D 71 4 = H ∧ D 71 5 = T.2.2.1 ∧ D 71 6 = T.2.2.2.1 ∧ ∀ q l : Nat, q < 20 → 1 ≤ l → l ≤ 2 → D 72 (3 * q + l) = T.2.2.2.2 (2 * q + l - 1)
theorem zset_ne {r : Nat → Int} {k j : Nat} {v : Int} (h : j ≠ k) : zset r k v j = r j := by unfold zset; rw [if_neg h]
section CK
variable {F : zFs} {D : zDa} {Z : Nat → Prop} {K : Nat → Int} {T : bT} {H : Int}
/-- one lesson is laid -/
theorem cLay1 {P : zDa → Prop} {k2 : Int → zDa → Option zDa} {q l c : Nat} {cost : Int} (h : cBk D T H) (ht : bTo T c) (hc : c ≤ 200) (hH : 0 ≤ H ∧ H ≤ 16) (hq : q < 20) (hl : 1 ≤ l ∧ l ≤ 2) (hco : 1 ≤ cost ∧ cost ≤ 20)
    (hk : ∀ D', cBk D' (kLd H T cost (2 * q + l - 1)) H → zfr [71, 72] D D' → qS (k2 ((l : Int) - 1) D') P) :
    qS (zfix (fun _ => none) (fX0_layAll_17 F (q : Int) (l : Int) cost k2) zfu D) P := by
  obtain ⟨d, left, out, first, days⟩ := T
  obtain ⟨h1, h2, h3, h4, h5, h6⟩ := h
  obtain ⟨t1, t2, t3⟩ := ht
  dsimp only at h1 h2 h4 h5 h6 t1 t2 t3
  refine qloop0 (fun D1 => (-1 ≤ D1 71 2 ∧ D1 71 2 ≤ d) ∧ (D1 71 2 = d → 0 ≤ d → D1 71 3 = left) ∧ (D1 71 2 < d → D1 71 3 = H ∧ left < cost) ∧ (D1 71 2 + 1 < d → H < cost) ∧ (∀ k, k ≠ 2 → k ≠ 3 → D1 71 k = D 71 k) ∧ zfr [71] D D1) (fun D1 => (D1 71 2 + 10).toNat) ?_ ⟨by omega, fun _ => h2, fun hh => absurd hh (by omega), fun hh => absurd hh (by omega), fun _ _ _ => rfl, zfr.rfl' _ _⟩ (zfu_gt (by omega))
  intro k17 D1 ⟨i1, i2, i3, i4, i5, f1⟩ ih
  have e72 : D1 72 = D 72 := f1 72 (by decide)
  have fin : ((D1 71 2 < 0) ∨ (0 ≤ D1 71 2 ∧ cost ≤ D1 71 3)) → qS (fX0_layAll_54 F k2 (q : Int) (l : Int) cost D1) P := by
    intro hx
    unfold fX0_layAll_54
    refine qS_ite (fun c1 => ?_) (fun c1 => ?_)
    · rw [i5 5 (by omega) (by omega), h4]
      refine qS_chk (by omega) (qS_leti ?_)
      unfold fX0_layAll_107
      refine qS_chk (by omega) ?_
      rw [show (l : Int) + -1 = (l : Int) - 1 by omega]
      refine hk _ ?_ ((f1.mono (by decide)).wr (by decide))
      have eT : kLd H (d, left, out, first, days) cost (2 * q + l - 1) = ((-1 : Int), (if d < 0 then left else 0), out + 1, first, days) := by
        unfold kLd
        dsimp only
        by_cases e1 : d < 0
        · rw [if_pos e1, if_pos e1, show d = -1 by omega]
        · have i3' := i3 (by omega)
          rw [if_neg e1, if_neg e1, if_neg (by omega), if_neg (fun hh => by have := i4 (by omega); omega)]
      rw [eT]
      refine ⟨?_, fun hh => absurd hh (by dsimp only; omega), ?_, ?_, ?_, ?_⟩
      · rw [zwr_off (Or.inr (by omega))]; dsimp only; omega
      · rw [zwr_off (Or.inr (by omega)), i5 4 (by omega) (by omega)]; exact h3
      · rw [zwr_eq]
      · rw [zwr_off (Or.inr (by omega)), i5 6 (by omega) (by omega)]; exact h5
      · rw [zwr_row (by omega), e72]; exact h6
    · have hx' : 0 ≤ D1 71 2 ∧ cost ≤ D1 71 3 := by omega
      have eT : kLd H (d, left, out, first, days) cost (2 * q + l - 1) = (D1 71 2, D1 71 3 - cost, out, D1 71 2, zset days (2 * q + l - 1) (D1 71 2)) := by
        unfold kLd
        dsimp only
        rw [if_neg (by omega)]
        by_cases e1 : D1 71 2 = d
        · have := i2 e1 (by omega)
          rw [if_pos (by omega), e1, this]
        · have i3' := i3 (by omega)
          have e2 : D1 71 2 = d - 1 := by
            rcases Int.lt_or_le (D1 71 2 + 1) d with g | g
            · have := i4 g; omega
            · omega
          rw [if_neg (by omega), if_pos (by omega), e2, i3'.1]
      have b3 : D1 71 3 ≤ 16 := by
        by_cases e1 : D1 71 2 = d
        · have := i2 e1 (by omega); omega
        · have := i3 (by omega); omega
      refine qS_chk (by omega) (qS_leti (qS_chk (by omega) (qS_leti (qS_leti ?_))))
      unfold fX0_layAll_107
      refine qS_chk (by omega) ?_
      rw [show (l : Int) + -1 = (l : Int) - 1 by omega]
      refine hk _ ?_ ((((f1.mono (by decide)).wr (by decide)).wr (by decide)).wr (by decide))
      rw [eT, show ((q : Int) * 3 + (l : Int)).toNat = 3 * q + l by omega]
      refine ⟨?_, fun _ => ?_, ?_, ?_, ?_, fun q' l' hq' h1' h2' => ?_⟩
      · rw [zwr_off (Or.inr (by omega)), zwr_row (by omega), zwr_off (Or.inr (by omega))]
      · rw [zwr_off (Or.inr (by omega)), zwr_row (by omega), zwr_eq]
      · rw [zwr_off (Or.inr (by omega)), zwr_row (by omega), zwr_off (Or.inr (by omega)), i5 4 (by omega) (by omega)]; exact h3
      · rw [zwr_off (Or.inr (by omega)), zwr_row (by omega), zwr_off (Or.inr (by omega)), i5 5 (by omega) (by omega)]; exact h4
      · rw [zwr_eq, zwr_row (by omega), zwr_off (Or.inr (by omega))]
      · rw [zwr_row (by omega), zwr_at]
        dsimp only
        by_cases e : 3 * q' + l' = 3 * q + l
        · rw [if_pos e, show 2 * q' + l' - 1 = 2 * q + l - 1 by omega, zset_eq, zwr_off (Or.inr (by omega))]
        · rw [if_neg e, zset_ne (by omega), zwr_row (by omega), e72]; exact h6 q' l' hq' h1' h2'
  unfold fX0_layAll_17
  refine qS_ite (fun c1 => fin (Or.inl c1)) (fun c1 => ?_)
  refine qS_ite (fun c2 => ?_) (fun c2 => fin (Or.inr ⟨by omega, by omega⟩))
  refine qS_chk (by omega) (qS_leti (qS_leti ?_))
  have e4 : (zwr D1 71 2 (D1 71 2 - 1)) 71 4 = H := by rw [zwr_off (Or.inr (by omega)), i5 4 (by omega) (by omega)]; exact h3
  rw [e4]
  have e2' : (zwr (zwr D1 71 2 (D1 71 2 - 1)) 71 3 H) 71 2 = D1 71 2 - 1 := by rw [zwr_off (Or.inr (by omega)), zwr_eq]
  refine ih _ ⟨by rw [e2']; omega, fun hh => ?_, fun hh => ⟨zwr_eq, ?_⟩, fun hh => ?_, fun k k1 k2 => ?_, (f1.wr (by decide)).wr (by decide)⟩ (by rw [e2']; omega)
  · rw [e2'] at hh; omega
  · by_cases e1 : D1 71 2 = d
    · have := i2 e1 (by omega); omega
    · exact (i3 (by omega)).2
  · rw [e2'] at hh
    have := i3 (by omega)
    omega
  · rw [zwr_off (Or.inr k2), zwr_off (Or.inr k1)]; exact i5 k k1 k2
end CK
