/-! ===== a place's rows, from those behind it ===== -/
def cFw (A : Nat → Int) (K : Nat → Int) (N : Nat) (bq : Nat → Nat) (kb b : Nat → Int) (i : Nat) : Prop :=
  ∀ c, c < 2 ^ (b i).toNat → ∀ s t, t ≤ s → s ≤ N - i → (0 ≤ A (oF N b i + c * tri (N - i + 1) + (tri s + t)) ∧ A (oF N b i + c * tri (N - i + 1) + (tri s + t)) ≤ 100000) ∧
    ∀ r, r < 16 → kCmp2 N (fun j => K (5 * bq j)) kb c r → A (oF N b i + c * tri (N - i + 1) + (tri s + t)) = kTm K N bq (N - i) r (s - t) t
theorem fV_in {A : Nat → Int} {wo wi left s t : Nat} {p1 p2 : Int} (ht : t ≤ s) (hs : s ≤ left) (h0 : 0 < left) (hp1 : 0 ≤ p1 ∧ p1 ≤ 40) (hp2 : 0 ≤ p2 ∧ p2 ≤ 40)
    (hA : ∀ y, y < tri left → (0 ≤ A (wo + y) ∧ A (wo + y) ≤ 100000) ∧ (0 ≤ A (wi + y) ∧ A (wi + y) ≤ 100000)) : 0 ≤ fV A wo wi left s t p1 p2 ∧ fV A wo wi left s t p1 p2 ≤ 100000 := by
  have rd1 : t < s → tri (s - 1) + t < tri left := fun h => by have := tri_in (s := s - 1) (t := t) (L := left - 1) (by omega) (by omega); rw [show left - 1 + 1 = left by omega] at this; exact this
  have rd2 : 0 < t → tri (s - 1) + (t - 1) < tri left := fun h => by have := tri_in (s := s - 1) (t := t - 1) (L := left - 1) (by omega) (by omega); rw [show left - 1 + 1 = left by omega] at this; exact this
  have rd0 : s < left → tri s + t < tri left := fun h => by have := tri_in (s := s) (t := t) (L := left - 1) (by omega) ht; rw [show left - 1 + 1 = left by omega] at this; exact this
  have x0 : 0 ≤ (if s < left then A (wo + (tri s + t)) else 100000) ∧ (if s < left then A (wo + (tri s + t)) else 100000) ≤ 100000 := by
    by_cases h : s < left
    · rw [if_pos h]; exact (hA _ (rd0 h)).1
    · rw [if_neg h]; omega
  unfold fV
  generalize (if s < left then A (wo + (tri s + t)) else 100000) = x at *
  by_cases h1 : t < s
  · have a1 := (hA _ (rd1 h1)).2
    rw [if_pos h1]
    by_cases h2 : 0 < t
    · have a2 := (hA _ (rd2 h2)).2
      rw [if_pos h2]; omega
    · rw [if_neg h2]; omega
  · rw [if_neg h1]
    by_cases h2 : 0 < t
    · have a2 := (hA _ (rd2 h2)).2
      rw [if_pos h2]; omega
    · rw [if_neg h2]; omega
theorem tri_dec {y : Nat} : ∀ L, y < tri (L + 1) → ∃ s t, t ≤ s ∧ s ≤ L ∧ y = tri s + t
  | 0, h => ⟨0, 0, by omega, by omega, by have : tri (0 + 1) = 1 := rfl; have : tri 0 = 0 := rfl; omega⟩
  | L + 1, h => by
    by_cases e : y < tri (L + 1)
    · obtain ⟨s, t, a, d, f⟩ := tri_dec L e
      exact ⟨s, t, a, by omega, f⟩
    · rw [tri_s] at h
      exact ⟨L + 1, y - tri (L + 1), by omega, by omega, by omega⟩
section BL
variable {K : Nat → Int} {N : Nat} {bq : Nat → Nat} {kb b : Nat → Int} {A A' : Nat → Int}
/-- of a place behind: all its cells lie in bounds -/
theorem cFw.cells {i : Nat} (h : cFw A K N bq kb b i) {c : Nat} (hc : c < 2 ^ (b i).toNat) {y : Nat} (hy : y < tri (N - i + 1)) : 0 ≤ A (oF N b i + c * tri (N - i + 1) + y) ∧ A (oF N b i + c * tri (N - i + 1) + y) ≤ 100000 := by
  obtain ⟨s, t, a, d, f⟩ := tri_dec _ hy
  rw [f]; exact (h c hc s t a d).1
theorem cFw_step (nm : kNm (kSame K N bq) (fun j => K (5 * bq j)) N kb b) {i : Nat} (hi : i < N) (hN : N ≤ 20) (hg : K (5 * bq i) ≤ 4) (h : cFw A K N bq kb b (i + 1))
    (h' : ∀ c, c < 2 ^ (b i).toNat → ∀ s t, t ≤ s → s ≤ N - i → A' (oF N b i + c * tri (N - i + 1) + (tri s + t)) = fV A (oF N b (i + 1) + c * tri (N - (i + 1) + 1)) (oF N b (i + 1) + cKw kb i c * tri (N - (i + 1) + 1)) (N - i) s t (kCo K (bq i) 1 (cHb kb i c)) (kCo K (bq i) 2 (cHb kb i c))) : cFw A' K N bq kb b i := by
  intro c hc s t ht hs
  have hm := nm.2.2.2.2.1 i (i + 1) (by omega) (by omega)
  have hc1 : c < 2 ^ (b (i + 1)).toNat := Nat.lt_of_lt_of_le hc (Nat.pow_le_pow_right (by omega) (by omega))
  have hc2 := cKw_lt nm hi hc
  have p1 := kCo_in K (bq i) 1 (cHb kb i c)
  have p2 := kCo_in K (bq i) 2 (cHb kb i c)
  have eT : tri (N - (i + 1) + 1) = tri (N - i) := by rw [show N - (i + 1) + 1 = N - i by omega]
  rw [h' c hc s t ht hs]
  refine ⟨fV_in ht hs (by omega) p1 p2 (fun y hy => ⟨h.cells hc1 (by rw [eT]; exact hy), h.cells hc2 (by rw [eT]; exact hy)⟩), fun r hr cm => ?_⟩
  have cm2 := cm.kw nm hi
  have hb := cm.hb nm hi
  have r2 := kKw_lt (q := bq i) hg hr
  obtain ⟨m, em⟩ : ∃ m, N - i = m + 1 := ⟨N - i - 1, by omega⟩
  have em1 : N - (i + 1) = m := by omega
  have ei : N - (m + 1) = i := by omega
  rw [em]
  show _ = kLeB K (bq (N - (m + 1))) (kTm K N bq m) r (s - t) t
  rw [ei, hb.1, hb.2]
  have y0 : s < m + 1 → A (oF N b (i + 1) + c * tri (N - (i + 1) + 1) + (tri s + t)) = kTm K N bq m r (s - t) t := fun h1 => by
    have := (h c hc1 s t ht (by omega)).2 r hr cm
    rw [this, em1]
  have y1 : t < s → A (oF N b (i + 1) + cKw kb i c * tri (N - (i + 1) + 1) + (tri (s - 1) + t)) = kTm K N bq m (kKw K (bq i) r) (s - t - 1) t := fun h1 => by
    have := (h _ hc2 (s - 1) t (by omega) (by omega)).2 _ r2 cm2
    rw [this, em1, show s - 1 - t = s - t - 1 by omega]
  have y2 : 0 < t → A (oF N b (i + 1) + cKw kb i c * tri (N - (i + 1) + 1) + (tri (s - 1) + (t - 1))) = kTm K N bq m (kKw K (bq i) r) (s - t) (t - 1) := fun h1 => by
    have := (h _ hc2 (s - 1) (t - 1) (by omega) (by omega)).2 _ r2 cm2
    rw [this, em1, show s - 1 - (t - 1) = s - t by omega]
  have z0 := kTm_in K N bq m r (s - t) t
  have z1 := kTm_in K N bq m (kKw K (bq i) r) (s - t - 1) t
  have z2 := kTm_in K N bq m (kKw K (bq i) r) (s - t) (t - 1)
  rw [hb.1] at p1
  rw [hb.2] at p2
  unfold fV kLeB
  generalize kTm K N bq m r (s - t) t = x0 at *
  generalize kTm K N bq m (kKw K (bq i) r) (s - t - 1) t = x1 at *
  generalize kTm K N bq m (kKw K (bq i) r) (s - t) (t - 1) = x2 at *
  generalize A (oF N b (i + 1) + c * tri (N - (i + 1) + 1) + (tri s + t)) = w0 at *
  generalize A (oF N b (i + 1) + cKw kb i c * tri (N - (i + 1) + 1) + (tri (s - 1) + t)) = w1 at *
  generalize A (oF N b (i + 1) + cKw kb i c * tri (N - (i + 1) + 1) + (tri (s - 1) + (t - 1))) = w2 at *
  generalize kCo K (bq i) 1 (kHb K (bq i) r) = q1 at *
  generalize kCo K (bq i) 2 (kHb K (bq i) r) = q2 at *
  clear h' h cm cm2 hb nm
  by_cases h1 : 0 < t
  · rw [if_pos h1, if_pos h1, y2 h1]
    by_cases h2 : t < s
    · rw [if_pos h2, if_pos (show 0 < s - t by omega), y1 h2]
      by_cases h3 : s < m + 1
      · rw [if_pos h3, y0 h3]
      · rw [if_neg h3]; omega
    · rw [if_neg h2, if_neg (show ¬ 0 < s - t by omega)]
      by_cases h3 : s < m + 1
      · rw [if_pos h3, y0 h3]
      · rw [if_neg h3]; omega
  · rw [if_neg h1, if_neg h1]
    by_cases h2 : t < s
    · rw [if_pos h2, if_pos (show 0 < s - t by omega), y1 h2]
      by_cases h3 : s < m + 1
      · rw [if_pos h3, y0 h3]
      · rw [if_neg h3]; omega
    · rw [if_neg h2, if_neg (show ¬ 0 < s - t by omega)]
      rw [if_pos (show s < m + 1 by omega), y0 (by omega)]
end BL
section F9
variable {F : zFs} {D : zDa} {K : Nat → Int} {N : Nat} {bq : Nat → Nat}
/-- the planner's shape: bowl, names of kings, where rows stand -/
def cSh (D : zDa) (K : Nat → Int) (N : Nat) (bq : Nat → Nat) : Prop :=
  N ≤ 20 ∧ D 60 5 = (N : Int) ∧ cBq D K N bq ∧ kNm (kSame K N bq) (fun j => K (5 * bq j)) N (D 63) (D 64) ∧ ∀ i, i ≤ N → D 65 i = (oF N (D 64) i : Int)
theorem cSh.fr {D' : zDa} (h : cSh D K N bq) (h60 : D' 60 5 = D 60 5) (h1 : D' 61 = D 61) (h2 : D' 62 = D 62) (h3 : D' 63 = D 63) (h4 : D' 64 = D 64) (h5 : D' 65 = D 65) : cSh D' K N bq := by
  unfold cSh cBq cPi
  rw [h60, h1, h2, h3, h4, h5]
  exact h
theorem cSh.ole (h : cSh D K N bq) {i : Nat} (hi : i ≤ N + 1) : oF N (D 64) i ≤ 77616 := by
  have := oF_le (N := N) (b := D 64) h.1 i hi (fun j hj => (h.2.2.2.1.b4 (by omega)).2)
  have := h.1
  omega
theorem pow4 {z : Int} (h : 0 ≤ z ∧ z ≤ 4) : 2 ^ z.toNat ≤ 16 := Nat.pow_le_pow_right (n := 2) (i := z.toNat) (j := 4) (by omega) (by omega)
theorem pX4_rowAt (h : cSh D K N bq) {i c : Nat} (hi : i ≤ N) (hc : c ≤ 16) : fX4_rowAt F (i : Int) (c : Int) D = some (((oF N (D 64) i + c * tri (N - i + 1) : Nat) : Int), D) := by
  have hN := h.1
  have o := h.ole (i := i) (by omega)
  have t : tri (N - i + 1) ≤ 231 := tri_le (t := 21) (by omega)
  have m := Nat.mul_le_mul hc t
  unfold fX4_rowAt
  rw [h.2.1, if_pos (by omega), show (N : Int) - (i : Int) = ((N - i : Nat) : Int) by omega, pX4_pairs (by omega)]
  show (if _ then _ else none) = _
  rw [show ((i : Int)).toNat = i by omega, h.2.2.2.2 i hi, show (c : Int) * (tri (N - i + 1) : Int) = ((c * tri (N - i + 1) : Nat) : Int) by rw [Int.natCast_mul], if_pos (by omega)]
  congr 2
theorem pX4_helpedBy (h : cSh D K N bq) {i c : Nat} (hi : i < N) (hc : c ≤ 16) : fX4_helpedBy F (i : Int) (c : Int) D = some ((cHb (D 63) i c : Int), D) := by
  have hN := h.1
  have nm := h.2.2.2.1
  have b4 := nm.b4 (j := i + 1) (by omega)
  have n1 := nm.1 i hi
  unfold fX4_helpedBy cHb
  rw [if_pos (by omega), show ((i : Int)).toNat = i by omega]
  by_cases e : D 63 i = -1
  · rw [if_pos e, if_pos e]; rfl
  · rw [if_neg e, if_neg e]
    have := zbit_ushr (a := c) (k := (D 63 i).toNat) (by omega) (by omega)
    rw [show (((D 63 i).toNat : Nat) : Int) = D 63 i by omega] at this
    rw [this]
    split <;> rfl
theorem pX4_kingsWith (h : cSh D K N bq) {i c : Nat} (hi : i < N) (hc : c ≤ 16) : fX4_kingsWith F (i : Int) (c : Int) D = some ((cKw (D 63) i c : Int), D) := by
  have hN := h.1
  have nm := h.2.2.2.1
  have b4 := nm.b4 (j := i + 1) (by omega)
  have n1 := nm.1 i hi
  unfold fX4_kingsWith cKw
  rw [if_pos (by omega), show ((i : Int)).toNat = i by omega]
  by_cases e : D 63 i = -1
  · rw [if_pos e, if_pos e]
  · rw [if_neg e, if_neg e]
    have p : 2 ^ (D 63 i).toNat < 2 ^ 4 := Nat.pow_lt_pow_right (by omega) (by omega)
    have := zone_shl (k := (D 63 i).toNat) (by omega)
    rw [show (((D 63 i).toNat : Nat) : Int) = D 63 i by omega] at this
    rw [this, zor_nat (by omega) (by omega)]
theorem pX4_fillFrom (hk : kOk K) (h : cSh D K N bq) {r i : Nat} (h11 : D 60 11 = (r : Int)) (hr : r < 60 → False) (hr2 : r = 66 ∨ 126 ≤ r) (hF : (F r).1 = 20) (hl : oF N (D 64) (N + 1) ≤ (F r).2.1) (hlen : (F r).2.1 ≤ 1000000) (hi : i ≤ N) (hA : i < N → cFw (D r) K N bq (D 63) (D 64) (i + 1)) :
    qS (fX4_fillFrom F (i : Int) D) (fun D' => cFw (D' r) K N bq (D 63) (D 64) i ∧ (∀ y, y < oF N (D 64) i ∨ oF N (D 64) (i + 1) ≤ y → D' r y = D r y) ∧ zfr [r] D D') := by
  have hN := h.1
  have nm := h.2.2.2.1
  have bi := nm.b4 (j := i) hi
  have bp := pow4 bi
  have hbo := oF_s N (D 64) i
  have hom := oF_mono (N := N) (b := D 64) (i := i + 1) (j := N + 1) (by omega)
  unfold fX4_fillFrom
  rw [h.2.1]
  refine qS_chk (by omega) (qS_leti ?_)
  rw [show (N : Int) - (i : Int) = ((N - i : Nat) : Int) by omega]
  refine qloop1 (fun v D2 => ∃ c : Nat, v = (c : Int) ∧ c ≤ 2 ^ (D 64 i).toNat ∧
      (∀ c', c' < c → ∀ s t, t ≤ s → s ≤ N - i → D2 r (oF N (D 64) i + c' * tri (N - i + 1) + (tri s + t)) = if i < N then fV (D r) (oF N (D 64) (i + 1) + c' * tri (N - (i + 1) + 1)) (oF N (D 64) (i + 1) + cKw (D 63) i c' * tri (N - (i + 1) + 1)) (N - i) s t (kCo K (bq i) 1 (cHb (D 63) i c')) (kCo K (bq i) 2 (cHb (D 63) i c')) else 0) ∧
      (∀ y, y < oF N (D 64) i ∨ oF N (D 64) i + c * tri (N - i + 1) ≤ y → D2 r y = D r y) ∧ zfr [r] D D2) (fun v _ => (100 - v).toNat) ?_ ⟨0, rfl, Nat.zero_le _, fun c' hc' => absurd hc' (by omega), fun _ _ => rfl, zfr.rfl' _ _⟩ (zfu_gt (by omega))
  intro k9 v D2 ⟨c, ev, hc, r2, y2, f2⟩ ih
  subst ev
  have g : ∀ a, a ≠ r → D2 a = D a := fun a ha => f2 a (by simpa using ha)
  have sh2 : cSh D2 K N bq := h.fr (by rw [g 60 (by omega)]) (g 61 (by omega)) (g 62 (by omega)) (g 63 (by omega)) (g 64 (by omega)) (g 65 (by omega))
  have e64 : D2 64 = D 64 := g 64 (by omega)
  have e63 : D2 63 = D 63 := g 63 (by omega)
  unfold fX4_fillFrom_9
  refine qS_chk (by omega) ?_
  rw [show ((i : Int)).toNat = i by omega, e64]
  have esh := zone_shl (k := (D 64 i).toNat) (by omega)
  rw [show (((D 64 i).toNat : Nat) : Int) = D 64 i by omega] at esh
  rw [esh]
  refine qS_ite (fun hlt => ?_) (fun hlt => ?_)
  · have hcl : c < 2 ^ (D 64 i).toNat := by omega
    have rA0 := pX4_rowAt (F := F) sh2 (i := i) (c := c) hi (by omega)
    rw [e64] at rA0
    have cl : c * tri (N - i + 1) + tri (N - i + 1) ≤ tri (N - i + 1) * 2 ^ (D 64 i).toNat := by
      have := Nat.mul_le_mul_right (tri (N - i + 1)) (show c + 1 ≤ 2 ^ (D 64 i).toNat from hcl)
      rw [Nat.add_mul, Nat.one_mul, Nat.mul_comm (2 ^ (D 64 i).toNat)] at this
      exact this
    have tp := tri_pos (N - i)
    have e11 : D2 60 11 = (r : Int) := by rw [g 60 (by omega)]; exact h11
    refine qS_step rA0 ?_
    refine qS_ite (fun hz => ?_) (fun hz => ?_)
    · have hiN : i = N := by omega
      rw [e11, show ((r : Int)).toNat = r by omega]
      refine qS_chk ⟨by omega, hF, by omega⟩ (qS_leti ?_)
      unfold fX4_fillFrom_267
      refine qS_chk (by omega) (ih _ _ ⟨c + 1, by omega, by omega, fun c' hc' s t ht hs => ?_, fun y hy => ?_, f2.wr (by simp)⟩ (by omega))
      · have es : s = 0 := by omega
        have et : t = 0 := by omega
        have t0 : tri 0 = 0 := rfl
        have t1 : tri (N - i + 1) = 1 := by rw [hiN, Nat.sub_self]; rfl
        rw [if_neg (by omega), zwr_at]
        by_cases e : c' = c
        · rw [if_pos (by rw [e, es, et, t0]; omega)]
        · rw [if_neg (by rw [es, et, t0, t1]; omega)]
          have := r2 c' (by omega) s t ht hs
          rw [if_neg (by omega)] at this
          exact this
      · rw [Nat.add_mul, Nat.one_mul] at hy
        rw [zwr_off (by omega)]; exact y2 y (by omega)
    · have hiN : i < N := by omega
      have A1 := hA hiN
      have Bi := h.2.2.1 i hiN
      have hm := nm.2.2.2.2.1 i (i + 1) (by omega) (by omega)
      have hc1 : c < 2 ^ (D 64 (i + 1)).toNat := Nat.lt_of_lt_of_le hcl (Nat.pow_le_pow_right (by omega) (by omega))
      have hc2 := cKw_lt nm hiN hcl
      have bp1 := pow4 (nm.b4 (j := i + 1) (by omega))
      have hbt := cHb_lt (D 63) i c
      have q1 := kCo_in K (bq i) 1 (cHb (D 63) i c)
      have q2 := kCo_in K (bq i) 2 (cHb (D 63) i c)
      have hH := pX4_helpedBy (F := F) sh2 hiN (c := c) (by omega)
      have hW := pX4_kingsWith (F := F) sh2 hiN (c := c) (by omega)
      rw [e63] at hH hW
      refine qS_step hH (qS_step (pX4_priceAt (l := 1) (by omega) hbt (by omega)) (qS_chk (by omega) (qS_leti (qS_step (pX4_priceAt (l := 2) (by omega) hbt (by omega)) (qS_chk (by omega) (qS_leti (qS_chk (by omega) ?_)))))))
      have rA1 := pX4_rowAt (F := F) sh2 (i := i + 1) (c := c) (by omega) (by omega)
      have rA2 := pX4_rowAt (F := F) sh2 (i := i + 1) (c := cKw (D 63) i c) (by omega) (by omega)
      rw [e64] at rA1 rA2
      rw [show (i : Int) + 1 = ((i + 1 : Nat) : Int) by omega]
      refine qS_step rA1 (qS_step hW (qS_step rA2 ?_))
      have eT : tri (N - (i + 1) + 1) = tri (N - i) := by rw [show N - (i + 1) + 1 = N - i by omega]
      have hbo1 := oF_s N (D 64) (i + 1)
      have hom1 := oF_mono (N := N) (b := D 64) (i := i + 1 + 1) (j := N + 1) (by omega)
      have cl1 : c * tri (N - (i + 1) + 1) + tri (N - (i + 1) + 1) ≤ tri (N - (i + 1) + 1) * 2 ^ (D 64 (i + 1)).toNat := by
        have := Nat.mul_le_mul_right (tri (N - (i + 1) + 1)) (show c + 1 ≤ 2 ^ (D 64 (i + 1)).toNat from hc1)
        rw [Nat.add_mul, Nat.one_mul, Nat.mul_comm (2 ^ (D 64 (i + 1)).toNat)] at this
        exact this
      have cl2 : cKw (D 63) i c * tri (N - (i + 1) + 1) + tri (N - (i + 1) + 1) ≤ tri (N - (i + 1) + 1) * 2 ^ (D 64 (i + 1)).toNat := by
        have := Nat.mul_le_mul_right (tri (N - (i + 1) + 1)) (show cKw (D 63) i c + 1 ≤ 2 ^ (D 64 (i + 1)).toNat from hc2)
        rw [Nat.add_mul, Nat.one_mul, Nat.mul_comm (2 ^ (D 64 (i + 1)).toNat)] at this
        exact this
      have P1 : D2 62 (((6 * i + 3 * cHb (D 63) i c + 1 : Nat) : Int)).toNat = kCo K (bq i) 1 (cHb (D 63) i c) := by
        rw [show (((6 * i + 3 * cHb (D 63) i c + 1 : Nat) : Int)).toNat = 6 * i + 3 * cHb (D 63) i c + 1 by omega, g 62 (by omega)]
        exact (Bi.2.2 _ hbt).1
      have P2 : D2 62 (((6 * i + 3 * cHb (D 63) i c + 2 : Nat) : Int)).toNat = kCo K (bq i) 2 (cHb (D 63) i c) := by
        rw [show (((6 * i + 3 * cHb (D 63) i c + 2 : Nat) : Int)).toNat = 6 * i + 3 * cHb (D 63) i c + 2 by omega, g 62 (by omega)]
        exact (Bi.2.2 _ hbt).2
      rw [P1, P2]
      have same : ∀ y, oF N (D 64) (i + 1) ≤ y → D2 r y = D r y := fun y hy => y2 y (by omega)
      refine fF_108 (r := r) (left := N - i) (c := c) e11 (by omega) hF (by omega) (by omega) hlen (by omega) (by omega) (by omega) (by omega) q1 q2 (fun y hy => ?_) (fun D' hd => ?_) (by omega)
      · rw [same _ (by omega), same _ (by omega)]
        exact ⟨A1.cells hc1 (by rw [eT]; exact hy), A1.cells hc2 (by rw [eT]; exact hy)⟩
      · rw [show (c : Int) + 1 = ((c + 1 : Nat) : Int) by omega]
        refine ih _ _ ⟨c + 1, rfl, by omega, fun c' hc' s t ht hs => ?_, fun y hy => ?_, fun a ha => ?_⟩ (by omega)
        · rw [if_pos hiN]
          by_cases e : c' = c
          · subst e
            rw [hd.1 s t ht hs (tri_in hs ht)]
            have cg : ∀ y, D2 r (oF N (D 64) (i + 1) + y) = D r (oF N (D 64) (i + 1) + y) := fun y => same _ (by omega)
            unfold fV
            rw [Nat.add_assoc (oF N (D 64) (i + 1)), Nat.add_assoc (oF N (D 64) (i + 1)), Nat.add_assoc (oF N (D 64) (i + 1)), cg, cg, cg]
          · have := r2 c' (by omega) s t ht hs
            rw [if_pos hiN] at this
            rw [← this]
            refine hd.2.1 _ (Or.inl ?_)
            have p := tri_in hs ht
            have := Nat.mul_le_mul_right (tri (N - i + 1)) (show c' + 1 ≤ c by omega)
            rw [Nat.add_mul] at this
            omega
        · rw [Nat.add_mul, Nat.one_mul] at hy
          rw [hd.2.1 y (by omega)]; exact y2 y (by omega)
        · have ha' : a ≠ r := by simpa using ha
          rw [hd.2.2 a ha']; exact g a ha'
  · have ec : c = 2 ^ (D 64 i).toNat := by omega
    subst ec
    refine qS_ret ⟨?_, fun y hy => ?_, f2⟩
    · by_cases hiN : i < N
      · have gi := (hk.2.1 (bq i) (h.2.2.1 i hiN).2.1).1.2
        refine cFw_step nm hiN hN gi (hA hiN) (fun c hc s t ht hs => ?_)
        have := r2 c hc s t ht hs
        rw [if_pos hiN] at this
        exact this
      · have : i = N := by omega
        subst this
        intro c hc s t ht hs
        have e := r2 c hc s t ht hs
        rw [if_neg hiN] at e
        rw [e]
        refine ⟨by omega, fun r' _ _ => ?_⟩
        rw [Nat.sub_self]
        show (0 : Int) = if s - t = 0 ∧ t = 0 then 0 else 1000000
        rw [if_pos (by omega)]
    · rw [hbo, Nat.mul_comm] at hy
      exact y2 y (by omega)
end F9
