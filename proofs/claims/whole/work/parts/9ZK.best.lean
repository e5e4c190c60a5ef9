/-! ===== the best for so many hours ===== -/
def gI (S : Nat → Nat → Prop) (W L : Nat → Nat → Int) (hours bw bh : Int) : Prop :=
  (bw = -1 ∧ ∀ h w, S h w → hours < L h w) ∨ ((∃ h w, S h w ∧ L h w ≤ hours ∧ W h w = bw ∧ L h w = bh) ∧ ∀ h w, S h w → L h w ≤ hours → W h w < bw ∨ (W h w = bw ∧ bh ≤ L h w))
def gB (B : Nat) (W L : Nat → Nat → Int) (hours bw bh : Int) : Prop :=
  (∃ h w, h + w ≤ B ∧ L h w ≤ hours ∧ W h w = bw ∧ L h w = bh) ∧ ∀ h w, h + w ≤ B → L h w ≤ hours → W h w < bw ∨ (W h w = bw ∧ bh ≤ L h w)
theorem gB_uniq {B : Nat} {W L : Nat → Nat → Int} {hours bw bh bw' bh' : Int} (h : gB B W L hours bw bh) (h' : gB B W L hours bw' bh') : bw = bw' ∧ bh = bh' := by
  obtain ⟨⟨a, b, c1, c2, c3, c4⟩, c5⟩ := h
  obtain ⟨⟨a', b', d1, d2, d3, d4⟩, d5⟩ := h'
  have e1 := c5 a' b' d1 d2
  have e2 := d5 a b c1 c2
  omega
theorem gB_scale {B : Nat} {W L : Nat → Nat → Int} {hours bw bh c : Int} (hc : 0 < c) (h : gB B (fun x y => c * W x y) L hours bw bh) : ∃ bp, bw = c * bp ∧ gB B W L hours bp bh := by
  obtain ⟨⟨a, b, c1, c2, c3, c4⟩, c5⟩ := h
  refine ⟨W a b, c3.symm, ⟨a, b, c1, c2, rfl, c4⟩, fun x y h1 h2 => ?_⟩
  have e := c5 x y h1 h2
  dsimp only at c3 e
  rw [← c3] at e
  rcases e with e | ⟨e, e'⟩
  · refine Or.inl ?_
    rcases Int.lt_or_le (W x y) (W a b) with g | g
    · exact g
    · have := Int.mul_le_mul_of_nonneg_left g (Int.le_of_lt hc)
      omega
  · exact Or.inr ⟨Int.eq_of_mul_eq_mul_left (by omega) e, e'⟩
section GI
variable {S S' : Nat → Nat → Prop} {W L : Nat → Nat → Int} {hours bw bh : Int} {a b : Nat}
theorem gI_skip (h : gI S W L hours bw bh) (hS : ∀ x y, S' x y ↔ S x y ∨ (x = a ∧ y = b)) (hl : hours < L a b) : gI S' W L hours bw bh := by
  rcases h with ⟨h1, h2⟩ | ⟨⟨p, q, h1, h2⟩, h3⟩
  · refine Or.inl ⟨h1, fun x y hs => ?_⟩
    rcases (hS x y).1 hs with g | ⟨g1, g2⟩
    · exact h2 x y g
    · rw [g1, g2]; exact hl
  · refine Or.inr ⟨⟨p, q, (hS p q).2 (Or.inl h1), h2⟩, fun x y hs hle => ?_⟩
    rcases (hS x y).1 hs with g | ⟨g1, g2⟩
    · exact h3 x y g hle
    · rw [g1, g2] at hle; omega
theorem gI_cg (h : gI S W L hours bw bh) (hS : ∀ x y, S' x y ↔ S x y) : gI S' W L hours bw bh := by
  rcases h with ⟨h1, h2⟩ | ⟨⟨p, q, h1, h2⟩, h3⟩
  · exact Or.inl ⟨h1, fun x y hs => h2 x y ((hS x y).1 hs)⟩
  · exact Or.inr ⟨⟨p, q, (hS p q).2 h1, h2⟩, fun x y hs hle => h3 x y ((hS x y).1 hs) hle⟩
theorem gI_take (h : gI S W L hours bw bh) (hS : ∀ x y, S' x y ↔ S x y ∨ (x = a ∧ y = b)) (hl : L a b ≤ hours) (hw : bw < W a b ∨ (W a b = bw ∧ L a b < bh)) : gI S' W L hours (W a b) (L a b) := by
  refine Or.inr ⟨⟨a, b, (hS a b).2 (Or.inr ⟨rfl, rfl⟩), hl, rfl, rfl⟩, fun x y hs hle => ?_⟩
  rcases (hS x y).1 hs with g | ⟨g1, g2⟩
  · rcases h with ⟨h1, h2⟩ | ⟨_, h3⟩
    · have := h2 x y g; omega
    · have := h3 x y g hle; omega
  · rw [g1, g2]; exact Or.inr ⟨rfl, Int.le_refl _⟩
theorem gI_keep (h : gI S W L hours bw bh) (hS : ∀ x y, S' x y ↔ S x y ∨ (x = a ∧ y = b)) (h0 : 0 ≤ W a b) (hw : W a b < bw ∨ (W a b = bw ∧ bh ≤ L a b)) : gI S' W L hours bw bh := by
  rcases h with ⟨h1, h2⟩ | ⟨⟨p, q, h1, h2⟩, h3⟩
  · omega
  · refine Or.inr ⟨⟨p, q, (hS p q).2 (Or.inl h1), h2⟩, fun x y hs hle => ?_⟩
    rcases (hS x y).1 hs with g | ⟨g1, g2⟩
    · exact h3 x y g hle
    · rw [g1, g2]; exact hw
theorem gI_end {B : Nat} (h : gI (fun x y => x + y ≤ B) W L hours bw bh) (h0 : L 0 0 ≤ hours) : gB B W L hours bw bh := by
  rcases h with ⟨_, h2⟩ | h
  · have := h2 0 0 (by omega); omega
  · exact h
end GI
def kL0 (K : Nat → Int) (half well : Nat) : Int := kLe K (K 390).toNat (K 390).toNat 0 half well
theorem kLe_00 (K : Nat → Int) (n : Nat) : ∀ m r, kLe K n m r 0 0 = 0
  | 0, _ => rfl
  | m + 1, r => by
    show kLeS K (n - (m + 1)) (kLe K n m) r 0 0 = 0
    unfold kLeS
    rw [if_neg (by omega : ¬ 0 < 0), if_neg (by omega : ¬ 0 < 0), ite_self]
    exact kLe_00 K n m r
def kBst (K : Nat → Int) (hours bp bh : Int) : Prop := gB (kBowl K).toNat (kPw K) (kL0 K) hours bp bh
noncomputable def kBB (K : Nat → Int) (hours : Int) : Int × Int := Classical.epsilon (fun p : Int × Int => kBst K hours p.1 p.2)
theorem kBB_eq {K : Nat → Int} {hours bp bh : Int} (h : kBst K hours bp bh) : kBB K hours = (bp, bh) := by
  have := Classical.epsilon_spec (p := fun p : Int × Int => kBst K hours p.1 p.2) ⟨(bp, bh), h⟩
  have e := gB_uniq this h
  exact Prod.ext e.1 e.2
/-- ways in the class's measure -/
theorem kCm_in {K : Nat → Int} (hk : kOk K) : 0 < kCm K ∧ 0 < kSuO K 0 0 ∧ kCm K * kSuO K 0 0 ≤ 184756000000 ∧ kSuO K 0 0 ≤ 184756000000 := by
  have ht := kTerms hk
  have hb := kBowl_in hk
  have h0 := hk.1
  have hR : min (min (K 100).toNat (kBowl K).toNat) (K 101).toNat ≤ 3 := by omega
  have p : 100 ^ (3 - min (min (K 100).toNat (kBowl K).toNat) (K 101).toNat) * 100 ^ min (min (K 100).toNat (kBowl K).toNat) (K 101).toNat = 1000000 := by
    rw [← Nat.pow_add, show 3 - min (min (K 100).toNat (kBowl K).toNat) (K 101).toNat + min (min (K 100).toNat (kBowl K).toNat) (K 101).toNat = 3 by omega]
  have hc0 : 0 < kCm K := Nat.pow_pos (by omega)
  have hm := kC_max (n := (kBowl K).toNat) (by omega) (min (K 100).toNat (kBowl K).toNat)
  have hpos := (odOk_su hk (half := 0) (well := 0) (by omega)).2.2.1
  have e := kSuO_all (K := K) (one := 0) (two := 0) (by omega)
  have hle : kCm K * kSuO K 0 0 ≤ 184756000000 := by
    rw [e]; unfold kCm
    rw [Nat.mul_left_comm, p]
    omega
  have := Nat.mul_le_mul_right (kSuO K 0 0) (show 1 ≤ kCm K from hc0)
  omega
theorem kPw_in {K : Nat → Int} (hk : kOk K) {one two : Nat} (h : one + two ≤ (kBowl K).toNat) : 0 ≤ kPw K one two ∧ kPw K one two ≤ (kSuO K 0 0 : Int) := by
  have ht := kTerms hk
  have hp := kAtl_in (k := (K 102).toNat) (odOk_su hk (half := one) (well := two) h) (by omega)
  rw [kSuO_all h, ← kSuO_all (one := 0) (two := 0) (by omega)] at hp
  exact hp
theorem kPwC_in {K : Nat → Int} (hk : kOk K) {one two : Nat} (h : one + two ≤ (kBowl K).toNat) : 0 ≤ (kCm K : Int) * kPw K one two ∧ (kCm K : Int) * kPw K one two ≤ 184756000000 := by
  have a := kCm_in hk
  have b := kPw_in hk h
  have c := Int.mul_le_mul_of_nonneg_left b.2 (show (0 : Int) ≤ (kCm K : Int) by omega)
  have d := Int.mul_nonneg (show (0 : Int) ≤ (kCm K : Int) by omega) b.1
  have e : (kCm K : Int) * (kSuO K 0 0 : Int) = ((kCm K * kSuO K 0 0 : Nat) : Int) := by rw [Int.natCast_mul]
  rw [e] at c
  omega
/-- what the planner holds, fresh -/
def cPl (F : zFs) (D : zDa) (K : Nat → Int) (N : Nat) (bq : Nat → Nat) (r : Nat) : Prop :=
  cHr F D K N bq r ∧ ((r = 66 ∨ 126 ≤ r) ∧ (F r).1 = 20 ∧ (F r).2.1 ≤ 160000) ∧ (∀ one two, one + two ≤ N → D 67 (pPl one two) = (kCm K : Int) * kPw K one two) ∧ D 60 17 = (kCm K : Int) * (kSuO K 0 0 : Int)
section CB
variable {F : zFs} {D : zDa} {K : Nat → Int} {N r : Nat} {bq : Nat → Nat}
theorem cPl.bowl (h : cPl F D K N bq r) : (kBowl K).toNat = N := by
  have := h.1.1.1
  unfold kBowl
  omega
theorem cPl.at0 (h : cPl F D K N bq r) {s t : Nat} (ht : t ≤ s) (hs : s ≤ N) : D r (tri s + t) = kL0 K (s - t) t ∧ 0 ≤ kL0 K (s - t) t ∧ kL0 K (s - t) t ≤ 800 := by
  obtain ⟨⟨hB, sh, h11, hl, hc⟩, _⟩ := h
  have hN := sh.1
  have c0 := hc 0 (by omega) 0 (Nat.pow_pos (by omega)) s t ht (by omega)
  have e := kLe_kTm hB N (Nat.le_refl _) 0 (by omega) (by rw [Nat.sub_self]; rfl)
  rw [Nat.sub_zero] at e
  have c1 := c0.2 0 (by omega) (kCmp2_0 _)
  rw [Nat.sub_zero, ← e] at c1
  have i := (kTm_in K N bq N 0 (s - t) t)
  rw [← e] at i
  have o0 : oF N (D 64) 0 = 0 := rfl
  rw [o0, Nat.zero_mul, Nat.zero_add] at c1
  unfold kL0
  refine ⟨c1, i.1.1, ?_⟩
  have := i.2.1 (by omega)
  omega
theorem cPl.fr {D' : zDa} (h : cPl F D K N bq r) (hf : ∀ a, a ≠ 60 → a ≠ 69 → a ≠ 70 → D' a = D a) (h60 : ∀ k, k ≠ 14 → k ≠ 18 → k ≠ 19 → D' 60 k = D 60 k) : cPl F D' K N bq r := by
  obtain ⟨⟨hB, sh, h11, hl, hc⟩, ⟨hr, hr2⟩, h67, h17⟩ := h
  have e64 := hf 64 (by omega) (by omega) (by omega)
  refine ⟨⟨hB, sh.fr (h60 5 (by omega) (by omega) (by omega)) (hf 61 (by omega) (by omega) (by omega)) (hf 62 (by omega) (by omega) (by omega)) (hf 63 (by omega) (by omega) (by omega)) e64 (hf 65 (by omega) (by omega) (by omega)), by rw [h60 11 (by omega) (by omega) (by omega)]; exact h11, by rw [e64]; exact hl, ?_⟩, ⟨hr, hr2⟩, ?_, ?_⟩
  · rw [e64, hf 63 (by omega) (by omega) (by omega), hf r (by omega) (by omega) (by omega)]; exact hc
  · rw [hf 67 (by omega) (by omega) (by omega)]; exact h67
  · rw [h60 17 (by omega) (by omega) (by omega)]; exact h17
theorem pX4_choose (hk : kOk K) (h : cPl F D K N bq r) {hours : Int} (hh : 0 ≤ hours ∧ hours ≤ 100000) :
    qS (fX4_choose F hours D) (fun D' => (∃ bp bh, kBst K hours bp bh ∧ D' 60 18 = (kCm K : Int) * bp ∧ D' 60 19 = bh) ∧ (∀ k, k ≠ 18 → k ≠ 19 → D' 60 k = D 60 k) ∧ zfr [60] D D') := by
  have hN := h.1.2.1.1
  have hbw := h.bowl
  have hc := kCm_in hk
  unfold fX4_choose
  refine qS_leti (qS_leti ?_)
  refine qloop1 (fun v D1 => ∃ p : Nat, v = (p : Int) ∧ p ≤ tri (N + 1) ∧ gI (fun x y => x + y ≤ N ∧ pPl x y < p) (fun x y => (kCm K : Int) * kPw K x y) (kL0 K) hours (D1 60 18) (D1 60 19) ∧ (∀ k, k ≠ 18 → k ≠ 19 → D1 60 k = D 60 k) ∧ zfr [60] D D1) (fun v _ => (1000 - v).toNat) ?_ ⟨0, rfl, by omega, Or.inl ⟨?_, fun x y hs => absurd hs.2 (by omega)⟩, fun k h1 h2 => ?_, ((zfr.rfl' _ _).wr (by decide)).wr (by decide)⟩ (zfu_gt (by omega))
  · intro k14 v D1 ⟨p, ev, hp, g1, k1, f1⟩ ih
    subst ev
    have h1 : cPl F D1 K N bq r := h.fr (fun a ha _ _ => f1 a (by simpa using ha)) (fun k _ h1 h2 => k1 k h1 h2)
    have tN : tri (N + 1) ≤ 231 := tri_le (t := 21) (by omega)
    unfold fX4_choose_14
    rw [h1.1.2.1.2.1]
    refine qS_step (pX4_pairs hN) ?_
    refine qS_ite (fun hlt => ?_) (fun hlt => ?_)
    · obtain ⟨s, t, ht, hs, e⟩ := tri_dec N (y := p) (by omega)
      have a0 := h1.at0 ht hs
      have w0 := h1.2.2.1 (s - t) t (by omega)
      have wb := kPwC_in hk (one := s - t) (two := t) (by omega)
      have epl : pPl (s - t) t = p := by unfold pPl; rw [show s - t + t = s by omega]; exact e.symm
      rw [epl] at w0
      rw [← e] at a0
      have hS : ∀ x y, (x + y ≤ N ∧ pPl x y < p + 1) ↔ ((x + y ≤ N ∧ pPl x y < p) ∨ (x = s - t ∧ y = t)) := by
        intro x y
        constructor
        · intro ⟨u1, u2⟩
          by_cases e2 : pPl x y = p
          · exact Or.inr (pPl_inj (by rw [e2, epl]))
          · exact Or.inl ⟨u1, by omega⟩
        · rintro (⟨u1, u2⟩ | ⟨u1, u2⟩)
          · exact ⟨u1, by omega⟩
          · rw [u1, u2, epl]; exact ⟨by omega, by omega⟩
      have o65 : D1 65 0 = 0 := h1.1.2.1.2.2.2.2 0 (by omega)
      have hl := h1.1.2.2.2.1
      have ho1 : tri (N + 1) ≤ oF N (D1 64) (N + 1) := by
        have := oF_mono (N := N) (b := D1 64) (i := 1) (j := N + 1) (by omega)
        have e1 : oF N (D1 64) 1 = 0 + tri (N - 0 + 1) * 2 ^ (D1 64 0).toNat := rfl
        have := Nat.mul_le_mul_left (tri (N + 1)) (show 1 ≤ 2 ^ (D1 64 0).toNat from Nat.pow_pos (by omega))
        rw [Nat.sub_zero, Nat.zero_add] at e1
        omega
      rw [o65, h1.1.2.2.1, show ((r : Int)).toNat = r by omega, show ((0 : Int) + (p : Int)).toNat = p by omega, show ((p : Int)).toNat = p by omega, a0.1, w0]
      refine qS_chk ⟨by omega, by omega, h1.2.1.2.1, by omega⟩ (qS_leti ?_)
      have skip : gI (fun x y => x + y ≤ N ∧ pPl x y < p + 1) (fun x y => (kCm K : Int) * kPw K x y) (kL0 K) hours (D1 60 18) (D1 60 19) → qS (fX4_choose_95 F k14 hours (p : Int) D1) (fun D' => (∃ bp bh, kBst K hours bp bh ∧ D' 60 18 = (kCm K : Int) * bp ∧ D' 60 19 = bh) ∧ (∀ k, k ≠ 18 → k ≠ 19 → D' 60 k = D 60 k) ∧ zfr [60] D D') := by
        intro g
        unfold fX4_choose_95
        exact qS_chk (by omega) (ih _ _ ⟨p + 1, by omega, by omega, g, k1, f1⟩ (by omega))
      have take : kL0 K (s - t) t ≤ hours → (D1 60 18 < (kCm K : Int) * kPw K (s - t) t ∨ ((kCm K : Int) * kPw K (s - t) t = D1 60 18 ∧ kL0 K (s - t) t < D1 60 19)) → qS (fX4_choose_80 F k14 hours (p : Int) (kL0 K (s - t) t) D1) (fun D' => (∃ bp bh, kBst K hours bp bh ∧ D' 60 18 = (kCm K : Int) * bp ∧ D' 60 19 = bh) ∧ (∀ k, k ≠ 18 → k ≠ 19 → D' 60 k = D 60 k) ∧ zfr [60] D D') := by
        intro g1' g2
        unfold fX4_choose_80
        rw [show ((p : Int)).toNat = p by omega, w0]
        refine qS_chk (by omega) (qS_leti (qS_leti ?_))
        unfold fX4_choose_95
        refine qS_chk (by omega) (ih _ _ ⟨p + 1, by omega, by omega, ?_, fun k q1 q2 => ?_, (f1.wr (by decide)).wr (by decide)⟩ (by omega))
        · rw [zwr_eq, zwr_off (Or.inr (by omega)), zwr_eq]
          exact gI_take g1 hS g1' g2
        · rw [zwr_off (Or.inr q2), zwr_off (Or.inr q1)]; exact k1 k q1 q2
      refine qS_ite (fun hh1 => skip (gI_skip g1 hS hh1)) (fun hh1 => qS_chk (by omega) ?_)
      refine qS_ite (fun hh2 => take (by omega) (Or.inl hh2)) (fun hh2 => ?_)
      refine qS_ite (fun hh3 => ?_) (fun hh3 => ?_)
      · refine qS_ite (fun hh4 => take (by omega) (Or.inr ⟨hh3, hh4⟩)) (fun hh4 => skip (gI_keep g1 hS wb.1 (Or.inr ⟨hh3, by omega⟩)))
      · exact skip (gI_keep g1 hS wb.1 (Or.inl (by omega)))
    · have : p = tri (N + 1) := by omega
      subst this
      refine qS_ret ⟨?_, k1, f1⟩
      have g2 := gI_end (B := N) (gI_cg g1 (S' := fun x y => x + y ≤ N) (fun x y => ⟨fun u => ⟨u, tri_in u (by omega)⟩, fun u => u.1⟩)) (by unfold kL0; rw [kLe_00]; exact hh.1)
      obtain ⟨bp, e1, e2⟩ := gB_scale (by omega) g2
      refine ⟨bp, _, ?_, e1, rfl⟩
      unfold kBst; rw [hbw]; exact e2
  · rw [zwr_off (Or.inr (by omega)), zwr_eq]
  · rw [zwr_off (Or.inr h2), zwr_off (Or.inr h1)]
end CB
