/-! ===== enough, ill ===== -/
def eI (S C : Nat → Nat → Prop) (L : Nat → Nat → Int) (far v : Int) : Prop :=
  (v = far ∧ ∀ x y, S x y → ¬ C x y) ∨ (∃ a b, S a b ∧ C a b ∧ v = L a b ∧ ∀ x y, S x y → C x y → v ≤ L x y)
section EI
variable {S S' C : Nat → Nat → Prop} {L : Nat → Nat → Int} {far v : Int} {a b : Nat}
theorem eI_skip (h : eI S C L far v) (hS : ∀ x y, S' x y ↔ S x y ∨ (x = a ∧ y = b)) (hn : ¬ C a b) : eI S' C L far v := by
  rcases h with ⟨h1, h2⟩ | ⟨p, q, h1, h2, h3, h4⟩
  · refine Or.inl ⟨h1, fun x y hs => ?_⟩
    rcases (hS x y).1 hs with g | ⟨g1, g2⟩
    · exact h2 x y g
    · rw [g1, g2]; exact hn
  · refine Or.inr ⟨p, q, (hS p q).2 (Or.inl h1), h2, h3, fun x y hs hc => ?_⟩
    rcases (hS x y).1 hs with g | ⟨g1, g2⟩
    · exact h4 x y g hc
    · rw [g1, g2] at hc; exact absurd hc hn
theorem eI_cg (h : eI S C L far v) (hS : ∀ x y, S' x y ↔ S x y) : eI S' C L far v := by
  rcases h with ⟨h1, h2⟩ | ⟨p, q, h1, h2, h3, h4⟩
  · exact Or.inl ⟨h1, fun x y hs => h2 x y ((hS x y).1 hs)⟩
  · exact Or.inr ⟨p, q, (hS p q).2 h1, h2, h3, fun x y hs hc => h4 x y ((hS x y).1 hs) hc⟩
theorem eI_take (h : eI S C L far v) (hS : ∀ x y, S' x y ↔ S x y ∨ (x = a ∧ y = b)) (hc : C a b) (hf : L a b ≤ far) : eI S' C L far (min v (L a b)) := by
  have hab := (hS a b).2 (Or.inr ⟨rfl, rfl⟩)
  rcases h with ⟨h1, h2⟩ | ⟨p, q, h1, h2, h3, h4⟩
  · refine Or.inr ⟨a, b, hab, hc, by omega, fun x y hs hc' => ?_⟩
    rcases (hS x y).1 hs with g | ⟨g1, g2⟩
    · exact absurd hc' (h2 x y g)
    · rw [g1, g2]; omega
  · by_cases e : L a b < v
    · refine Or.inr ⟨a, b, hab, hc, by omega, fun x y hs hc' => ?_⟩
      rcases (hS x y).1 hs with g | ⟨g1, g2⟩
      · have := h4 x y g hc'; omega
      · rw [g1, g2]; omega
    · refine Or.inr ⟨p, q, (hS p q).2 (Or.inl h1), h2, by omega, fun x y hs hc' => ?_⟩
      rcases (hS x y).1 hs with g | ⟨g1, g2⟩
      · have := h4 x y g hc'; omega
      · rw [g1, g2]; omega
end EI
def kEnC (K : Nat → Int) (hd : Int) (x y : Nat) : Prop := (kSuO K 0 0 : Int) * hd ≤ kPw K x y * 100
def kEn (K : Nat → Int) (hd x : Int) : Prop :=
  (x = -1 ∧ ∀ a b, a + b ≤ (kBowl K).toNat → kEnC K hd a b → 400 < kL0 K a b) ∨ (x ≤ 400 ∧ ∃ a b, a + b ≤ (kBowl K).toNat ∧ kEnC K hd a b ∧ x = kL0 K a b ∧ ∀ p q, p + q ≤ (kBowl K).toNat → kEnC K hd p q → x ≤ kL0 K p q)
theorem kEn_uniq {K : Nat → Int} {hd x y : Int} (h : kEn K hd x) (h' : kEn K hd y) : x = y := by
  rcases h with ⟨h1, h2⟩ | ⟨h1, a, b, h2, h3, h4, h5⟩
  · rcases h' with ⟨g1, g2⟩ | ⟨g1, c, d, g2, g3, g4, g5⟩
    · omega
    · have := h2 c d g2 g3; omega
  · rcases h' with ⟨g1, g2⟩ | ⟨g1, c, d, g2, g3, g4, g5⟩
    · have := g2 a b h2 h3; omega
    · have u := h5 c d g2 g3
      have w := g5 a b h2 h3
      omega
theorem kEn_of {K : Nat → Int} {hd far v : Int} (hf : 400 < far) (h : eI (fun x y => x + y ≤ (kBowl K).toNat) (kEnC K hd) (kL0 K) far v) : kEn K hd (if 400 < v then -1 else v) := by
  rcases h with ⟨h1, h2⟩ | ⟨a, b, h2, h3, h4, h5⟩
  · rw [if_pos (by omega)]
    exact Or.inl ⟨rfl, fun a b h hc => absurd hc (h2 a b h)⟩
  · by_cases e : 400 < v
    · rw [if_pos e]
      refine Or.inl ⟨rfl, fun p q h hc => ?_⟩
      have := h5 p q h hc; omega
    · rw [if_neg e]
      exact Or.inr ⟨by omega, a, b, h2, h3, h4, h5⟩
noncomputable def oEnough (K : Nat → Int) (hd : Int) : Int := if 0 ≤ hd ∧ hd ≤ 100 then Classical.epsilon (fun x => kEn K hd x) else -1
theorem oEnough_eq {K : Nat → Int} {hd x : Int} (hh : 0 ≤ hd ∧ hd ≤ 100) (h : kEn K hd x) : x = oEnough K hd := by
  unfold oEnough
  rw [if_pos hh]
  exact kEn_uniq h (Classical.epsilon_spec (p := fun x => kEn K hd x) ⟨x, h⟩)
section EN
variable {F : zFs} {D : zDa} {Z : Nat → Prop} {K : Nat → Int} {n sl r N : Nat} {bq : Nat → Nat}
theorem pX4_fewestHours (hk : kOk K) (h : cPl F D K N bq r) {hd : Int} (hh : 0 ≤ hd ∧ hd ≤ 100) : qS (fX4_fewestHours F hd D) (fun x => x = (oEnough K hd, D)) := by
  have hN := h.1.2.1.1
  have hbw := h.bowl
  have cm := kCm_in hk
  have eC : (kCm K : Int) * (kSuO K 0 0 : Int) = ((kCm K * kSuO K 0 0 : Nat) : Int) := by rw [Int.natCast_mul]
  have bC := mul2b (a := (kCm K : Int) * (kSuO K 0 0 : Int)) (b := hd) (A := 184756000000) (B := 100) (by rw [eC]; omega) hh
  unfold fX4_fewestHours
  refine qloop2 (fun v2 v3 D1 => ∃ p : Nat, v3 = (p : Int) ∧ p ≤ tri (N + 1) ∧ (0 ≤ v2 ∧ v2 ≤ 100000) ∧ eI (fun x y => x + y ≤ N ∧ pPl x y < p) (kEnC K hd) (kL0 K) 100000 v2 ∧ D1 = D) (fun _ v3 _ => (1000 - v3).toNat) ?_ ⟨0, rfl, by omega, by omega, Or.inl ⟨rfl, fun x y hs => absurd hs.2 (by omega)⟩, rfl⟩ (zfu_gt (by omega))
  intro k5 v2 v3 D1 ⟨p, ev, hp, hv, g1, eD⟩ ih
  subst ev eD
  have tN : tri (N + 1) ≤ 231 := tri_le (t := 21) (by omega)
  unfold fX4_fewestHours_5
  rw [h.1.2.1.2.1]
  refine qS_step (pX4_pairs hN) ?_
  refine qS_ite (fun hlt => ?_) (fun hlt => ?_)
  · obtain ⟨s, t, ht, hs, e⟩ := tri_dec N (y := p) (by omega)
    have a0 := h.at0 ht hs
    have w0 := h.2.2.1 (s - t) t (by omega)
    have wb := kPwC_in hk (one := s - t) (two := t) (by omega)
    have epl : pPl (s - t) t = p := by unfold pPl; rw [show s - t + t = s by omega]; exact e.symm
    rw [epl] at w0
    rw [← e] at a0
    have hS : ∀ x y, (x + y ≤ N ∧ pPl x y < p + 1) ↔ ((x + y ≤ N ∧ pPl x y < p) ∨ (x = s - t ∧ y = t)) := by
      intro x y
      constructor
      · intro ⟨u1, u2⟩
        by_cases e2 : pPl x y = p
        · exact Or.inr (pPl_inj (by rw [e2, epl]))
        · exact Or.inl ⟨u1, by omega⟩
      · rintro (⟨u1, u2⟩ | ⟨u1, u2⟩)
        · exact ⟨u1, by omega⟩
        · rw [u1, u2, epl]; exact ⟨by omega, by omega⟩
    have o65 : D1 65 0 = 0 := h.1.2.1.2.2.2.2 0 (by omega)
    have hl := h.1.2.2.2.1
    have ho1 : tri (N + 1) ≤ oF N (D1 64) (N + 1) := by
      have := oF_mono (N := N) (b := D1 64) (i := 1) (j := N + 1) (by omega)
      have e1 : oF N (D1 64) 1 = 0 + tri (N - 0 + 1) * 2 ^ (D1 64 0).toNat := rfl
      have := Nat.mul_le_mul_left (tri (N + 1)) (show 1 ≤ 2 ^ (D1 64 0).toNat from Nat.pow_pos (by omega))
      rw [Nat.sub_zero, Nat.zero_add] at e1
      omega
    have next : ∀ v : Int, (0 ≤ v ∧ v ≤ 100000) → eI (fun x y => x + y ≤ N ∧ pPl x y < p + 1) (kEnC K hd) (kL0 K) 100000 v → qS (fX4_fewestHours_55 F k5 hd v (p : Int) D1) (fun x => x = (oEnough K hd, D1)) := by
      intro v hv' g
      unfold fX4_fewestHours_55
      exact qS_chk (by omega) (ih _ _ _ ⟨p + 1, by omega, by omega, hv', g, rfl⟩ (by omega))
    rw [show ((p : Int)).toNat = p by omega, w0, h.2.2.2]
    refine qS_chk (by omega) ?_
    have ea : (kCm K : Int) * kPw K (s - t) t * 100 = (kCm K : Int) * (kPw K (s - t) t * 100) := Int.mul_assoc _ _ _
    have eb : (kCm K : Int) * (kSuO K 0 0 : Int) * hd = (kCm K : Int) * ((kSuO K 0 0 : Int) * hd) := Int.mul_assoc _ _ _
    refine qS_ite (fun c1 => ?_) (fun c1 => ?_)
    · refine next v2 hv (eI_skip g1 hS (fun hc => ?_))
      have := Int.mul_le_mul_of_nonneg_left hc (show (0 : Int) ≤ (kCm K : Int) by omega)
      rw [ea, eb] at c1
      omega
    · have hc : kEnC K hd (s - t) t := by
        unfold kEnC
        rcases Int.lt_or_le (kPw K (s - t) t * 100) ((kSuO K 0 0 : Int) * hd) with g | g
        · have := Int.mul_lt_mul_of_pos_left g (show (0 : Int) < (kCm K : Int) by omega)
          rw [ea, eb] at c1
          omega
        · exact g
      rw [o65, h.1.2.2.1, show ((r : Int)).toNat = r by omega, show ((0 : Int) + (p : Int)).toNat = p by omega, a0.1]
      refine qS_chk ⟨by omega, by omega, h.2.1.2.1, by omega⟩ ?_
      rw [pMinI]
      exact qS_step rfl (next _ (by omega) (eI_take g1 hS hc (by omega)))
  · have : p = tri (N + 1) := by omega
    subst this
    have g2 := kEn_of (hd := hd) (far := 100000) (v := v2) (by omega) (by rw [hbw]; exact eI_cg g1 (fun x y => ⟨fun u => ⟨u, tri_in u (by omega)⟩, fun u => u.1⟩))
    have e := oEnough_eq hh g2
    refine qS_ite (fun c => ?_) (fun c => ?_)
    · rw [if_pos c] at e; rw [← e]; exact qS_ret rfl
    · rw [if_neg c] at e; rw [← e]; exact qS_ret rfl
theorem pc_enough (h : qSt F D Z 1 K) (hG : zG F) (hZ : ∀ a, Z a → 126 ≤ a ∧ a < n) (hLt : cLot D) (hw : cRw F D Z n r) (hi : cPn F D K r) (hn : 126 ≤ n) (hn9 : n < 900000) (hd : Int) :
    qS (fX11_enough hd F D n sl) (cOut F D Z K n sl r (oEnough K hd)) := by
  have hk := h.1
  unfold fX11_enough
  by_cases hv : 0 ≤ hd ∧ hd ≤ 100
  · refine qS_neg (by omega) (qS_neg (by omega) ?_)
    refine qS_call (pX4_refresh h hG hZ hLt hw hi hn hn9) (fun M ⟨F', D', n', sl', r', N, bq, eM, g, fr, w', f'⟩ => ?_)
    subst eM
    dsimp only
    refine qS_chk (g.G hG hn) ?_
    refine qS_call (pX4_fewestHours hk fr.1 hv) (fun x hx => ?_)
    subst hx
    exact qS_ret ⟨F', D', n', sl', r', rfl, g, fr.pn, w', f'.mono (by simp)⟩
  · have : oEnough K hd = -1 := by unfold oEnough; rw [if_neg hv]
    rw [this]
    refine qS_ite (fun _ => qS_ret (cOut_no hi hw _)) (fun _ => qS_pos (by omega) (qS_ret (cOut_no hi hw _)))
theorem pr_enough (hK : D 93 = K) (hk : kOk K) (hP : kPOk K) (hi : rSi D K) (hd : Int) : qS (fX12_enough F hd D) (fun x => x.1 = oEnough K hd ∧ rSi x.2 K ∧ zfm [102, 103, 104, 105, 106, 107, 108, 109, 110, 111] [18, 19, 20, 28, 29, 30, 34, 35] D x.2) := by
  have h0 := hk.1
  have hb := kBowl_in hk
  unfold fX12_enough
  by_cases hh : 0 ≤ hd ∧ hd ≤ 100
  · refine qS_step (lies_t hh) (qS_neg (by omega) ?_)
    refine qS_call (pX12_schemes hK hk hP hi) (fun D4 ⟨s4, v4, f4⟩ => ?_)
    have si := rSi.of s4 v4 (f4.2 1 (by decide))
    have K4 : D4 93 = K := by rw [f4.1 93 (by decide) (by decide)]; exact hK
    have cm := kCm_in hk
    have bC := mul2b (a := (kSuO K 0 0 : Int)) (b := hd) (A := 184756000000) (B := 100) (by omega) hh
    refine qloop2 (fun v2 v3 D5 => ∃ k : Nat, v3 = (k : Int) ∧ k ≤ 441 ∧ (0 ≤ v2 ∧ v2 ≤ 1000000) ∧ eI (fun x y => x + y ≤ (kBowl K).toNat ∧ 21 * x + y < k) (kEnC K hd) (kL0 K) 1000000 v2 ∧ D5 = D4) (fun _ v3 _ => (1000 - v3).toNat) ?_ ⟨0, rfl, by omega, by omega, Or.inl ⟨rfl, fun x y hs => absurd hs.2 (by omega)⟩, rfl⟩ (zfu_gt (by omega))
    intro k21 v2 v3 D5 ⟨k, ev, hk4, hv, g1, eD⟩ ih
    subst ev eD
    unfold fX12_enough_21
    refine qS_ite (fun hlt => ?_) (fun hlt => ?_)
    · have ek : 21 * (k / 21) + k % 21 = k := by omega
      have et : Int.tdiv (k : Int) 21 = ((k / 21 : Nat) : Int) := rfl
      have em : Int.tmod (k : Int) 21 = ((k % 21 : Nat) : Int) := rfl
      rw [et, em]
      have next : ∀ v : Int, (0 ≤ v ∧ v ≤ 1000000) → eI (fun x y => x + y ≤ (kBowl K).toNat ∧ 21 * x + y < k + 1) (kEnC K hd) (kL0 K) 1000000 v → qS (fX12_enough_76 F k21 hd v (k : Int) D5) (fun x => x.1 = oEnough K hd ∧ rSi x.2 K ∧ zfm [102, 103, 104, 105, 106, 107, 108, 109, 110, 111] [18, 19, 20, 28, 29, 30, 34, 35] D x.2) := by
        intro v hv' g
        unfold fX12_enough_76
        exact qS_chk (by omega) (ih _ _ _ ⟨k + 1, by omega, by omega, hv', g, rfl⟩ (by omega))
      refine qS_chk (by omega) ?_
      refine qS_call (pX12_bowl K4 hk) (fun x hx => ?_)
      subst hx
      dsimp only
      by_cases hin : k / 21 + k % 21 ≤ (kBowl K).toNat
      · refine qS_neg (by omega) ?_
        have hS : ∀ x y, (x + y ≤ (kBowl K).toNat ∧ 21 * x + y < k + 1) ↔ ((x + y ≤ (kBowl K).toNat ∧ 21 * x + y < k) ∨ (x = k / 21 ∧ y = k % 21)) := by
          intro x y
          constructor
          · intro ⟨u1, u2⟩
            by_cases e2 : 21 * x + y = k
            · exact Or.inr (by omega)
            · exact Or.inl ⟨u1, by omega⟩
          · rintro (⟨u1, u2⟩ | ⟨u1, u2⟩)
            · exact ⟨u1, by omega⟩
            · rw [u1, u2]; exact ⟨hin, by omega⟩
        have l0 := rLe_0 s4 (x := k / 21) (y := k % 21) (by omega) (by omega)
        have w0 := s4.2.2.1 (k / 21) (k % 21) hin
        rw [ek] at w0 l0
        have wb := kPw_in hk hin
        have lb := kLe_in K (K 390).toNat (K 390).toNat 0 (k / 21) (k % 21)
        have e0 : kL0 K (k / 21) (k % 21) = kLe K (K 390).toNat (K 390).toNat 0 (k / 21) (k % 21) := rfl
        rw [← e0] at lb
        rw [show ((k : Int)).toNat = k by omega, w0, s4.2.2.2]
        refine qS_chk (by omega) ?_
        refine qS_ite (fun c1 => ?_) (fun c1 => qS_chk (by omega) ?_)
        · exact next v2 hv (eI_skip g1 hS (fun hc => by unfold kEnC at hc; omega))
        · rw [pLess, l0]
          exact qS_step rfl (next _ (by omega) (eI_take g1 hS (by unfold kEnC; omega) (by omega)))
      · refine qS_pos (by omega) (next v2 hv (eI_cg g1 (fun x y => ⟨fun ⟨u1, u2⟩ => ⟨u1, by omega⟩, fun ⟨u1, u2⟩ => ⟨u1, by omega⟩⟩)))
    · have : k = 441 := by omega
      subst this
      have g2 := kEn_of (hd := hd) (far := 1000000) (v := v2) (by omega) (eI_cg g1 (fun x y => ⟨fun u => ⟨u, by omega⟩, fun u => u.1⟩))
      have e := oEnough_eq hh g2
      refine qS_ite (fun c => ?_) (fun c => ?_)
      · rw [if_pos c] at e; exact qS_ret ⟨e, si, f4⟩
      · rw [if_neg c] at e; exact qS_ret ⟨e, si, f4⟩
  · have : oEnough K hd = -1 := by unfold oEnough; rw [if_neg hh]
    rw [this]
    exact qS_step (lies_f hh) (qS_pos rfl (qS_ret ⟨rfl, hi, zfm.rfl' _ _ D⟩))
end EN
