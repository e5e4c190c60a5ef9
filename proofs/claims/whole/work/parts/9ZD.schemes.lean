section RT
variable {F : zFs} {D : zDa} {K : Nat → Int}
def rLe (D : zDa) (K : Nat → Int) (q : Nat) : Prop := ∀ kings half well, kings < 16 → half < 21 → well < 21 → D 109 (7056 * q + 441 * kings + 21 * half + well) = kLe K (K 390).toNat ((K 390).toNat - q) kings half well
def rPw (D : zDa) (K : Nat → Int) : Prop := (∀ half well, half + well ≤ (kBowl K).toNat → D 110 (21 * half + well) = kPw K half well) ∧ D 91 34 = (kSuO K 0 0 : Int)
def rSc (D : zDa) (K : Nat → Int) : Prop := rCo D K (K 390) ∧ (∀ q, q ≤ (K 390).toNat → rLe D K q) ∧ rPw D K
def rSi (D : zDa) (K : Nat → Int) : Prop := D 91 35 ≤ D 91 1 ∧ (D 91 35 = D 91 1 → rSc D K)
theorem rS_231 (hK : D 93 = K) (hk : kOk K) (hc : rCh D (fun lv => kChance K (lv : Int))) : qS (zfix (fun _ _ => none) (fX12_schemes_231 F) zfu 0 D) (fun D' => rPw D' K ∧ zfm [104, 105, 106, 107, 108, 110] [28, 29, 30, 34] D D') := by
  have h0 := hk.1
  have hb := kBowl_in hk
  have ht := kTerms hk
  refine qloop1 (fun v D1 => ∃ a : Nat, v = (a : Int) ∧ a ≤ 21 ∧ (∀ half well, half + well ≤ (kBowl K).toNat → half < a → D1 110 (21 * half + well) = kPw K half well) ∧ (0 < a → D1 91 30 = (kSuO K 0 0 : Int)) ∧ zfm [104, 105, 106, 107, 108, 110] [28, 29, 30, 34] D D1) (fun v _ => (100 - v).toNat) ?_ ⟨0, rfl, by omega, fun _ _ _ h => absurd h (by omega), fun h => absurd h (by omega), zfm.rfl' _ _ _⟩ (zfu_gt (by omega))
  intro k231 v D1 ⟨a, ev, ha, r1, o1, f1⟩ ih
  subst ev
  unfold fX12_schemes_231
  refine qS_ite (fun h1 => ?_) (fun h1 => ?_)
  · refine qloop1 (fun v D2 => ∃ b : Nat, v = (b : Int) ∧ b ≤ 21 ∧ (∀ half well, half + well ≤ (kBowl K).toNat → (half < a ∨ (half = a ∧ well < b)) → D2 110 (21 * half + well) = kPw K half well) ∧ (0 < a ∨ 0 < b → D2 91 30 = (kSuO K 0 0 : Int)) ∧ zfm [104, 105, 106, 107, 108, 110] [28, 29, 30, 34] D D2) (fun v _ => (100 - v).toNat) ?_ ⟨0, rfl, by omega, fun half well hw h => r1 half well hw (by omega), fun h => o1 (by omega), f1⟩ (zfu_gt (by omega))
    intro k239 v D2 ⟨b, ev, hb2, r2, o2, f2⟩ ih2
    subst ev
    have K2 : D2 93 = K := by rw [f2.1 93 (by decide) (by decide)]; exact hK
    unfold fX12_schemes_239
    refine qS_ite (fun h2 => ?_) (fun h2 => ?_)
    · refine qS_chk (by omega) ?_
      refine qS_call (pX12_bowl K2 hk) (fun r hr => ?_)
      subst hr
      dsimp only
      refine qS_ite (fun h3 => ?_) (fun h3 => ?_)
      · unfold fX12_schemes_275
        exact qS_chk (by omega) (ih2 _ _ ⟨b + 1, by omega, by omega, fun half well hw h => r2 half well hw (by omega), fun h => o2 (by omega), f2⟩ (by omega))
      · refine qS_chk (by omega) ?_
        refine qS_call (pX12_passesWith (K := K) K2 hk (hc.frm f2 (by decide)) (half := a) (well := b) (by omega)) (fun r ⟨g1, g2, g3⟩ => ?_)
        obtain ⟨x, D3⟩ := r
        dsimp only at g1 g2 g3 ⊢
        have hp := kAtl_in (k := (K 102).toNat) (odOk_su hk (half := a) (well := b) (by omega)) (by omega)
        refine qS_chk (by omega) (qS_leti ?_)
        unfold fX12_schemes_275
        refine qS_chk (by omega) (ih2 _ _ ⟨b + 1, by omega, by omega, fun half well hw h => ?_, fun _ => ?_, (f2.trans (g3.mono (by decide) (by decide))).wr (by decide) (by decide)⟩ (by omega))
        · rw [show (21 * (a : Int) + (b : Int)).toNat = 21 * a + b by omega, zwr_at]
          by_cases e : 21 * half + well = 21 * a + b
          · have e1 : half = a := by omega
            have e2 : well = b := by omega
            rw [if_pos e, g1, e1, e2]
            unfold kPw; omega
          · rw [if_neg e, g3.1 110 (by decide) (by decide)]
            exact r2 half well hw (by omega)
        · rw [zwr_row (by omega), g2.2, kSuO_all (by omega), kSuO_all (one := 0) (two := 0) (by omega)]
    · exact qS_chk (by omega) (ih _ _ ⟨a + 1, by omega, by omega, fun half well hw h => r2 half well hw (by omega), fun _ => o2 (by omega), f2⟩ (by omega))
  · have e30 := o1 (by omega)
    refine qS_leti (qS_ret ⟨⟨fun half well hw => ?_, ?_⟩, f1.wf (by decide)⟩)
    · rw [zwr_row (by omega)]; exact r1 half well hw (by omega)
    · rw [zwr_eq]; exact e30
theorem rS_145 (hK : D 93 = K) (hk : kOk K) (hP : kPOk K) (hco : rCo D K (K 390)) {m : Nat} (hm : m ≤ (K 390).toNat) (hL : ∀ q, m ≤ q → q ≤ (K 390).toNat → rLe D K q) : qS (zfix (fun _ _ => none) (fX12_schemes_145 F) zfu ((m : Int) - 1) D) (fun D' => rSc D' K ∧ zfm [102, 103, 104, 105, 106, 107, 108, 109, 110] [18, 19, 20, 28, 29, 30, 34] D D') := by
  have h0 := hk.1
  refine qloop1 (fun v D1 => ∃ m : Nat, v = (m : Int) - 1 ∧ m ≤ (K 390).toNat ∧ (∀ q, m ≤ q → q ≤ (K 390).toNat → rLe D1 K q) ∧ zfm [109] [] D D1) (fun v _ => (v + 1).toNat) ?_ ⟨m, rfl, hm, hL, zfm.rfl' _ _ _⟩ (zfu_gt (by omega))
  clear hL hm
  intro k145 v D1 ⟨m, ev, hm, hL, f1⟩ ih
  subst ev
  have K1 : D1 93 = K := by rw [f1.1 93 (by decide) (by decide)]; exact hK
  have c1 : rCo D1 K (K 390) := by unfold rCo; rw [f1.1 111 (by decide) (by decide)]; exact hco
  unfold fX12_schemes_145
  refine qS_ite (fun h1 => ?_) (fun h1 => ?_)
  · have : m = 0 := by omega
    subst this
    refine qS_call (pX12_laysChances K1 hk hP) (fun D2 ⟨c2, f2⟩ => ?_)
    refine qS_mono (rS_231 (by rw [f2.1 93 (by decide) (by decide)]; exact K1) hk c2) (fun D3 ⟨p3, f3⟩ => ?_)
    have e9 : D3 109 = D1 109 := by rw [f3.1 109 (by decide) (by decide), f2.1 109 (by decide) (by decide)]
    have e11 : D3 111 = D1 111 := by rw [f3.1 111 (by decide) (by decide), f2.1 111 (by decide) (by decide)]
    refine ⟨⟨by unfold rCo; rw [e11]; exact c1, fun q hq => by unfold rLe; rw [e9]; exact hL q (by omega) hq, p3⟩, ?_⟩
    exact ((f1.mono (by decide) (by decide)).trans (f2.mono (by decide) (by decide))).trans (f3.mono (by decide) (by decide))
  · obtain ⟨q, rfl⟩ : ∃ q : Nat, m = q + 1 := ⟨m - 1, by omega⟩
    rw [show ((q + 1 : Nat) : Int) - 1 = (q : Int) by omega]
    have hq : (q : Int) < K 390 := by omega
    have hnext := hL (q + 1) (by omega) hm
    have eLe : ∀ kings half well, kLe K (K 390).toNat ((K 390).toNat - q) kings half well = kLeS K q (kLe K (K 390).toNat ((K 390).toNat - (q + 1))) kings half well := fun kings half well => by
      rw [show (K 390).toNat - q = ((K 390).toNat - (q + 1)) + 1 by omega]
      show kLeS K ((K 390).toNat - (((K 390).toNat - (q + 1)) + 1)) _ kings half well = _
      rw [show (K 390).toNat - (((K 390).toNat - (q + 1)) + 1) = q by omega]
    -- cells before an index of this layer are right
    have cell1 : ∀ (kings half well : Nat) (D2 : zDa), kings < 16 → half < 21 → well < 21 → (∀ a b c, a < 16 → b < 21 → c < 21 → 441 * a + 21 * b + c < 441 * kings + 21 * half + well → D2 109 (7056 * q + 441 * a + 21 * b + c) = kLe K (K 390).toNat ((K 390).toNat - q) a b c) → (∀ i, 7056 * (q + 1) ≤ i → D2 109 i = D1 109 i) → zfm [109] [] D D2 →
        ∃ D3, fX12_cell F (q : Int) (kings : Int) (half : Int) (well : Int) D2 = some (((7056 * q + 441 * kings + 21 * half + well : Nat) : Int), D2) ∧ fX12_fewest F (q : Int) (kings : Int) (half : Int) (well : Int) D2 = some (kLe K (K 390).toNat ((K 390).toNat - q) kings half well, D2) ∧ D3 = zwr D2 109 (7056 * q + 441 * kings + 21 * half + well) (kLe K (K 390).toNat ((K 390).toNat - q) kings half well) ∧ (∀ a b c, a < 16 → b < 21 → c < 21 → 441 * a + 21 * b + c < 441 * kings + 21 * half + well + 1 → D3 109 (7056 * q + 441 * a + 21 * b + c) = kLe K (K 390).toNat ((K 390).toNat - q) a b c) ∧ (∀ i, 7056 * (q + 1) ≤ i → D3 109 i = D1 109 i) ∧ zfm [109] [] D D3 := by
      intro kings half well D2 hk1 hk2 hk3 r2 n2 f2
      have K2 : D2 93 = K := by rw [f2.1 93 (by decide) (by decide)]; exact hK
      have c2 : rCo D2 K (K 390) := by unfold rCo; rw [f2.1 111 (by decide) (by decide)]; exact hco
      obtain ⟨r, er, hr⟩ := pX12_fewest (F := F) K2 hk c2 (f := kLe K (K 390).toNat ((K 390).toNat - (q + 1))) (fun a b c => kLe_in K _ _ a b c) hq (fun a b c ha hb hc => by rw [n2 _ (by omega)]; exact hnext a b c ha hb hc) hk1 hk2 hk3
      refine ⟨_, pX12_cell (by omega), by rw [er, hr, eLe], rfl, fun a b c ha hb hc hlt => ?_, fun i hi => ?_, f2.wr (by decide) (by decide)⟩
      · rw [zwr_at]
        by_cases e : 7056 * q + 441 * a + 21 * b + c = 7056 * q + 441 * kings + 21 * half + well
        · have e1 : a = kings := by omega
          have e2 : b = half := by omega
          have e3 : c = well := by omega
          rw [if_pos e, e1, e2, e3]
        · rw [if_neg e]; exact r2 a b c ha hb hc (by omega)
      · rw [zwr_off (by omega)]; exact n2 i hi
    refine qloop1 (fun v D2 => ∃ x : Nat, v = (x : Int) ∧ x ≤ 16 ∧ (∀ a b c, a < 16 → b < 21 → c < 21 → 441 * a + 21 * b + c < 441 * x → D2 109 (7056 * q + 441 * a + 21 * b + c) = kLe K (K 390).toNat ((K 390).toNat - q) a b c) ∧ (∀ i, 7056 * (q + 1) ≤ i → D2 109 i = D1 109 i) ∧ zfm [109] [] D D2) (fun v _ => (100 - v).toNat) ?_ ⟨0, rfl, by omega, fun a b c _ _ _ h => absurd h (by omega), fun _ _ => rfl, f1⟩ (zfu_gt (by omega))
    intro k151 v D2 ⟨x, ev, hx, r2, n2, f2⟩ ih2
    subst ev
    unfold fX12_schemes_151
    refine qS_ite (fun h2 => ?_) (fun h2 => ?_)
    · refine qloop1 (fun v D3 => ∃ y : Nat, v = (y : Int) ∧ y ≤ 21 ∧ (∀ a b c, a < 16 → b < 21 → c < 21 → 441 * a + 21 * b + c < 441 * x + 21 * y → D3 109 (7056 * q + 441 * a + 21 * b + c) = kLe K (K 390).toNat ((K 390).toNat - q) a b c) ∧ (∀ i, 7056 * (q + 1) ≤ i → D3 109 i = D1 109 i) ∧ zfm [109] [] D D3) (fun v _ => (100 - v).toNat) ?_ ⟨0, rfl, by omega, fun a b c ha hb hc h => r2 a b c ha hb hc (by omega), n2, f2⟩ (zfu_gt (by omega))
      intro k160 v D3 ⟨y, ev, hy, r3, n3, f3⟩ ih3
      subst ev
      unfold fX12_schemes_160
      refine qS_ite (fun h3 => ?_) (fun h3 => ?_)
      · refine qloop1 (fun v D4 => ∃ z : Nat, v = (z : Int) ∧ z ≤ 21 ∧ (∀ a b c, a < 16 → b < 21 → c < 21 → 441 * a + 21 * b + c < 441 * x + 21 * y + z → D4 109 (7056 * q + 441 * a + 21 * b + c) = kLe K (K 390).toNat ((K 390).toNat - q) a b c) ∧ (∀ i, 7056 * (q + 1) ≤ i → D4 109 i = D1 109 i) ∧ zfm [109] [] D D4) (fun v _ => (100 - v).toNat) ?_ ⟨0, rfl, by omega, fun a b c ha hb hc h => r3 a b c ha hb hc (by omega), n3, f3⟩ (zfu_gt (by omega))
        intro k170 v D4 ⟨z, ev, hz, r4, n4, f4⟩ ih4
        subst ev
        unfold fX12_schemes_170
        refine qS_ite (fun h4 => ?_) (fun h4 => ?_)
        · obtain ⟨D5, e1, e2, e3, r5, n5, f5⟩ := cell1 x y z D4 (by omega) (by omega) (by omega) r4 n4 f4
          refine qS_step e1 (qS_step e2 (qS_chk (by omega) (qS_leti (qS_chk (by omega) (ih4 _ _ ⟨z + 1, by omega, by omega, ?_, ?_, ?_⟩ (by omega))))))
          · rw [show (((7056 * q + 441 * x + 21 * y + z : Nat) : Int)).toNat = 7056 * q + 441 * x + 21 * y + z by omega, ← e3]
            exact r5
          · rw [show (((7056 * q + 441 * x + 21 * y + z : Nat) : Int)).toNat = 7056 * q + 441 * x + 21 * y + z by omega, ← e3]
            exact n5
          · rw [show (((7056 * q + 441 * x + 21 * y + z : Nat) : Int)).toNat = 7056 * q + 441 * x + 21 * y + z by omega, ← e3]
            exact f5
        · exact qS_chk (by omega) (ih3 _ _ ⟨y + 1, by omega, by omega, fun a b c ha hb hc h => r4 a b c ha hb hc (by omega), n4, f4⟩ (by omega))
      · exact qS_chk (by omega) (ih2 _ _ ⟨x + 1, by omega, by omega, fun a b c ha hb hc h => r3 a b c ha hb hc (by omega), n3, f3⟩ (by omega))
    · refine qS_chk (by omega) (ih _ _ ⟨q, by omega, by omega, fun p hp hp2 => ?_, f2⟩ (by omega))
      by_cases e : p = q
      · subst e
        exact fun a b c ha hb hc => r2 a b c ha hb hc (by omega)
      · intro a b c ha hb hc
        rw [n2 _ (by omega)]
        exact hL p (by omega) hp2 a b c ha hb hc
theorem rS_102 (hK : D 93 = K) (hk : kOk K) (hP : kPOk K) (hco : rCo D K (K 390)) : qS (zfix (fun _ _ => none) (fX12_schemes_102 F (K 390)) zfu 0 D) (fun D' => rSc D' K ∧ zfm [102, 103, 104, 105, 106, 107, 108, 109, 110] [18, 19, 20, 28, 29, 30, 34] D D') := by
  have h0 := hk.1
  refine qloop1 (fun v D1 => ∃ x : Nat, v = (x : Int) ∧ x ≤ 7056 ∧ (∀ i, i < x → D1 109 (7056 * (K 390).toNat + i) = if i % 441 = 0 then 0 else 1000000) ∧ zfm [109] [] D D1) (fun v _ => (10000 - v).toNat) ?_ ⟨0, rfl, by omega, fun _ h => absurd h (by omega), zfm.rfl' _ _ _⟩ (zfu_gt (by omega))
  intro k102 v D1 ⟨x, ev, hx, r1, f1⟩ ih
  subst ev
  unfold fX12_schemes_102
  refine qS_ite (fun h1 => ?_) (fun h1 => ?_)
  · refine qS_chk (by omega) ?_
    have et : Int.tmod (x : Int) 441 = ((x % 441 : Nat) : Int) := rfl
    have nx : ∀ s : Int, s = (if x % 441 = 0 then 0 else 1000000) → qS (fX12_schemes_134 F k102 (K 390) (x : Int) s (7056 * K 390 + (x : Int)) D1) (fun D' => rSc D' K ∧ zfm [102, 103, 104, 105, 106, 107, 108, 109, 110] [18, 19, 20, 28, 29, 30, 34] D D') := by
      intro s hs
      unfold fX12_schemes_134
      refine qS_chk (by omega) (qS_leti (qS_chk (by omega) (ih _ _ ⟨x + 1, by omega, by omega, fun i hi => ?_, f1.wr (by decide) (by decide)⟩ (by omega))))
      rw [show (7056 * K 390 + (x : Int)).toNat = 7056 * (K 390).toNat + x by omega, zwr_at]
      by_cases e : i = x
      · rw [if_pos (by omega), e, hs]
      · rw [if_neg (by omega)]; exact r1 i (by omega)
    refine qS_ite (fun h2 => nx 0 ?_) (fun h2 => nx 1000000 ?_)
    · rw [if_pos (by omega)]
    · rw [if_neg (by omega)]
  · refine qS_chk (by omega) (qS_leti ?_)
    have K1 : D1 93 = K := by rw [f1.1 93 (by decide) (by decide)]; exact hK
    have c1 : rCo D1 K (K 390) := by unfold rCo; rw [f1.1 111 (by decide) (by decide)]; exact hco
    rw [show K 390 - 1 = (((K 390).toNat : Nat) : Int) - 1 by omega]
    refine qS_mono (rS_145 K1 hk hP c1 (m := (K 390).toNat) (Nat.le_refl _) (fun q h1 h2 => ?_)) (fun D2 ⟨s2, f2⟩ => ⟨s2, (f1.mono (by decide) (by decide)).trans f2⟩)
    have : q = (K 390).toNat := by omega
    subst this
    intro a b c ha hb hc
    have := r1 (441 * a + 21 * b + c) (by omega)
    rw [← Nat.add_assoc, ← Nat.add_assoc] at this
    rw [this, Nat.sub_self]
    show _ = if b = 0 ∧ c = 0 then (0 : Int) else 1000000
    by_cases e : b = 0 ∧ c = 0
    · rw [if_pos e, if_pos (by omega)]
    · rw [if_neg e, if_neg (by omega)]
theorem pX12_schemes (hK : D 93 = K) (hk : kOk K) (hP : kPOk K) (hi : rSi D K) : qS (fX12_schemes F D) (fun D' => rSc D' K ∧ D' 91 35 = D 91 1 ∧ zfm [102, 103, 104, 105, 106, 107, 108, 109, 110, 111] [18, 19, 20, 28, 29, 30, 34, 35] D D') := by
  have h0 := hk.1
  unfold fX12_schemes
  refine qS_ite (fun e => qS_ret ⟨hi.2 e, e, zfm.rfl' _ _ D⟩) (fun e => ?_)
  refine qS_leti ?_
  refine qloop1 (fun v D1 => ∃ a : Nat, v = (a : Int) ∧ a ≤ (K 390).toNat ∧ rCo D1 K (a : Int) ∧ D1 91 35 = D 91 1 ∧ zfm [102, 103, 104, 105, 106, 107, 108, 109, 110, 111] [18, 19, 20, 28, 29, 30, 34, 35] D D1) (fun v _ => (100 - v).toNat) ?_ ⟨0, rfl, by omega, fun q hq => absurd hq (by omega), zwr_eq, (zfm.rfl' _ _ D).wf (by decide)⟩ (zfu_gt (by omega))
  intro k22 v D1 ⟨a, ev, ha, c1, s1, f1⟩ ih
  subst ev
  have K1 : D1 93 = K := by rw [f1.1 93 (by decide) (by decide)]; exact hK
  have eq : fX12_questions F D1 = some (K 390, D1) := by unfold fX12_questions; rw [K1]
  unfold fX12_schemes_22
  refine qS_step eq ?_
  refine qS_ite (fun h1 => ?_) (fun h1 => ?_)
  · have h1' : (a : Int) < K 390 := h1
    refine qloop1 (fun v D2 => ∃ b : Nat, v = (b : Int) ∧ b ≤ 2 ∧ rCo D2 K (a : Int) ∧ (∀ h : Nat, h < b → D2 111 (4 * a + 2 * h) = kTakes K a 1 (h : Int) 0 ∧ D2 111 (4 * a + 2 * h + 1) = kTakes K a 2 (h : Int) 0) ∧ D2 91 35 = D 91 1 ∧ zfm [102, 103, 104, 105, 106, 107, 108, 109, 110, 111] [18, 19, 20, 28, 29, 30, 34, 35] D D2) (fun v _ => (100 - v).toNat) ?_ ⟨0, rfl, by omega, c1, fun h hh => absurd hh (by omega), s1, f1⟩ (zfu_gt (by omega))
    intro k32 v D2 ⟨b, ev, hb, c2, r2, s2, f2⟩ ih2
    subst ev
    unfold fX12_schemes_32
    refine qS_ite (fun h2 => ?_) (fun h2 => ?_)
    · refine qloop1 (fun v D3 => ∃ l : Nat, v = (l : Int) + 1 ∧ l ≤ 2 ∧ rCo D3 K (a : Int) ∧ (∀ h : Nat, h < b → D3 111 (4 * a + 2 * h) = kTakes K a 1 (h : Int) 0 ∧ D3 111 (4 * a + 2 * h + 1) = kTakes K a 2 (h : Int) 0) ∧ (∀ i : Nat, i < l → D3 111 (4 * a + 2 * b + i) = kTakes K a ((i : Int) + 1) (b : Int) 0) ∧ D3 91 35 = D 91 1 ∧ zfm [102, 103, 104, 105, 106, 107, 108, 109, 110, 111] [18, 19, 20, 28, 29, 30, 34, 35] D D3) (fun v _ => (100 - v).toNat) ?_ ⟨0, rfl, by omega, c2, r2, fun i hi => absurd hi (by omega), s2, f2⟩ (zfu_gt (by omega))
      intro k39 v D3 ⟨l, ev, hl, c3, r3, t3, s3, f3⟩ ih3
      subst ev
      have K3 : D3 93 = K := by rw [f3.1 93 (by decide) (by decide)]; exact hK
      unfold fX12_schemes_39
      refine qS_ite (fun h3 => ?_) (fun h3 => ?_)
      · refine qS_chk (by omega) ?_
        have nx : ∀ s0 : Int, s0 = (b : Int) → qS (fX12_schemes_72 F k22 k32 k39 (a : Int) (b : Int) ((l : Int) + 1) s0 ((l : Int) + 1) (a : Int) (4 * (a : Int) + 2 * (b : Int) + ((l : Int) + 1) - 1) D3) (fun D' => rSc D' K ∧ D' 91 35 = D 91 1 ∧ zfm [102, 103, 104, 105, 106, 107, 108, 109, 110, 111] [18, 19, 20, 28, 29, 30, 34, 35] D D') := by
          intro s0 es
          subst es
          unfold fX12_schemes_72
          refine qS_call (pX12_takesOf K3 hk hP (q := a) h1' (l := (l : Int) + 1) (h := (b : Int)) (d := 0) (by omega) (by omega) (by omega)) (fun r ⟨hr, f4⟩ => ?_)
          obtain ⟨x, D4⟩ := r
          dsimp only at hr f4 ⊢
          subst hr
          have e11 : D4 111 = D3 111 := f4.1 111 (by decide) (by decide)
          refine qS_chk (by omega) (qS_leti (qS_chk (by omega) (ih3 _ _ ⟨l + 1, by omega, by omega, ?_, ?_, ?_, ?_, (f3.trans (f4.mono (by decide) (by decide))).wr (by decide) (by decide)⟩ (by omega))))
          · intro q hq h hh
            rw [show (4 * (a : Int) + 2 * (b : Int) + ((l : Int) + 1) - 1).toNat = 4 * a + 2 * b + l by omega, zwr_off (by omega), zwr_off (by omega), e11]
            exact c3 q hq h hh
          · intro h hh
            rw [show (4 * (a : Int) + 2 * (b : Int) + ((l : Int) + 1) - 1).toNat = 4 * a + 2 * b + l by omega, zwr_off (by omega), zwr_off (by omega), e11]
            exact r3 h hh
          · intro i hi
            rw [show (4 * (a : Int) + 2 * (b : Int) + ((l : Int) + 1) - 1).toNat = 4 * a + 2 * b + l by omega, zwr_at]
            by_cases e : i = l
            · rw [if_pos (by omega), e]
            · rw [if_neg (by omega), e11]; exact t3 i (by omega)
          · rw [zwr_row (by omega), f4.2 35 (by decide)]; exact s3
        refine qS_ite (fun h4 => nx 1 (by omega)) (fun h4 => nx 0 (by omega))
      · refine qS_chk (by omega) (ih2 _ _ ⟨b + 1, by omega, by omega, c3, fun h hh => ?_, s3, f3⟩ (by omega))
        by_cases e : h = b
        · subst e
          exact ⟨t3 0 (by omega), t3 1 (by omega)⟩
        · exact r3 h (by omega)
    · refine qS_chk (by omega) (ih _ _ ⟨a + 1, by omega, by omega, fun q hq h hh => ?_, s2, f2⟩ (by omega))
      by_cases e : q = a
      · subst e; exact r2 h (by omega)
      · exact c2 q (by omega) h hh
  · have h1' : ¬ (a : Int) < K 390 := h1
    refine qS_step eq ?_
    refine qS_mono (rS_102 K1 hk hP (fun q hq h hh => c1 q (by omega) h hh)) (fun D2 ⟨s2, f2⟩ => ⟨s2, ?_, f1.trans (f2.mono (by decide) (by decide))⟩)
    rw [f2.2 35 (by decide)]; exact s1
end RT
