/-! ===== the best, reference; which completions are there ===== -/
section RB
variable {F : zFs} {D : zDa} {K : Nat → Int}
theorem rLe_0 (h : rSc D K) {x y : Nat} (hx : x < 21) (hy : y < 21) : D 109 (21 * x + y) = kL0 K x y := by
  have := h.2.1 0 (by omega) 0 x y (by omega) hx hy
  rw [show 7056 * 0 + 441 * 0 + 21 * x + y = 21 * x + y by omega, Nat.sub_zero] at this
  exact this
theorem pX12_bests (hK : D 93 = K) (hk : kOk K) (hP : kPOk K) (hi : rSi D K) {hours : Int} (hh : 0 ≤ hours) :
    qS (fX12_bests F hours D) (fun D' => rSc D' K ∧ D' 91 35 = D 91 1 ∧ (∃ bp bh, kBst K hours bp bh ∧ D' 91 36 = bp ∧ D' 91 37 = bh) ∧ zfm [102, 103, 104, 105, 106, 107, 108, 109, 110, 111] [18, 19, 20, 28, 29, 30, 34, 35, 36, 37] D D') := by
  have h0 := hk.1
  have hb := kBowl_in hk
  unfold fX12_bests
  refine qS_call (pX12_schemes hK hk hP hi) (fun D2 ⟨s2, v2, f2⟩ => ?_)
  refine qS_leti (qS_leti ?_)
  have K2 : D2 93 = K := by rw [f2.1 93 (by decide) (by decide)]; exact hK
  refine qloop1 (fun v D3 => ∃ k : Nat, v = (k : Int) ∧ k ≤ 441 ∧ gI (fun x y => x + y ≤ (kBowl K).toNat ∧ 21 * x + y < k) (kPw K) (kL0 K) hours (D3 91 36) (D3 91 37) ∧ zfm [] [36, 37] D2 D3) (fun v _ => (1000 - v).toNat) ?_ ⟨0, rfl, by omega, Or.inl ⟨?_, fun x y hs => absurd hs.2 (by omega)⟩, ((zfm.rfl' _ _ D2).wf (by decide)).wf (by decide)⟩ (zfu_gt (by omega))
  · intro k19 v D3 ⟨k, ev, hk4, g3, f3⟩ ih
    subst ev
    have e109 : D3 109 = D2 109 := f3.1 109 (by decide) (by decide)
    have e110 : D3 110 = D2 110 := f3.1 110 (by decide) (by decide)
    have K3 : D3 93 = K := by rw [f3.1 93 (by decide) (by decide)]; exact K2
    unfold fX12_bests_19
    refine qS_ite (fun hlt => ?_) (fun hlt => ?_)
    · have ek : 21 * (k / 21) + k % 21 = k := by omega
      have l0 := rLe_0 s2 (x := k / 21) (y := k % 21) (by omega) (by omega)
      rw [ek] at l0
      refine qS_chk (by omega) (qS_leti ?_)
      rw [show ((k : Int)).toNat = k by omega, e109, l0]
      have et : Int.tdiv (k : Int) 21 = ((k / 21 : Nat) : Int) := rfl
      have em : Int.tmod (k : Int) 21 = ((k % 21 : Nat) : Int) := rfl
      rw [et, em]
      have skip : gI (fun x y => x + y ≤ (kBowl K).toNat ∧ 21 * x + y < k + 1) (kPw K) (kL0 K) hours (D3 91 36) (D3 91 37) → qS (fX12_bests_111 F k19 hours (k : Int) D3) (fun D' => rSc D' K ∧ D' 91 35 = D 91 1 ∧ (∃ bp bh, kBst K hours bp bh ∧ D' 91 36 = bp ∧ D' 91 37 = bh) ∧ zfm [102, 103, 104, 105, 106, 107, 108, 109, 110, 111] [18, 19, 20, 28, 29, 30, 34, 35, 36, 37] D D') := by
        intro g
        unfold fX12_bests_111
        exact qS_chk (by omega) (ih _ _ ⟨k + 1, by omega, by omega, g, f3⟩ (by omega))
      by_cases hin : k / 21 + k % 21 ≤ (kBowl K).toNat
      · have hS : ∀ x y, (x + y ≤ (kBowl K).toNat ∧ 21 * x + y < k + 1) ↔ ((x + y ≤ (kBowl K).toNat ∧ 21 * x + y < k) ∨ (x = k / 21 ∧ y = k % 21)) := by
          intro x y
          constructor
          · intro ⟨u1, u2⟩
            by_cases e2 : 21 * x + y = k
            · exact Or.inr (by omega)
            · exact Or.inl ⟨u1, by omega⟩
          · rintro (⟨u1, u2⟩ | ⟨u1, u2⟩)
            · exact ⟨u1, by omega⟩
            · rw [u1, u2]; exact ⟨hin, by omega⟩
        have w0 := s2.2.2.1 (k / 21) (k % 21) hin
        rw [ek] at w0
        have wb := kPw_in hk hin
        refine qS_ite (fun hh1 => skip (gI_skip g3 hS hh1)) (fun hh1 => qS_chk (by omega) ?_)
        refine qS_call (pX12_bowl K3 hk) (fun r hr => ?_)
        subst hr
        dsimp only
        refine qS_neg (by omega) (qS_chk (by omega) ?_)
        rw [e110, w0]
        have take : (D3 91 36 < kPw K (k / 21) (k % 21) ∨ (kPw K (k / 21) (k % 21) = D3 91 36 ∧ kL0 K (k / 21) (k % 21) < D3 91 37)) → qS (fX12_bests_96 F k19 hours (k : Int) (kL0 K (k / 21) (k % 21)) D3) (fun D' => rSc D' K ∧ D' 91 35 = D 91 1 ∧ (∃ bp bh, kBst K hours bp bh ∧ D' 91 36 = bp ∧ D' 91 37 = bh) ∧ zfm [102, 103, 104, 105, 106, 107, 108, 109, 110, 111] [18, 19, 20, 28, 29, 30, 34, 35, 36, 37] D D') := by
          intro g2
          unfold fX12_bests_96
          rw [show ((k : Int)).toNat = k by omega, e110, w0]
          refine qS_chk (by omega) (qS_leti (qS_leti ?_))
          unfold fX12_bests_111
          refine qS_chk (by omega) (ih _ _ ⟨k + 1, by omega, by omega, ?_, (f3.wf (by decide)).wf (by decide)⟩ (by omega))
          rw [zwr_eq, zwr_off (Or.inr (by omega)), zwr_eq]
          exact gI_take g3 hS (by omega) g2
        refine qS_ite (fun hh2 => skip (gI_keep g3 hS wb.1 (Or.inl hh2))) (fun hh2 => ?_)
        refine qS_ite (fun hh3 => ?_) (fun hh3 => take (Or.inl (by omega)))
        refine qS_ite (fun hh4 => take (Or.inr ⟨hh3, hh4⟩)) (fun hh4 => skip (gI_keep g3 hS wb.1 (Or.inr ⟨hh3, by omega⟩)))
      · have g4 := gI_cg g3 (S' := fun x y => x + y ≤ (kBowl K).toNat ∧ 21 * x + y < k + 1) (fun x y => ⟨fun ⟨u1, u2⟩ => ⟨u1, by omega⟩, fun ⟨u1, u2⟩ => ⟨u1, by omega⟩⟩)
        refine qS_ite (fun hh1 => skip g4) (fun hh1 => qS_chk (by omega) ?_)
        refine qS_call (pX12_bowl K3 hk) (fun r hr => ?_)
        subst hr
        dsimp only
        exact qS_pos (by omega) (skip g4)
    · have : k = 441 := by omega
      subst this
      refine qS_ret ⟨⟨?_, ?_, ?_⟩, ?_, ⟨D3 91 36, D3 91 37, ?_, rfl, rfl⟩, (f2.mono (by decide) (by decide)).trans (f3.mono (by decide) (by decide))⟩
      · unfold rCo; rw [f3.1 111 (by decide) (by decide)]; exact s2.1
      · unfold rLe; rw [e109]; exact s2.2.1
      · unfold rPw; rw [e110, f3.2 34 (by decide)]; exact s2.2.2
      · rw [f3.2 35 (by decide)]; exact v2
      · exact gI_end (B := (kBowl K).toNat) (gI_cg g3 (S' := fun x y => x + y ≤ (kBowl K).toNat) (fun x y => ⟨fun u => ⟨u, by omega⟩, fun u => u.1⟩)) (by unfold kL0; rw [kLe_00]; exact hh)
  · rw [zwr_off (Or.inr (by omega)), zwr_eq]
end RB
/-- from question q on, with these kings, so many half and well so far: the best can be come to in just so many hours -/
def kCan (K : Nat → Int) (bp : Int) (q r half well : Nat) (left : Int) : Prop :=
  ∃ a b, half + a + (well + b) ≤ (kBowl K).toNat ∧ kPw K (half + a) (well + b) = bp ∧ kLe K (K 390).toNat ((K 390).toNat - q) r a b = left
noncomputable def kLv (K : Nat → Int) (bp : Int) (q r half well : Nat) (left : Int) : Nat :=
  @ite Nat (kCan K bp (q + 1) r half well left) (Classical.propDecidable _) 0 (@ite Nat (kCan K bp (q + 1) (kKw K q r) (half + 1) well (left - kCo K q 1 (kHb K q r))) (Classical.propDecidable _) 1 2)
noncomputable def kSn (K : Nat → Int) (bp : Int) (q : Nat) (S : Nat × Nat × Nat × Int) : Nat × Nat × Nat × Int :=
  if K (5 * q + 4) = 0 then (if kLv K bp q S.1 S.2.1 S.2.2.1 S.2.2.2 = 0 then S.1 else kKw K q S.1, S.2.1 + (if kLv K bp q S.1 S.2.1 S.2.2.1 S.2.2.2 = 1 then 1 else 0), S.2.2.1 + (if kLv K bp q S.1 S.2.1 S.2.2.1 S.2.2.2 = 2 then 1 else 0), S.2.2.2 - kCo K q (kLv K bp q S.1 S.2.1 S.2.2.1 S.2.2.2) (kHb K q S.1))
  else S
noncomputable def kSs (K : Nat → Int) (bp bh : Int) (q : Nat) : Nat × Nat × Nat × Int := match q with
  | 0 => (0, 0, 0, bh)
  | q + 1 => kSn K bp q (kSs K bp bh q)
theorem kSs_s (K : Nat → Int) (bp bh : Int) (q : Nat) : kSs K bp bh (q + 1) = kSn K bp q (kSs K bp bh q) := rfl
noncomputable def kFl (K : Nat → Int) (bp bh : Int) (q : Nat) : Int :=
  if K (5 * q + 4) = 0 then ((kLv K bp q (kSs K bp bh q).1 (kSs K bp bh q).2.1 (kSs K bp bh q).2.2.1 (kSs K bp bh q).2.2.2 : Nat) : Int) else -1
section KC
variable {K : Nat → Int} {bp bh : Int}
theorem kLv_lt (q r half well : Nat) (left : Int) : kLv K bp q r half well left ≤ 2 := by
  unfold kLv
  split
  · omega
  · split <;> omega
theorem kLv_0 {q r half well : Nat} {left : Int} : kLv K bp q r half well left = 0 ↔ kCan K bp (q + 1) r half well left := by
  unfold kLv
  by_cases h : kCan K bp (q + 1) r half well left
  · rw [if_pos h]; exact ⟨fun _ => h, fun _ => rfl⟩
  · rw [if_neg h]
    refine ⟨fun e => ?_, fun e => absurd e h⟩
    split at e <;> omega
theorem kLv_1 {q r half well : Nat} {left : Int} (h0 : ¬ kCan K bp (q + 1) r half well left) : kLv K bp q r half well left = 1 ↔ kCan K bp (q + 1) (kKw K q r) (half + 1) well (left - kCo K q 1 (kHb K q r)) := by
  unfold kLv
  rw [if_neg h0]
  by_cases h : kCan K bp (q + 1) (kKw K q r) (half + 1) well (left - kCo K q 1 (kHb K q r))
  · rw [if_pos h]; exact ⟨fun _ => h, fun _ => rfl⟩
  · rw [if_neg h]; exact ⟨fun e => by omega, fun e => absurd e h⟩
theorem kCan_nn {q r half well : Nat} {left : Int} (h : kCan K bp q r half well left) : 0 ≤ left := by
  obtain ⟨a, b, _, _, e⟩ := h
  have := kLe_in K (K 390).toNat ((K 390).toNat - q) r a b
  omega
theorem kLe_un (K : Nat → Int) {q n : Nat} (hq : q < n) : kLe K n (n - q) = kLeS K q (kLe K n (n - (q + 1))) := by
  rw [show n - q = n - (q + 1) + 1 by omega]
  show kLeS K (n - (n - (q + 1) + 1)) (kLe K n (n - (q + 1))) = _
  rw [show n - (n - (q + 1) + 1) = q by omega]
theorem kCan_out {q r half well : Nat} {left : Int} (hq : q < (K 390).toNat) (ho : K (5 * q + 4) ≠ 0) : kCan K bp q r half well left ↔ kCan K bp (q + 1) r half well left := by
  unfold kCan
  have e : kLe K (K 390).toNat ((K 390).toNat - q) = kLe K (K 390).toNat ((K 390).toNat - (q + 1)) := by
    rw [kLe_un K hq]
    funext x y z
    unfold kLeS
    rw [if_neg ho]
  rw [e]
/-- one of the three goes on -/
theorem kCan_step {q r half well : Nat} {left : Int} (hq : q < (K 390).toNat) (ho : K (5 * q + 4) = 0) (h : kCan K bp q r half well left) :
    kCan K bp (q + 1) r half well left ∨ kCan K bp (q + 1) (kKw K q r) (half + 1) well (left - kCo K q 1 (kHb K q r)) ∨ kCan K bp (q + 1) (kKw K q r) half (well + 1) (left - kCo K q 2 (kHb K q r)) := by
  obtain ⟨a, b, h1, h2, h3⟩ := h
  rw [kLe_un K hq] at h3
  unfold kLeS at h3
  rw [if_pos ho] at h3
  have o0 : kLe K (K 390).toNat ((K 390).toNat - (q + 1)) r a b = left → kCan K bp (q + 1) r half well left := fun e => ⟨a, b, h1, h2, e⟩
  have o1 : 0 < a → kCo K q 1 (kHb K q r) + kLe K (K 390).toNat ((K 390).toNat - (q + 1)) (kKw K q r) (a - 1) b = left → kCan K bp (q + 1) (kKw K q r) (half + 1) well (left - kCo K q 1 (kHb K q r)) := fun ha e =>
    ⟨a - 1, b, by omega, by rw [show half + 1 + (a - 1) = half + a by omega]; exact h2, by omega⟩
  have o2 : 0 < b → kCo K q 2 (kHb K q r) + kLe K (K 390).toNat ((K 390).toNat - (q + 1)) (kKw K q r) a (b - 1) = left → kCan K bp (q + 1) (kKw K q r) half (well + 1) (left - kCo K q 2 (kHb K q r)) := fun ha e =>
    ⟨a, b - 1, by omega, by rw [show well + 1 + (b - 1) = well + b by omega]; exact h2, by omega⟩
  generalize kLe K (K 390).toNat ((K 390).toNat - (q + 1)) r a b = x0 at *
  generalize kLe K (K 390).toNat ((K 390).toNat - (q + 1)) (kKw K q r) (a - 1) b = x1 at *
  generalize kLe K (K 390).toNat ((K 390).toNat - (q + 1)) (kKw K q r) a (b - 1) = x2 at *
  by_cases hb : 0 < b
  · rw [if_pos hb] at h3
    by_cases ha : 0 < a
    · rw [if_pos ha] at h3
      rcases (by omega : x0 = left ∨ kCo K q 1 (kHb K q r) + x1 = left ∨ kCo K q 2 (kHb K q r) + x2 = left) with e | e | e
      · exact Or.inl (o0 e)
      · exact Or.inr (Or.inl (o1 ha e))
      · exact Or.inr (Or.inr (o2 hb e))
    · rw [if_neg ha] at h3
      rcases (by omega : x0 = left ∨ kCo K q 2 (kHb K q r) + x2 = left) with e | e
      · exact Or.inl (o0 e)
      · exact Or.inr (Or.inr (o2 hb e))
  · rw [if_neg hb] at h3
    by_cases ha : 0 < a
    · rw [if_pos ha] at h3
      rcases (by omega : x0 = left ∨ kCo K q 1 (kHb K q r) + x1 = left) with e | e
      · exact Or.inl (o0 e)
      · exact Or.inr (Or.inl (o1 ha e))
    · rw [if_neg ha] at h3
      exact Or.inl (o0 h3)
/-- and the level that is taken goes on -/
theorem kSs_ok (hk : kOk K) (hB : kCan K bp 0 0 0 0 bh) : ∀ q, q ≤ (K 390).toNat → kCan K bp q (kSs K bp bh q).1 (kSs K bp bh q).2.1 (kSs K bp bh q).2.2.1 (kSs K bp bh q).2.2.2 ∧ (kSs K bp bh q).1 < 16 ∧ (((kSs K bp bh q).2.1 + (kSs K bp bh q).2.2.1 : Nat) : Int) ≤ kBowlN K q ∧ (kSs K bp bh q).2.2.2 ≤ bh
  | 0, _ => ⟨hB, by show 0 < 16; omega, by show ((0 + 0 : Nat) : Int) ≤ 0; omega, Int.le_refl _⟩
  | q + 1, hq => by
    obtain ⟨i1, i2, i3, i4⟩ := kSs_ok hk hB q (by omega)
    rw [kSs_s]
    have o := hk.2.1 q (by omega)
    generalize kSs K bp bh q = S at *
    obtain ⟨r, half, well, left⟩ := S
    dsimp only at i1 i2 i3 i4
    unfold kSn
    by_cases ho : K (5 * q + 4) = 0
    · rw [if_pos ho]
      dsimp only
      rw [kBowlN_s, if_pos ho]
      have st := kCan_step (by omega) ho i1
      have kw := kKw_lt (K := K) (q := q) (by omega) i2
      have c1 := kCo_in K q 1 (kHb K q r)
      have c2 := kCo_in K q 2 (kHb K q r)
      by_cases h0 : kCan K bp (q + 1) r half well left
      · rw [kLv_0.2 h0, if_pos rfl, if_neg (by omega), if_neg (by omega)]
        have e0 : kCo K q 0 (kHb K q r) = 0 := by unfold kCo; rw [if_pos rfl]
        rw [e0, Int.sub_zero]
        exact ⟨h0, i2, by omega, i4⟩
      · by_cases h1 : kCan K bp (q + 1) (kKw K q r) (half + 1) well (left - kCo K q 1 (kHb K q r))
        · rw [(kLv_1 h0).2 h1, if_neg (by omega), if_pos rfl, if_neg (by omega)]
          exact ⟨h1, kw, by omega, by omega⟩
        · have l0 : kLv K bp q r half well left ≠ 0 := fun e => h0 (kLv_0.1 e)
          have l1 : kLv K bp q r half well left ≠ 1 := fun e => h1 ((kLv_1 h0).1 e)
          have l2 : kLv K bp q r half well left = 2 := by have := kLv_lt (K := K) (bp := bp) q r half well left; omega
          rw [l2, if_neg (by omega), if_neg (by omega), if_pos rfl]
          rcases st with st | st | st
          · exact absurd st h0
          · exact absurd st h1
          · exact ⟨st, kw, by omega, by omega⟩
    · rw [if_neg ho, kBowlN_s, if_neg ho]
      exact ⟨(kCan_out (by omega) ho).1 i1, i2, by dsimp only; omega, i4⟩
theorem kSs_skip {a b : Nat} (h : a ≤ b) (e : kBowlN K a = kBowlN K b) : kSs K bp bh a = kSs K bp bh b := by
  induction b with
  | zero => rw [show a = 0 by omega]
  | succ b ih =>
    by_cases e1 : a = b + 1
    · rw [e1]
    · have m1 := kBowlN_mono K (a := a) (b := b) (by omega)
      have m2 := kBowlN_mono K (a := b) (b := b + 1) (by omega)
      have ho : K (5 * b + 4) ≠ 0 := by
        intro h0
        rw [kBowlN_s, if_pos h0] at e
        omega
      rw [ih (by omega) (by omega), kSs_s]
      unfold kSn
      rw [if_neg ho]
theorem kCan_first {hours : Int} (h : kBst K hours bp bh) : kCan K bp 0 0 0 0 bh := by
  obtain ⟨⟨a, b, c1, _, c3, c4⟩, _⟩ := h
  refine ⟨a, b, by omega, by rw [Nat.zero_add, Nat.zero_add]; exact c3, ?_⟩
  rw [Nat.sub_zero]; exact c4
end KC
