/-! ===== the first of the best schemes, reference ===== -/
section RF
variable {F : zFs} {D : zDa} {K : Nat → Int} {bp bh : Int}
theorem pX12_canBe (hK : D 93 = K) (hk : kOk K) (hs : rSc D K) (h36 : D 91 36 = bp) {q r half well : Nat} {left : Int} (hq : q ≤ (K 390).toNat) (hr : r < 16) (hh : half ≤ 20) (hw : well ≤ 20) :
    qS (fX12_canBe F (q : Int) (r : Int) (half : Int) (well : Int) left D) (fun x => x.2 = D ∧ ((x.1 = 1 ∧ kCan K bp q r half well left) ∨ (x.1 = 0 ∧ ¬ kCan K bp q r half well left))) := by
  have h0 := hk.1
  have hb := kBowl_in hk
  unfold fX12_canBe
  refine qloop1 (fun v D1 => ∃ k : Nat, v = (k : Int) ∧ k ≤ 441 ∧ (∀ a b, half + a + (well + b) ≤ (kBowl K).toNat → 21 * (half + a) + (well + b) < k → kPw K (half + a) (well + b) = bp → kLe K (K 390).toNat ((K 390).toNat - q) r a b ≠ left) ∧ D1 = D) (fun v _ => (1000 - v).toNat) ?_ ⟨0, rfl, by omega, fun a b _ h => absurd h (by omega), rfl⟩ (zfu_gt (by omega))
  intro k3 v D1 ⟨k, ev, hk4, no, eD⟩ ih
  subst ev eD
  unfold fX12_canBe_3
  refine qS_ite (fun hlt => ?_) (fun hlt => ?_)
  · have ek : 21 * (k / 21) + k % 21 = k := by omega
    have et : Int.tdiv (k : Int) 21 = ((k / 21 : Nat) : Int) := rfl
    have em : Int.tmod (k : Int) 21 = ((k % 21 : Nat) : Int) := rfl
    rw [et, em]
    have skip : (∀ a b, half + a + (well + b) ≤ (kBowl K).toNat → 21 * (half + a) + (well + b) = k → kPw K (half + a) (well + b) = bp → kLe K (K 390).toNat ((K 390).toNat - q) r a b ≠ left) → qS (fX12_canBe_94 F k3 (q : Int) (r : Int) (half : Int) (well : Int) left (k : Int) D1) (fun x => x.2 = D1 ∧ ((x.1 = 1 ∧ kCan K bp q r half well left) ∨ (x.1 = 0 ∧ ¬ kCan K bp q r half well left))) := by
      intro hs2
      unfold fX12_canBe_94
      refine qS_chk (by omega) (ih _ _ ⟨k + 1, by omega, by omega, fun a b h1 h2 => ?_, rfl⟩ (by omega))
      by_cases e : 21 * (half + a) + (well + b) = k
      · exact hs2 a b h1 e
      · exact no a b h1 (by omega)
    refine qS_chk (by omega) (qS_leti (qS_chk (by omega) (qS_leti ?_)))
    refine qS_ite (fun c1 => skip (fun a b h1 h2 => absurd h2 (by omega))) (fun c1 => ?_)
    refine qS_ite (fun c2 => skip (fun a b h1 h2 => absurd h2 (by omega))) (fun c2 => qS_chk (by omega) ?_)
    refine qS_call (pX12_bowl hK hk) (fun x hx => ?_)
    subst hx
    dsimp only
    refine qS_ite (fun c3 => skip (fun a b h1 h2 => absurd h1 (by omega))) (fun c3 => qS_chk (by omega) ?_)
    have hin : k / 21 + k % 21 ≤ (kBowl K).toNat := by omega
    have w0 := hs.2.2.1 (k / 21) (k % 21) hin
    rw [ek] at w0
    rw [show ((k : Int)).toNat = k by omega, w0, h36]
    have key : ∀ a b, half + a + (well + b) ≤ (kBowl K).toNat → 21 * (half + a) + (well + b) = k → half + a = k / 21 ∧ well + b = k % 21 ∧ a = k / 21 - half ∧ b = k % 21 - well := fun a b h1 h2 => by omega
    refine qS_ite (fun c4 => ?_) (fun c4 => skip (fun a b h1 h2 h3 => absurd (by rw [(key a b h1 h2).1, (key a b h1 h2).2.1] at h3; exact h3) c4))
    rw [show ((k / 21 : Nat) : Int) - (half : Int) = ((k / 21 - half : Nat) : Int) by omega, show ((k % 21 : Nat) : Int) - (well : Int) = ((k % 21 - well : Nat) : Int) by omega]
    refine qS_step (pX12_cell (by omega)) (qS_chk (by omega) ?_)
    have l0 := hs.2.1 q hq r (k / 21 - half) (k % 21 - well) hr (by omega) (by omega)
    dsimp only
    rw [show (((7056 * q + 441 * r + 21 * (k / 21 - half) + (k % 21 - well) : Nat) : Int)).toNat = 7056 * q + 441 * r + 21 * (k / 21 - half) + (k % 21 - well) by omega]
    refine qS_ite (fun c5 => ?_) (fun c5 => skip (fun a b h1 h2 h3 => ?_))
    · refine qS_ret ⟨rfl, Or.inl ⟨rfl, k / 21 - half, k % 21 - well, by omega, ?_, by rw [← l0]; exact c5⟩⟩
      rw [show half + (k / 21 - half) = k / 21 by omega, show well + (k % 21 - well) = k % 21 by omega]; exact c4
    · rw [(key a b h1 h2).2.2.1, (key a b h1 h2).2.2.2, ← l0]; exact c5
  · refine qS_ret ⟨rfl, Or.inr ⟨rfl, fun ⟨a, b, h1, h2, h3⟩ => no a b h1 (by omega) h2 h3⟩⟩
/-- the reference's levels -/
def rFs (D : zDa) (K : Nat → Int) (bp bh : Int) (n : Nat) : Prop := ∀ q, q < n → D 112 q = kFl K bp bh q
theorem rSc.fr {D' : zDa} (h : rSc D K) (h1 : D' 111 = D 111) (h2 : D' 109 = D 109) (h3 : D' 110 = D 110) (h4 : D' 91 34 = D 91 34) : rSc D' K := by
  unfold rSc rCo rLe rPw
  rw [h1, h2, h3, h4]; exact h
theorem pX12_firsts_loop (hK : D 93 = K) (hk : kOk K) (hs : rSc D K) (h36 : D 91 36 = bp) (hB : kCan K bp 0 0 0 0 bh) (hbh : bh ≤ 1000000) :
    qS (zfix (fun _ _ _ _ _ _ => none) (fX12_firsts_21 F) zfu 0 0 0 bh 0 D) (fun D' => rFs D' K bp bh (K 390).toNat ∧ zfm [112] [] D D') := by
  have h0 := hk.1
  have hbw := kBowl_in hk
  refine qloop5 (fun v2 v3 v4 v5 v6 D1 => ∃ q : Nat, v6 = (q : Int) ∧ q ≤ (K 390).toNat ∧ v2 = ((kSs K bp bh q).1 : Int) ∧ v3 = ((kSs K bp bh q).2.1 : Int) ∧ v4 = ((kSs K bp bh q).2.2.1 : Int) ∧ v5 = (kSs K bp bh q).2.2.2 ∧ rFs D1 K bp bh q ∧ zfm [112] [] D D1) (fun _ _ _ _ v6 _ => (100 - v6).toNat) ?_ ⟨0, rfl, by omega, rfl, rfl, rfl, rfl, fun q hq => absurd hq (by omega), zfm.rfl' _ _ D⟩ (zfu_gt (by omega))
  intro k21 v2 v3 v4 v5 v6 D1 ⟨q, e6, hq, e2, e3, e4, e5, r1, f1⟩ ih
  subst e6 e2 e3 e4 e5
  have K1 : D1 93 = K := by rw [f1.1 93 (by decide) (by decide)]; exact hK
  obtain ⟨ok1, ok2, ok3, ok4⟩ := kSs_ok hk hB q hq
  have bq := kBowlN_in K q
  have bqm := kBowlN_mono K (a := q) (b := (K 390).toNat) hq
  have bw : kBowl K = kBowlN K (K 390).toNat := rfl
  have lnn := kCan_nn ok1
  have ess := kSs_s K bp bh q
  have efl : kFl K bp bh q = if K (5 * q + 4) = 0 then ((kLv K bp q (kSs K bp bh q).1 (kSs K bp bh q).2.1 (kSs K bp bh q).2.2.1 (kSs K bp bh q).2.2.2 : Nat) : Int) else -1 := rfl
  generalize kSs K bp bh q = S at *
  obtain ⟨r, half, well, left⟩ := S
  dsimp only at ok1 ok2 ok3 ok4 lnn efl ⊢
  unfold fX12_firsts_21
  have eq : fX12_questions F D1 = some (K 390, D1) := by unfold fX12_questions; rw [K1]
  refine qS_step eq ?_
  refine qS_ite (fun hlt => ?_) (fun hlt => ?_)
  · have hqn : (q : Int) < K 390 := hlt
    have o := hk.2.1 q hqn
    refine qS_chk (by omega) (qS_leti ?_)
    rw [show ((q : Int)).toNat = q by omega]
    have K2 : (zwr D1 112 q (-1)) 93 = K := by rw [zwr_row (by omega)]; exact K1
    have e2 : (zwr D1 112 q (-1)) 112 q = -1 := zwr_eq
    have r2 : ∀ x, x < q → (zwr D1 112 q (-1)) 112 x = kFl K bp bh x := fun x hx => by rw [zwr_off (Or.inr (by omega))]; exact r1 x hx
    have f2 : zfm [112] [] D (zwr D1 112 q (-1)) := f1.wr (by decide) (by decide)
    generalize zwr D1 112 q (-1) = D2 at *
    refine qS_step (pX12_isBowl (q := q) rfl (by omega)) ?_
    dsimp only
    rw [K2]
    -- the next question
    have go : ∀ (D3 : zDa) (v2 v3 v4 v5 : Int), D3 112 q = kFl K bp bh q → (∀ x, x < q → D3 112 x = kFl K bp bh x) → zfm [112] [] D D3 → v2 = ((kSn K bp q (r, half, well, left)).1 : Int) → v3 = ((kSn K bp q (r, half, well, left)).2.1 : Int) → v4 = ((kSn K bp q (r, half, well, left)).2.2.1 : Int) → v5 = (kSn K bp q (r, half, well, left)).2.2.2 →
        qS (fX12_firsts_255 F k21 v2 v3 v4 v5 (q : Int) D3) (fun D' => rFs D' K bp bh (K 390).toNat ∧ zfm [112] [] D D') := by
      intro D3 v2 v3 v4 v5 q1 q2 f3 g1 g2 g3 g4
      unfold fX12_firsts_255
      refine qS_chk (by omega) (ih _ _ _ _ _ _ ⟨q + 1, by omega, by omega, by rw [ess]; exact g1, by rw [ess]; exact g2, by rw [ess]; exact g3, by rw [ess]; exact g4, fun x hx => ?_, f3⟩ (by omega))
      by_cases e : x = q
      · rw [e]; exact q1
      · exact q2 x (by omega)
    by_cases ho : K (5 * q + 4) = 0
    · rw [if_pos ho]
      refine qS_neg (by omega) ?_
      rw [if_pos ho] at efl
      have st := kCan_step (by omega) ho ok1
      have hbl := kHb_lt K q r
      have hN1 : kBowlN K (q + 1) ≤ kBowl K := by rw [bw]; exact kBowlN_mono K (by omega)
      rw [kBowlN_s, if_pos ho] at hN1
      -- the level has been found
      have fin : ∀ (l : Nat) (D3 : zDa), l ≤ 2 → l = kLv K bp q r half well left → D3 112 q = (l : Int) → (∀ x, x < q → D3 112 x = kFl K bp bh x) → zfm [112] [] D D3 →
          qS (fX12_firsts_168 F k21 (r : Int) (half : Int) (well : Int) left (q : Int) D3) (fun D' => rFs D' K bp bh (K 390).toNat ∧ zfm [112] [] D D') := by
        intro l D3 hl2 hl h3 q2 f3
        have K3 : D3 93 = K := by rw [f3.1 93 (by decide) (by decide)]; exact hK
        have s3 : rSc D3 K := hs.fr (f3.1 111 (by decide) (by decide)) (f3.1 109 (by decide) (by decide)) (f3.1 110 (by decide) (by decide)) (f3.2 34 (by decide))
        have cc := kCo_in K q l (kHb K q r)
        unfold fX12_firsts_168
        rw [show ((q : Int)).toNat = q by omega, h3]
        refine qS_chk (by omega) (qS_step (pX12_helpedBy K3 hk hqn ok2) (qS_step (pX12_costOf s3.1 (by omega) hqn hl2 hbl) (qS_chk (by omega) (qS_leti ?_))))
        dsimp only
        rw [h3]
        have t252 : ∀ (v2 v3 s0 : Int), v2 = ((kSn K bp q (r, half, well, left)).1 : Int) → v3 = ((kSn K bp q (r, half, well, left)).2.1 : Int) → s0 = (if l = 2 then 1 else 0) → qS (fX12_firsts_252 F k21 v2 v3 (left - kCo K q l (kHb K q r)) (q : Int) s0 (well : Int) D3) (fun D' => rFs D' K bp bh (K 390).toNat ∧ zfm [112] [] D D') := by
          intro v2 v3 s0 g1 g2 g3
          unfold fX12_firsts_252
          have : s0 = 0 ∨ s0 = 1 := by rw [g3]; split <;> omega
          refine qS_chk (by omega) (qS_leti (go D3 _ _ _ _ (by rw [efl, h3, hl]) q2 f3 g1 g2 ?_ ?_))
          · unfold kSn; rw [if_pos ho]; dsimp only; rw [← hl, g3]
            split <;> omega
          · unfold kSn; rw [if_pos ho]; dsimp only; rw [← hl]
        have t232 : ∀ (v2 s0 : Int), v2 = ((kSn K bp q (r, half, well, left)).1 : Int) → s0 = (if l = 1 then 1 else 0) → qS (fX12_firsts_232 F k21 v2 (well : Int) (left - kCo K q l (kHb K q r)) (q : Int) s0 (half : Int) D3) (fun D' => rFs D' K bp bh (K 390).toNat ∧ zfm [112] [] D D') := by
          intro v2 s0 g1 g2
          unfold fX12_firsts_232
          have : s0 = 0 ∨ s0 = 1 := by rw [g2]; split <;> omega
          have g3 : (half : Int) + s0 = ((kSn K bp q (r, half, well, left)).2.1 : Int) := by
            unfold kSn; rw [if_pos ho]; dsimp only; rw [← hl, g2]
            split <;> omega
          rw [show ((q : Int)).toNat = q by omega, h3]
          refine qS_chk (by omega) (qS_leti (qS_chk (by omega) ?_))
          refine qS_ite (fun c => t252 _ _ _ g1 g3 (by rw [if_pos (by omega)])) (fun c => t252 _ _ _ g1 g3 (by rw [if_neg (by omega)]))
        have t214 : ∀ v2 : Int, v2 = ((kSn K bp q (r, half, well, left)).1 : Int) → qS (fX12_firsts_214 F k21 (half : Int) (well : Int) (left - kCo K q l (kHb K q r)) (q : Int) v2 D3) (fun D' => rFs D' K bp bh (K 390).toNat ∧ zfm [112] [] D D') := by
          intro v2 g1
          unfold fX12_firsts_214
          rw [show ((q : Int)).toNat = q by omega, h3]
          refine qS_chk (by omega) ?_
          refine qS_ite (fun c => t232 _ _ g1 (by rw [if_pos (by omega)])) (fun c => t232 _ _ g1 (by rw [if_neg (by omega)]))
        refine qS_ite (fun c => t214 _ ?_) (fun c => ?_)
        · unfold kSn; rw [if_pos ho]; dsimp only; rw [← hl, if_pos (by omega)]
        · refine qS_step (pX12_kingsWith K3 hk hqn ok2) (t214 _ ?_)
          unfold kSn; rw [if_pos ho]; dsimp only; rw [← hl, if_neg (by omega)]
      refine qloop1 (fun v7 D3 => ∃ l : Nat, v7 = (l : Int) ∧ l ≤ 3 ∧ ((D3 112 q = -1 ∧ (∀ x, x < l → x ≠ kLv K bp q r half well left)) ∨ (D3 112 q = ((kLv K bp q r half well left : Nat) : Int))) ∧ (∀ x, x < q → D3 112 x = kFl K bp bh x) ∧ zfm [112] [] D D3) (fun v7 _ => (100 - v7).toNat) ?_ ⟨0, rfl, by omega, Or.inl ⟨e2, fun x hx => absurd hx (by omega)⟩, r2, f2⟩ (zfu_gt (by omega))
      intro k53 v7 D3 ⟨l, e7, hl3, hc, q2, f3⟩ ih3
      subst e7
      have hlv := kLv_lt (K := K) (bp := bp) q r half well left
      unfold fX12_firsts_53
      refine qS_ite (fun c3 => ?_) (fun c3 => ?_)
      · rw [show ((q : Int)).toNat = q by omega]
        refine qS_chk (by omega) ?_
        rcases hc with ⟨hm, hno⟩ | hd
        · refine qS_pos hm ?_
          have K3 : D3 93 = K := by rw [f3.1 93 (by decide) (by decide)]; exact hK
          have s3 : rSc D3 K := hs.fr (f3.1 111 (by decide) (by decide)) (f3.1 109 (by decide) (by decide)) (f3.1 110 (by decide) (by decide)) (f3.2 34 (by decide))
          have p3 : D3 91 36 = bp := by rw [f3.2 36 (by decide)]; exact h36
          have cc := kCo_in K q l (kHb K q r)
          have kw := kKw_lt (K := K) (q := q) (by omega) ok2
          refine qS_step (pX12_helpedBy K3 hk hqn ok2) (qS_step (pX12_costOf s3.1 (by omega) hqn (by omega) hbl) ?_)
          -- what the level would lead to
          have lvl : (l = kLv K bp q r half well left) ↔ kCan K bp (q + 1) (if l = 0 then r else kKw K q r) (half + if l = 1 then 1 else 0) (well + if l = 2 then 1 else 0) (left - kCo K q l (kHb K q r)) := by
            have n0 := fun h : 0 < l => hno 0 h
            have n1 := fun h : 1 < l => hno 1 h
            have e0 : kCo K q 0 (kHb K q r) = 0 := by unfold kCo; rw [if_pos rfl]
            rcases (by omega : l = 0 ∨ l = 1 ∨ l = 2) with rfl | rfl | rfl
            · rw [if_pos rfl, if_neg (by omega), if_neg (by omega), e0, Int.sub_zero, Nat.add_zero, Nat.add_zero]
              exact ⟨fun e => kLv_0.1 e.symm, fun e => (kLv_0.2 e).symm⟩
            · have h0' : ¬ kCan K bp (q + 1) r half well left := fun e => n0 (by omega) (kLv_0.2 e).symm
              rw [if_neg (by omega), if_pos rfl, if_neg (by omega), Nat.add_zero]
              exact ⟨fun e => (kLv_1 h0').1 e.symm, fun e => ((kLv_1 h0').2 e).symm⟩
            · have h0' : ¬ kCan K bp (q + 1) r half well left := fun e => n0 (by omega) (kLv_0.2 e).symm
              have h1' : ¬ kCan K bp (q + 1) (kKw K q r) (half + 1) well (left - kCo K q 1 (kHb K q r)) := fun e => n1 (by omega) ((kLv_1 h0').2 e).symm
              rw [if_neg (by omega), if_neg (by omega), if_pos rfl, Nat.add_zero]
              refine ⟨fun _ => ?_, fun _ => ?_⟩
              · rcases st with st | st | st
                · exact absurd st h0'
                · exact absurd st h1'
                · exact st
              · have a := n0 (by omega)
                have b := n1 (by omega)
                omega
          have t162 : ∀ D4 : zDa, ((D4 112 q = -1 ∧ l ≠ kLv K bp q r half well left) ∨ (D4 112 q = ((kLv K bp q r half well left : Nat) : Int))) → (∀ x, x < q → D4 112 x = kFl K bp bh x) → zfm [112] [] D D4 → qS (fX12_firsts_162 F k21 k53 (r : Int) (half : Int) (well : Int) left (q : Int) (l : Int) D4) (fun D' => rFs D' K bp bh (K 390).toNat ∧ zfm [112] [] D D') := by
            intro D4 h4 q4 f4
            unfold fX12_firsts_162
            refine qS_chk (by omega) (ih3 _ _ ⟨l + 1, by omega, by omega, ?_, q4, f4⟩ (by omega))
            rcases h4 with ⟨h4, h5⟩ | h4
            · refine Or.inl ⟨h4, fun x hx => ?_⟩
              by_cases e : x = l
              · rw [e]; exact h5
              · exact hno x (by omega)
            · exact Or.inr h4
          have t141 : ∀ (s0 s2 s3 : Int), s0 = ((if l = 2 then 1 else 0 : Nat) : Int) → s2 = ((half + (if l = 1 then 1 else 0) : Nat) : Int) → s3 = ((if l = 0 then r else kKw K q r : Nat) : Int) → qS (fX12_firsts_141 F k21 k53 (r : Int) (half : Int) (well : Int) left (q : Int) (l : Int) (kCo K q l (kHb K q r)) s0 (well : Int) s2 s3 ((q : Int) + 1) D3) (fun D' => rFs D' K bp bh (K 390).toNat ∧ zfm [112] [] D D') := by
            intro s0 s2 s3' g0 g2 g3
            unfold fX12_firsts_141
            have b0 : (if l = 2 then 1 else 0 : Nat) ≤ 1 := by split <;> omega
            have b1 : (if l = 1 then 1 else 0 : Nat) ≤ 1 := by split <;> omega
            have b2 : (if l = 0 then r else kKw K q r : Nat) < 16 := by split <;> omega
            rw [g0, g2, g3, show (well : Int) + ((if l = 2 then 1 else 0 : Nat) : Int) = ((well + (if l = 2 then 1 else 0) : Nat) : Int) by omega, show (q : Int) + 1 = ((q + 1 : Nat) : Int) by omega]
            refine qS_chk (by omega) ?_
            refine qS_call (pX12_canBe (bp := bp) K3 hk s3 p3 (by omega) b2 (by omega) (by omega)) (fun x ⟨hx2, hx⟩ => ?_)
            obtain ⟨x1, D4⟩ := x
            dsimp only at hx2 hx ⊢
            subst hx2
            rcases hx with ⟨hx, hcan⟩ | ⟨hx, hcan⟩
            · refine qS_neg (by omega) (qS_chk (by omega) (qS_leti (t162 _ (Or.inr ?_) (fun x hx => ?_) (f3.wr (by decide) (by decide)))))
              · rw [show ((q : Int)).toNat = q by omega, zwr_eq, ← lvl.2 hcan]
              · rw [zwr_off (Or.inr (by omega))]; exact q2 x hx
            · exact qS_pos hx (t162 _ (Or.inl ⟨hm, fun e => hcan (lvl.1 e)⟩) q2 f3)
          have t127 : ∀ (s0 s2 : Int), s0 = ((if l = 1 then 1 else 0 : Nat) : Int) → s2 = ((if l = 0 then r else kKw K q r : Nat) : Int) → qS (fX12_firsts_127 F k21 k53 (r : Int) (half : Int) (well : Int) left (q : Int) (l : Int) (kCo K q l (kHb K q r)) s0 (half : Int) s2 ((q : Int) + 1) D3) (fun D' => rFs D' K bp bh (K 390).toNat ∧ zfm [112] [] D D') := by
            intro s0 s2 g0 g2
            unfold fX12_firsts_127
            have b1 : (if l = 1 then 1 else 0 : Nat) ≤ 1 := by split <;> omega
            refine qS_chk (by omega) ?_
            refine qS_ite (fun c => t141 _ _ _ (by rw [if_pos (by omega)]; rfl) (by rw [g0]; omega) g2) (fun c => t141 _ _ _ (by rw [if_neg (by omega)]; rfl) (by rw [g0]; omega) g2)
          have t115 : ∀ s0 : Int, s0 = ((if l = 0 then r else kKw K q r : Nat) : Int) → qS (fX12_firsts_115 F k21 k53 (r : Int) (half : Int) (well : Int) left (q : Int) (l : Int) (kCo K q l (kHb K q r)) s0 ((q : Int) + 1) D3) (fun D' => rFs D' K bp bh (K 390).toNat ∧ zfm [112] [] D D') := by
            intro s0 g0
            unfold fX12_firsts_115
            refine qS_ite (fun c => t127 _ _ (by rw [if_pos (by omega)]; rfl) g0) (fun c => t127 _ _ (by rw [if_neg (by omega)]; rfl) g0)
          refine qS_ite (fun c4 => t162 _ (Or.inl ⟨hm, fun e => ?_⟩) q2 f3) (fun c4 => qS_chk (by omega) ?_)
          · have := kCan_nn (lvl.1 e); omega
          · refine qS_ite (fun c5 => t115 _ (by rw [if_pos (by omega)])) (fun c5 => ?_)
            exact qS_step (pX12_kingsWith K3 hk hqn ok2) (t115 _ (by rw [if_neg (by omega)]))
        · exact qS_neg (by omega) (fin _ D3 hlv rfl hd q2 f3)
      · rcases hc with ⟨hm, hno⟩ | hd
        · exact absurd rfl (hno (kLv K bp q r half well left) (by omega))
        · exact fin _ D3 hlv rfl hd q2 f3
    · rw [if_neg ho]
      rw [if_neg ho] at efl
      have es : kSn K bp q (r, half, well, left) = (r, half, well, left) := by unfold kSn; rw [if_neg ho]
      exact qS_pos rfl (go D2 _ _ _ _ (by rw [efl]; exact e2) r2 f2 (by rw [es]) (by rw [es]) (by rw [es]) (by rw [es]))
  · have hqn : ¬ (q : Int) < K 390 := hlt
    have : q = (K 390).toNat := by omega
    subst this
    exact qS_ret ⟨r1, f1⟩
end RF
