/-! ===== lessons laid back, reference ===== -/
def rBk (D : zDa) (T : bT) (H : Int) : Prop :=
  ((T.1 < 0 ∧ D 91 51 = 1) ∨ (0 ≤ T.1 ∧ D 91 51 = 0 ∧ D 91 48 = T.1 ∧ D 118 T.1.toNat = T.2.1 ∧ ∀ j : Nat, (j : Int) < T.1 → D 118 j = H)) ∧ D 91 49 = T.2.2.1 ∧ D 91 50 = T.2.2.2.1 ∧ ∀ i, i < 40 → D 117 i = T.2.2.2.2 i
section RL
variable {F : zFs} {D : zDa} {K : Nat → Int} {T : bT} {H : Int}
theorem pX12_laysLesson {q l c : Nat} {cost : Int} (h : rBk D T H) (ht : bTo T c) (hc : c ≤ 200) (hH : 0 ≤ H ∧ H ≤ 16) (hq : q < 20) (hl : 1 ≤ l ∧ l ≤ 2) (hco : 1 ≤ cost ∧ cost ≤ 20) :
    qS (fX12_laysLesson F (q : Int) (l : Int) cost D) (fun D' => rBk D' (kLd H T cost (2 * q + l - 1)) H ∧ zfm [117, 118] [48, 49, 50, 51] D D') := by
  obtain ⟨d, left, out, first, days⟩ := T
  obtain ⟨h1, h2, h3, h4⟩ := h
  obtain ⟨t1, t2, t3⟩ := ht
  dsimp only at h1 h2 h3 h4 t1 t2 t3
  unfold fX12_laysLesson
  -- left out
  have lo : ∀ D1 : zDa, (∀ k, k ≠ 48 → D1 91 k = D 91 k) → zfm [] [48] D D1 → kLd H (d, left, out, first, days) cost (2 * q + l - 1) = ((-1 : Int), (if d < 0 then left else 0), out + 1, first, days) → qS (fX12_laysLesson_55 F (q : Int) (l : Int) cost D1) (fun D' => rBk D' (kLd H (d, left, out, first, days) cost (2 * q + l - 1)) H ∧ zfm [117, 118] [48, 49, 50, 51] D D') := by
    intro D1 k1 f1 eT
    unfold fX12_laysLesson_55 fX12_laysLesson_60
    refine qS_chk (by omega) (qS_leti ?_)
    rw [zwr_eq]
    refine qS_neg (by omega) ?_
    have e49 : (zwr D1 91 51 1) 91 49 = out := by rw [zwr_off (Or.inr (by omega)), k1 49 (by omega)]; exact h2
    rw [e49]
    refine qS_chk (by omega) (qS_leti (qS_ret ⟨?_, ((f1.mono (by decide) (by decide)).wf (by decide)).wf (by decide)⟩))
    rw [eT]
    refine ⟨Or.inl ⟨by dsimp only; omega, ?_⟩, ?_, ?_, ?_⟩
    · rw [zwr_off (Or.inr (by omega)), zwr_eq]
    · rw [zwr_eq]
    · rw [zwr_off (Or.inr (by omega)), zwr_off (Or.inr (by omega)), k1 50 (by omega)]; exact h3
    · rw [zwr_row (by omega), zwr_row (by omega), f1.1 117 (by decide) (by decide)]; exact h4
  rcases h1 with ⟨hd, hf⟩ | ⟨hd, hf, h48, hrm, hro⟩
  · -- full already
    have eT : kLd H (d, left, out, first, days) cost (2 * q + l - 1) = ((-1 : Int), (if d < 0 then left else 0), out + 1, first, days) := by
      unfold kLd; dsimp only; rw [if_pos hd, if_pos hd, show d = -1 by omega]
    refine qloop0 (fun D1 => D1 = D) (fun _ => 0) ?_ rfl (zfu_gt (by omega))
    intro k0 D1 eD ih
    subst eD
    unfold fX12_laysLesson_0
    refine qS_neg (by omega) ?_
    unfold fX12_laysLesson_40
    exact qS_neg (by omega) (lo D1 (fun _ _ => rfl) (zfm.rfl' _ _ D1) eT)
  · refine qloop0 (fun D1 => (-1 ≤ D1 91 48 ∧ D1 91 48 ≤ d) ∧ (D1 91 48 < d → left < cost) ∧ (D1 91 48 + 1 < d → H < cost) ∧ (∀ k, k ≠ 48 → D1 91 k = D 91 k) ∧ zfm [] [48] D D1) (fun D1 => (D1 91 48 + 10).toNat) ?_ ⟨by omega, fun hh => absurd hh (by omega), fun hh => absurd hh (by omega), fun _ _ => rfl, zfm.rfl' _ _ D⟩ (zfu_gt (by omega))
    intro k0 D1 ⟨i1, i3, i4, i5, f1⟩ ih
    have e51 : D1 91 51 = 0 := by rw [i5 51 (by omega)]; exact hf
    have e118 : D1 118 = D 118 := f1.1 118 (by decide) (by decide)
    unfold fX12_laysLesson_0
    refine qS_pos e51 ?_
    have rm : 0 ≤ D1 91 48 → D1 118 (D1 91 48).toNat = if D1 91 48 = d then left else H := fun hh => by
      by_cases e : D1 91 48 = d
      · rw [if_pos e, e118, e]; exact hrm
      · rw [if_neg e, e118]
        exact hro _ (by omega)
    refine qS_ite (fun c1 => ?_) (fun c1 => qS_chk (by omega) ?_)
    · unfold fX12_laysLesson_40
      refine qS_pos e51 (qS_pos c1 (lo D1 i5 f1 ?_))
      unfold kLd
      dsimp only
      have := i3 (by omega)
      rw [if_neg (by omega), if_neg (by omega), if_neg (by omega), if_neg (fun hh => by have := i4 (by omega); omega)]
    · have rm' := rm (by omega)
      refine qS_ite (fun c2 => ?_) (fun c2 => ?_)
      · refine qS_chk (by omega) (qS_leti ?_)
        have e2' : (zwr D1 91 48 (D1 91 48 - 1)) 91 48 = D1 91 48 - 1 := zwr_eq
        rw [rm'] at c2
        refine ih _ ⟨by rw [e2']; omega, fun _ => ?_, fun hh => ?_, fun k hk => ?_, f1.wf (by decide)⟩ (by rw [e2']; omega)
        · by_cases e : D1 91 48 = d
          · rw [if_pos e] at c2; exact c2
          · exact i3 (by omega)
        · rw [e2'] at hh
          rw [if_neg (by omega)] at c2; exact c2
        · rw [zwr_off (Or.inr hk)]; exact i5 k hk
      · unfold fX12_laysLesson_40
        refine qS_pos e51 (qS_neg c1 ?_)
        unfold fX12_laysLesson_60
        refine qS_chk (by omega) (qS_leti ?_)
        rw [zwr_eq]
        refine qS_pos rfl ?_
        have e48 : (zwr D1 91 51 0) 91 48 = D1 91 48 := zwr_off (Or.inr (by omega))
        have e1182 : (zwr D1 91 51 0) 118 = D1 118 := zwr_row (by omega)
        rw [e48, e1182, rm']
        have bl : (if D1 91 48 = d then left else H) ≤ 16 ∧ cost ≤ (if D1 91 48 = d then left else H) := by
          rw [rm'] at c2
          refine ⟨by split <;> omega, by omega⟩
        refine qS_chk (by omega) (qS_leti (qS_chk (by omega) (qS_leti (qS_leti ?_))))
        have eT : kLd H (d, left, out, first, days) cost (2 * q + l - 1) = (D1 91 48, (if D1 91 48 = d then left else H) - cost, out, D1 91 48, zset days (2 * q + l - 1) (D1 91 48)) := by
          unfold kLd
          dsimp only
          rw [if_neg (by omega)]
          by_cases e1 : D1 91 48 = d
          · rw [if_pos e1] at bl
            rw [if_pos (by omega), if_pos e1, e1]
          · have i3' := i3 (by omega)
            rw [if_neg e1] at bl
            have e2 : D1 91 48 = d - 1 := by
              rcases Int.lt_or_le (D1 91 48 + 1) d with g | g
              · have := i4 g; omega
              · omega
            rw [if_neg (by omega), if_pos (by omega), if_neg e1, e2]
        rw [eT]
        have e48b : ∀ v w u : Int, ∀ k : Nat, (zwr (zwr (zwr D1 91 51 0) 118 (D1 91 48).toNat v) 117 k w) 91 48 = D1 91 48 := fun v w u k => by
          rw [zwr_row (by omega), zwr_row (by omega), zwr_off (Or.inr (by omega))]
        refine qS_ret ⟨⟨Or.inr ⟨by dsimp only; omega, ?_, ?_, ?_, fun j hj => ?_⟩, ?_, ?_, fun i hi => ?_⟩, ?_⟩
        · rw [zwr_off (Or.inr (by omega)), zwr_row (by omega), zwr_row (by omega), zwr_eq]
        · rw [zwr_off (Or.inr (by omega)), zwr_row (by omega), zwr_row (by omega), zwr_off (Or.inr (by omega))]
        · rw [zwr_row (by omega), zwr_row (by omega), zwr_eq]
        · dsimp only at hj
          rw [zwr_row (by omega), zwr_row (by omega), zwr_off (Or.inr (by omega)), zwr_row (by omega), e118]
          exact hro j (by omega)
        · rw [zwr_off (Or.inr (by omega)), zwr_row (by omega), zwr_row (by omega), zwr_off (Or.inr (by omega)), i5 49 (by omega)]; exact h2
        · rw [zwr_eq, zwr_row (by omega), zwr_row (by omega), zwr_off (Or.inr (by omega))]
        · rw [zwr_row (by omega), show (2 * (q : Int) + (l : Int) - 1).toNat = 2 * q + l - 1 by omega, zwr_at]
          dsimp only
          by_cases e : i = 2 * q + l - 1
          · rw [if_pos e, e, zset_eq, zwr_row (by omega), zwr_off (Or.inr (by omega))]
          · rw [if_neg e, zset_ne e, zwr_row (by omega), zwr_row (by omega), f1.1 117 (by decide) (by decide)]; exact h4 i hi
        · exact ((((f1.mono (by decide) (by decide)).wf (by decide)).wr (by decide) (by decide)).wr (by decide) (by decide)).wf (by decide)
end RL
section RM
variable {F : zFs} {D : zDa} {K : Nat → Int}
theorem kFl_in (K : Nat → Int) (bp bh : Int) (q : Nat) : -1 ≤ kFl K bp bh q ∧ kFl K bp bh q ≤ 2 := by
  unfold kFl
  split
  · have := kLv_lt (K := K) (bp := bp) q (kSs K bp bh q).1 (kSs K bp bh q).2.1 (kSs K bp bh q).2.2.1 (kSs K bp bh q).2.2.2
    omega
  · omega
theorem kSs_k {bp bh : Int} {q : Nat} : (kSs K bp bh (q + 1)).1 = if 0 < kFl K bp bh q then kKw K q (kSs K bp bh q).1 else (kSs K bp bh q).1 := by
  rw [kSs_s]
  unfold kSn kFl
  by_cases ho : K (5 * q + 4) = 0
  · rw [if_pos ho, if_pos ho]
    dsimp only
    by_cases e : kLv K bp q (kSs K bp bh q).1 (kSs K bp bh q).2.1 (kSs K bp bh q).2.2.1 (kSs K bp bh q).2.2.2 = 0
    · rw [if_pos e, if_neg (by omega)]
    · rw [if_neg e, if_pos (by omega)]
  · rw [if_neg ho, if_neg ho, if_neg (by omega)]
theorem kSs_16 (hk : kOk K) (bp bh : Int) : ∀ q, q ≤ (K 390).toNat → (kSs K bp bh q).1 < 16
  | 0, _ => by show 0 < 16; omega
  | q + 1, hq => by
    have ih := kSs_16 hk bp bh q (by omega)
    have o := hk.2.1 q (by omega)
    rw [kSs_k]
    split
    · exact kKw_lt (by omega) ih
    · exact ih
theorem rBack_91 {bp bh : Int} (hK : D 93 = K) (hk : kOk K) (hs : rSc D K) (hf : rFs D K bp bh (K 390).toNat) {T0 : bT} (hok : bTo T0 0) (hH : 0 ≤ K 106 ∧ K 106 ≤ 16) (hb : rBk D T0 (K 106)) :
    qS (zfix (fun _ _ => none) (fX12_laysBackward_91 F) zfu 2 D) (fun D' => rBk D' (kByN K bp bh (K 106) 1 (kByN K bp bh (K 106) 2 T0 (K 390).toNat) (K 390).toNat) (K 106) ∧ zfm [117, 118] [48, 49, 50, 51] D D') := by
  have h0 := hk.1
  have ok2 := kByN_ok (K := K) (bp := bp) (bh := bh) (H := K 106) (lev := 2) hok hH (K 390).toNat
  have one : ∀ (lev : Nat) (T1 : bT) (c0 : Nat) (k91 : Int → zDa → Option zDa) (D5 : zDa), (lev = 1 ∨ lev = 2) → bTo T1 c0 → c0 ≤ 40 → rBk D5 T1 (K 106) → zfm [117, 118] [48, 49, 50, 51] D D5 →
      (∀ D6, rBk D6 (kByN K bp bh (K 106) lev T1 (K 390).toNat) (K 106) → zfm [117, 118] [48, 49, 50, 51] D D6 → qS (k91 ((lev : Int) - 1) D6) (fun D' => rBk D' (kByN K bp bh (K 106) 1 (kByN K bp bh (K 106) 2 T0 (K 390).toNat) (K 390).toNat) (K 106) ∧ zfm [117, 118] [48, 49, 50, 51] D D')) →
      qS (zfix (fun _ _ _ => none) (fX12_laysBackward_99 F (lev : Int) k91) zfu 0 0 D5) (fun D' => rBk D' (kByN K bp bh (K 106) 1 (kByN K bp bh (K 106) 2 T0 (K 390).toNat) (K 390).toNat) (K 106) ∧ zfm [117, 118] [48, 49, 50, 51] D D') := by
    intro lev T1 c0 k91 D5 hlev hok1 hc0 b5 f5 hend
    refine qloop2 (fun v2 v3 D6 => ∃ q : Nat, v3 = (q : Int) ∧ q ≤ (K 390).toNat ∧ v2 = ((kSs K bp bh q).1 : Int) ∧ rBk D6 (kByN K bp bh (K 106) lev T1 q) (K 106) ∧ zfm [117, 118] [48, 49, 50, 51] D D6) (fun _ v3 _ => (100 - v3).toNat) ?_ ⟨0, rfl, by omega, rfl, b5, f5⟩ (zfu_gt (by omega))
    intro k99 v2 v3 D6 ⟨q, e3, hq, e2, b6, f6⟩ ih
    subst e3 e2
    have K6 : D6 93 = K := by rw [f6.1 93 (by decide) (by decide)]; exact hK
    have s6 : rSc D6 K := hs.fr (f6.1 111 (by decide) (by decide)) (f6.1 109 (by decide) (by decide)) (f6.1 110 (by decide) (by decide)) (f6.2 34 (by decide))
    have l6 : ∀ x, x < (K 390).toNat → D6 112 x = kFl K bp bh x := fun x hx => by rw [f6.1 112 (by decide) (by decide)]; exact hf x hx
    have k16 := kSs_16 hk bp bh q hq
    have ekk := kSs_k (K := K) (bp := bp) (bh := bh) (q := q)
    have ok6 := kByN_ok (K := K) (bp := bp) (bh := bh) (H := K 106) (lev := lev) hok1 hH q
    have ebs := kByN_s K bp bh (K 106) lev T1 q
    unfold fX12_laysBackward_99
    have eq : fX12_questions F D6 = some (K 390, D6) := by unfold fX12_questions; rw [K6]
    refine qS_step eq ?_
    refine qS_ite (fun c1 => ?_) (fun c1 => ?_)
    · have hqn : (q : Int) < K 390 := c1
      have fin : kFl K bp bh q = kFl K bp bh q := rfl
      have flv := l6 q (by omega)
      have next : ∀ (v2 : Int) (D7 : zDa), v2 = ((kSs K bp bh (q + 1)).1 : Int) → rBk D7 (kByN K bp bh (K 106) lev T1 (q + 1)) (K 106) → zfm [117, 118] [48, 49, 50, 51] D D7 → qS (fX12_laysBackward_192 F k91 k99 (lev : Int) v2 (q : Int) D7) (fun D' => rBk D' (kByN K bp bh (K 106) 1 (kByN K bp bh (K 106) 2 T0 (K 390).toNat) (K 390).toNat) (K 106) ∧ zfm [117, 118] [48, 49, 50, 51] D D') := by
        intro v2 D7 e2 b7 f7
        unfold fX12_laysBackward_192
        exact qS_chk (by omega) (ih _ _ _ ⟨q + 1, by omega, by omega, e2, b7, f7⟩ (by omega))
      dsimp only
      rw [show ((q : Int)).toNat = q by omega, flv]
      refine qS_chk (by omega) ?_
      refine qS_ite (fun c2 => ?_) (fun c2 => ?_)
      · rw [if_pos c2] at ekk
        refine qS_step (pX12_helpedBy K6 hk hqn k16) (qS_step (pX12_kingsWith K6 hk hqn k16) ?_)
        dsimp only
        have hbl := kHb_lt K q (kSs K bp bh q).1
        have co := s6.1 q hqn (kHb K q (kSs K bp bh q).1) hbl
        have t1 := kTakes_in K q 1 (kHb K q (kSs K bp bh q).1 : Int) 0
        have t2 := kTakes_in K q 2 (kHb K q (kSs K bp bh q).1 : Int) 0
        refine qS_ite (fun c3 => ?_) (fun c3 => ?_)
        · -- the lesson to level 1
          rw [flv] at c3
          have t173 : ∀ (D7 : zDa) (T2 : bT) (c2 : Nat), rBk D7 T2 (K 106) → bTo T2 c2 → c2 ≤ 200 → kByN K bp bh (K 106) lev T1 (q + 1) = kLd (K 106) T2 (kTakes K q 1 (kHb K q (kSs K bp bh q).1 : Int) 0) (2 * q) → zfm [117, 118] [48, 49, 50, 51] D D7 → qS (fX12_laysBackward_173 F k91 k99 (lev : Int) (kKw K q (kSs K bp bh q).1 : Int) (q : Int) (kHb K q (kSs K bp bh q).1 : Int) D7) (fun D' => rBk D' (kByN K bp bh (K 106) 1 (kByN K bp bh (K 106) 2 T0 (K 390).toNat) (K 390).toNat) (K 106) ∧ zfm [117, 118] [48, 49, 50, 51] D D') := by
            intro D7 T2 c2 b7 ok7 hc2 eT f7
            unfold fX12_laysBackward_173
            have e111 : D7 111 (4 * (q : Int) + 2 * (kHb K q (kSs K bp bh q).1 : Int)).toNat = kTakes K q 1 (kHb K q (kSs K bp bh q).1 : Int) 0 := by
              rw [show (4 * (q : Int) + 2 * (kHb K q (kSs K bp bh q).1 : Int)).toNat = 4 * q + 2 * kHb K q (kSs K bp bh q).1 by omega, f7.1 111 (by decide) (by decide), ← f6.1 111 (by decide) (by decide)]
              exact co.1
            rw [e111]
            refine qS_chk (by omega) ?_
            rw [show (1 : Int) = ((1 : Nat) : Int) from rfl]
            refine qS_call (pX12_laysLesson (l := 1) b7 ok7 hc2 hH (by omega) (by omega) t1) (fun D8 ⟨b8, f8⟩ => ?_)
            refine next _ D8 (by rw [ekk]) ?_ (f7.trans f8)
            rw [eT]; exact b8
          rcases hlev with rfl | rfl
          · refine qS_neg (by omega) (t173 D6 _ _ b6 ok6 (by omega) ?_ f6)
            rw [ebs]; unfold kByQ; rw [if_pos c3, if_neg (by omega)]
          · refine qS_pos rfl (qS_chk (by omega) ?_)
            have e111 : D6 111 (4 * (q : Int) + 2 * (kHb K q (kSs K bp bh q).1 : Int) + 1).toNat = kTakes K q 2 (kHb K q (kSs K bp bh q).1 : Int) 0 := by
              rw [show (4 * (q : Int) + 2 * (kHb K q (kSs K bp bh q).1 : Int) + 1).toNat = 4 * q + 2 * kHb K q (kSs K bp bh q).1 + 1 by omega]
              exact co.2
            rw [e111]
            refine qS_call (pX12_laysLesson (F := F) (l := 2) (q := q) b6 ok6 (by omega) hH (by omega) (by omega) t2) (fun D7 ⟨b7, f7⟩ => ?_)
            refine t173 D7 _ _ b7 (kLd_ok ok6 hH t2.1) (by omega) ?_ (f6.trans f7)
            rw [ebs]; unfold kByQ; rw [if_pos c3, if_pos rfl]
            rfl
        · rw [flv] at c3
          refine next _ D6 (by rw [ekk]) ?_ f6
          rw [ebs]; unfold kByQ; rw [if_neg c3]; exact b6
      · rw [if_neg c2] at ekk
        refine next _ D6 (by rw [ekk]) ?_ f6
        rw [ebs]; unfold kByQ; rw [if_neg (by omega)]; exact b6
    · have hqn : ¬ (q : Int) < K 390 := c1
      have : q = (K 390).toNat := by omega
      subst this
      refine qS_chk (by omega) ?_
      rw [show (lev : Int) + -1 = (lev : Int) - 1 by omega]
      exact hend D6 b6 f6
  refine qloop1 (fun v D5 => (v = 2 ∧ D5 = D) ∨ (v = 1 ∧ rBk D5 (kByN K bp bh (K 106) 2 T0 (K 390).toNat) (K 106) ∧ zfm [117, 118] [48, 49, 50, 51] D D5) ∨ (v = 0 ∧ rBk D5 (kByN K bp bh (K 106) 1 (kByN K bp bh (K 106) 2 T0 (K 390).toNat) (K 390).toNat) (K 106) ∧ zfm [117, 118] [48, 49, 50, 51] D D5)) (fun v _ => v.toNat) ?_ (Or.inl ⟨rfl, rfl⟩) (zfu_gt (by omega))
  intro k91 v D5 hv ih
  unfold fX12_laysBackward_91
  rcases hv with ⟨rfl, rfl⟩ | ⟨rfl, b5, f5⟩ | ⟨rfl, b5, f5⟩
  · refine qS_pos (by omega) ?_
    exact one 2 _ 0 k91 D5 (Or.inr rfl) hok (by omega) hb (zfm.rfl' _ _ D5) (fun D6 b6 f6 => ih _ _ (Or.inr (Or.inl ⟨by omega, b6, f6⟩)) (by omega))
  · refine qS_pos (by omega) ?_
    exact one 1 _ _ k91 D5 (Or.inl rfl) ok2 (by omega) b5 f5 (fun D6 b6 f6 => ih _ _ (Or.inr (Or.inr ⟨by omega, b6, f6⟩)) (by omega))
  · exact qS_neg (by omega) (qS_ret ⟨b5, f5⟩)
theorem pX12_laysBackward (hK : D 93 = K) (hk : kOk K) (hP : kPOk K) (hi : rSi D K) :
    qS (fX12_laysBackward F D) (fun D' => rBk D' (kBack K) (K 106) ∧ rSi D' K ∧ zfm [102, 103, 104, 105, 106, 107, 108, 109, 110, 111, 112, 117, 118] [18, 19, 20, 28, 29, 30, 34, 35, 36, 37, 48, 49, 50, 51] D D') := by
  have ht := kTerms hk
  have hm := mul2b (a := K 105) (b := K 106) (A := 20) (B := 16) (by omega) (by omega)
  have t5 : ∀ D0 : zDa, D0 93 = K → fX12_term F 5 D0 = some (K 105, D0) := fun D0 h => by rw [pX12_term (w := 5) (k := 5) rfl (by omega), h]
  have t6 : ∀ D0 : zDa, D0 93 = K → fX12_term F 6 D0 = some (K 106, D0) := fun D0 h => by rw [pX12_term (w := 6) (k := 6) rfl (by omega), h]
  unfold fX12_laysBackward
  refine qS_step (t5 D hK) (qS_step (t6 D hK) (qS_chk (by omega) ?_))
  refine qS_call (pX12_firsts hK hk hP hi (hours := K 105 * K 106) (by omega)) (fun D6 ⟨r6, s6, i6, f6⟩ => ?_)
  have eB : kBack K = kByN K (kBB K (K 105 * K 106)).1 (kBB K (K 105 * K 106)).2 (K 106) 1 (kByN K (kBB K (K 105 * K 106)).1 (kBB K (K 105 * K 106)).2 (K 106) 2 (K 105 - 1, K 106, 0, -1, fun _ => -1) (K 390).toNat) (K 390).toNat := rfl
  rw [eB]
  generalize (kBB K (K 105 * K 106)).1 = bp at *
  generalize (kBB K (K 105 * K 106)).2 = bh at *
  have K6 : D6 93 = K := by rw [f6.1 93 (by decide) (by decide)]; exact hK
  refine qloop1 (fun v D7 => ∃ i : Nat, v = (i : Int) ∧ i ≤ 40 ∧ (∀ j, j < i → D7 117 j = -1) ∧ zfm [117] [] D6 D7) (fun v _ => (100 - v).toNat) ?_ ⟨0, rfl, by omega, fun j hj => absurd hj (by omega), zfm.rfl' _ _ D6⟩ (zfu_gt (by omega))
  intro k18 v D7 ⟨i, ev, hi4, c7, f7⟩ ih
  subst ev
  unfold fX12_laysBackward_18
  refine qS_ite (fun c1 => ?_) (fun c1 => ?_)
  · refine qS_chk (by omega) (qS_leti (qS_chk (by omega) (ih _ _ ⟨i + 1, by omega, by omega, fun j hj => ?_, f7.wr (by decide) (by decide)⟩ (by omega))))
    rw [show ((i : Int)).toNat = i by omega, zwr_at]
    by_cases e : j = i
    · rw [if_pos e]
    · rw [if_neg e]; exact c7 j (by omega)
  · have : i = 40 := by omega
    subst this
    refine qloop1 (fun v D8 => ∃ i : Nat, v = (i : Int) ∧ i ≤ 20 ∧ (∀ j, j < i → D8 118 j = K 106) ∧ zfm [118] [] D7 D8) (fun v _ => (100 - v).toNat) ?_ ⟨0, rfl, by omega, fun j hj => absurd hj (by omega), zfm.rfl' _ _ D7⟩ (zfu_gt (by omega))
    intro k39 v D8 ⟨i, ev, hi2, c8, f8⟩ ih8
    subst ev
    have f78 : zfm [117, 118] [] D6 D8 := (f7.mono (by decide) (by decide)).trans (f8.mono (by decide) (by decide))
    have K8 : D8 93 = K := by rw [f78.1 93 (by decide) (by decide)]; exact K6
    unfold fX12_laysBackward_39
    refine qS_ite (fun c2 => ?_) (fun c2 => ?_)
    · refine qS_step (t6 D8 K8) (qS_chk (by omega) (qS_leti (qS_chk (by omega) (ih8 _ _ ⟨i + 1, by omega, by omega, fun j hj => ?_, f8.wr (by decide) (by decide)⟩ (by omega)))))
      rw [show ((i : Int)).toNat = i by omega, zwr_at]
      by_cases e : j = i
      · rw [if_pos e]
      · rw [if_neg e]; exact c8 j (by omega)
    · refine qS_step (t5 D8 K8) (qS_chk (by omega) (qS_leti (qS_leti (qS_leti (qS_leti ?_)))))
      have b16 : rBk (zwr (zwr (zwr (zwr D8 91 48 (K 105 - 1)) 91 49 0) 91 50 (-1)) 91 51 0) (K 105 - 1, K 106, 0, -1, fun _ => -1) (K 106) := by
        refine ⟨Or.inr ⟨by dsimp only; omega, zwr_eq, ?_, ?_, fun j hj => ?_⟩, ?_, ?_, fun j hj => ?_⟩
        · rw [zwr_off (Or.inr (by omega)), zwr_off (Or.inr (by omega)), zwr_off (Or.inr (by omega)), zwr_eq]
        · rw [zwr_row (by omega), zwr_row (by omega), zwr_row (by omega), zwr_row (by omega)]
          exact c8 _ (by dsimp only; omega)
        · dsimp only at hj
          rw [zwr_row (by omega), zwr_row (by omega), zwr_row (by omega), zwr_row (by omega)]
          exact c8 _ (by omega)
        · rw [zwr_off (Or.inr (by omega)), zwr_off (Or.inr (by omega)), zwr_eq]
        · rw [zwr_off (Or.inr (by omega)), zwr_eq]
        · rw [zwr_row (by omega), zwr_row (by omega), zwr_row (by omega), zwr_row (by omega), f8.1 117 (by decide) (by decide)]
          exact c7 j (by omega)
      have f16 : zfm [117, 118] [48, 49, 50, 51] D6 (zwr (zwr (zwr (zwr D8 91 48 (K 105 - 1)) 91 49 0) 91 50 (-1)) 91 51 0) := ((((f78.mono (by decide) (by decide)).wf (by decide)).wf (by decide)).wf (by decide)).wf (by decide)
      generalize zwr (zwr (zwr (zwr D8 91 48 (K 105 - 1)) 91 49 0) 91 50 (-1)) 91 51 0 = D16 at *
      have ok0 : bTo ((K 105 - 1, K 106, 0, -1, fun _ => -1) : bT) 0 := ⟨by dsimp only; omega, by dsimp only; omega, by dsimp only; omega⟩
      have s16 : rSc D16 K := s6.fr (f16.1 111 (by decide) (by decide)) (f16.1 109 (by decide) (by decide)) (f16.1 110 (by decide) (by decide)) (f16.2 34 (by decide))
      refine qS_mono (rBack_91 (bp := bp) (bh := bh) (by rw [f16.1 93 (by decide) (by decide)]; exact K6) hk s16 (fun x hx => by rw [f16.1 112 (by decide) (by decide)]; exact r6 x hx) ok0 (by omega) b16) (fun D9 ⟨b9, f9⟩ => ?_)
      have f69 := f16.trans f9
      have s9 : rSc D9 K := s6.fr (f69.1 111 (by decide) (by decide)) (f69.1 109 (by decide) (by decide)) (f69.1 110 (by decide) (by decide)) (f69.2 34 (by decide))
      refine ⟨b9, ⟨?_, fun _ => s9⟩, (f6.mono (by decide) (by decide)).trans (f69.mono (by decide) (by decide))⟩
      rw [f69.2 35 (by decide), f69.2 1 (by decide)]; exact i6.1
theorem pr_backward (hK : D 93 = K) (hk : kOk K) (hP : kPOk K) (hi : rSi D K) (q level : Int) :
    qS (fX12_backward F q level D) (fun x => x.1 = oBackward K q level ∧ rSi x.2 K ∧ zfm [102, 103, 104, 105, 106, 107, 108, 109, 110, 111, 112, 117, 118] [18, 19, 20, 28, 29, 30, 34, 35, 36, 37, 48, 49, 50, 51] D x.2) := by
  have h0 := hk.1
  have g13 : (q = -1 ∨ (0 ≤ q ∧ q < K 390)) → qS (fX12_backward_13 F q level D) (fun x => x.1 = oBackward K q level ∧ rSi x.2 K ∧ zfm [102, 103, 104, 105, 106, 107, 108, 109, 110, 111, 112, 117, 118] [18, 19, 20, 28, 29, 30, 34, 35, 36, 37, 48, 49, 50, 51] D x.2) := by
    intro hq
    unfold fX12_backward_13 oBackward
    by_cases hl : 1 ≤ level ∧ level ≤ 2
    · rw [if_pos ⟨hl, hq⟩]
      refine qS_step (lies_t hl) (qS_neg (by omega) ?_)
      refine qS_call (pX12_laysBackward hK hk hP hi) (fun D4 ⟨b4, i4, f4⟩ => ?_)
      obtain ⟨_, c1, c2, c3⟩ := b4
      by_cases e : q = -1
      · rw [if_pos e, if_pos e]
        refine qS_ite (fun e2 => ?_) (fun e2 => ?_)
        · rw [if_pos e2]; exact qS_ret ⟨c1, i4, f4⟩
        · rw [if_neg e2]; exact qS_ret ⟨c2, i4, f4⟩
      · rw [if_neg e, if_neg e]
        exact qS_chk (by omega) (qS_ret ⟨c3 _ (by omega), i4, f4⟩)
    · rw [if_neg (fun x => hl x.1)]
      exact qS_step (lies_f hl) (qS_pos rfl (qS_ret ⟨rfl, hi, zfm.rfl' _ _ D⟩))
  unfold fX12_backward
  refine qS_ite (fun e => g13 (Or.inl e)) (fun e => ?_)
  by_cases hq : 0 ≤ q ∧ q < K 390
  · exact qS_step (isQ_t hK hk hq) (qS_neg (by omega) (g13 (Or.inr hq)))
  · refine qS_step (isQ_f hK hk hq) (qS_pos rfl (qS_ret ⟨?_, hi, zfm.rfl' _ _ D⟩))
    unfold oBackward
    rw [if_neg (fun x => by have := x.2; omega)]
end RM
