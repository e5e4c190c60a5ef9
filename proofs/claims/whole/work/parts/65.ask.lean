/-! ===== questions that change nothing ===== -/
def kOf (K : Nat → Int) (q w : Int) : Int := if (0 ≤ q ∧ q < K 390) ∧ (0 ≤ w ∧ w ≤ 4) then K (5 * q.toNat + w.toNat) else -1
def kBit (z : Int) (q : Nat) : Int := if z.toNat.testBit q then 1 else 0
def kTimesN (K : Nat → Int) (q n : Nat) : Int := match n with
  | 0 => 0
  | n + 1 => kTimesN K q n + kBit (K (350 + n)) q
def kTimes (K : Nat → Int) (q : Nat) : Int := kTimesN K q (K 392).toNat
def kAgoN (K : Nat → Int) (q m : Nat) (k : Int) : Int := match m with
  | 0 => -1
  | m + 1 => if kBit (K (350 + m)) q = 1 then k else kAgoN K q m (k + 1)
def kDrawn (K : Nat → Int) (q w : Int) : Int := if 0 ≤ q ∧ q < K 390 then (if w = 0 then kTimes K q.toNat else if w = 1 then kAgoN K q.toNat (K 392).toNat 0 else -1) else -1
def kBowlN (K : Nat → Int) (n : Nat) : Int := match n with
  | 0 => 0
  | n + 1 => kBowlN K n + (if K (5 * n + 4) = 0 then 1 else 0)
def kBowl (K : Nat → Int) : Int := kBowlN K (K 390).toNat
def kKnownN (K : Nat → Int) (n : Nat) : Int := match n with
  | 0 => 0
  | n + 1 => kKnownN K n + (if 0 < K (5 * n + 2) then 1 else 0)
def kKnown (K : Nat → Int) : Int := kKnownN K (K 390).toNat
theorem kBit_in (z : Int) (q : Nat) : 0 ≤ kBit z q ∧ kBit z q ≤ 1 := by unfold kBit; split <;> omega
theorem kTimesN_in (K : Nat → Int) (q n : Nat) : 0 ≤ kTimesN K q n ∧ kTimesN K q n ≤ n := by
  induction n with
  | zero => simp [kTimesN]
  | succ n ih => have := kBit_in (K (350 + n)) q; unfold kTimesN; omega
theorem kBowlN_in (K : Nat → Int) (n : Nat) : 0 ≤ kBowlN K n ∧ kBowlN K n ≤ n := by
  induction n with
  | zero => simp [kBowlN]
  | succ n ih => unfold kBowlN; split <;> omega
theorem kKnownN_in (K : Nat → Int) (n : Nat) : 0 ≤ kKnownN K n ∧ kKnownN K n ≤ n := by
  induction n with
  | zero => simp [kKnownN]
  | succ n ih => unfold kKnownN; split <;> omega
theorem zpow20 {y : Int} {n : Nat} (h : y < 2 ^ n) (hn : n ≤ 20) : y < 1048576 := by
  have := zpow_le h hn
  omega
theorem kBit_u {z : Int} {q : Nat} (h : 0 ≤ z ∧ z < 1048576) (hq : q < 20) : zand (zushr z (q : Int)) 1 = kBit z q := by
  obtain ⟨a, rfl⟩ : ∃ a : Nat, z = (a : Int) := ⟨z.toNat, by omega⟩
  rw [zbit_ushr (by omega) (by omega)]; rfl
theorem kBit_s {z : Int} {q : Nat} (h : 0 ≤ z ∧ z < 1048576) (hq : q < 20) : zand (zshr z (q : Int)) 1 = kBit z q := by
  obtain ⟨a, rfl⟩ : ∃ a : Nat, z = (a : Int) := ⟨z.toNat, by omega⟩
  rw [zbit_shr (by omega) (by omega)]; rfl
section CQ
variable {F : zFs} {D D1 : zDa} {Z : Nat → Prop} {K K' : Nat → Int} {im : Nat → Option (Nat → Int)} {tp : Nat → Int} {tl : Int} {ms : Nat → Int} {c : Nat}
theorem pc_of (h : qSt F D Z 1 K) (q w : Int) : qS (fX11_of F q w D) (fun r => r = (kOf K q w, D)) := by
  have hk1 := h.1.1
  have e5 := h.2.1
  unfold fX11_of kOf
  refine qS_step (pX9_has q) ?_
  dsimp only
  rw [e5]
  by_cases hq : 0 ≤ q ∧ q < K 390
  · have e2 := h.2.2.1 q.toNat (by omega)
    rw [if_pos hq]
    refine qS_neg (by omega) (qS_ite (fun h0 => qS_chk (by omega) (qS_ret ?_)) (fun h0 => qS_ite (fun h1 => qS_chk (by omega) (qS_ret ?_)) (fun h1 => qS_ite (fun h2 => qS_chk (by omega) (qS_ret ?_)) (fun h2 => qS_ite (fun h3 => qS_chk (by omega) (qS_ret ?_)) (fun h3 => qS_ite (fun h4 => qS_chk (by omega) (qS_ret ?_)) (fun h4 => qS_ret ?_))))))
    · subst h0; rw [if_pos ⟨hq, by omega⟩]; exact congrArg (fun x => (x, D)) e2.1
    · subst h1; rw [if_pos ⟨hq, by omega⟩]; exact congrArg (fun x => (x, D)) e2.2.1
    · subst h2; rw [if_pos ⟨hq, by omega⟩]; exact congrArg (fun x => (x, D)) e2.2.2.1
    · subst h3; rw [if_pos ⟨hq, by omega⟩]; exact congrArg (fun x => (x, D)) e2.2.2.2.1
    · subst h4; rw [if_pos ⟨hq, by omega⟩]; exact congrArg (fun x => (x, D)) e2.2.2.2.2
    · rw [if_neg (by omega)]
  · rw [if_neg hq]
    refine qS_pos rfl (qS_ret ?_)
    rw [if_neg (fun hh => hq hh.1)]
theorem pr_of (hK : D 93 = K) (hk : kOk K) (q w : Int) : qS (fX12_of F q w D) (fun r => r = (kOf K q w, D)) := by
  have hk1 := hk.1
  unfold fX12_of kOf
  refine qS_step (pX12_isQuestion (by rw [hK]; exact hk) q) ?_
  dsimp only
  rw [hK]
  by_cases hq : 0 ≤ q ∧ q < K 390
  · rw [if_pos hq]
    refine qS_neg (by omega) (qS_step (pX12_lies _ _ _) ?_)
    dsimp only
    by_cases hw : 0 ≤ w ∧ w ≤ 4
    · rw [if_pos hw]
      refine qS_neg (by omega) (qS_step (pX12_factOf (q := q.toNat) (k := w.toNat) (by omega) (by omega) (by omega)) (qS_ret ?_))
      rw [if_pos ⟨hq, hw⟩, hK]
    · rw [if_neg hw]
      refine qS_pos rfl (qS_ret ?_)
      rw [if_neg (fun hh => hw hh.2)]
  · rw [if_neg hq]
    refine qS_pos rfl (qS_ret ?_)
    rw [if_neg (fun hh => hq hh.1)]
theorem pX9_timesDrawn (h : qSt F D Z 1 K) {q : Nat} (hq : q < 20) : qS (fX9_timesDrawn F (q : Int) D) (fun r => r = (kTimes K q, D)) := by
  have hk1 := h.1.1
  have hk6 := h.1.2.2.2.2.2.1
  have e7 := h.2.2.2.2.2.2.1
  unfold fX9_timesDrawn
  refine qloop2 (fun v2 v3 D1 => ∃ i : Nat, v3 = (i : Int) ∧ (i : Int) ≤ K 392 ∧ v2 = kTimesN K q i ∧ D1 = D) (fun _ v3 _ => (1000 - v3).toNat) ?_ ⟨0, by omega, by omega, rfl, rfl⟩ (zfu_gt (by omega))
  intro k v2 v3 D1 ⟨i, ei, hi, ev, eD⟩ ih
  subst eD
  subst ei
  have ht := kTimesN_in K q i
  unfold fX9_timesDrawn_4
  refine qS_ite (fun hlt => ?_) (fun hlt => qS_ret ?_)
  · rw [show ((i : Int)).toNat = i by omega, e7.2 i (by omega)]
    have hy := hk6.2 i (by omega)
    have hb := kBit_u (z := K (350 + i)) (q := q) ⟨hy.1, zpow20 hy.2 (by omega)⟩ hq
    have hb2 := kBit_in (K (350 + i)) q
    rw [hb]
    refine qS_chk (by omega) (qS_leti (qS_chk (by omega) (ih _ _ _ ⟨i + 1, by omega, by omega, ?_, rfl⟩ (by omega))))
    rw [ev]; rfl
  · rw [ev]; unfold kTimes; rw [show (K 392).toNat = i by omega]
theorem pX12_drawnTimes (hK : D 93 = K) (hk : kOk K) {q : Nat} (hq : q < 20) : qS (fX12_drawnTimes F (q : Int) D) (fun r => r = (kTimes K q, D)) := by
  have hk1 := hk.1
  have hk6 := hk.2.2.2.2.2.1
  unfold fX12_drawnTimes
  refine qloop2 (fun v2 v3 D1 => ∃ i : Nat, v3 = (i : Int) ∧ (i : Int) ≤ K 392 ∧ v2 = kTimesN K q i ∧ D1 = D) (fun _ v3 _ => (1000 - v3).toNat) ?_ ⟨0, by omega, by omega, rfl, rfl⟩ (zfu_gt (by omega))
  intro k v2 v3 D1 ⟨i, ei, hi, ev, eD⟩ ih
  subst eD
  subst ei
  have ht := kTimesN_in K q i
  unfold fX12_drawnTimes_4
  rw [hK]
  refine qS_ite (fun hlt => ?_) (fun hlt => qS_ret ?_)
  · rw [show (350 + (i : Int)).toNat = 350 + i by omega]
    have hy := hk6.2 i (by omega)
    have hb := kBit_s (z := K (350 + i)) (q := q) ⟨hy.1, zpow20 hy.2 (by omega)⟩ hq
    have hb2 := kBit_in (K (350 + i)) q
    rw [hb]
    refine qS_chk (by omega) (qS_leti (qS_chk (by omega) (ih _ _ _ ⟨i + 1, by omega, by omega, ?_, rfl⟩ (by omega))))
    rw [ev]; rfl
  · rw [ev]; unfold kTimes; rw [show (K 392).toNat = i by omega]
theorem pX9_yearsAgo (h : qSt F D Z 1 K) {q : Nat} (hq : q < 20) : qS (fX9_yearsAgo F (q : Int) D) (fun r => r = (kAgoN K q (K 392).toNat 0, D)) := by
  have hk1 := h.1.1
  have hk6 := h.1.2.2.2.2.2.1
  have e7 := h.2.2.2.2.2.2.1
  unfold fX9_yearsAgo
  refine qloop1 (fun v2 D1 => ∃ m : Nat, (m : Int) ≤ K 392 ∧ v2 = K 392 - m ∧ kAgoN K q (K 392).toNat 0 = kAgoN K q m v2 ∧ D1 = D) (fun v3 _ => (1000 - v3).toNat) ?_ ⟨(K 392).toNat, by omega, by omega, by simp, rfl⟩ (zfu_gt (by omega))
  intro k v2 D1 ⟨m, hm, ev, ea, eD⟩ ih
  subst eD
  unfold fX9_yearsAgo_2
  rw [e7.1]
  refine qS_ite (fun hlt => ?_) (fun hlt => qS_ret ?_)
  · obtain ⟨m', rfl⟩ : ∃ m', m = m' + 1 := ⟨m - 1, by omega⟩
    rw [show ((K 392 - 1) - v2).toNat = m' by omega, e7.2 m' (by omega)]
    have hy := hk6.2 m' (by omega)
    have hb := kBit_u (z := K (350 + m')) (q := q) ⟨hy.1, zpow20 hy.2 (by omega)⟩ hq
    rw [hb]
    refine qS_chk (by omega) (qS_ite (fun h1 => qS_ret ?_) (fun h1 => qS_chk (by omega) (ih _ _ ⟨m', by omega, by omega, ?_, rfl⟩ (by omega))))
    · rw [ea]; unfold kAgoN; rw [if_pos h1]
    · rw [ea]; conv => lhs; unfold kAgoN
      rw [if_neg h1]
  · have : m = 0 := by omega
    subst this
    rw [ea]; rfl
theorem pc_drawn (h : qSt F D Z 1 K) (q w : Int) : qS (fX11_drawn F q w D) (fun r => r = (kDrawn K q w, D)) := by
  have hk1 := h.1.1
  have e5 := h.2.1
  unfold fX11_drawn kDrawn
  refine qS_step (pX9_has q) ?_
  dsimp only
  rw [e5]
  by_cases hq : 0 ≤ q ∧ q < K 390
  · rw [if_pos hq, if_pos hq]
    have en : q = (q.toNat : Int) := by omega
    refine qS_neg (by omega) (qS_ite (fun h0 => ?_) (fun h0 => qS_ite (fun h1 => ?_) (fun h1 => qS_ret ?_)))
    · rw [if_pos h0]
      refine qS_call (by rw [en]; exact pX9_timesDrawn h (q := q.toNat) (by omega)) (fun r hr => ?_)
      subst hr; exact qS_ret rfl
    · rw [if_neg h0, if_pos h1]
      refine qS_call (by rw [en]; exact pX9_yearsAgo h (q := q.toNat) (by omega)) (fun r hr => ?_)
      subst hr; exact qS_ret rfl
    · rw [if_neg h0, if_neg h1]
  · rw [if_neg hq, if_neg hq]
    exact qS_pos rfl (qS_ret rfl)
theorem pr_drawn (hK : D 93 = K) (hk : kOk K) (q w : Int) : qS (fX12_drawn F q w D) (fun r => r = (kDrawn K q w, D)) := by
  have hk1 := hk.1
  have hk6 := hk.2.2.2.2.2.1
  unfold fX12_drawn kDrawn
  refine qS_step (pX12_isQuestion (by rw [hK]; exact hk) q) ?_
  dsimp only
  rw [hK]
  by_cases hq : 0 ≤ q ∧ q < K 390
  · rw [if_pos hq, if_pos hq]
    have en : q = (q.toNat : Int) := by omega
    refine qS_neg (by omega) (qS_step (pX12_lies _ _ _) ?_)
    dsimp only
    by_cases hw : 0 ≤ w ∧ w ≤ 1
    · rw [if_pos hw]
      refine qS_neg (by omega) (qS_ite (fun h0 => ?_) (fun h0 => ?_))
      · rw [if_pos h0]
        refine qS_call (by rw [en]; exact pX12_drawnTimes hK hk (q := q.toNat) (by omega)) (fun r hr => ?_)
        subst hr; exact qS_ret rfl
      · rw [if_neg h0, if_pos (by omega), en]
        generalize q.toNat = n at *
        subst en
        refine qloop1 (fun v2 D1 => ∃ m : Nat, (m : Int) ≤ K 392 ∧ v2 = K 392 - m ∧ kAgoN K n (K 392).toNat 0 = kAgoN K n m v2 ∧ D1 = D) (fun v3 _ => (1000 - v3).toNat) ?_ ⟨(K 392).toNat, by omega, by omega, by simp, rfl⟩ (zfu_gt (by omega))
        intro k v2 D1 ⟨m, hm, ev, ea, eD⟩ ih
        subst eD
        unfold fX12_drawn_31
        rw [hK]
        refine qS_ite (fun hlt => ?_) (fun hlt => qS_ret ?_)
        · obtain ⟨m', rfl⟩ : ∃ m', m = m' + 1 := ⟨m - 1, by omega⟩
          rw [show ((350 + K 392 - 1) - v2).toNat = 350 + m' by omega]
          have hy := hk6.2 m' (by omega)
          have hb := kBit_s (z := K (350 + m')) (q := n) ⟨hy.1, zpow20 hy.2 (by omega)⟩ (by omega)
          rw [hb]
          refine qS_chk (by omega) (qS_ite (fun h1 => qS_ret ?_) (fun h1 => qS_chk (by omega) (ih _ _ ⟨m', by omega, by omega, ?_, rfl⟩ (by omega))))
          · rw [show ((n : Int)).toNat = n by omega, ea]; unfold kAgoN; rw [if_pos h1]
          · rw [ea]; conv => lhs; unfold kAgoN
            rw [if_neg h1]
        · have : m = 0 := by omega
          subst this
          rw [show ((n : Int)).toNat = n by omega, ea]; rfl
    · have a0 : ¬ w = 0 := by omega
      have a1 : ¬ w = 1 := by omega
      rw [if_neg hw]
      exact qS_pos rfl (qS_ret (by rw [if_neg a0, if_neg a1]))
  · rw [if_neg hq, if_neg hq]
    exact qS_pos rfl (qS_ret rfl)
theorem pX9_bowlSize (h : qSt F D Z 1 K) : qS (fX9_bowlSize F D) (fun r => r = (kBowl K, D)) := by
  have hk1 := h.1.1
  unfold fX9_bowlSize
  refine qloop2 (fun v2 v3 D1 => ∃ i : Nat, v3 = (i : Int) ∧ (i : Int) ≤ K 390 ∧ v2 = kBowlN K i ∧ D1 = D) (fun _ v3 _ => (1000 - v3).toNat) ?_ ⟨0, by omega, by omega, rfl, rfl⟩ (zfu_gt (by omega))
  intro k v2 v3 D1 ⟨i, ei, hi, ev, eD⟩ ih
  subst eD
  subst ei
  have ht := kBowlN_in K i
  unfold fX9_bowlSize_4
  rw [h.2.1]
  refine qS_ite (fun hlt => ?_) (fun hlt => qS_ret ?_)
  · have e6 := (h.2.2.1 i (by omega)).2.2.2.2
    have r6 := (h.1.2.1 i (by omega)).2.2.2.2
    rw [show ((i : Int)).toNat = i by omega, show D1 6 i = K (5 * i + 4) from e6]
    refine qS_chk (by omega) (qS_leti (qS_chk (by omega) (ih _ _ _ ⟨i + 1, by omega, by omega, ?_, rfl⟩ (by omega))))
    rw [ev]
    conv => rhs; unfold kBowlN
    split <;> omega
  · rw [ev]; unfold kBowl; rw [show (K 390).toNat = i by omega]
theorem pX9_knownCount (h : qSt F D Z 1 K) : qS (fX9_knownCount F D) (fun r => r = (kKnown K, D)) := by
  have hk1 := h.1.1
  unfold fX9_knownCount
  refine qloop2 (fun v2 v3 D1 => ∃ i : Nat, v3 = (i : Int) ∧ (i : Int) ≤ K 390 ∧ v2 = kKnownN K i ∧ D1 = D) (fun _ v3 _ => (1000 - v3).toNat) ?_ ⟨0, by omega, by omega, rfl, rfl⟩ (zfu_gt (by omega))
  intro k v2 v3 D1 ⟨i, ei, hi, ev, eD⟩ ih
  subst eD
  subst ei
  have ht := kKnownN_in K i
  unfold fX9_knownCount_4 fX9_knownCount_24
  rw [h.2.1]
  refine qS_ite (fun hlt => ?_) (fun hlt => qS_ret ?_)
  · have e6 := (h.2.2.1 i (by omega)).2.2.1
    rw [show ((i : Int)).toNat = i by omega, show D1 4 i = K (5 * i + 2) from e6]
    refine qS_chk (by omega) (qS_ite (fun h1 => qS_chk (by omega) (qS_chk (by omega) (ih _ _ _ ⟨i + 1, by omega, by omega, ?_, rfl⟩ (by omega)))) (fun h1 => qS_chk (by omega) (ih _ _ _ ⟨i + 1, by omega, by omega, ?_, rfl⟩ (by omega))))
    · conv => rhs; unfold kKnownN
      rw [if_pos h1, ev]
    · conv => rhs; unfold kKnownN
      rw [if_neg h1, ev]; omega
  · rw [ev]; unfold kKnown; rw [show (K 390).toNat = i by omega]
theorem pX12_isBowl {v : Int} {q : Nat} (hv : v = (q : Int)) (hq : q < 1000) : fX12_isBowl F v D = some (if D 93 (5 * q + 4) = 0 then 1 else 0, D) := by
  unfold fX12_isBowl
  rw [pX12_factOf (w := 4) (k := 4) hv rfl ⟨hq, by omega⟩]
  show (if D 93 (5 * q + 4) = 0 then some ((1 : Int), D) else some (0, D)) = _
  split <;> rfl
theorem pX12_bowl (hK : D 93 = K) (hk : kOk K) : qS (fX12_bowl F D) (fun r => r = (kBowl K, D)) := by
  have hk1 := hk.1
  unfold fX12_bowl
  refine qloop2 (fun v2 v3 D1 => ∃ i : Nat, v3 = (i : Int) ∧ (i : Int) ≤ K 390 ∧ v2 = kBowlN K i ∧ D1 = D) (fun _ v3 _ => (1000 - v3).toNat) ?_ ⟨0, by omega, by omega, rfl, rfl⟩ (zfu_gt (by omega))
  intro k v2 v3 D1 ⟨i, ei, hi, ev, eD⟩ ih
  subst eD
  subst ei
  have ht := kBowlN_in K i
  unfold fX12_bowl_4
  refine qS_step (r := (K 390, D1)) (by unfold fX12_questions; rw [hK]) ?_
  dsimp only
  refine qS_ite (fun hlt => ?_) (fun hlt => qS_ret ?_)
  · refine qS_step (pX12_isBowl (q := i) rfl (by omega)) ?_
    dsimp only
    rw [hK]
    unfold fX12_bowl_26
    by_cases h4 : K (5 * i + 4) = 0
    · rw [if_pos h4]
      refine qS_neg (by omega) (qS_chk (by omega) (qS_leti (qS_chk (by omega) (ih _ _ _ ⟨i + 1, by omega, by omega, ?_, rfl⟩ (by omega)))))
      conv => rhs; unfold kBowlN
      rw [if_pos h4, ev]
    · rw [if_neg h4]
      refine qS_pos rfl (qS_chk (by omega) (qS_leti (qS_chk (by omega) (ih _ _ _ ⟨i + 1, by omega, by omega, ?_, rfl⟩ (by omega)))))
      conv => rhs; unfold kBowlN
      rw [if_neg h4, ev]
  · rw [ev]; unfold kBowl; rw [show (K 390).toNat = i by omega]
def kCount (K : Nat → Int) (tl : Int) (ms : Nat → Int) (w : Int) : Int :=
  if w = 0 then K 390 else if w = 1 then kBowl K else if w = 2 then K 393 else if w = 3 then K 391 else if w = 4 then K 392 else if w = 5 then kKnown K else if w = 6 then tl
  else if w = 7 then ms 1 else if w = 8 then ms 2 else if w = 9 then ms 3 else if w = 10 then ms 5 else if w = 11 then ms 6 else if w = 12 then K 394 else -1
theorem pc_count (h : cA F D Z K im tp tl ms c) (w : Int) : qS (fX11_count F w D) (fun r => r = (kCount K tl ms w, D)) := by
  obtain ⟨_, e5, e2, e3, ⟨e4, e4'⟩, e6, ⟨e7, e7'⟩, e8, e9, e10, e11⟩ := h.st
  have ht := h.2.2.1.1.1
  have hm := h.2.2.2.1.2.2.2.2.2.2
  unfold fX11_count kCount
  refine qS_ite (fun h0 => qS_ret (by rw [if_pos h0, e5])) (fun h0 => ?_)
  rw [if_neg h0]
  refine qS_ite (fun h0 => ?_) (fun h0 => ?_)
  · rw [if_pos h0]
    exact qS_call (pX9_bowlSize h.st) (fun r hr => by subst hr; exact qS_ret rfl)
  rw [if_neg h0]
  refine qS_ite (fun h0 => qS_ret (by rw [if_pos h0, e8])) (fun h0 => ?_)
  rw [if_neg h0]
  refine qS_ite (fun h0 => qS_ret (by rw [if_pos h0, e4])) (fun h0 => ?_)
  rw [if_neg h0]
  refine qS_ite (fun h0 => qS_ret (by rw [if_pos h0, e7])) (fun h0 => ?_)
  rw [if_neg h0]
  refine qS_ite (fun h0 => ?_) (fun h0 => ?_)
  · rw [if_pos h0]
    exact qS_call (pX9_knownCount h.st) (fun r hr => by subst hr; exact qS_ret rfl)
  rw [if_neg h0]
  refine qS_ite (fun h0 => qS_ret (by rw [if_pos h0, ht])) (fun h0 => ?_)
  rw [if_neg h0]
  refine qS_ite (fun h0 => qS_ret (by rw [if_pos h0, (hm 1 (by omega) (by omega)).1])) (fun h0 => ?_)
  rw [if_neg h0]
  refine qS_ite (fun h0 => qS_ret (by rw [if_pos h0, (hm 2 (by omega) (by omega)).1])) (fun h0 => ?_)
  rw [if_neg h0]
  refine qS_ite (fun h0 => qS_ret (by rw [if_pos h0, (hm 3 (by omega) (by omega)).1])) (fun h0 => ?_)
  rw [if_neg h0]
  refine qS_ite (fun h0 => qS_ret (by rw [if_pos h0, (hm 5 (by omega) (by omega)).1])) (fun h0 => ?_)
  rw [if_neg h0]
  refine qS_ite (fun h0 => qS_ret (by rw [if_pos h0, (hm 6 (by omega) (by omega)).1])) (fun h0 => ?_)
  rw [if_neg h0]
  exact qS_ite (fun h0 => qS_ret (by rw [if_pos h0, e9])) (fun h0 => qS_ret (by rw [if_neg h0]))
theorem pr_count (h : rA D K im tp tl ms c) (w : Int) : qS (fX12_count F w D) (fun r => r = (kCount K tl ms w, D)) := by
  have hK := h.1.1
  have hk := h.1.2.1
  have hk1 := hk.1
  have ht := h.2.2.1.1.1
  have hm := h.2.2.2.1.2.2.2.2.2.2
  unfold fX12_count
  refine qloop2 (fun v2 v3 D1 => ∃ i : Nat, v3 = (i : Int) ∧ (i : Int) ≤ K 390 ∧ v2 = kKnownN K i ∧ D1 = D) (fun _ v3 _ => (1000 - v3).toNat) ?_ ⟨0, by omega, by omega, rfl, rfl⟩ (zfu_gt (by omega))
  intro k v2 v3 D1 ⟨i, ei, hi, ev, eD⟩ ih
  subst eD
  subst ei
  have htn := kKnownN_in K i
  unfold fX12_count_4
  refine qS_step (r := (K 390, D1)) (by unfold fX12_questions; rw [hK]) ?_
  dsimp only
  refine qS_ite (fun hlt => ?_) (fun hlt => ?_)
  · refine qS_step (pX12_factOf (q := i) (k := 2) rfl rfl (by omega)) ?_
    dsimp only
    rw [hK]
    unfold fX12_count_27
    refine qS_ite (fun h1 => ?_) (fun h1 => ?_)
    · refine qS_chk (by omega) (qS_leti (qS_chk (by omega) (ih _ _ _ ⟨i + 1, by omega, by omega, ?_, rfl⟩ (by omega))))
      conv => rhs; unfold kKnownN
      rw [if_pos h1, ev]
    · refine qS_chk (by omega) (qS_leti (qS_chk (by omega) (ih _ _ _ ⟨i + 1, by omega, by omega, ?_, rfl⟩ (by omega))))
      conv => rhs; unfold kKnownN
      rw [if_neg h1, ev]
  · unfold kCount
    refine qS_ite (fun h0 => qS_step (r := (K 390, D1)) (by unfold fX12_questions; rw [hK]) (qS_ret (by rw [if_pos h0]))) (fun h0 => ?_)
    rw [if_neg h0]
    refine qS_ite (fun h0 => ?_) (fun h0 => ?_)
    · rw [if_pos h0]
      exact qS_call (pX12_bowl hK hk) (fun r hr => by subst hr; exact qS_ret rfl)
    rw [if_neg h0]
    refine qS_ite (fun h0 => qS_ret (by rw [if_pos h0, hK])) (fun h0 => ?_)
    rw [if_neg h0]
    refine qS_ite (fun h0 => qS_ret (by rw [if_pos h0, hK])) (fun h0 => ?_)
    rw [if_neg h0]
    refine qS_ite (fun h0 => qS_ret (by rw [if_pos h0, hK])) (fun h0 => ?_)
    rw [if_neg h0]
    refine qS_ite (fun h0 => qS_ret (by rw [if_pos h0, ev]; unfold kKnown; rw [show (K 390).toNat = i by omega])) (fun h0 => ?_)
    rw [if_neg h0]
    refine qS_ite (fun h0 => qS_ret (by rw [if_pos h0, ht])) (fun h0 => ?_)
    rw [if_neg h0]
    refine qS_ite (fun h0 => qS_chk (by omega) (qS_ret (by rw [if_pos h0, show (w - 6).toNat = 1 by omega, (hm 1 (by omega) (by omega)).1]))) (fun h0 => ?_)
    rw [if_neg h0]
    refine qS_ite (fun h0 => qS_chk (by omega) (qS_ret (by rw [if_pos h0, show (w - 6).toNat = 2 by omega, (hm 2 (by omega) (by omega)).1]))) (fun h0 => ?_)
    rw [if_neg h0]
    refine qS_ite (fun h0 => qS_chk (by omega) (qS_ret (by rw [if_pos h0, show (w - 6).toNat = 3 by omega, (hm 3 (by omega) (by omega)).1]))) (fun h0 => ?_)
    rw [if_neg h0]
    refine qS_ite (fun h0 => qS_ret (by rw [if_pos h0, (hm 5 (by omega) (by omega)).1])) (fun h0 => ?_)
    rw [if_neg h0]
    refine qS_ite (fun h0 => qS_ret (by rw [if_pos h0, (hm 6 (by omega) (by omega)).1])) (fun h0 => ?_)
    rw [if_neg h0]
    exact qS_ite (fun h0 => qS_ret (by rw [if_pos h0, hK])) (fun h0 => qS_ret (by rw [if_neg h0]))
def kTable (ms : Nat → Int) (w : Int) : Int := if 0 ≤ w ∧ w ≤ 2 then ms (9 + w.toNat) else -1
theorem pc_table (h : cA F D Z K im tp tl ms c) (w : Int) : qS (fX11_table F w D) (fun r => r = (kTable ms w, D)) := by
  have hm := h.2.2.2.1
  unfold fX11_table kTable
  refine qS_ite (fun h1 => qS_ret (by rw [if_neg (by omega)])) (fun h1 => qS_ite (fun h2 => qS_chk (by omega) (qS_ret ?_)) (fun h2 => qS_ret (by rw [if_neg (by omega)])))
  rw [if_pos (by omega)]
  have : w = 0 ∨ w = 1 ∨ w = 2 := by omega
  rcases this with rfl | rfl | rfl
  · exact congrArg (fun x => (x, D)) hm.2.2.2.1
  · exact congrArg (fun x => (x, D)) hm.2.2.2.2.1
  · exact congrArg (fun x => (x, D)) hm.2.2.2.2.2.1
theorem pr_table (h : rA D K im tp tl ms c) (w : Int) : qS (fX12_table F w D) (fun r => r = (kTable ms w, D)) := by
  obtain ⟨m0, m1, m2, m3, m4, m5, m6⟩ := h.2.2.2.1
  unfold fX12_table kTable
  refine qS_ite (fun h1 => qS_ret ?_) (fun h1 => ?_)
  · have hx := m4 (by omega)
    by_cases hw : 0 ≤ w ∧ w ≤ 2
    · rw [if_pos hw]
      have : w = 0 ∨ w = 1 ∨ w = 2 := by omega
      rcases this with rfl | rfl | rfl
      · exact congrArg (fun x => (x, D)) (h1.symm.trans m3)
      · exact congrArg (fun x => (x, D)) hx.1.symm
      · exact congrArg (fun x => (x, D)) hx.2.symm
    · rw [if_neg hw]
  · have hx := m5 (by omega)
    refine qS_step (pX12_lies _ _ _) ?_
    dsimp only
    by_cases hw : 0 ≤ w ∧ w ≤ 2
    · rw [if_pos hw, if_pos hw]
      refine qS_neg (by omega) (qS_ite (fun h0 => qS_ret ?_) (fun h0 => qS_ite (fun h2 => qS_ret ?_) (fun h2 => qS_ret ?_)))
      · subst h0; exact congrArg (fun x => (x, D)) m3
      · subst h2; exact congrArg (fun x => (x, D)) hx.1
      · have : w = 2 := by omega
        subst this; exact congrArg (fun x => (x, D)) hx.2
    · rw [if_neg hw, if_neg hw]
      exact qS_pos rfl (qS_ret rfl)
end CQ
