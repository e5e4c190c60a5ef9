/-! ===== the planner: how likely by so many of each level ===== -/
theorem zsum_tail {i n : Nat} {f : Nat → Int} (h : i ≤ n) (h0 : ∀ k, i ≤ k → k < n → f k = 0) : zsum n f = zsum i f := by
  induction n with
  | zero => have : i = 0 := by omega
            rw [this]
  | succ n ih =>
    by_cases e : i = n + 1
    · rw [e]
    · have : zsum (n + 1) f = zsum n f + f n := rfl
      rw [this, ih (by omega) (fun k h1 h2 => h0 k h1 (by omega)), h0 n (by omega) (by omega), Int.add_zero]
theorem zsum_s (n : Nat) (f : Nat → Int) : zsum (n + 1) f = zsum n f + f n := rfl
theorem kTri_zsum (L n : Nat) (g : Nat → Nat → Nat → Nat → Int) : zsum n (fun k => kTri L (g k)) = kTri L (fun a b c => zsum n (fun k => g k a b c)) := by
  induction n with
  | zero =>
    have := kTri_mul L 0 (fun _ _ _ => 0)
    simp only [Int.zero_mul] at this
    exact this.symm
  | succ n ih =>
    rw [zsum_s, ih, ← kTri_add]
    rfl
/-- how likely a set passes, in the class's measure -/
def kPp (ch : Nat → Int) (A L w i j : Nat) : Int := kAtl (kG ch (nOf (L - i - j) i j) A) w * 100 ^ (3 - min L A)
def kTw (ch : Nat → Int) (A L w none one two i j : Nat) : Int := kPp ch A L w i j * ((kC one i : Nat) : Int) * ((kC two j : Nat) : Int) * ((kC none (L - i - j) : Nat) : Int)
theorem kAtl_dOk {d : Nat → Int} {k w : Nat} (h : dOk k d) : 0 ≤ kAtl d w ∧ kAtl d w ≤ 100 ^ k := by
  obtain ⟨⟨a0, a1, a2, a3⟩, hs⟩ := h
  rcases (by omega : w = 0 ∨ w = 1 ∨ w = 2 ∨ w = 3 ∨ 4 ≤ w) with rfl | rfl | rfl | rfl | h4
  · show 0 ≤ 0 + d 0 + d 1 + d 2 + d 3 ∧ 0 + d 0 + d 1 + d 2 + d 3 ≤ _
    omega
  · show 0 ≤ 0 + d 1 + d 2 + d 3 ∧ 0 + d 1 + d 2 + d 3 ≤ _
    omega
  · show 0 ≤ 0 + d 2 + d 3 ∧ 0 + d 2 + d 3 ≤ _
    omega
  · show 0 ≤ 0 + d 3 ∧ 0 + d 3 ≤ _
    omega
  · unfold kAtl
    rw [show 4 - w = 0 by omega]
    show (0 : Int) ≤ 0 ∧ (0 : Int) ≤ _
    omega
theorem kPp_in {ch : Nat → Int} {A L w i j : Nat} (hh : ∀ lv, lv < 3 → 0 ≤ ch lv ∧ ch lv ≤ 100) (hA : A ≤ 3) (h : i + j ≤ L) : 0 ≤ kPp ch A L w i j ∧ kPp ch A L w i j ≤ 1000000 := by
  have hg := kG_ok hh (nOf (L - i - j) i j) A
  rw [kAn_eq, show nOf (L - i - j) i j 0 + nOf (L - i - j) i j 1 + nOf (L - i - j) i j 2 = L by show L - i - j + i + j = L; omega] at hg
  have ha := kAtl_dOk (w := w) hg
  have p := p100 (R := min L A) (by omega)
  unfold kPp
  refine ⟨Int.mul_nonneg ha.1 (by omega), ?_⟩
  have := Int.mul_le_mul_of_nonneg_right ha.2 (show (0 : Int) ≤ 100 ^ (3 - min L A) by omega)
  rw [Int.mul_comm (100 ^ min L A), p.1] at this
  exact this
section WP
variable {F : zFs} {D : zDa}
theorem pX2_passing {ch : Nat → Int} {A L w i j : Nat} (hG : zG F) (hc : cCh D ch) (hA : A ≤ 3) (hw : w ≤ 3) (h : i + j ≤ L) (hL : L ≤ 10) : qS (fX2_passing F (L : Int) (i : Int) (j : Int) (A : Int) (w : Int) D) (fun r => r.1 = kPp ch A L w i j ∧ zfr [58] D r.2) := by
  have hh : ∀ lv, lv < 3 → 0 ≤ ch lv ∧ ch lv ≤ 100 := fun lv h => (hc.1 lv h).2
  unfold fX2_passing
  refine qS_chk (by omega) ?_
  rw [show (L : Int) - (i : Int) - (j : Int) = ((L - i - j : Nat) : Int) by omega]
  refine qS_call (pX2_answer (ch := ch) (n0 := L - i - j) (n1 := i) (n2 := j) hG hc (by omega) hA) (fun D1 ⟨h1, f1⟩ => ?_)
  rw [show L - i - j + i + j = L by omega] at h1
  have hs : ∀ m, m < 4 → 0 ≤ kG ch (nOf (L - i - j) i j) A m * 100 ^ (3 - min L A) ∧ kG ch (nOf (L - i - j) i j) A m * 100 ^ (3 - min L A) ≤ 1000000 := fun m hm => kGs_in (lying := L) hh hA hm (by omega)
  refine qloop2 (fun v6 v8 D2 => ∃ t : Nat, v8 = ((w + t : Nat) : Int) ∧ w + t ≤ 4 ∧ v6 = zsum t (fun u => kG ch (nOf (L - i - j) i j) A (w + u) * 100 ^ (3 - min L A)) ∧ (0 ≤ v6 ∧ v6 ≤ (t : Int) * 1000000) ∧ D2 = D1) (fun _ v8 _ => (10 - v8).toNat) ?_ ⟨0, rfl, by omega, rfl, by omega, rfl⟩ (zfu_gt (by omega))
  intro kk v6 v8 D2 ⟨t, e8, ht, e6, hb, eD⟩ ih
  subst e8 eD
  unfold fX2_passing_20
  refine qS_ite (fun h4 => ?_) (fun h4 => ?_)
  · have : t = 4 - w := by omega
    subst this
    refine qS_ret ⟨?_, f1⟩
    rw [e6]
    unfold kPp kAtl
    rw [Int.mul_comm, ← zsum_mul]
    exact zsum_congr (fun k _ => Int.mul_comm _ _)
  · have hm := hs (w + t) (by omega)
    refine qS_neg (by omega) (qS_chk (by omega) ?_)
    unfold fX2_passing_44
    rw [show (((w + t : Nat) : Int)).toNat = w + t by omega, h1 (w + t) (by omega)]
    exact qS_chk (by omega) (qS_leti (qS_chk (by omega) (ih _ _ _ ⟨t + 1, by omega, by omega, by rw [e6]; rfl, by omega, rfl⟩ (by omega))))
theorem kTw_in {ch : Nat → Int} {A L w none one two i j : Nat} (hh : ∀ lv, lv < 3 → 0 ≤ ch lv ∧ ch lv ≤ 100) (hA : A ≤ 3) (h : i + j ≤ L) (hn : none + one + two ≤ 20) :
    (0 ≤ kPp ch A L w i j * ((kC one i : Nat) : Int) ∧ kPp ch A L w i j * ((kC one i : Nat) : Int) ≤ 184756000000) ∧ (0 ≤ kPp ch A L w i j * ((kC one i : Nat) : Int) * ((kC two j : Nat) : Int) ∧ kPp ch A L w i j * ((kC one i : Nat) : Int) * ((kC two j : Nat) : Int) ≤ 184756000000) ∧ 0 ≤ kTw ch A L w none one two i j ∧ kTw ch A L w none one two i j ≤ 184756000000 := by
  have p := kPp_in (w := w) hh hA h
  have c1 := kC_max (n := one) (by omega) i
  have c2 := Nat.le_trans (kC_mul one two i j) (kC_max (by omega) _)
  have c3 := kC3_max (a := one) (b := two) (c := none) (by omega) i j (L - i - j)
  have a1 := mul2b p (b := ((kC one i : Nat) : Int)) (B := 184756) (by omega)
  have e2 : kPp ch A L w i j * ((kC one i : Nat) : Int) * ((kC two j : Nat) : Int) = kPp ch A L w i j * ((kC one i * kC two j : Nat) : Int) := by rw [Int.mul_assoc, Int.natCast_mul]
  have a2 := mul2b p (b := ((kC one i * kC two j : Nat) : Int)) (B := 184756) (by omega)
  have e3 : kTw ch A L w none one two i j = kPp ch A L w i j * ((kC one i * kC two j * kC none (L - i - j) : Nat) : Int) := by
    unfold kTw; rw [e2, Int.mul_assoc, ← Int.natCast_mul]
  have a3 := mul2b p (b := ((kC one i * kC two j * kC none (L - i - j) : Nat) : Int)) (B := 184756) (by omega)
  rw [e3, e2]
  omega
def kWy (ch : Nat → Int) (A L w none one two : Nat) : Int := zsum (L + 1) (fun i => zsum (L + 1 - i) (fun j => kTw ch A L w none one two i j))
theorem pX4_waysOf {ch : Nat → Int} {A L w none one two : Nat} (hLt : cLot D) (hh : ∀ lv, lv < 3 → 0 ≤ ch lv ∧ ch lv ≤ 100) (hA : A ≤ 3) (hL : L ≤ 10) (hn : none + one + two ≤ 20) (h60 : D 60 5 = ((none + one + two : Nat) : Int)) (h68 : ∀ i j, i + j ≤ L → D 68 (11 * i + j) = kPp ch A L w i j) :
    qS (fX4_waysOf F (one : Int) (two : Int) (L : Int) D) (fun r => r = (kWy ch A L w none one two, D)) := by
  have tin : ∀ i j, i + j ≤ L → 0 ≤ kTw ch A L w none one two i j ∧ kTw ch A L w none one two i j ≤ 184756000000 := fun i j h => (kTw_in hh hA h hn).2.2
  have rin : ∀ i k, k + i ≤ L + 1 → 0 ≤ zsum k (fun j => kTw ch A L w none one two i j) ∧ zsum k (fun j => kTw ch A L w none one two i j) ≤ (k : Int) * 184756000000 := fun i k hk =>
    ⟨zsum_nn (fun j hj => (tin i j (by omega)).1), zsum_le (fun j hj => (tin i j (by omega)).2)⟩
  unfold fX4_waysOf
  rw [h60]
  refine qS_chk (by omega) (qS_leti ?_)
  rw [show ((none + one + two : Nat) : Int) - (one : Int) - (two : Int) = (none : Int) by omega]
  unfold kWy
  refine qloop2 (fun v4 v7 D1 => ∃ i : Nat, v7 = (i : Int) ∧ i ≤ L + 1 ∧ v4 = zsum i (fun i => zsum (L + 1 - i) (fun j => kTw ch A L w none one two i j)) ∧ (0 ≤ v4 ∧ v4 ≤ (i : Int) * 2032316000000) ∧ D1 = D) (fun _ v7 _ => (100 - v7).toNat) ?_ ⟨0, rfl, by omega, rfl, by omega, rfl⟩ (zfu_gt (by omega))
  intro k16 v4 v7 D1 ⟨i, e7, hi, e4, hb, eD⟩ ih
  subst e7 eD
  unfold fX4_waysOf_16
  refine qS_ite (fun h1 => ?_) (fun h1 => ?_)
  · refine qS_ret ?_
    rw [e4, zsum_tail (i := i) (n := L + 1) hi (fun k hk _ => zsum_0 (fun j _ => by unfold kTw; rw [kC_gt (n := one) (k := k) (by omega)]; simp))]
  refine qS_ite (fun h2 => ?_) (fun h2 => ?_)
  · have : i = L + 1 := by omega
    rw [e4, this]
    exact qS_ret rfl
  refine qS_chk (by omega) ?_
  obtain ⟨j0, hj0, hj1⟩ : ∃ j0 : Nat, fJ9_max_7cf53 F 0 ((L : Int) - (i : Int) - (none : Int)) D1 = some ((j0 : Int), D1) ∧ j0 + i ≤ L ∧ (∀ j, j < j0 → none < L - i - j) := by
    unfold fJ9_max_7cf53
    by_cases e : (0 : Int) < (L : Int) - (i : Int) - (none : Int)
    · exact ⟨L - i - none, by rw [if_pos e]; congr 2; omega, by omega, fun j hj => by omega⟩
    · exact ⟨0, by rw [if_neg e]; rfl, by omega, fun j hj => by omega⟩
  refine qS_step hj0 ?_
  have z0 : zsum j0 (fun j => kTw ch A L w none one two i j) = 0 := zsum_0 (fun j hj => by unfold kTw; rw [kC_gt (n := none) (k := L - i - j) (hj1.2 j hj)]; simp)
  refine qloop2 (fun v v8 D2 => ∃ j : Nat, v8 = (j : Int) ∧ i + j ≤ L + 1 ∧ v = v4 + zsum j (fun j => kTw ch A L w none one two i j) ∧ D2 = D1) (fun _ v8 _ => (100 - v8).toNat) ?_ ⟨j0, rfl, by omega, by rw [z0, Int.add_zero], rfl⟩ (zfu_gt (by omega))
  intro k41 v v8 D2 ⟨j, e8, hj, ev, eD⟩ ih2
  subst e8 eD
  have rj := rin i j (by omega)
  have fin : zsum (L + 1 - i) (fun j => kTw ch A L w none one two i j) = zsum j (fun j => kTw ch A L w none one two i j) → qS (fX4_waysOf_130 F k16 (one : Int) (two : Int) (L : Int) v (none : Int) (i : Int) D2) (fun r => r = (zsum (L + 1) (fun i => zsum (L + 1 - i) (fun j => kTw ch A L w none one two i j)), D2)) := by
    intro hz
    unfold fX4_waysOf_130
    have rr := rin i (L + 1 - i) (by omega)
    refine qS_chk (by omega) (ih _ _ _ ⟨i + 1, by omega, by omega, ?_, ?_, rfl⟩ (by omega))
    · rw [zsum_s, ← e4, hz]; exact ev
    · rw [ev, ← hz]
      have : ((L + 1 - i : Nat) : Int) ≤ 11 := by omega
      omega
  unfold fX4_waysOf_41
  refine qS_ite (fun h3 => fin ?_) (fun h3 => ?_)
  · exact zsum_tail (by omega) (fun k hk _ => by unfold kTw; rw [kC_gt (n := two) (k := k) (by omega)]; simp)
  refine qS_chk (by omega) ?_
  refine qS_ite (fun h4 => fin ?_) (fun h4 => ?_)
  · rw [show L + 1 - i = j by omega]
  refine qS_chk (by omega) (qS_leti ?_)
  have hij : i + j ≤ L := by omega
  rw [show ((i : Int) * 11 + (j : Int)).toNat = 11 * i + j by omega, h68 i j hij]
  have tb := kTw_in (w := w) hh hA hij hn
  have nx : ∀ u : Int, u = v4 + zsum (j + 1) (fun j => kTw ch A L w none one two i j) → qS (fX4_waysOf_124 F k16 k41 (one : Int) (two : Int) (L : Int) u (none : Int) (i : Int) (j : Int) D2) (fun r => r = (zsum (L + 1) (fun i => zsum (L + 1 - i) (fun j => kTw ch A L w none one two i j)), D2)) := by
    intro u hu
    unfold fX4_waysOf_124
    exact qS_chk (by omega) (ih2 _ _ _ ⟨j + 1, by omega, by omega, hu, rfl⟩ (by omega))
  refine qS_ite (fun hp => ?_) (fun hp => ?_)
  · refine qS_call (pX2_sets hLt (by omega)) (fun r hr => ?_)
    subst hr
    dsimp only
    rw [kCi_nat]
    refine qS_chk (by omega) ?_
    refine qS_call (pX2_sets hLt (by omega)) (fun r hr => ?_)
    subst hr
    dsimp only
    rw [kCi_nat]
    refine qS_chk (by omega) ?_
    rw [show (L : Int) - (i : Int) - (j : Int) = ((L - i - j : Nat) : Int) by omega]
    refine qS_call (pX2_sets hLt (by omega)) (fun r hr => ?_)
    subst hr
    dsimp only
    rw [kCi_nat]
    have e9 : kPp ch A L w i j * ((kC one i : Nat) : Int) * ((kC two j : Nat) : Int) * ((kC none (L - i - j) : Nat) : Int) = kTw ch A L w none one two i j := rfl
    rw [e9]
    refine qS_chk (by omega) (qS_leti (nx _ ?_))
    rw [zsum_s, ev]; omega
  · refine nx _ ?_
    have p0 : kPp ch A L w i j = 0 := by have := (kPp_in (w := w) hh hA hij).1; omega
    have : kTw ch A L w none one two i j = 0 := by unfold kTw; rw [p0]; simp
    rw [zsum_s, this, ev]; omega
end WP
/-- the class's ways are the odds in its measure -/
theorem kWy_eq {ch : Nat → Int} {A L w none one two lie : Nat} (hL : L = min lie (none + one + two)) : kWy ch A L w none one two = 100 ^ (3 - min L A) * kAtl (kOd ch (nOf none one two) (fun _ => 0) lie A 0) w := by
  have eO : ∀ m, kOd ch (nOf none one two) (fun _ => 0) lie A 0 m = kTri L (kTerm3 ch (nOf none one two) (fun _ => 0) (min L A) m) := fun m => by
    unfold kOd
    rw [if_neg (by omega), kXo_n1]
    have : nOf none one two 0 + nOf none one two 1 + nOf none one two 2 = none + one + two := rfl
    rw [this, ← hL]
    rfl
  unfold kAtl
  have e1 : zsum (4 - w) (fun i => kOd ch (nOf none one two) (fun _ => 0) lie A 0 (w + i)) = zsum (4 - w) (fun i => kTri L (kTerm3 ch (nOf none one two) (fun _ => 0) (min L A) (w + i))) := zsum_congr (fun k _ => eO (w + k))
  rw [e1, kTri_zsum L (4 - w) (fun i => kTerm3 ch (nOf none one two) (fun _ => 0) (min L A) (w + i)), ← kTri_mul, kTri_class]
  unfold kWy
  refine zsum_congr (fun i hi => zsum_congr (fun j hj => ?_))
  unfold kTw kPp kTerm3 kAtl
  have eg : kG ch (nOf (L - i - j) i j) A = kG ch (nOf (L - i - j) i j) (min L A) := by
    rw [kG_min]
    have : nOf (L - i - j) i j 0 + nOf (L - i - j) i j 1 + nOf (L - i - j) i j 2 = L := by show L - i - j + i + j = L; omega
    rw [this]
  rw [zsum_mul]
  have ew : kWays (nOf none one two) (L - i - j) i j = ((kC none (L - i - j) : Nat) : Int) * ((kC one i : Nat) : Int) * ((kC two j : Nat) : Int) := by
    show ((kC none (L - i - j) * kC one i * kC two j : Nat) : Int) = _
    rw [Int.natCast_mul, Int.natCast_mul]
  rw [ew, eg]
  show zsum (4 - w) (fun i_1 => kG ch (nOf (L - i - j) i j) (min L A) (w + i_1)) * 100 ^ (3 - min L A) * _ * _ * _ = 100 ^ (3 - min L A) * (_ * _ * _ * zsum (4 - w) (fun k => kG ch (nOf (L - i - j) i j) (min L A) (w + k)))
  ac_rfl
