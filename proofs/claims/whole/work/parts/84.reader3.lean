section CRD3
variable {F : zFs} {D : zDa} {c w p : Nat → Int} {n i l z : Nat} {b : Int} {S : Nat → Int}
def cOkT (F : zFs) (D : zDa) (p : Nat → Int) (n : Nat) (t m : Nat) (deep : Int) (q : kP kTst) : Prop :=
  ∀ i l z S, i ≤ n → l ≤ 50 → z ≤ i → ∀ N, m ≤ N → qS (R1 F N t deep 0 (cS D i l z (-1) S)) (cRes cTst D p n (q i l) i l z S)
theorem R1_0 (N : Nat) (a b : Int) (D : zDa) : R1 F (N + 1) 0 a b D = bX6_test F (R1 F N) a D := rfl
theorem R1_1 (N : Nat) (a b : Int) (D : zDa) : R1 F (N + 1) 1 a b D = bX6_plain F (R1 F N) a D := by
  rw [R1_succ]; exact if_neg (by omega)
theorem kTChain_y {o : Int} {g : kTst → kTst → kTst} {q : kP kTst} {m : Nat} {v : kTst} {i l : Nat} (h : c i = o) : kTChain c o g q (m + 1) v i l = match q (i + 1) l with
    | .inl e => .inl e
    | .inr (s, j, l') => kTChain c o g q m (g v s) j l' := by
  rw [kTChain]; exact if_pos h
theorem kTChain_n {o : Int} {g : kTst → kTst → kTst} {q : kP kTst} {m : Nat} {v : kTst} {i l : Nat} (h : ¬ c i = o) : kTChain c o g q (m + 1) v i l = .inr (v, i, l) := by
  rw [kTChain]; exact if_neg h
def kContT (c : Nat → Int) (plain : kP kTst) (n1 n2 : Nat) (wait : kTst → kTst) (y : kTst) (j l : Nat) : Nat ⊕ (kTst × Nat × Nat) := match kTChain c 6 kAnd plain n1 y j l with
  | .inl e => .inl e
  | .inr (y', j', l') => kTChain c 5 kOr (kBoth c plain) n2 (wait y') j' l'
theorem kContT_and {plain : kP kTst} {n1 n2 : Nat} {wait : kTst → kTst} {y : kTst} {j l : Nat} (h : c j = 6) : kContT c plain (n1 + 1) n2 wait y j l = match plain (j + 1) l with
    | .inl e => .inl e
    | .inr (s, j2, l2) => kContT c plain n1 n2 wait (kAnd y s) j2 l2 := by
  unfold kContT
  rw [kTChain_y h]
  cases plain (j + 1) l with
  | inl e => rfl
  | inr s => rfl
theorem kContT_or {plain : kP kTst} {n1 n2 : Nat} {wait : kTst → kTst} {y : kTst} {j l : Nat} (h : c j = 5) : kContT c plain (n1 + 1) (n2 + 1) wait y j l = match plain (j + 1) l with
    | .inl e => .inl e
    | .inr (s, j2, l2) => kContT c plain 500 n2 (kOr (wait y)) s j2 l2 := by
  unfold kContT
  rw [kTChain_n (by omega)]
  dsimp only
  rw [kTChain_y h]
  unfold kBoth
  cases plain (j + 1) l with
  | inl e => rfl
  | inr s =>
    obtain ⟨s1, j2, l2⟩ := s
    dsimp only
theorem kContT_end {plain : kP kTst} {n1 n2 : Nat} {wait : kTst → kTst} {y : kTst} {j l : Nat} (h : ¬ c j = 6) (h2 : ¬ c j = 5) : kContT c plain (n1 + 1) (n2 + 1) wait y j l = .inr (wait y, j, l) := by
  unfold kContT
  rw [kTChain_n h]
  dsimp only
  rw [kTChain_n h2]
theorem kTestP_cont {plain : kP kTst} {i l : Nat} : kTestP c plain i l = match plain i l with
    | .inl e => .inl e
    | .inr (s, j, l') => kContT c plain 500 500 (fun x => x) s j l' := by
  unfold kTestP kBoth kContT
  cases plain i l with
  | inl e => rfl
  | inr s => rfl
theorem cLead_no {v : Int} (h : v < 0) : fX6_leadHere F v (cS D i l z b S) = some (cS D i l z b S) := by
  unfold fX6_leadHere
  exact if_pos h
theorem cLead {t : Nat} (h : t < z) (hz : z < 412) : fX6_leadHere F (t : Int) (cS D i l z b S) = some (cS D i l z b (zset S t (zor (S t) (zshl (z : Int) 4)))) := by
  unfold fX6_leadHere
  rw [if_neg (by omega)]
  refine (if_pos (by rw [cS_9]; omega)).trans ?_
  rw [if_pos (by omega), zlet_b, show ((t : Int)).toNat = t by omega, cS_48, cS_9, cS_w48]
theorem cLead_any {v : Int} (h : v < 412) : ∃ S', fX6_leadHere F v (cS D i l z b S) = some (cS D i l z b S') := by
  unfold fX6_leadHere
  by_cases h0 : v < 0
  · exact ⟨S, if_pos h0⟩
  · rw [if_neg h0]
    by_cases h1 : v < (z : Int)
    · refine ⟨zset S v.toNat (zor (S v.toNat) (zshl (z : Int) 4)), (if_pos (by rw [cS_9]; exact h1)).trans ?_⟩
      rw [if_pos (by omega), zlet_b, cS_48, cS_9, cS_w48]
    · exact ⟨S, if_neg (by rw [cS_9]; exact h1)⟩
theorem cTst_bad (hG : cG D c w p n) {rec : Nat → Int → Int → zDa → Option (Int × zDa)} {deep : Int} {k : Int → Int → Int → zDa → Option (Int × zDa)} {v3 v4 : Int} {e i l z i0 l0 z0 : Nat} {S S0 : Nat → Int} (he : e ≤ n) (hi : i ≤ n) (hv : v3 < 412) :
    qS (fX6_test_11 F rec deep k 0 v3 v4 (cS D i l z (p e) S)) (cRes cTst D p n (.inl e) i0 l0 z0 S0) := by
  have t : qS (fX6_test_137 F rec 0 v3 (cS D i l z (p e) S)) (cRes cTst D p n (.inl e) i0 l0 z0 S0) := by
    unfold fX6_test_137
    obtain ⟨S', e1⟩ := cLead_any (F := F) (D := D) (i := i) (l := l) (z := z) (b := p e) (S := S) hv
    exact qS_step e1 (qS_chk (Or.inl rfl) (qS_ret ⟨he, i, l, z, S', hi, rfl⟩))
  unfold fX6_test_11
  exact qS_ite (fun _ => qS_pos rfl t) (fun _ => t)
def cWaitT (S : Nat → Int) (z0 z l0 l : Nat) (v3 : Int) (wait : kTst → kTst) (y : kTst) : Prop :=
  (v3 = -1 ∧ wait = (fun f => f) ∧ cTst S z0 z (l - l0) y) ∨
  (∃ v t1 l1, v3 = ((t1 : Nat) : Int) ∧ wait = kOr v ∧ l0 < l1 ∧ l1 < l ∧ S t1 = 11 ∧ cTst S z0 t1 (l1 - l0) v ∧ cTst S (t1 + 1) z (l - l1) y)
theorem cWaitT_lt {S : Nat → Int} {z0 z l0 l : Nat} {v3 : Int} {wait : kTst → kTst} {y : kTst} (h : cWaitT S z0 z l0 l v3 wait y) (hz : z < 412) : z0 < z ∧ v3 < 412 ∧ l0 < l := by
  rcases h with ⟨rfl, rfl, h⟩ | ⟨v, t1, l1, rfl, rfl, h1, h2, h3, h4, h5⟩
  · have := h.1; have := h.2.1; omega
  · have := h4.1; have := h5.1; omega
theorem cWaitT_out {S : Nat → Int} {z0 z l0 l : Nat} {v3 : Int} {wait : kTst → kTst} {y : kTst} (h : cWaitT S z0 z l0 l v3 wait y) (hz : z < 412) {i : Nat} {b : Int} :
    ∃ S', fX6_leadHere F v3 (cS D i l z b S) = some (cS D i l z b S') ∧ (∀ k, k < z0 → S' k = S k) ∧ cTst S' z0 z (l - l0) (wait y) := by
  rcases h with ⟨rfl, rfl, h⟩ | ⟨v, t1, l1, rfl, rfl, h1, h2, h3, h4, h5⟩
  · exact ⟨S, cLead_no (by omega), fun _ _ => rfl, h⟩
  · have q1 := h4.1
    have q2 := h5.1
    refine ⟨_, cLead (by omega) hz, fun k hk => zset_off (by omega), ?_⟩
    rw [h3, zor16' (by omega) (by omega), show l - l0 = (l1 - l0) + (l - l1) by omega]
    exact cTst_or (h4.eq (fun k a1 a2 => zset_off (by omega))) (h5.eq (fun k a1 a2 => zset_off (by omega))) (by omega) zset_eq
theorem cTestLoop (hG : cG D c w p n) {plain : kP kTst} {m : Nat} {deep : Int} (hq : cOkT F D p n 1 m deep plain) {N : Nat} (hN : m ≤ N) {i0 l0 z0 : Nat} {S0 : Nat → Int} (hz0 : z0 ≤ i0) :
    ∀ (M j l z v4 n1 n2 : Nat) (S : Nat → Int) (v3 : Int) (wait : kTst → kTst) (y : kTst), i0 < j → j ≤ n → l ≤ 50 → v4 < j → z + i0 ≤ z0 + j → cWaitT S z0 z l0 l v3 wait y → (∀ k, k < z0 → S k = S0 k) → n < n1 + j → n < n2 + j → n1 ≤ 500 → n - j + 1 < M →
      qS (zfix (fun _ _ _ _ => none) (fX6_test_11 F (R1 F N) deep) M 1 v3 (v4 : Int) (cS D j l z (-1) S)) (cRes cTst D p n (kContT c plain n1 n2 wait y j l) i0 l0 z0 S0) := by
  intro M
  induction M with
  | zero => intro j l z v4 n1 n2 S v3 wait y h1 h2 h3 h4 h5 h6 h7 h8 h9 h10 h11; omega
  | succ M ih =>
    intro j l z v4 n1 n2 S v3 wait y h1 h2 h3 h4 h5 h6 h7 h8 h9 h10 h11
    have hn4 := hG.1
    obtain ⟨n1, rfl⟩ : ∃ k, n1 = k + 1 := ⟨n1 - 1, by omega⟩
    obtain ⟨n2, rfl⟩ : ∃ k, n2 = k + 1 := ⟨n2 - 1, by omega⟩
    rw [zfix_succ]
    generalize hk : zfix (fun _ _ _ _ => none) (fX6_test_11 F (R1 F N) deep) M = kk at *
    have k263 := cK_word hG h2 (x := 263) (by omega)
    have k262 := cK_word hG h2 (x := 262) (by omega)
    obtain ⟨hzz, hv3, hll⟩ := cWaitT_lt h6 (by omega)
    unfold fX6_test_11
    refine qS_pos (by omega) (qS_neg (by omega) (qS_chk (cS_in (by omega)) ?_))
    have bad : ∀ e i' l' z' S' v3', e ≤ n → i' ≤ n → j < n → v3' < 412 → qS (kk 0 v3' ((v4 : Int) + 1) (cS D i' l' z' (p e) S')) (cRes cTst D p n (.inl e) i0 l0 z0 S0) := by
      intro e i' l' z' S' v3' he hi' hjn hv
      obtain ⟨M', rfl⟩ : ∃ M', M = M' + 1 := ⟨M - 1, by omega⟩
      rw [← hk, zfix_succ]
      exact cTst_bad hG he hi' hv
    by_cases hand : c j = 6
    · have hjn : j < n := cIn hG (by omega)
      rw [kContT_and hand]
      refine qS_pos (by rw [cS_k (by omega)]; omega) ?_
      unfold fX6_test_53
      refine qS_chk (cS_in (by omega)) (qS_pos (by rw [cS_k (by omega)]; omega) (qS_chk (cS_in1 (by omega)) (qS_leti ?_)))
      rw [cS_n3]
      refine qS_step (cEmit (by omega) (by omega)) ?_
      rw [zor16 (by omega) (by omega)]
      refine qS_call (hq (j + 1) l (z + 1) _ (by omega) h3 (by omega) N hN) ?_
      intro r hr
      unfold fX6_test_131
      cases hp : plain (j + 1) l with
      | inl e =>
        rw [hp] at hr
        obtain ⟨he, i', l', z', S', hi', rfl⟩ := hr
        obtain ⟨S2, e2⟩ := cLead_any (F := F) (D := D) (i := i') (l := l') (z := z') (b := p e) (S := S') (v := (z : Int)) (by omega)
        exact qS_step e2 (qS_chk (by omega) (bad e i' l' z' S2 _ he hi' hjn hv3))
      | inr s =>
        obtain ⟨s1, j2, l2⟩ := s
        rw [hp] at hr
        obtain ⟨a1, a2, a3, a4, z', S', b1, b2, b3, b4, rfl⟩ := hr
        refine qS_step (cLead (t := z) (by omega) (by omega)) (qS_chk (by omega) ?_)
        have e10 : S' z = 10 := by rw [b3 z (by omega), zset_eq]; omega
        rw [e10, zor16' (by omega) (by omega)]
        have q4 := b4.1
        have agr : ∀ k, k < z → zset S' z (16 * (z' : Int) + 10) k = S k := fun k hk => by rw [zset_off (by omega), b3 k (by omega), zset_off (by omega)]
        refine ih j2 l2 z' (v4 + 1) n1 (n2 + 1) _ v3 wait (kAnd y s1) (by omega) a2 a4 (by omega) (by omega) ?_ (fun k hk => by rw [agr k (by omega), h7 k hk]) (by omega) (by omega) (by omega) (by omega)
        rcases h6 with ⟨r1, r2, r3⟩ | ⟨v, t1, l1, r1, r2, r3, r4, r5, r6, r7⟩
        · refine Or.inl ⟨r1, r2, ?_⟩
          rw [show l2 - l0 = (l - l0) + (l2 - l) by omega]
          exact cTst_and (r3.eq (fun k k1 k2 => agr k k2)) (b4.eq (fun k k1 k2 => zset_off (by omega))) (by omega) zset_eq
        · have q5 := r6.1
          have q7 := r7.1
          refine Or.inr ⟨v, t1, l1, r1, r2, r3, by omega, by rw [agr t1 (by omega)]; exact r5, r6.eq (fun k k1 k2 => agr k (by omega)), ?_⟩
          rw [show l2 - l1 = (l - l1) + (l2 - l) by omega]
          exact cTst_and (r7.eq (fun k k1 k2 => agr k k2)) (b4.eq (fun k k1 k2 => zset_off (by omega))) (by omega) zset_eq
    · refine qS_neg (by rw [cS_k (by omega)]; omega) ?_
      by_cases hor : c j = 5
      · have hjn : j < n := cIn hG (by omega)
        rw [kContT_or hor]
        refine qS_pos (by rw [cS_k (by omega)]; omega) ?_
        unfold fX6_test_53
        refine qS_chk (cS_in (by omega)) (qS_neg (by rw [cS_k (by omega)]; omega) (qS_chk (cS_in1 (by omega)) (qS_leti ?_)))
        rw [cS_n3]
        obtain ⟨S1, e1, f1, g1⟩ := cWaitT_out (F := F) (D := D) (i := j + 1) (b := -1) h6 (by omega)
        refine qS_step e1 (qS_step (cEmit (by omega) (by omega)) ?_)
        rw [zor16 (by omega) (by omega)]
        refine qS_call (hq (j + 1) l (z + 1) _ (by omega) h3 (by omega) N hN) ?_
        intro r hr
        unfold fX6_test_131
        cases hp : plain (j + 1) l with
        | inl e =>
          rw [hp] at hr
          obtain ⟨he, i', l', z', S', hi', rfl⟩ := hr
          exact (qS_chk (by omega) (bad e i' l' z' S' _ he hi' hjn (by omega)))
        | inr s =>
          obtain ⟨s1, j2, l2⟩ := s
          rw [hp] at hr
          obtain ⟨a1, a2, a3, a4, z', S', b1, b2, b3, b4, rfl⟩ := hr
          refine qS_chk (by omega) ?_
          have agr : ∀ k, k < z → S' k = S1 k := fun k hk => by rw [b3 k (by omega), zset_off (by omega)]
          exact ih j2 l2 z' (v4 + 1) 500 n2 S' (z : Int) (kOr (wait y)) s1 (by omega) a2 a4 (by omega) (by omega) (Or.inr ⟨wait y, z, l, rfl, rfl, hll, a3, by rw [b3 z (by omega), zset_eq]; omega, g1.eq (fun k _ hk => agr k hk), b4⟩) (fun k hk => by rw [agr k (by omega), f1 k hk, h7 k hk]) (by omega) (by omega) (by omega) (by omega)
      · rw [kContT_end hand hor]
        refine qS_neg (by rw [cS_k (by omega)]; omega) ?_
        unfold fX6_test_137
        obtain ⟨S1, e1, f1, g1⟩ := cWaitT_out (F := F) (D := D) (i := j) (b := -1) h6 (by omega)
        exact qS_step e1 (qS_chk (Or.inr rfl) (qS_ret ⟨h1, h2, hll, h3, z, S1, hzz, h5, fun k hk => by rw [f1 k hk, h7 k hk], g1, rfl⟩))
theorem cTestP (hG : cG D c w p n) {plain : kP kTst} {m : Nat} {deep : Int} (hq : cOkT F D p n 1 m deep plain) : cOkT F D p n 0 (m + 1) deep (kTestP c plain) := by
  intro i l z S hi hl hz N hN
  obtain ⟨N', rfl⟩ : ∃ N', N = N' + 1 := ⟨N - 1, by omega⟩
  have hn4 := hG.1
  rw [R1_0, kTestP_cont]
  unfold bX6_test
  refine qS_call (hq i l z S hi hl hz N' (by omega)) ?_
  intro r hr
  cases hp : plain i l with
  | inl e =>
    rw [hp] at hr
    obtain ⟨he, i', l', z', S', hi', rfl⟩ := hr
    rw [show zfu = 999999 + 1 from rfl]
    dsimp only
    rw [zfix_succ]
    exact cTst_bad hG he hi' (by omega)
  | inr s =>
    obtain ⟨s1, j, l1⟩ := s
    rw [hp] at hr
    obtain ⟨a1, a2, a3, a4, z', S', b1, b2, b3, b4, rfl⟩ := hr
    exact cTestLoop hG hq (N := N') (by omega) hz zfu j l1 z' 0 500 500 S' (-1) (fun f => f) s1 a1 a2 a4 (by omega) (by omega) (Or.inl ⟨rfl, rfl, b4⟩) b3 (by omega) (by omega) (by omega) (zfu_gt (by omega))
end CRD3
