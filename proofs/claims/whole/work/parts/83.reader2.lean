section CRD2
variable {F : zFs} {D : zDa} {c w p : Nat → Int} {n i l z : Nat} {b : Int} {S : Nat → Int}
def kCont (c : Nat → Int) (part : kP kSum) (n1 n2 : Nat) (wait : kSum → kSum) (y : kSum) (j l : Nat) : Nat ⊕ (kSum × Nat × Nat) := match kChain c 142 147 part n1 y j l with
  | .inl e => .inl e
  | .inr (y', j', l') => kChain c 143 145 (kTerm c part) n2 (wait y') j' l'
theorem kChain_y {o1 o2 : Int} {q : kP kSum} {m : Nat} {v : kSum} {i l : Nat} (h : c i = o1 ∨ c i = o2) : kChain c o1 o2 q (m + 1) v i l = match q (i + 1) l with
    | .inl e => .inl e
    | .inr (s, j, l') => kChain c o1 o2 q m (kBin (c i) v s) j l' := by
  rw [kChain]; exact if_pos h
theorem kChain_n {o1 o2 : Int} {q : kP kSum} {m : Nat} {v : kSum} {i l : Nat} (h : ¬ (c i = o1 ∨ c i = o2)) : kChain c o1 o2 q (m + 1) v i l = .inr (v, i, l) := by
  rw [kChain]; exact if_neg h
theorem kCont_mul {part : kP kSum} {n1 n2 : Nat} {wait : kSum → kSum} {y : kSum} {j l : Nat} (h : c j = 142 ∨ c j = 147) : kCont c part (n1 + 1) n2 wait y j l = match part (j + 1) l with
    | .inl e => .inl e
    | .inr (s, j2, l2) => kCont c part n1 n2 wait (kBin (c j) y s) j2 l2 := by
  unfold kCont
  rw [kChain_y h]
  cases part (j + 1) l with
  | inl e => rfl
  | inr s => rfl
theorem kCont_add {part : kP kSum} {n1 n2 : Nat} {wait : kSum → kSum} {y : kSum} {j l : Nat} (h : c j = 143 ∨ c j = 145) : kCont c part (n1 + 1) (n2 + 1) wait y j l = match part (j + 1) l with
    | .inl e => .inl e
    | .inr (s, j2, l2) => kCont c part 500 n2 (kBin (c j) (wait y)) s j2 l2 := by
  unfold kCont
  rw [kChain_n (by omega)]
  dsimp only
  rw [kChain_y h]
  unfold kTerm
  cases part (j + 1) l with
  | inl e => rfl
  | inr s =>
    obtain ⟨s1, j2, l2⟩ := s
    dsimp only
theorem kCont_end {part : kP kSum} {n1 n2 : Nat} {wait : kSum → kSum} {y : kSum} {j l : Nat} (h : ¬ (c j = 142 ∨ c j = 147)) (h2 : ¬ (c j = 143 ∨ c j = 145)) : kCont c part (n1 + 1) (n2 + 1) wait y j l = .inr (wait y, j, l) := by
  unfold kCont
  rw [kChain_n h]
  dsimp only
  rw [kChain_n h2]
theorem kSumP_cont {part : kP kSum} {i l : Nat} : kSumP c part i l = match part i l with
    | .inl e => .inl e
    | .inr (s, j, l') => kCont c part 500 500 (fun x => x) s j l' := by
  unfold kSumP kTerm kCont
  cases part i l with
  | inl e => rfl
  | inr s => rfl
theorem cSum_bad (hG : cG D c w p n) {rec : Nat → Int → Int → zDa → Option (Int × zDa)} {deep : Int} {k : Int → Int → Int → zDa → Option (Int × zDa)} {v3 v4 : Int} {e i l z i0 l0 z0 : Nat} {S S0 : Nat → Int} (he : e ≤ n) (hi : i ≤ n) :
    qS (fX6_sum_11 F rec deep k 0 v3 v4 (cS D i l z (p e) S)) (cRes cSum D p n (.inl e) i0 l0 z0 S0) := by
  have t : qS (fX6_sum_141 F rec 0 v3 (cS D i l z (p e) S)) (cRes cSum D p n (.inl e) i0 l0 z0 S0) := by
    unfold fX6_sum_141
    obtain ⟨r, z', S', e1⟩ := cEmit_any (F := F) (D := D) (i := i) (l := l) (z := z) (b := p e) (S := S) v3 0
    exact qS_step e1 (qS_chk (Or.inl rfl) (qS_ret ⟨he, i, l, z', S', hi, rfl⟩))
  unfold fX6_sum_11
  exact qS_ite (fun _ => qS_pos rfl t) (fun _ => t)
/-- what waits, and the steps so far -/
def cWait (S : Nat → Int) (z0 z l0 l : Nat) (v3 : Int) (wait : kSum → kSum) (y : kSum) (x : Nat) : Prop :=
  (v3 = -1 ∧ x = 0 ∧ wait = (fun f => f) ∧ cSum S z0 z (l - l0) y) ∨
  (∃ o v t1 l1, (o = 143 ∨ o = 145) ∧ v3 = kOpc o ∧ x = 1 ∧ wait = kBin o v ∧ l0 < l1 ∧ l1 < l ∧ cSum S z0 t1 (l1 - l0) v ∧ cSum S t1 z (l - l1) y)
/-- what waits is put out -/
theorem cWait_out {S : Nat → Int} {z0 z l0 l x : Nat} {v3 : Int} {wait : kSum → kSum} {y : kSum} (h : cWait S z0 z l0 l v3 wait y x) (hz : z < 412) {i : Nat} {b : Int} :
    ∃ r S', fX6_emit F v3 0 (cS D i l z b S) = some (r, cS D i l (z + x) b S') ∧ (∀ k, k < z → S' k = S k) ∧ z0 < z ∧ l0 < l ∧ cSum S' z0 (z + x) (l - l0) (wait y) := by
  rcases h with ⟨rfl, rfl, rfl, h⟩ | ⟨o, v, t1, l1, ho, rfl, rfl, rfl, h1, h2, h3, h4⟩
  · exact ⟨-1, S, cEmit_no, fun _ _ => rfl, h.1, by have := h.2.1; omega, h⟩
  · have hb := kOpc_in o
    have q1 := h3.1
    have q2 := h4.1
    refine ⟨z, zset S z (zor (zshl 0 4) (kOpc o)), cEmit (by omega) hz, fun k hk => zset_off (by omega), by omega, by omega, ?_⟩
    rw [zor16 (by omega) (by omega)]
    rw [show l - l0 = (l1 - l0) + (l - l1) by omega]
    exact cSum_bin (h3.eq (fun k a1 a2 => zset_off (by omega))) (h4.eq (fun k a1 a2 => zset_off (by omega))) (by rw [zset_eq]; omega)
theorem cSumLoop (hG : cG D c w p n) {part : kP kSum} {m : Nat} {deep : Int} (hq : cOk F D p n 1 m deep part) {N : Nat} (hN : m ≤ N) {i0 l0 z0 : Nat} {S0 : Nat → Int} (hz0 : z0 ≤ i0) :
    ∀ (M j l z v4 n1 n2 x : Nat) (S : Nat → Int) (v3 : Int) (wait : kSum → kSum) (y : kSum), i0 < j → j ≤ n → l ≤ 50 → v4 < j → z + i0 + x ≤ z0 + j → cWait S z0 z l0 l v3 wait y x → (∀ k, k < z0 → S k = S0 k) → n < n1 + j → n < n2 + j → n1 ≤ 500 → n - j + 1 < M →
      qS (zfix (fun _ _ _ _ => none) (fX6_sum_11 F (R0 F N) deep) M 1 v3 (v4 : Int) (cS D j l z (-1) S)) (cRes cSum D p n (kCont c part n1 n2 wait y j l) i0 l0 z0 S0) := by
  intro M
  induction M with
  | zero => intro j l z v4 n1 n2 x S v3 wait y h1 h2 h3 h4 h5 h6 h7 h8 h9 h10 h11; omega
  | succ M ih =>
    intro j l z v4 n1 n2 x S v3 wait y h1 h2 h3 h4 h5 h6 h7 h8 h9 h10 h11
    have hn4 := hG.1
    obtain ⟨n1, rfl⟩ : ∃ k, n1 = k + 1 := ⟨n1 - 1, by omega⟩
    obtain ⟨n2, rfl⟩ : ∃ k, n2 = k + 1 := ⟨n2 - 1, by omega⟩
    rw [zfix_succ]
    generalize hk : zfix (fun _ _ _ _ => none) (fX6_sum_11 F (R0 F N) deep) M = kk at *
    have k43 := cK_sign hG h2 (x := 43) (by omega)
    have k45 := cK_sign hG h2 (x := 45) (by omega)
    have k42 := cK_sign hG h2 (x := 42) (by omega)
    have k47 := cK_sign hG h2 (x := 47) (by omega)
    unfold fX6_sum_11
    refine qS_pos (by omega) (qS_neg (by omega) (qS_chk (cS_in (by omega)) (qS_leti ?_)))
    rw [cS_k (by omega)]
    -- the next iteration after a fault
    have bad : ∀ e i' l' z' S' v3', e ≤ n → i' ≤ n → j < n → qS (kk 0 v3' ((v4 : Int) + 1) (cS D i' l' z' (p e) S')) (cRes cSum D p n (.inl e) i0 l0 z0 S0) := by
      intro e i' l' z' S' v3' he hi' hjn
      obtain ⟨M', rfl⟩ : ∃ M', M = M' + 1 := ⟨M - 1, by omega⟩
      rw [← hk, zfix_succ]
      exact cSum_bad hG he hi'
    by_cases hadd : c j = 143 ∨ c j = 145
    · have hjn : j < n := cIn hG (by omega)
      rw [kCont_add hadd]
      have go : ∀ x5 : Int, (x5 = 43 ∧ c j = 143) ∨ (x5 = 45 ∧ c j = 145) → qS (fX6_sum_48 F (R0 F N) kk deep v3 (v4 : Int) x5 (cS D j l z (-1) S)) (cRes cSum D p n (match part (j + 1) l with
          | .inl e => .inl e
          | .inr (s, j2, l2) => kCont c part 500 n2 (kBin (c j) (wait y)) s j2 l2) i0 l0 z0 S0) := by
        intro x5 hx
        unfold fX6_sum_48
        refine qS_chk (cS_in1 (by omega)) (qS_leti ?_)
        rw [cS_n3]
        obtain ⟨r, S1, e1, f1, g1, g2, g3⟩ := cWait_out (F := F) (D := D) (i := j + 1) (b := -1) h6 (by omega)
        refine qS_step e1 ?_
        have nx : qS (fX6_sum_77 F (R0 F N) kk deep (v4 : Int) (kOpc (c j)) (cS D (j + 1) l (z + x) (-1) S1)) (cRes cSum D p n (match part (j + 1) l with
          | .inl e => .inl e
          | .inr (s, j2, l2) => kCont c part 500 n2 (kBin (c j) (wait y)) s j2 l2) i0 l0 z0 S0) := by
          unfold fX6_sum_77 fX6_sum_135
          refine qS_call (hq (j + 1) l (z + x) S1 (by omega) h3 (by omega) N hN) ?_
          intro r hr
          cases hp : part (j + 1) l with
          | inl e =>
            rw [hp] at hr
            obtain ⟨he, i', l', z', S', hi', rfl⟩ := hr
            exact qS_chk (by omega) (bad e i' l' z' S' _ he hi' hjn)
          | inr s =>
            obtain ⟨s1, j2, l2⟩ := s
            rw [hp] at hr
            obtain ⟨a1, a2, a3, a4, z', S', b1, b2, b3, b4, rfl⟩ := hr
            refine qS_chk (by omega) ?_
            have := ih j2 l2 z' (v4 + 1) 500 n2 1 S' (kOpc (c j)) (kBin (c j) (wait y)) s1 (by omega) a2 a4 (by omega) (by omega) (Or.inr ⟨c j, wait y, z + x, l, hadd, rfl, rfl, rfl, g2, a3, g3.eq (fun k _ hk => b3 k hk), b4⟩) (fun k hk => by rw [b3 k (by omega), f1 k (by omega), h7 k hk]) (by omega) (by omega) (by omega) (by omega)
            exact this
        dsimp only
        rcases hx with ⟨rfl, hc⟩ | ⟨rfl, hc⟩
        · refine qS_pos rfl ?_
          have e2 : kOpc (c j) = 2 := by unfold kOpc; rw [if_pos hc]
          rw [e2] at nx
          exact nx
        · refine qS_neg (by omega) ?_
          have e2 : kOpc (c j) = 3 := by unfold kOpc; rw [if_neg (by omega), if_pos hc]
          rw [e2] at nx
          exact nx
      rcases hadd with hc | hc
      · have e : D 43 j = 43 := by omega
        rw [e]
        exact qS_pos rfl (go 43 (Or.inl ⟨rfl, hc⟩))
      · have e : D 43 j = 45 := by omega
        rw [e]
        exact qS_neg (by omega) (qS_pos rfl (go 45 (Or.inr ⟨rfl, hc⟩)))
    · refine qS_neg (by omega) (qS_neg (by omega) ?_)
      by_cases hmul : c j = 142 ∨ c j = 147
      · have hjn : j < n := cIn hG (by omega)
        rw [kCont_mul hmul]
        have go : ∀ x5 : Int, (x5 = 42 ∧ c j = 142) ∨ (x5 = 47 ∧ c j = 147) → qS (fX6_sum_101 F (R0 F N) kk deep v3 (v4 : Int) x5 (cS D j l z (-1) S)) (cRes cSum D p n (match part (j + 1) l with
            | .inl e => .inl e
            | .inr (s, j2, l2) => kCont c part n1 (n2 + 1) wait (kBin (c j) y s) j2 l2) i0 l0 z0 S0) := by
          intro x5 hx
          unfold fX6_sum_101
          refine qS_chk (cS_in1 (by omega)) (qS_leti ?_)
          rw [cS_n3]
          refine qS_call (hq (j + 1) l z S (by omega) h3 (by omega) N hN) ?_
          intro r hr
          have ez : ∀ r : Int × zDa, cRes cSum D p n (part (j + 1) l) (j + 1) l z S r → qS (fX6_sum_130 F (R0 F N) kk deep r.1 v3 (v4 : Int) (kOpc (c j)) r.2) (cRes cSum D p n (match part (j + 1) l with
              | .inl e => .inl e
              | .inr (s, j2, l2) => kCont c part n1 (n2 + 1) wait (kBin (c j) y s) j2 l2) i0 l0 z0 S0) := by
            intro r hr
            unfold fX6_sum_130 fX6_sum_135
            cases hp : part (j + 1) l with
            | inl e =>
              rw [hp] at hr
              obtain ⟨he, i', l', z', S', hi', rfl⟩ := hr
              obtain ⟨r, z2, S2, e1⟩ := cEmit_any (F := F) (D := D) (i := i') (l := l') (z := z') (b := p e) (S := S') (kOpc (c j)) 0
              exact qS_step e1 (qS_chk (by omega) (bad e i' l' z2 S2 _ he hi' hjn))
            | inr s =>
              obtain ⟨s1, j2, l2⟩ := s
              rw [hp] at hr
              obtain ⟨a1, a2, a3, a4, z', S', b1, b2, b3, b4, rfl⟩ := hr
              have hb := kOpc_in (c j)
              refine qS_step (cEmit (by omega) (by omega)) (qS_chk (by omega) ?_)
              rw [zor16 (by omega) (by omega)]
              have q4 := b4.1
              refine ih j2 l2 (z' + 1) (v4 + 1) n1 (n2 + 1) x _ v3 wait (kBin (c j) y s1) (by omega) a2 a4 (by omega) (by omega) ?_ (fun k hk => ?_) (by omega) (by omega) (by omega) (by omega)
              · rcases h6 with ⟨r1, r2, r3, r4⟩ | ⟨o, v, t1, l1, r1, r2, r3, r4, r5, r6, r7, r8⟩
                · have q5 := r4.1
                  have q6 := r4.2.1
                  refine Or.inl ⟨r1, r2, r3, ?_⟩
                  rw [show l2 - l0 = (l - l0) + (l2 - l) by omega]
                  exact cSum_bin (r4.eq (fun k k1 k2 => by rw [zset_off (by omega), b3 k k2])) (b4.eq (fun k k1 k2 => zset_off (by omega))) (by rw [zset_eq]; omega)
                · have q5 := r7.1
                  have q7 := r8.1
                  have q6 := r8.2.1
                  refine Or.inr ⟨o, v, t1, l1, r1, r2, r3, r4, r5, by omega, r7.eq (fun k k1 k2 => by rw [zset_off (by omega), b3 k (by omega)]), ?_⟩
                  rw [show l2 - l1 = (l - l1) + (l2 - l) by omega]
                  exact cSum_bin (r8.eq (fun k k1 k2 => by rw [zset_off (by omega), b3 k k2])) (b4.eq (fun k k1 k2 => zset_off (by omega))) (by rw [zset_eq]; omega)
              · have hz : z0 < z := by
                  rcases h6 with ⟨r1, r2, r3, r4⟩ | ⟨o, v, t1, l1, r1, r2, r3, r4, r5, r6, r7, r8⟩
                  · exact r4.1
                  · have := r7.1; have := r8.1; omega
                rw [zset_off (by omega), b3 k (by omega), h7 k hk]
          have := ez r hr
          rcases hx with ⟨rfl, hc⟩ | ⟨rfl, hc⟩
          · refine qS_pos rfl ?_
            have e2 : kOpc (c j) = 4 := by unfold kOpc; rw [if_neg (by omega), if_neg (by omega), if_pos hc]
            rw [e2] at this
            exact this
          · refine qS_neg (by omega) ?_
            have e2 : kOpc (c j) = 5 := by unfold kOpc; rw [if_neg (by omega), if_neg (by omega), if_neg (by omega)]
            rw [e2] at this
            exact this
        rcases hmul with hc | hc
        · have e : D 43 j = 42 := by omega
          rw [e]
          exact qS_pos rfl (go 42 (Or.inl ⟨rfl, hc⟩))
        · have e : D 43 j = 47 := by omega
          rw [e]
          exact qS_neg (by omega) (qS_pos rfl (go 47 (Or.inr ⟨rfl, hc⟩)))
      · rw [kCont_end hmul hadd]
        refine qS_neg (by omega) (qS_neg (by omega) ?_)
        unfold fX6_sum_141
        obtain ⟨r, S1, e1, f1, g1, g2, g3⟩ := cWait_out (F := F) (D := D) (i := j) (b := -1) h6 (by omega)
        exact qS_step e1 (qS_chk (Or.inr rfl) (qS_ret ⟨h1, h2, g2, h3, z + x, S1, by omega, by omega, fun k hk => by rw [f1 k (by omega), h7 k hk], g3, rfl⟩))
theorem cSumP (hG : cG D c w p n) {part : kP kSum} {m : Nat} {deep : Int} (hq : cOk F D p n 1 m deep part) : cOk F D p n 0 (m + 1) deep (kSumP c part) := by
  intro i l z S hi hl hz N hN
  obtain ⟨N', rfl⟩ : ∃ N', N = N' + 1 := ⟨N - 1, by omega⟩
  have hn4 := hG.1
  rw [R0_0, kSumP_cont]
  unfold bX6_sum
  refine qS_call (hq i l z S hi hl hz N' (by omega)) ?_
  intro r hr
  cases hp : part i l with
  | inl e =>
    rw [hp] at hr
    obtain ⟨he, i', l', z', S', hi', rfl⟩ := hr
    rw [show zfu = 999999 + 1 from rfl]
    dsimp only
    rw [zfix_succ]
    exact cSum_bad hG he hi'
  | inr s =>
    obtain ⟨s1, j, l1⟩ := s
    rw [hp] at hr
    obtain ⟨a1, a2, a3, a4, z', S', b1, b2, b3, b4, rfl⟩ := hr
    exact cSumLoop hG hq (N := N') (by omega) hz zfu j l1 z' 0 500 500 0 S' (-1) (fun f => f) s1 a1 a2 a4 (by omega) (by omega) (Or.inl ⟨rfl, rfl, rfl, b4⟩) b3 (by omega) (by omega) (by omega) (zfu_gt (by omega))
theorem cSumD (hG : cG D c w p n) (d : Nat) (hd : d ≤ 8) : cOk F D p n 0 (2 * d + 2) (8 - (d : Int)) (kSumD c w d) := by
  induction d with
  | zero =>
    unfold kSumD
    exact cSumP hG (cPart (m := 0) hG (by omega) (by simp) (fun q h => by cases h))
  | succ d ih =>
    unfold kSumD
    exact cSumP hG (cPart (F := F) (m := 2 * d + 2) (d := d + 1) hG hd (dp := some (kSumD c w d)) (by simp) (fun q h => by
      cases h
      have := ih (by omega)
      rw [show (8 - ((d + 1 : Nat) : Int) + 1) = 8 - (d : Int) by omega]
      exact this))
end CRD2
