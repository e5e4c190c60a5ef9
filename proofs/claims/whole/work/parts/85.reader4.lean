section CRD4
variable {F : zFs} {D : zDa} {c w p : Nat → Int} {n i l z : Nat} {b : Int} {S : Nat → Int}
theorem cN_y (hG : cG D c w p n) {rec : Nat → Int → Int → zDa → Option (Int × zDa)} {deep : Int} {v : Nat} (hi : i < n) (hv : v ≤ i) (h : c i = 7) (k : Int → zDa → Option (Int × zDa)) : fX6_plain_2 F rec deep k (v : Int) (cS D i l z b S) = k ((v + 1 : Nat) : Int) (cS D (i + 1) l z b S) := by
  have h4 := hG.1
  have k264 := cK_word hG (i := i) (by omega) (x := 264) (by omega)
  unfold fX6_plain_2
  rw [if_pos (by omega)]
  refine (if_pos (cS_in (by omega))).trans ?_
  refine (if_pos (by rw [cS_k (by omega)]; omega)).trans ?_
  refine (if_pos (cS_in1 (by omega))).trans ?_
  rw [zlet_b, cS_n3, if_pos (by omega)]
  rfl
theorem cN_n (hG : cG D c w p n) {rec : Nat → Int → Int → zDa → Option (Int × zDa)} {deep : Int} {v : Int} (hi : i ≤ n) (h : ¬ c i = 7) (k : Int → zDa → Option (Int × zDa)) : fX6_plain_2 F rec deep k v (cS D i l z b S) = fX6_plain_40 F rec deep v (cS D i l z b S) := by
  have h4 := hG.1
  have k264 := cK_word hG hi (x := 264) (by omega)
  unfold fX6_plain_2
  by_cases hv : v < 400
  · rw [if_pos hv]
    refine (if_pos (cS_in (by omega))).trans ?_
    exact if_neg (by rw [cS_k (by omega)]; omega)
  · rw [if_neg hv]
theorem cNots (hG : cG D c w p n) {rec : Nat → Int → Int → zDa → Option (Int × zDa)} {deep : Int} : ∀ (m i M v : Nat), n < i + m → i ≤ n → m < M → v ≤ i → i + kNots c m i ≤ n ∧ zfix (fun _ _ => none) (fX6_plain_2 F rec deep) M (v : Int) (cS D i l z b S) = fX6_plain_40 F rec deep ((v + kNots c m i : Nat) : Int) (cS D (i + kNots c m i) l z b S) := by
  intro m
  induction m with
  | zero => intro i M v h1 h2; omega
  | succ m ih =>
    intro i M v h1 h2 hM hv
    obtain ⟨M', rfl⟩ : ∃ M', M = M' + 1 := ⟨M - 1, by omega⟩
    rw [zfix_succ]
    unfold kNots
    by_cases h : c i = 7
    · have hin : i < n := cIn hG (by omega)
      rw [if_pos h, cN_y hG hin hv h]
      obtain ⟨a1, a2⟩ := ih (i + 1) M' (v + 1) (by omega) (by omega) (by omega) (by omega)
      rw [a2]
      refine ⟨by omega, ?_⟩
      rw [show v + 1 + kNots c m (i + 1) = v + (kNots c m (i + 1) + 1) by omega, show i + 1 + kNots c m (i + 1) = i + (kNots c m (i + 1) + 1) by omega]
    · rw [if_neg h, cN_n hG h2 h]
      exact ⟨by omega, rfl⟩
theorem cP216 {nn i l j l' z z' : Nat} {S S' : Nat → Int} {f : kTst} {rec : Nat → Int → Int → zDa → Option (Int × zDa)} (h1 : i + nn < j) (h2 : j ≤ n) (h3 : l < l') (h4 : l' ≤ 50) (h5 : z < z') (h6 : z' + i + nn ≤ z + j) (h7 : ∀ k, k < z → S' k = S k) (h8 : cTst S' z z' (l' - l) f) (hz : z' < 412) :
    qS (fX6_plain_216 F rec (nn : Int) (cS D j l' z' (-1) S')) (cRes cTst D p n (.inr (kNot nn f, j, l')) i l z S) := by
  have e : Int.tmod (nn : Int) 2 = ((nn % 2 : Nat) : Int) := rfl
  unfold fX6_plain_216
  rw [e]
  by_cases ho : nn % 2 = 1
  · refine qS_pos (by omega) (qS_step (cEmit (by omega) hz) (qS_ret ?_))
    rw [zor16 (by omega) (by omega)]
    exact ⟨by omega, h2, h3, h4, z' + 1, _, by omega, by omega, fun k hk => by rw [zset_off (by omega), h7 k hk], cTst_not1 (h8.eq (fun k k1 k2 => zset_off (by omega))) ho (by rw [zset_eq]; omega), rfl⟩
  · refine qS_neg (by omega) (qS_ret ?_)
    exact ⟨by omega, h2, h3, h4, z', S', by omega, by omega, h7, cTst_not0 h8 ho, rfl⟩
theorem cSumF (hG : cG D c w p n) {d : Nat} (hd : d ≤ 8) (hi : i ≤ n) (hl : l ≤ 50) (hz : z ≤ i) : qS (fX6_sum F (8 - (d : Int)) (cS D i l z (-1) S)) (cRes cSum D p n (kSumD c w d i l) i l z S) :=
  cSumD (F := F) hG d hd i l z S hi hl hz 40 (by omega)
theorem cPlain (hG : cG D c w p n) {d : Nat} (hd : d ≤ 8) {dp : Option (kP kTst)} (hdp : dp = none ↔ d = 0) {m : Nat} (hq : ∀ q, dp = some q → cOkT F D p n 0 m (8 - (d : Int) + 1) q) : cOkT F D p n 1 (m + 1) (8 - (d : Int)) (kPlain c (kSumD c w d) dp) := by
  intro i l z S hi hl hz N hN
  have h4 := hG.1
  obtain ⟨N', rfl⟩ : ∃ N', N = N' + 1 := ⟨N - 1, by omega⟩
  rw [R1_1]
  unfold bX6_plain kPlain
  obtain ⟨hle, e⟩ := cNots (F := F) (l := l) (z := z) (b := -1) (S := S) hG (rec := R1 F N') (deep := 8 - (d : Int)) 500 i zfu 0 (by omega) hi (zfu_gt (by omega)) (by omega)
  rw [show ((0 : Nat) : Int) = 0 from rfl] at e
  rw [e, show 0 + kNots c 500 i = kNots c 500 i by omega]
  generalize kNots c 500 i = nn at *
  have kp : D 43 (i + nn) = 40 ↔ c (i + nn) = 140 := cK_sign hG hle (x := 40) (by omega)
  unfold fX6_plain_40 kPos
  refine qS_chk (cS_in (by omega)) ?_
  by_cases hc : c (i + nn) = 140
  · have hin : i + nn < n := cIn hG (by omega)
    rw [if_pos hc]
    refine qS_pos (by rw [cS_k (by omega)]; omega) ?_
    cases hdp' : dp with
    | none =>
      have hd0 := hdp.mp hdp'
      exact qS_neg (by omega) (qS_step (cFail_t hG hle) (qS_chk (Or.inl rfl) (qS_ret ⟨hle, _, _, _, _, hle, rfl⟩)))
    | some q =>
      have hd0 : ¬ d = 0 := fun h => by rw [hdp.mpr h] at hdp'; cases hdp'
      refine qS_pos (by omega) (qS_chk (cS_in1 (by omega)) (qS_leti ?_))
      rw [cS_n3]
      refine qS_chk (by omega) (qS_call (hq q hdp' (i + nn + 1) l z S (by omega) hl (by omega) N' (by omega)) ?_)
      intro r hr
      dsimp only
      cases hqi : q (i + nn + 1) l with
      | inl e =>
        rw [hqi] at hr
        obtain ⟨he, i', l', z', S', hi', rfl⟩ := hr
        refine qS_pos rfl ?_
        unfold fX6_plain_99
        exact qS_step (cFail_f (hG.2.2.2.2.2.1 e)) (qS_chk (Or.inl rfl) (qS_ret ⟨he, i', l', z', S', hi', rfl⟩))
      | inr s =>
        obtain ⟨s1, j, l1⟩ := s
        rw [hqi] at hr
        obtain ⟨a1, a2, a3, a4, z', S', b1, b2, b3, b4, rfl⟩ := hr
        refine qS_neg (by dsimp only; omega) ?_
        dsimp only
        refine qS_chk (cS_in (by omega)) ?_
        have k41 := cK_sign hG a2 (x := 41) (by omega)
        by_cases h193 : c j = 141
        · have hjn : j < n := cIn hG (by omega)
          rw [if_pos h193]
          refine qS_pos (by rw [cS_k (by omega)]; omega) (qS_chk (cS_in1 (by omega)) (qS_leti ?_))
          rw [cS_n3]
          exact cP216 (by omega) (by omega) a3 a4 b1 (by omega) b3 b4 (by omega)
        · rw [if_neg h193]
          refine qS_neg (by rw [cS_k (by omega)]; omega) ?_
          unfold fX6_plain_99
          exact qS_step (cFail_t hG a2) (qS_chk (Or.inl rfl) (qS_ret ⟨a2, j, l1, z', S', a2, rfl⟩))
  · rw [if_neg hc]
    refine qS_neg (by rw [cS_k (by omega)]; omega) ?_
    refine qS_call (cSumF hG hd hle hl (by omega)) ?_
    intro r hr
    cases hs : kSumD c w d (i + nn) l with
    | inl e =>
      rw [hs] at hr
      obtain ⟨he, i', l', z', S', hi', rfl⟩ := hr
      dsimp only
      refine qS_chk (cS_in (by omega)) (qS_leti (qS_pos rfl ?_))
      unfold fX6_plain_159
      exact qS_step (cFail_f (hG.2.2.2.2.2.1 e)) (qS_chk (Or.inl rfl) (qS_ret ⟨he, i', l', z', S', hi', rfl⟩))
    | inr s =>
      obtain ⟨s1, j, l1⟩ := s
      rw [hs] at hr
      obtain ⟨a1, a2, a3, a4, z', S', b1, b2, b3, b4, rfl⟩ := hr
      dsimp only
      have k60 := cK_sign hG a2 (x := 60) (by omega)
      have k62 := cK_sign hG a2 (x := 62) (by omega)
      have k61 := cK_sign hG a2 (x := 61) (by omega)
      refine qS_chk (cS_in (by omega)) (qS_leti (qS_neg (by omega) ?_))
      rw [cS_k (by omega)]
      by_cases hcmp : c j = 160 ∨ c j = 162 ∨ c j = 161
      · have hjn : j < n := cIn hG (by omega)
        rw [if_pos hcmp]
        have go : ∀ x4 : Int, (x4 = 60 ∧ c j = 160) ∨ (x4 = 62 ∧ c j = 162) ∨ (x4 = 61 ∧ c j = 161) → qS (fX6_plain_164 F (R1 F N') (8 - (d : Int)) (nn : Int) x4 (cS D j l1 z' (-1) S')) (cRes cTst D p n (match (match kSumD c w d (j + 1) l1 with | .inl e => (.inl e : Nat ⊕ (kTst × Nat × Nat)) | .inr (b, k, l2) => .inr (kCmp (c j) s1 b, k, l2)) with | .inl e => .inl e | .inr (t, j, l') => .inr (kNot nn t, j, l')) i l z S) := by
          intro x4 hx
          unfold fX6_plain_164
          refine qS_chk (cS_in1 (by omega)) (qS_leti ?_)
          rw [cS_n3]
          refine qS_call (cSumF hG hd (by omega) a4 (by omega)) ?_
          intro r hr
          cases hs2 : kSumD c w d (j + 1) l1 with
          | inl e =>
            rw [hs2] at hr
            obtain ⟨he, i', l', z2, S2, hi', rfl⟩ := hr
            exact qS_pos rfl (qS_ret ⟨he, i', l', z2, S2, hi', rfl⟩)
          | inr s =>
            obtain ⟨s2, j2, l2⟩ := s
            rw [hs2] at hr
            obtain ⟨d1, d2, d3, d4, z2, S2, f1, f2, f3, f4, rfl⟩ := hr
            have hb := kCpc_in (c j)
            have q4 := b4.1
            have fin : qS (fX6_plain_211 F (R1 F N') (nn : Int) (kCpc (c j)) (cS D j2 l2 z2 (-1) S2)) (cRes cTst D p n (.inr (kNot nn (kCmp (c j) s1 s2), j2, l2)) i l z S) := by
              unfold fX6_plain_211
              refine qS_step (cEmit (by omega) (by omega)) ?_
              rw [zor16 (by omega) (by omega)]
              refine cP216 (by omega) (by omega) (by omega) d4 (by omega) (by omega) (fun k hk => by rw [zset_off (by omega), f3 k (by omega), b3 k hk]) ?_ (by omega)
              rw [show l2 - l = (l1 - l) + (l2 - l1) by omega]
              exact cTst_cmp (b4.eq (fun k k1 k2 => by rw [zset_off (by omega), f3 k k2])) (f4.eq (fun k k1 k2 => zset_off (by omega))) (by rw [zset_eq]; omega)
            refine qS_neg (by omega) ?_
            rcases hx with ⟨rfl, hc⟩ | ⟨rfl, hc⟩ | ⟨rfl, hc⟩
            · have e2 : kCpc (c j) = 6 := by unfold kCpc; rw [if_pos hc]
              rw [e2] at fin
              exact qS_pos rfl fin
            · have e2 : kCpc (c j) = 7 := by unfold kCpc; rw [if_neg (by omega), if_pos hc]
              rw [e2] at fin
              exact qS_neg (by omega) (qS_pos rfl fin)
            · have e2 : kCpc (c j) = 8 := by unfold kCpc; rw [if_neg (by omega), if_neg (by omega)]
              rw [e2] at fin
              exact qS_neg (by omega) (qS_neg (by omega) fin)
        rcases hcmp with hc | hc | hc
        · have e : D 43 j = 60 := by omega
          rw [e]
          exact qS_pos rfl (go 60 (Or.inl ⟨rfl, hc⟩))
        · have e : D 43 j = 62 := by omega
          rw [e]
          exact qS_neg (by omega) (qS_pos rfl (go 62 (Or.inr (Or.inl ⟨rfl, hc⟩))))
        · have e : D 43 j = 61 := by omega
          rw [e]
          exact qS_neg (by omega) (qS_neg (by omega) (qS_pos rfl (go 61 (Or.inr (Or.inr ⟨rfl, hc⟩)))))
      · rw [if_neg hcmp]
        refine qS_neg (by omega) (qS_neg (by omega) (qS_neg (by omega) ?_))
        unfold fX6_plain_159
        exact qS_step (cFail_t hG a2) (qS_chk (Or.inl rfl) (qS_ret ⟨a2, j, l1, z', S', a2, rfl⟩))
theorem cTestD (hG : cG D c w p n) (d : Nat) (hd : d ≤ 8) : cOkT F D p n 0 (2 * d + 2) (8 - (d : Int)) (kTestD c w d) := by
  induction d with
  | zero =>
    unfold kTestD
    exact cTestP hG (cPlain (F := F) (m := 0) (d := 0) hG (by omega) (dp := none) (by simp) (fun q h => by cases h))
  | succ d ih =>
    unfold kTestD
    exact cTestP hG (cPlain (F := F) (m := 2 * d + 2) (d := d + 1) hG hd (dp := some (kTestD c w d)) (by simp) (fun q h => by
      cases h
      have := ih (by omega)
      rw [show (8 - ((d + 1 : Nat) : Int) + 1) = 8 - (d : Int) by omega]
      exact this))
end CRD4
