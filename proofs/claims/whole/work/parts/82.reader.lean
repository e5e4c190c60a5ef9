/-! ===== the class's reader ===== -/
def cS (D : zDa) (i l z : Nat) (b : Int) (S : Nat → Int) : zDa := zrow (zwr (zwr (zwr (zwr D 42 3 (i : Int)) 42 4 (l : Int)) 42 9 (z : Int)) 42 10 b) 48 S
section CSA
variable {F : zFs} {D : zDa} {i l z j : Nat} {b x : Int} {S : Nat → Int}
theorem cS_3 : cS D i l z b S 42 3 = (i : Int) := by unfold cS; rw [zrow_row (by omega), zwr_off (by omega), zwr_off (by omega), zwr_off (by omega), zwr_eq]
theorem cS_4 : cS D i l z b S 42 4 = (l : Int) := by unfold cS; rw [zrow_row (by omega), zwr_off (by omega), zwr_off (by omega), zwr_eq]
theorem cS_9 : cS D i l z b S 42 9 = (z : Int) := by unfold cS; rw [zrow_row (by omega), zwr_off (by omega), zwr_eq]
theorem cS_10 : cS D i l z b S 42 10 = b := by unfold cS; rw [zrow_row (by omega), zwr_eq]
theorem cS_48 : cS D i l z b S 48 = S := by unfold cS; exact zrow_eq
theorem cS_f {k : Nat} (h : k ≠ 3 ∧ k ≠ 4 ∧ k ≠ 9 ∧ k ≠ 10) : cS D i l z b S 42 k = D 42 k := by unfold cS; rw [zrow_row (by omega), zwr_off (by omega), zwr_off (by omega), zwr_off (by omega), zwr_off (by omega)]
theorem cS_r {a : Nat} (h : a ≠ 42 ∧ a ≠ 48) : cS D i l z b S a = D a := by unfold cS; rw [zrow_row (by omega), zwr_row (by omega), zwr_row (by omega), zwr_row (by omega), zwr_row (by omega)]
theorem cS_ext {D1 : zDa} (h3 : D1 42 3 = (i : Int)) (h4 : D1 42 4 = (l : Int)) (h9 : D1 42 9 = (z : Int)) (h10 : D1 42 10 = b) (h48 : D1 48 = S) (hf : ∀ k, k ≠ 3 → k ≠ 4 → k ≠ 9 → k ≠ 10 → D1 42 k = D 42 k) (hr : ∀ a, a ≠ 42 → a ≠ 48 → D1 a = D a) : D1 = cS D i l z b S := by
  funext a k
  by_cases ha : a = 48
  · subst ha; rw [cS_48, h48]
  · by_cases h2 : a = 42
    · subst h2
      by_cases k3 : k = 3
      · subst k3; rw [cS_3, h3]
      · by_cases k4 : k = 4
        · subst k4; rw [cS_4, h4]
        · by_cases k9 : k = 9
          · subst k9; rw [cS_9, h9]
          · by_cases k10 : k = 10
            · subst k10; rw [cS_10, h10]
            · rw [cS_f ⟨k3, k4, k9, k10⟩, hf k k3 k4 k9 k10]
    · rw [cS_r ⟨h2, ha⟩, hr a h2 ha]
theorem cS_w3 (h : x = (j : Int)) : zwr (cS D i l z b S) 42 3 x = cS D j l z b S := by
  refine cS_ext (by rw [zwr_eq]; exact h) (by rw [zwr_off (by omega), cS_4]) (by rw [zwr_off (by omega), cS_9]) (by rw [zwr_off (by omega), cS_10]) (by rw [zwr_row (by omega), cS_48]) (fun k a1 a2 a3 a4 => by rw [zwr_off (by omega), cS_f ⟨a1, a2, a3, a4⟩]) (fun a h1 h2 => by rw [zwr_row h1, cS_r ⟨h1, h2⟩])
theorem cS_w4 (h : x = (j : Int)) : zwr (cS D i l z b S) 42 4 x = cS D i j z b S := by
  refine cS_ext (by rw [zwr_off (by omega), cS_3]) (by rw [zwr_eq]; exact h) (by rw [zwr_off (by omega), cS_9]) (by rw [zwr_off (by omega), cS_10]) (by rw [zwr_row (by omega), cS_48]) (fun k a1 a2 a3 a4 => by rw [zwr_off (by omega), cS_f ⟨a1, a2, a3, a4⟩]) (fun a h1 h2 => by rw [zwr_row h1, cS_r ⟨h1, h2⟩])
theorem cS_w9 (h : x = (j : Int)) : zwr (cS D i l z b S) 42 9 x = cS D i l j b S := by
  refine cS_ext (by rw [zwr_off (by omega), cS_3]) (by rw [zwr_off (by omega), cS_4]) (by rw [zwr_eq]; exact h) (by rw [zwr_off (by omega), cS_10]) (by rw [zwr_row (by omega), cS_48]) (fun k a1 a2 a3 a4 => by rw [zwr_off (by omega), cS_f ⟨a1, a2, a3, a4⟩]) (fun a h1 h2 => by rw [zwr_row h1, cS_r ⟨h1, h2⟩])
theorem cS_w10 : zwr (cS D i l z b S) 42 10 x = cS D i l z x S := by
  refine cS_ext (by rw [zwr_off (by omega), cS_3]) (by rw [zwr_off (by omega), cS_4]) (by rw [zwr_off (by omega), cS_9]) (by rw [zwr_eq]) (by rw [zwr_row (by omega), cS_48]) (fun k a1 a2 a3 a4 => by rw [zwr_off (by omega), cS_f ⟨a1, a2, a3, a4⟩]) (fun a h1 h2 => by rw [zwr_row h1, cS_r ⟨h1, h2⟩])
theorem cS_w48 {k : Nat} : zwr (cS D i l z b S) 48 k x = cS D i l z b (zset S k x) := by
  refine cS_ext (by rw [zwr_off (by omega), cS_3]) (by rw [zwr_off (by omega), cS_4]) (by rw [zwr_off (by omega), cS_9]) (by rw [zwr_off (by omega), cS_10]) ?_ (fun k a1 a2 a3 a4 => by rw [zwr_off (by omega), cS_f ⟨a1, a2, a3, a4⟩]) (fun a h1 h2 => by rw [zwr_row h2, cS_r ⟨h1, h2⟩])
  funext j
  rw [zwr_at, cS_48]
  rfl
theorem cS_n3 : zwr (cS D i l z b S) 42 3 (cS D i l z b S 42 3 + 1) = cS D (i + 1) l z b S := cS_w3 (by rw [cS_3]; omega)
theorem cS_k {a : Nat} (h : a ≠ 42 ∧ a ≠ 48) : cS D i l z b S a (cS D i l z b S 42 3).toNat = D a i := by rw [cS_3, cS_r h]; rfl
theorem cS_in (h : i ≤ 400) : 0 ≤ cS D i l z b S 42 3 ∧ cS D i l z b S 42 3 < 401 := by rw [cS_3]; omega
theorem cS_in1 (h : i ≤ 400) : -2147483648 ≤ cS D i l z b S 42 3 + 1 ∧ cS D i l z b S 42 3 + 1 ≤ 2147483647 := by rw [cS_3]; omega
theorem cEmit {op v : Int} (ho : op ≠ -1) (hz : z < 412) : fX6_emit F op v (cS D i l z b S) = some ((z : Int), cS D i l (z + 1) b (zset S z (zor (zshl v 4) op))) := by
  unfold fX6_emit
  rw [if_neg ho]
  refine (if_pos (by rw [cS_9]; omega)).trans ?_
  refine (if_pos (by rw [cS_9]; omega)).trans ?_
  rw [zlet_b, cS_9, show ((z : Int)).toNat = z by omega, cS_w48]
  refine (if_pos (by rw [cS_9]; omega)).trans ?_
  rw [zlet_b, cS_9, cS_w9 (j := z + 1) (by omega)]
  refine (if_pos (by rw [cS_9]; omega)).trans ?_
  rw [cS_9]
  congr 2
  omega
theorem cEmit_no {v : Int} : fX6_emit F (-1) v (cS D i l z b S) = some (-1, cS D i l z b S) := by
  unfold fX6_emit
  rw [if_pos rfl]
theorem cEmit_any (op v : Int) : ∃ r z' S', fX6_emit F op v (cS D i l z b S) = some (r, cS D i l z' b S') := by
  by_cases ho : op = -1
  · subst ho; exact ⟨_, _, _, cEmit_no⟩
  · by_cases hz : z < 412
    · exact ⟨_, _, _, cEmit ho hz⟩
    · refine ⟨-1, z, S, ?_⟩
      unfold fX6_emit
      rw [if_neg ho]
      exact if_neg (by rw [cS_9]; omega)
theorem zor16 {v op : Int} (hv : 0 ≤ v ∧ v ≤ 1000) (ho : 0 ≤ op ∧ op < 16) : zor (zshl v 4) op = 16 * v + op := by
  obtain ⟨a, rfl⟩ : ∃ a : Nat, v = (a : Int) := ⟨v.toNat, by omega⟩
  obtain ⟨o, rfl⟩ : ∃ a : Nat, op = (a : Int) := ⟨op.toNat, by omega⟩
  have e1 : zshl (a : Int) 4 = ((a * 2 ^ 4 : Nat) : Int) := zshl_nat (k := 4) (by omega) (by omega)
  rw [e1, zor_nat (by omega) (by omega)]
  have e2 : a * 2 ^ 4 ||| o = 2 ^ 4 * a + o := by
    rw [Nat.mul_comm, ← Nat.two_pow_add_eq_or_of_lt (by omega)]
  rw [e2]; omega
theorem zor16' {v op : Int} (hv : 0 ≤ v ∧ v ≤ 1000) (ho : 0 ≤ op ∧ op < 16) : zor op (zshl v 4) = 16 * v + op := by
  obtain ⟨a, rfl⟩ : ∃ a : Nat, v = (a : Int) := ⟨v.toNat, by omega⟩
  obtain ⟨o, rfl⟩ : ∃ a : Nat, op = (a : Int) := ⟨op.toNat, by omega⟩
  have e1 : zshl (a : Int) 4 = ((a * 2 ^ 4 : Nat) : Int) := zshl_nat (k := 4) (by omega) (by omega)
  rw [e1, zor_nat (by omega) (by omega), Nat.or_comm]
  have e2 : a * 2 ^ 4 ||| o = 2 ^ 4 * a + o := by
    rw [Nat.mul_comm, ← Nat.two_pow_add_eq_or_of_lt (by omega)]
  rw [e2]; omega
end CSA
def cG (D : zDa) (c w p : Nat → Int) (n : Nat) : Prop := n ≤ 400 ∧ (∀ i, i < n → D 43 i = tKind (c i) (w i) ∧ vOk (c i) (w i) (D 44 i) ∧ ((0 ≤ c i ∧ c i ≤ 14) ∨ c i = 50 ∨ (100 ≤ c i ∧ c i ≤ 355))) ∧ D 43 n = 256 ∧ (∀ i, i ≤ n → D 45 i = p i) ∧ (∀ i, n ≤ i → c i = 0) ∧ (∀ i, 0 ≤ p i) ∧ ∀ i, 0 ≤ w i
section CRD
variable {F : zFs} {D : zDa} {c w p : Nat → Int} {n i l z : Nat} {b : Int} {S : Nat → Int}
theorem cIn (hG : cG D c w p n) {i : Nat} (h : c i ≠ 0) : i < n := by
  by_cases e : i < n
  · exact e
  · exact absurd (hG.2.2.2.2.1 i (by omega)) h
theorem cK_sign (hG : cG D c w p n) (hi : i ≤ n) {x : Int} (hx : 0 ≤ x ∧ x ≤ 255) : D 43 i = x ↔ c i = 100 + x := by
  by_cases e : i < n
  · obtain ⟨h1, h2, h3⟩ := hG.2.1 i e
    rw [h1]
    unfold tKind
    repeat' split
    all_goals omega
  · have : i = n := by omega
    subst this
    rw [hG.2.2.1, hG.2.2.2.2.1 i (by omega)]; omega
theorem cK_258 (hG : cG D c w p n) (hi : i ≤ n) : D 43 i = 258 ↔ c i = 50 ∧ w i ≤ 1000 := by
  by_cases e : i < n
  · obtain ⟨h1, h2, h3⟩ := hG.2.1 i e
    rw [h1]
    unfold tKind
    repeat' split
    all_goals omega
  · have : i = n := by omega
    subst this
    rw [hG.2.2.1, hG.2.2.2.2.1 i (by omega)]; omega
theorem cK_260 (hG : cG D c w p n) (hi : i ≤ n) : D 43 i = 260 ↔ 8 ≤ c i ∧ c i ≤ 14 := by
  by_cases e : i < n
  · obtain ⟨h1, h2, h3⟩ := hG.2.1 i e
    rw [h1]
    unfold tKind
    repeat' split
    all_goals omega
  · have : i = n := by omega
    subst this
    rw [hG.2.2.1, hG.2.2.2.2.1 i (by omega)]; omega
theorem cK_259 (hG : cG D c w p n) (hi : i ≤ n) : D 43 i = 259 ↔ 1 ≤ c i ∧ c i ≤ 3 := by
  by_cases e : i < n
  · obtain ⟨h1, h2, h3⟩ := hG.2.1 i e
    rw [h1]
    unfold tKind
    repeat' split
    all_goals omega
  · have : i = n := by omega
    subst this
    rw [hG.2.2.1, hG.2.2.2.2.1 i (by omega)]; omega
theorem cK_word (hG : cG D c w p n) (hi : i ≤ n) {x : Int} (hx : 261 ≤ x ∧ x ≤ 264) : D 43 i = x ↔ c i = x - 257 := by
  by_cases e : i < n
  · obtain ⟨h1, h2, h3⟩ := hG.2.1 i e
    rw [h1]
    unfold tKind
    repeat' split
    all_goals omega
  · have : i = n := by omega
    subst this
    rw [hG.2.2.1, hG.2.2.2.2.1 i (by omega)]; omega
theorem cK_256 (hG : cG D c w p n) (hi : i ≤ n) : D 43 i = 256 ↔ i = n := by
  by_cases e : i < n
  · obtain ⟨h1, h2, h3⟩ := hG.2.1 i e
    rw [h1]
    unfold tKind
    repeat' split
    all_goals omega
  · have : i = n := by omega
    subst this
    rw [hG.2.2.1]; omega
theorem cFail_t (hG : cG D c w p n) (hi : i ≤ n) : fX6_fail F (cS D i l z (-1) S) = some (0, cS D i l z (p i) S) := by
  have := hG.1
  unfold fX6_fail
  refine (if_pos (by rw [cS_10])).trans ?_
  refine (if_pos (cS_in (by omega))).trans ?_
  rw [zlet_b, cS_k (by omega), hG.2.2.2.1 i hi, cS_w10]
theorem cFail_f (hb : 0 ≤ b) : fX6_fail F (cS D i l z b S) = some (0, cS D i l z b S) := by
  unfold fX6_fail
  exact if_neg (by rw [cS_10]; omega)
/-- how a reading ends -/
def cRes {α : Type} (R : (Nat → Int) → Nat → Nat → Nat → α → Prop) (D : zDa) (p : Nat → Int) (n : Nat) (x : Nat ⊕ (α × Nat × Nat)) (i l z : Nat) (S : Nat → Int) (r : Int × zDa) : Prop := match x with
  | .inl e => e ≤ n ∧ ∃ i' l' z' S', i' ≤ n ∧ r = (0, cS D i' l' z' (p e) S')
  | .inr (f, j, l') => i < j ∧ j ≤ n ∧ l < l' ∧ l' ≤ 50 ∧ ∃ z' S', z < z' ∧ z' + i ≤ z + j ∧ (∀ k, k < z → S' k = S k) ∧ R S' z z' (l' - l) f ∧ r = (1, cS D j l' z' (-1) S')
def cOk (F : zFs) (D : zDa) (p : Nat → Int) (n : Nat) (t m : Nat) (deep : Int) (q : kP kSum) : Prop :=
  ∀ i l z S, i ≤ n → l ≤ 50 → z ≤ i → ∀ N, m ≤ N → qS (R0 F N t deep 0 (cS D i l z (-1) S)) (cRes cSum D p n (q i l) i l z S)
theorem R0_0 (N : Nat) (a b : Int) (D : zDa) : R0 F (N + 1) 0 a b D = bX6_sum F (R0 F N) a D := rfl
theorem R0_1 (N : Nat) (a b : Int) (D : zDa) : R0 F (N + 1) 1 a b D = bX6_part F (R0 F N) a D := rfl
theorem cPart (hG : cG D c w p n) {d : Nat} (hd : d ≤ 8) {dp : Option (kP kSum)} (hdp : dp = none ↔ d = 0) {m : Nat} (hq : ∀ q, dp = some q → cOk F D p n 0 m (8 - (d : Int) + 1) q) : cOk F D p n 1 (m + 1) (8 - (d : Int)) (kPart c w dp) := by
  intro i l z S hi hl hz N hN
  have h4 := hG.1
  obtain ⟨N', rfl⟩ : ∃ N', N = N' + 1 := ⟨N - 1, by omega⟩
  rw [R0_1]
  unfold bX6_part kPart
  have k91 := cK_sign hG hi (x := 91) (by omega)
  have k258 := cK_258 hG hi
  have k260 := cK_260 hG hi
  have hw := hG.2.2.2.2.2.2 i
  refine qS_chk (cS_in (by omega)) ?_
  rw [cS_k (by omega)]
  by_cases hc : c i = 191
  · rw [if_pos hc]
    have hin : i < n := cIn hG (by omega)
    refine qS_pos (by omega) ?_
    cases hdp' : dp with
    | none =>
      have hd0 := hdp.mp hdp'
      refine qS_neg (by omega) (qS_step (cFail_t hG hi) (qS_chk (Or.inl rfl) (qS_ret ⟨hi, i, l, z, S, hi, rfl⟩)))
    | some q =>
      have hd0 : ¬ d = 0 := fun h => by rw [hdp.mpr h] at hdp'; cases hdp'
      refine qS_pos (by omega) (qS_chk (cS_in1 (by omega)) (qS_leti ?_))
      rw [cS_n3]
      refine qS_chk (by omega) (qS_call (hq q hdp' (i + 1) l z S (by omega) hl (by omega) N' (by omega)) ?_)
      intro r hr
      dsimp only
      cases hqi : q (i + 1) l with
      | inl e =>
        rw [hqi] at hr
        obtain ⟨he, i', l', z', S', hi', rfl⟩ := hr
        refine qS_pos rfl ?_
        unfold fX6_part_59
        exact qS_step (cFail_f (hG.2.2.2.2.2.1 e)) (qS_chk (Or.inl rfl) (qS_ret ⟨he, i', l', z', S', hi', rfl⟩))
      | inr s =>
        obtain ⟨s1, j, l1⟩ := s
        rw [hqi] at hr
        obtain ⟨a1, a2, a3, a4, z', S', b1, b2, b3, b4, rfl⟩ := hr
        refine qS_neg (by dsimp only; omega) ?_
        dsimp only
        refine qS_chk (cS_in (by omega)) ?_
        have k93 := cK_sign hG a2 (x := 93) (by omega)
        by_cases h193 : c j = 193
        · have hjn : j < n := cIn hG (by omega)
          rw [if_pos h193]
          refine qS_pos (by rw [cS_k (by omega)]; omega) (qS_chk (cS_in1 (by omega)) (qS_leti (qS_ret ?_)))
          rw [cS_n3]
          exact ⟨by omega, by omega, a3, a4, z', S', b1, by omega, b3, b4, rfl⟩
        · rw [if_neg h193]
          refine qS_neg (by rw [cS_k (by omega)]; omega) ?_
          unfold fX6_part_59
          exact qS_step (cFail_t hG a2) (qS_chk (Or.inl rfl) (qS_ret ⟨a2, j, l1, z', S', a2, rfl⟩))
  · rw [if_neg hc]
    refine qS_neg (by omega) ?_
    have fl : qS (fX6_part_125 F (R0 F N') (cS D i l z (-1) S)) (cRes cSum D p n (.inl i) i l z S) := by
      unfold fX6_part_125
      exact qS_step (cFail_t hG hi) (qS_chk (Or.inl rfl) (qS_ret ⟨hi, i, l, z, S, hi, rfl⟩))
    have lf : ∀ (f : kSum) (op : Int), i < n → (D 43 i = 258 → op = 0) → (D 43 i ≠ 258 → op = 1) → (0 ≤ D 44 i ∧ D 44 i ≤ 1000) → (∀ S', S' z = 16 * D 44 i + op → cSum S' z (z + 1) 1 f) →
        qS (fX6_part_111 F (R0 F N') 1 (cS D i l z (-1) S)) (cRes cSum D p n (if l = 50 then .inl i else .inr (f, i + 1, l + 1)) i l z S) := by
      intro f op hin h0 h1 hv hf
      unfold fX6_part_111
      refine qS_neg (by omega) ?_
      by_cases h50 : l = 50
      · rw [if_pos h50]
        exact qS_neg (by rw [cS_4]; omega) fl
      · rw [if_neg h50]
        refine qS_pos (by rw [cS_4]; omega) (qS_chk (by rw [cS_4]; omega) (qS_leti ?_))
        rw [cS_w4 (j := l + 1) (by rw [cS_4]; omega)]
        refine qS_chk (cS_in (by omega)) ?_
        rw [cS_k (by omega)]
        have go : op = 0 ∨ op = 1 → qS (fX6_part_161 F (R0 F N') op (cS D i (l + 1) z (-1) S)) (cRes cSum D p n (.inr (f, i + 1, l + 1)) i l z S) := by
          intro hop
          unfold fX6_part_161
          refine qS_chk (cS_in (by omega)) ?_
          rw [cS_k (by omega)]
          refine qS_step (cEmit (by omega) (by omega)) ?_
          refine qS_chk (cS_in1 (by omega)) (qS_leti (qS_ret ?_))
          rw [cS_n3, zor16 hv (by omega)]
          refine ⟨by omega, by omega, by omega, by omega, z + 1, _, by omega, by omega, fun k hk => zset_off (by omega), ?_, rfl⟩
          rw [show l + 1 - l = 1 by omega]
          exact hf _ zset_eq
        by_cases h258 : D 43 i = 258
        · refine qS_pos h258 ?_
          have := go (Or.inl (h0 h258))
          rw [h0 h258] at this
          exact this
        · refine qS_neg h258 ?_
          have := go (Or.inr (h1 h258))
          rw [h1 h258] at this
          exact this
    by_cases h5 : c i = 50 ∧ 0 ≤ w i ∧ w i ≤ 1000
    · rw [if_pos h5]
      have hin : i < n := cIn hG (by omega)
      refine qS_pos (by omega) ?_
      unfold fX6_part_106
      have hv := (hG.2.1 i hin).2.1.2.2 ⟨h5.1, h5.2.2⟩
      refine lf _ 0 hin (fun _ => rfl) (fun h => absurd (k258.mpr ⟨h5.1, h5.2.2⟩) h) (by omega) (fun S' hS' => ⟨by omega, by omega, fun A hA => ⟨fun v hv => ?_, ?_⟩⟩)
      · cases hv; omega
      · refine cRel_push ?_ (by omega)
        rw [hS', hv]; omega
    · rw [if_neg h5]
      refine qS_neg (by omega) ?_
      by_cases h8 : 8 ≤ c i ∧ c i ≤ 14
      · rw [if_pos h8]
        have hin : i < n := cIn hG (by omega)
        refine qS_pos (by omega) ?_
        unfold fX6_part_106
        have hv := (hG.2.1 i hin).2.1.2.1 h8
        refine lf _ 1 hin (fun h => by omega) (fun _ => rfl) (by omega) (fun S' hS' => ⟨by omega, by omega, fun A hA => ⟨fun v hv => ?_, ?_⟩⟩)
        · cases hv; exact hA _
        · refine cRel_ask ?_ (by omega)
          rw [hS', hv]
      · rw [if_neg h8]
        refine qS_neg (by omega) ?_
        unfold fX6_part_111
        exact qS_pos rfl fl
end CRD
