section TL
variable {F : zFs} {D : zDa} {Z : Nat → Prop} {K : Nat → Int}
/-- the class follows the steps of a clause -/
def hPo (D : zDa) (b : Bool) (v : Int) (r : Int × zDa) : Prop := r.1 = (if b then 1 else 0) ∧ (b = true → r.2 51 0 = v) ∧ zfr [49, 51] D r.2
theorem hRun {S A : Nat → Int} {t p s len : Nat} (hF1 : (F p).1 = 4) (hF2 : (F p).2.2 3 = (s : Int)) (hF3 : (F s).1 = 20) (hF4 : (F s).2.1 = len) (ht : t ≤ len) (hl4 : len ≤ 412) (hs : 126 ≤ s) :
    ∀ (m at' top : Nat) (st : Nat → Int) (D : zDa) (M v5 : Nat) (b : Bool) (v : Int), hSt D top st → (∀ k, k < 7 → D 50 k = A k) → D s = S → v5 + m ≤ 412 → m ≤ M → kRun S A t m at' top st = some (b, v) →
      qS (zfix (fun _ _ _ => none) (fX10_holds_11 F p (t : Int)) M (at' : Int) (v5 : Int) D) (hPo D b v) := by
  have htn : ((s : Int)).toNat = s := by omega
  intro m
  induction m with
  | zero => intro at' top st D M v5 b v _ _ _ _ _ h; cases h
  | succ m ih =>
    intro at' top st D M v5 b v hst hA hS hv5 hM h
    obtain ⟨M', rfl⟩ : ∃ M', M = M' + 1 := ⟨M - 1, by omega⟩
    rw [zfix_succ]
    generalize hk : zfix (fun _ _ _ => none) (fX10_holds_11 F p (t : Int)) M' = k
    unfold kRun at h
    by_cases hat : at' = t
    · rw [if_pos hat] at h
      have e : qS (fX10_holds_188 F D) (hPo D b v) := by
        cases h
        unfold fX10_holds_188
        rw [hst.1, hst.2]
        refine qS_ite (fun c1 => qS_ite (fun c2 => qS_ret ⟨?_, fun _ => by dsimp only; rw [hst.2], zfr.rfl' _ D⟩) (fun c2 => qS_ret ⟨?_, fun _ => by dsimp only; rw [hst.2], zfr.rfl' _ D⟩)) (fun c1 => qS_ret ⟨?_, fun _ => by dsimp only; rw [hst.2], zfr.rfl' _ D⟩)
        · have : top = 2 := by omega
          simp [this, c2]
        · simp [c2]
        · have : ¬ top = 2 := by omega
          simp [this]
      unfold fX10_holds_11
      refine qS_ite (fun h1 => qS_neg (by omega) (qS_neg (by omega) e)) (fun h1 => e)
    · rw [if_neg hat] at h
      by_cases hbad : t < at' ∨ S at' < 0 ∨ 2147483647 < S at'
      · rw [if_pos hbad] at h; cases h
      · rw [if_neg hbad] at h
        have hz := zshr4 (s := S at') (by omega)
        have go : ∀ (D1 : zDa) (at2 top2 : Nat) (st2 : Nat → Int) (x : Int), x = (at2 : Int) → hSt D1 top2 st2 → zfr [49, 51] D D1 → kRun S A t m at2 top2 st2 = some (b, v) → qS (fX10_holds_182 F k p (t : Int) x v5 D1) (hPo D b v) := by
          intro D1 at2 top2 st2 x hx hst2 hfr hkr
          subst hx
          have := ih at2 top2 st2 D1 M' (v5 + 1) b v hst2 (fun k hk => by rw [hfr 50 (by decide)]; exact hA k hk) (by rw [hfr s (by simp; omega)]; exact hS) (by omega) (by omega) hkr
          rw [hk] at this
          unfold fX10_holds_182
          refine qS_chk (by omega) (qS_mono this (fun r hr => ⟨hr.1, hr.2.1, hfr.trans hr.2.2⟩))
        have jump : ∀ want : Int, (want = 0 ∨ want = 1) → (S at' % 16 = 11 ↔ want = 1) → (S at' % 16 = 10 ∨ S at' % 16 = 11) → (if 0 < top ∧ top ≤ 52 then (if st (top - 1) = want then kRun S A t m (S at' / 16).toNat top st else kRun S A t m (at' + 1) (top - 1) st) else none) = some (b, v) → qS (fX10_holds_104 F k p (t : Int) ((at' : Int) + 1) v5 (S at' % 16) (S at' / 16) D) (hPo D b v) := by
          intro want hw hiff hop hkr
          by_cases htop : 0 < top ∧ top ≤ 52
          · rw [if_pos htop] at hkr
            have h134 : qS (fX10_holds_134 F k p (t : Int) ((at' : Int) + 1) v5 (S at' / 16) want (st (top - 1)) D) (hPo D b v) := by
              unfold fX10_holds_134 fX10_holds_143 fX10_holds_144 fX10_holds_168
              by_cases hset : st (top - 1) = want
              · rw [if_pos hset] at hkr
                exact qS_pos hset (qS_neg (by omega) (go D (S at' / 16).toNat top st _ (by omega) hst (zfr.rfl' _ D) hkr))
              · rw [if_neg hset] at hkr
                refine qS_neg hset (qS_pos rfl ?_)
                rw [hst.1]
                exact qS_chk (by omega) (qS_leti (go (zwr D 49 3 ((top : Int) - 1)) (at' + 1) (top - 1) st _ (by omega) ⟨by rw [zwr_eq]; omega, by rw [zwr_row (by omega)]; exact hst.2⟩ ((zfr.rfl' _ D).wr (by decide)) hkr))
            unfold fX10_holds_104
            rw [hst.1, hst.2, show ((top : Int) - 1).toNat = top - 1 by omega]
            refine qS_pos (by omega) (qS_chk (by omega) (qS_ite (fun h11 => ?_) (fun h11 => ?_)))
            · rw [hiff.mp h11] at h134; exact h134
            · rw [show want = 0 by omega] at h134; exact h134
          · rw [if_neg htop] at hkr; cases hkr
        unfold fX10_holds_11
        rw [hF2, htn, hS, show ((at' : Int)).toNat = at' by omega, hz.1, hz.2]
        refine qS_pos (by omega) (qS_neg (by omega) (qS_pos (by omega) (qS_chk ⟨hF1, by omega, hF3, by omega, by rw [hF4]; omega⟩ (qS_leti (qS_leti (qS_chk (by omega) ?_))))))
        by_cases p0 : S at' % 16 = 0
        · rw [if_pos p0] at h
          refine qS_pos p0 ?_
          by_cases ht5 : top < 52
          · rw [if_pos ht5] at h
            obtain ⟨D1, e1, hs1, hf1⟩ := hPush (F := F) hst ht5 (S at' / 16)
            exact qS_step e1 (go D1 (at' + 1) (top + 1) _ _ (by omega) hs1 hf1 h)
          · rw [if_neg ht5] at h; cases h
        rw [if_neg p0] at h
        refine qS_neg p0 ?_
        by_cases p1 : S at' % 16 = 1
        · rw [if_pos p1] at h
          refine qS_pos p1 ?_
          by_cases ht5 : top < 52 ∧ S at' / 16 < 7
          · rw [if_pos ht5] at h
            refine qS_chk (by omega) ?_
            rw [hA _ (by omega)]
            obtain ⟨D1, e1, hs1, hf1⟩ := hPush (F := F) hst ht5.1 (A (S at' / 16).toNat)
            exact qS_step e1 (go D1 (at' + 1) (top + 1) _ _ (by omega) hs1 hf1 h)
          · rw [if_neg ht5] at h; cases h
        rw [if_neg p1] at h
        refine qS_neg p1 ?_
        by_cases p10 : S at' % 16 = 10
        · rw [if_pos p10] at h
          exact qS_pos p10 (jump 0 (by omega) (by omega) (by omega) h)
        rw [if_neg p10] at h
        refine qS_neg p10 ?_
        by_cases p11 : S at' % 16 = 11
        · rw [if_pos p11] at h
          exact qS_pos p11 (jump 1 (by omega) (by omega) (by omega) h)
        rw [if_neg p11] at h
        refine qS_neg p11 ?_
        by_cases p9 : S at' % 16 = 9
        · rw [if_pos p9] at h
          by_cases hc : 0 < top ∧ top ≤ 52 ∧ 0 ≤ st (top - 1) ∧ st (top - 1) ≤ 1
          · rw [if_pos hc] at h
            have eo : fX10_operate F (S at' % 16) D = some (1, zwr D 51 (top - 1) (1 - st (top - 1))) := by
              unfold fX10_operate
              have i1 : (D 49 3 - 1).toNat = top - 1 := by rw [hst.1]; omega
              rw [if_pos p9, if_neg (by rw [hst.1]; omega), i1, hst.2, hst.1, if_pos (by omega)]
              rfl
            refine qS_step eo ?_
            dsimp only
            exact qS_neg (by omega) (go _ (at' + 1) top _ _ (by omega) ⟨by rw [zwr_row (by omega)]; exact hst.1, by rw [zwr_self, hst.2]⟩ ((zfr.rfl' _ D).wr (by decide)) h)
          · rw [if_neg hc] at h; cases h
        rw [if_neg p9] at h
        by_cases hc : 1 < top ∧ top ≤ 52 ∧ (-1000000000 ≤ st (top - 1) ∧ st (top - 1) ≤ 1000000000) ∧ (-1000000000 ≤ st (top - 2) ∧ st (top - 2) ≤ 1000000000)
        · rw [if_pos hc] at h
          have ho := hOp (F := F) hst ⟨hc.1, hc.2.1⟩ hc.2.2.1 hc.2.2.2 (op := S at' % 16) p9 (by omega)
          cases hb2 : kBin2 (S at' % 16) (st (top - 2)) (st (top - 1)) with
          | none =>
            rw [hb2] at ho h
            obtain ⟨D1, e1, hf1⟩ := ho
            refine qS_step e1 ?_
            dsimp only
            cases h
            exact qS_pos rfl (qS_ret ⟨rfl, (fun hx => by cases hx), hf1⟩)
          | some z =>
            rw [hb2] at ho h
            obtain ⟨D1, e1, hs1, hf1⟩ := ho
            refine qS_step e1 ?_
            dsimp only
            exact qS_neg (by omega) (go D1 (at' + 1) (top - 1) _ _ (by omega) hs1 hf1 h)
        · rw [if_neg hc] at h; cases h
theorem kLast_app {head low high : Int} {A : Nat → Int} (q : Int × kSum) : ∀ (xs : List (Int × kSum)) (v : Int), kLast head low high A v (xs ++ [q]) = if q.1 = head then (match q.2 A with | some z => kClamp low high z | none => kLast head low high A v xs) else kLast head low high A v xs := by
  intro xs
  induction xs with
  | nil => intro v; rfl
  | cons x r ih => intro v; exact ih _
theorem pX10_told (h : qSt F D Z 1 K) (hZ : ∀ a, Z a → 126 ≤ a) {A : Nat → Int} (hA : ∀ k, k < 7 → D 50 k = A k) (hb : ∀ k, -1000000000 ≤ A k ∧ A k ≤ 1000000000) (head low high wo : Int) (hl : -1000 ≤ low ∧ low ≤ high ∧ high ≤ 1000) :
    qS (fX10_told F head wo low high D) (fun r => r.1 = kTold K (head + 1) low high wo A ∧ zfr [49, 51] D r.2) := by
  have hk7 := h.1.2.2.2.2.2.2
  obtain ⟨e8, e9, e10, e11⟩ := h.2.2.2.2.2.2.2
  unfold fX10_told kTold
  have hp : fX9_paperInUse F D = some (if K 394 = -1 then -1 else D 8 (K 394).toNat, D) := by
    unfold fX9_paperInUse
    rw [e9, e8]
    by_cases c : K 394 = -1
    · rw [if_pos (by omega), if_pos c]
    · rw [if_neg (by omega), if_pos (by omega), if_pos (by omega), if_neg c]
  refine qS_step hp ?_
  dsimp only
  by_cases c : K 394 = -1
  · rw [if_pos c, if_pos c]
    exact qS_pos (by omega) (qS_ret ⟨rfl, zfr.rfl' _ D⟩)
  · rw [if_neg c, if_neg c]
    obtain ⟨u, hu⟩ : ∃ u : Nat, K 394 = (u : Int) := ⟨(K 394).toNat, by omega⟩
    obtain ⟨hsz, hpap, _⟩ := e11 u (by omega)
    rw [show (K 394).toNat = u by omega]
    rw [show (1 + 7 : Nat) = 8 from rfl] at hpap
    generalize D 8 u = p at *
    generalize kCls K u = cs at *
    obtain ⟨p0, zp, k4, kl, l12, x, bb, s, f1, f2, f3, z1, z2, z3, ⟨a1, a2⟩, ⟨b1, b2⟩, ⟨c1, c2⟩, hcl⟩ := hpap
    have hxn : ((x : Int)).toNat = x := by omega
    have hbn : ((bb : Int)).toNat = bb := by omega
    have hx126 := hZ x z1
    have hb126 := hZ bb z2
    have hs126 := hZ s z3
    refine qS_neg (by omega) (qS_chk ⟨k4, by rw [kl]; omega⟩ (qS_leti ?_))
    rw [kl]
    refine qloop1 (fun v D1 => ∃ n : Nat, v = (n : Int) - 1 ∧ n ≤ cs.length ∧ kLast (head + 1) low high A wo cs = kLast (head + 1) low high A wo (cs.take n) ∧ zfr [49, 51] D D1) (fun v _ => (v + 1).toNat) ?_ ⟨cs.length, by omega, by omega, by rw [List.take_length], zfr.rfl' _ D⟩ (zfu_gt (by omega))
    intro k v D1 ⟨n, ev, hn, hkl, hfr⟩ ih
    unfold fX10_told_25
    refine qS_ite (fun hv => qS_ret ?_) (fun hv => ?_)
    · have : n = 0 := by omega
      subst this
      exact ⟨by rw [hkl]; rfl, hfr⟩
    · obtain ⟨n', rfl⟩ : ∃ n', n = n' + 1 := ⟨n - 1, by omega⟩
      have hv' : v = (n' : Int) := by omega
      subst hv'
      have hlt : n' < cs.length := by omega
      obtain ⟨q1, q2, q3⟩ := hcl n' hlt
      have htake : cs.take (n' + 1) = cs.take n' ++ [cs[n']] := List.take_succ_eq_append_getElem hlt
      rw [htake, kLast_app] at hkl
      have hDx : D1 x = D x := hfr x (by simp; omega)
      have hDb : D1 bb = D bb := hfr bb (by simp; omega)
      have hDs : D1 s = D s := hfr s (by simp; omega)
      rw [f1, hxn, f2, hbn]
      refine qS_chk ⟨p0, k4, by omega, a1, by rw [a2]; omega⟩ ?_
      rw [hDx, hDb, show ((n' : Int)).toNat = n' by omega, show ((n' : Int) + 1).toNat = n' + 1 by omega, q1]
      have next : ∀ D2 : zDa, zfr [49, 51] D D2 → kLast (head + 1) low high A wo cs = kLast (head + 1) low high A wo (cs.take n') → qS (fX10_told_88 F k head wo low high p (n' : Int) D2) (fun r => r.1 = kLast (head + 1) low high A wo cs ∧ zfr [49, 51] D r.2) := by
        intro D2 hf2 hk2
        unfold fX10_told_88
        exact qS_chk (by omega) (ih _ _ ⟨n', by omega, by omega, hk2, hf2⟩ (by omega))
      refine qS_ite (fun hh => ?_) (fun hh => ?_)
      · rw [if_pos (by omega)] at hkl
        refine qS_chk ⟨by omega, b1, by rw [b2]; omega, by omega, by rw [b2]; omega⟩ ?_
        obtain ⟨m, b, w, hm, hrun, hval⟩ := q3 A hb (D1 51)
        have hst : hSt (zwr D1 49 3 0) 0 (D1 51) := ⟨by rw [zwr_eq]; rfl, by rw [zwr_row (by omega)]⟩
        have hr := hRun (F := F) (S := D s) (A := A) (t := (D bb (n' + 1)).toNat) (p := p.toNat) (s := s) (len := (F s).2.1) k4 f3 c1 rfl (by omega) c2 hs126 m (D bb n').toNat 0 (D1 51) (zwr D1 49 3 0) zfu 0 b w hst (fun k hk => by rw [zwr_row (by omega), hfr 50 (by decide)]; exact hA k hk) (by rw [zwr_row (by omega)]; exact hDs) (by omega) (by unfold zfu; omega) hrun
        rw [show (((D bb (n' + 1)).toNat : Nat) : Int) = D bb (n' + 1) by omega, show (((D bb n').toNat : Nat) : Int) = D bb n' by omega] at hr
        have hho : qS (fX10_holds F p.toNat (D bb n') (D bb (n' + 1)) D1) (hPo (zwr D1 49 3 0) b w) := qS_leti hr
        refine qS_call hho (fun ⟨r0, D'⟩ ⟨e1, e2, e3⟩ => ?_)
        have hfr' : zfr [49, 51] D D' := hfr.trans (((zfr.rfl' _ D1).wr (by decide)).trans e3)
        dsimp only at e1 e2 ⊢
        subst e1
        cases b with
        | false =>
          have hn : (cs[n']).2 A = none := hval
          rw [hn] at hkl
          exact qS_pos rfl (next D' hfr' hkl)
        | true =>
          have hsome : (cs[n']).2 A = some w := hval
          rw [hsome] at hkl
          have e51 := e2 rfl
          refine qS_neg (by decide) ?_
          rw [hkl]
          unfold fJ9_min_f86c9 fJ9_max_f86c9
          rw [e51]
          obtain ⟨mn, hmn⟩ : ∃ mn, mn = if w < high then w else high := ⟨_, rfl⟩
          refine qS_step (r := (mn, D')) (by rw [hmn]; split <;> rfl) ?_
          dsimp only
          obtain ⟨mx, hmx⟩ : ∃ mx, mx = if low < mn then mn else low := ⟨_, rfl⟩
          refine qS_step (r := (mx, D')) (by rw [hmx]; split <;> rfl) (qS_ret ⟨?_, hfr'⟩)
          dsimp only
          have hmx' : mx = kClamp low high w := by
            unfold kClamp
            rw [hmx, hmn]
            by_cases w1 : w < high
            · rw [if_pos w1]
              by_cases w2 : low < w
              · rw [if_pos w2, if_neg (by omega), if_neg (by omega)]
              · rw [if_neg w2]
                by_cases w3 : w < low
                · rw [if_pos w3]
                · rw [if_neg w3, if_neg (by omega)]; omega
            · rw [if_neg w1, if_neg (c := w < low) (by omega)]
              by_cases w2 : low < high
              · rw [if_pos w2]
                by_cases w3 : high < w
                · rw [if_pos w3]
                · rw [if_neg w3]; omega
              · rw [if_neg w2]
                by_cases w3 : high < w
                · rw [if_pos w3]; omega
                · rw [if_neg w3]; omega
          have := kClamp_in (low := low) (high := high) (z := w) (by omega)
          rw [zl2i_id (by omega), hmx']
      · rw [if_neg (by omega)] at hkl
        exact next D1 hfr hkl
end TL
