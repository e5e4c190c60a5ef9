theorem zl2i_id {v : Int} (h : -2147483648 ≤ v ∧ v ≤ 2147483647) : zl2i v = v := by
  unfold zl2i
  rw [Int64.toInt_toInt32, z64 (by omega)]
  rw [Int.bmod_def]
  split <;> omega
section EV4
variable {F : zFs} {D : zDa} {K A : Nat → Int} {u sz : Nat}
/-- what stands behind a clause: position p, the sum's value x and whether it was broken, the test's answer -/
theorem eTold166 {k : Int → zDa → Option (Int × zDa)} {o1 o2 o3 v5 v7 s0 : Int} {p : Nat} {b : Int} (hu : u < 6) (hp : p ≤ 400) (hx : -1000000000 ≤ v7 ∧ v7 ≤ 1000000000) :
    fX12_told_166 F k o1 o2 o3 v5 v7 s0 (eS D u p b) = k (if s0 = 0 then v5 else kClamp o2 o3 v7) (eS D u (p + 1) b) := by
  unfold fX12_told_166
  rw [eS_18, if_pos (by omega)]
  dsimp only [zlet]
  rw [eS_go (j := p + 1) (by omega)]
  unfold fX12_told_210 fX12_told_212 kClamp
  by_cases h0 : s0 = 0
  · rw [if_pos h0, if_pos h0]
  · rw [if_neg h0, if_neg h0]
    by_cases h1 : v7 < o2
    · rw [if_pos h1, if_pos h1]
    · by_cases h2 : o3 < v7
      · rw [if_neg h1, if_neg h1, if_pos h2, if_pos h2]
      · rw [if_neg h1, if_neg h1, if_neg h2, if_neg h2, zl2i_id (by omega)]
theorem eTold136 {k : Int → zDa → Option (Int × zDa)} {o1 o2 o3 v5 v6 v7 v9 s0 : Int} {p : Nat} {b : Int} (hu : u < 6) (hp : p ≤ 400) (hx : -1000000000 ≤ v7 ∧ v7 ≤ 1000000000) :
    fX12_told_136 F k o1 o2 o3 v5 v6 v7 v9 s0 (eS D u p b) = k (if s0 = 0 ∨ b ≠ 0 ∨ v9 ≠ 0 ∨ v6 ≠ o1 then v5 else kClamp o2 o3 v7) (eS D u (p + 1) b) := by
  unfold fX12_told_136 fX12_told_165
  by_cases h0 : s0 = 0
  · rw [if_pos h0, eTold166 hu hp hx, if_pos rfl, if_pos (Or.inl h0)]
  · rw [if_neg h0]
    by_cases h1 : b = 0
    · rw [if_pos (by rw [eS_20]; exact h1)]
      by_cases h2 : v9 = 0
      · rw [if_pos h2]
        by_cases h3 : v6 = o1
        · rw [if_pos h3, eTold166 hu hp hx, if_neg (by omega), if_neg (by omega)]
        · rw [if_neg h3, eTold166 hu hp hx, if_pos rfl, if_pos (by omega)]
      · rw [if_neg h2, eTold166 hu hp hx, if_pos rfl, if_pos (by omega)]
    · rw [if_neg (by rw [eS_20]; exact h1), eTold166 hu hp hx, if_pos rfl, if_pos (by omega)]
/-- one clause -/
theorem eClause (hG : eG D K A u sz) {i l j l' : Nat} {q : Int × kSum} (h : kClause (kCode K u) (kVal K u) i l = .inr (q, j, l')) :
    i < j ∧ j ≤ sz ∧ ∀ (k : Int → zDa → Option (Int × zDa)) (o1 o2 o3 v b : Int), ∃ b', fX12_told_61 F o1 o2 o3 k v (eS D u i b) = k (if q.1 = o1 then (match q.2 A with | some z => kClamp o2 o3 z | none => v) else v) (eS D u (j + 1) b') := by
  have hu := hG.2.2.2.1
  have hsz := hG.2.2.2.2.1
  have h19 := hG.2.2.1
  unfold kClause at h
  by_cases hc : 1 ≤ kCode K u i ∧ kCode K u i ≤ 3
  · rw [if_pos hc] at h
    have hlt := eCode_lt hG (i := i) (by omega)
    cases h1 : kSumD (kCode K u) (kVal K u) 8 (i + 1) l with
    | inl e => rw [h1] at h; cases h
    | inr q1 =>
      obtain ⟨s, j1, l1⟩ := q1
      rw [h1] at h
      dsimp only at h
      obtain ⟨a1, a2, a3, a4⟩ := eSumF (F := F) hG (by omega) h1
      have ix := evr_in (live := 1) (b := 0) a3
      -- the common beginning
      have beg : ∀ (k : Int → zDa → Option (Int × zDa)) (o1 o2 o3 v b : Int), fX12_told_61 F o1 o2 o3 k v (eS D u i b) = (fX12_passes0 F 4 (eS D u j1 0)).bind (fun (r_11, D_12) => if r_11 = 0 then fX12_told_131 F k o1 o2 o3 v (kCode K u i) (evr 1 0 (s A)).1 (evr 1 0 (s A)).2 D_12 else (fX12_testOf F 1 D_12).bind (fun (r_14, D_15) => if r_14 = 0 then fX12_told_136 F k o1 o2 o3 v (kCode K u i) (evr 1 0 (s A)).1 (evr 1 0 (s A)).2 0 D_15 else fX12_told_131 F k o1 o2 o3 v (kCode K u i) (evr 1 0 (s A)).1 (evr 1 0 (s A)).2 D_15)) := by
        intro k o1 o2 o3 v b
        unfold fX12_told_61
        rw [if_pos (by rw [eS_18, eS_f (by omega) (by omega), h19]; omega)]
        dsimp only [zlet]
        rw [eS_br, eS_18, eCode hG, Option.bind_some]
        dsimp only
        rw [if_pos (by rw [eS_18]; omega), eS_18, eS_go (j := i + 1) (by omega), a4 1 0 (by omega) (by omega), Option.bind_some]
        dsimp only
        rw [eS_20, eS_br]
      by_cases h4 : kCode K u j1 = 4
      · rw [if_pos h4] at h
        have hlt2 := eCode_lt hG (i := j1) (by omega)
        cases h2 : kTestD (kCode K u) (kVal K u) 8 (j1 + 1) l1 with
        | inl e => rw [h2] at h; cases h
        | inr q2 =>
          obtain ⟨t, j2, l2⟩ := q2
          rw [h2] at h
          cases h
          obtain ⟨c1, c2, c4⟩ := eTestD (F := F) hG 8 (by omega) _ _ _ _ _ h2
          obtain ⟨v1, b1, e1, p1, p2, p3⟩ := c4 40 (by omega) 1 0 (by omega) (by omega)
          have e1' : fX12_testOf F 1 (eS D u (j1 + 1) 0) = some (v1, eS D u j b1) := e1
          refine ⟨by omega, c2, ?_⟩
          intro k o1 o2 o3 v b
          refine ⟨b1, ?_⟩
          rw [beg, ePassT hG (by omega) h4, Option.bind_some]
          dsimp only
          rw [if_neg (by omega), e1', Option.bind_some]
          dsimp only
          unfold fX12_told_131
          have both : (if v1 = 0 then fX12_told_136 F k o1 o2 o3 v (kCode K u i) (evr 1 0 (s A)).1 (evr 1 0 (s A)).2 0 (eS D u j b1) else fX12_told_136 F k o1 o2 o3 v (kCode K u i) (evr 1 0 (s A)).1 (evr 1 0 (s A)).2 1 (eS D u j b1)) = fX12_told_136 F k o1 o2 o3 v (kCode K u i) (evr 1 0 (s A)).1 (evr 1 0 (s A)).2 v1 (eS D u j b1) := by
            rcases p1 with rfl | rfl
            · rw [if_pos rfl]
            · rw [if_neg (by omega)]
          rw [both, eTold136 hu (by omega) ix]
          congr 1
          rw [if_pos (by omega)] at p3
          cases hs : s A with
          | none =>
            rw [evr_n, if_pos (by dsimp only; omega)]
            split <;> rfl
          | some x =>
            rw [evr_s]
            dsimp only
            rw [Option.bind_some]
            cases ht : t A with
            | none =>
              rw [ht] at p3
              dsimp only at p3
              rw [if_pos (by omega)]
              split <;> rfl
            | some y =>
              rw [ht] at p3
              obtain ⟨w1, w2⟩ := p3
              rw [Option.bind_some]
              cases y with
              | false =>
                have : v1 = 0 := w1
                rw [if_pos (Or.inl this)]
                split <;> rfl
              | true =>
                have : v1 = 1 := w1
                by_cases ho : kCode K u i = o1
                · rw [if_neg (by omega), if_pos ho]; rfl
                · rw [if_pos (by omega), if_neg ho]
      · rw [if_neg h4] at h
        cases h
        refine ⟨by omega, a2, ?_⟩
        intro k o1 o2 o3 v b
        refine ⟨0, ?_⟩
        rw [beg, ePassF hG (by omega) h4, Option.bind_some]
        dsimp only
        rw [if_pos rfl]
        unfold fX12_told_131
        rw [eTold136 hu (by omega) ix]
        congr 1
        cases hs : s A with
        | none =>
          rw [evr_n, if_pos (by dsimp only; omega)]
          split <;> rfl
        | some x =>
          rw [evr_s]
          dsimp only
          by_cases ho : kCode K u i = o1
          · rw [if_neg (by omega), if_pos ho]
          · rw [if_pos (by omega), if_neg ho]
  · rw [if_neg hc] at h; cases h
theorem eTextLoop (hG : eG D K A u sz) {o1 o2 o3 : Int} : ∀ (m n i l : Nat) (cs : List (Int × kSum)) (k : Nat), kText (kCode K u) (kVal K u) m n i l = .inr (cs, k) →
    k ≤ sz ∧ (k = sz → ∀ (M : Nat) (v b : Int), m + 1 < M → ∃ b', zfix (fun _ _ => none) (fX12_told_61 F o1 o2 o3) M v (eS D u i b) = some (kLast o1 o2 o3 A v cs, eS D u (sz + 1) b')) := by
  intro m
  induction m with
  | zero => intro n i l cs k h; cases h
  | succ m ih =>
    intro n i l cs k h
    unfold kText at h
    by_cases h12 : n = 12
    · rw [if_pos h12] at h; cases h
    · rw [if_neg h12] at h
      cases h1 : kClause (kCode K u) (kVal K u) i l with
      | inl e => rw [h1] at h; cases h
      | inr q1 =>
        obtain ⟨q, j, l1⟩ := q1
        rw [h1] at h
        dsimp only at h
        obtain ⟨a1, a2, a3⟩ := eClause (F := F) hG h1
        by_cases h9 : kCode K u j = 159
        · rw [if_pos h9] at h
          cases h2 : kText (kCode K u) (kVal K u) m (n + 1) (j + 1) l1 with
          | inl e => rw [h2] at h; cases h
          | inr q2 =>
            obtain ⟨r, k2⟩ := q2
            rw [h2] at h
            cases h
            obtain ⟨b1, b2⟩ := ih (n + 1) (j + 1) l1 r k h2
            refine ⟨b1, fun hk M v b hM => ?_⟩
            obtain ⟨M', rfl⟩ : ∃ M', M = M' + 1 := ⟨M - 1, by omega⟩
            obtain ⟨b', e⟩ := a3 (zfix (fun _ _ => none) (fX12_told_61 F o1 o2 o3) M') o1 o2 o3 v b
            rw [zfix_succ, e]
            exact b2 hk M' _ b' (by omega)
        · rw [if_neg h9] at h
          cases h
          refine ⟨a2, fun hk M v b hM => ?_⟩
          obtain ⟨M', rfl⟩ : ∃ M', M = M' + 1 + 1 := ⟨M - 2, by omega⟩
          obtain ⟨b', e⟩ := a3 (zfix (fun _ _ => none) (fX12_told_61 F o1 o2 o3) (M' + 1)) o1 o2 o3 v b
          rw [zfix_succ, e, zfix_succ]
          refine ⟨b', ?_⟩
          subst hk
          unfold fX12_told_61
          rw [if_neg (by rw [eS_18, eS_f (by omega) (by omega), hG.2.2.1]; omega)]
          rfl
def kPOk (K : Nat → Int) : Prop := ∀ t : Nat, (t : Int) < K 393 → (0 ≤ K (395 + t) ∧ K (395 + t) ≤ 400) ∧ ∃ cs, kRead (kCode K t) (kVal K t) (K (395 + t)).toNat = .inr cs
theorem zwr_id {D : zDa} {a k : Nat} {v : Int} (h : D a k = v) : zwr D a k v = D := by
  funext b j
  unfold zwr
  by_cases hb : b = a
  · subst hb
    by_cases hj : j = k
    · subst hj; simp [h]
    · simp [hj]
  · simp [hb]
theorem pX12_told (hK : D 93 = K) (hk : kOk K) (hP : kPOk K) (hA : ∀ k, k < 7 → D 102 k = A k) (hb : ∀ k, -1000000000 ≤ A k ∧ A k ≤ 1000000000) (head low high wo : Int) :
    qS (fX12_told F head low high wo D) (fun r => r.1 = kTold K head low high wo A ∧ zfm [] [18, 19, 20] D r.2) := by
  have hk7 := hk.2.2.2.2.2.2
  unfold fX12_told kTold
  rw [hK]
  refine qS_ite (fun h => qS_ret ?_) (fun h => ?_)
  · rw [if_pos h]; exact ⟨rfl, zfm.rfl' _ _ D⟩
  · rw [if_neg h]
    obtain ⟨u, hu⟩ : ∃ u : Nat, K 394 = (u : Int) := ⟨(K 394).toNat, by omega⟩
    obtain ⟨hsz, cs, hcs⟩ := hP u (by omega)
    obtain ⟨sz, hz⟩ : ∃ sz : Nat, K (395 + u) = (sz : Int) := ⟨(K (395 + u)).toNat, by omega⟩
    have en : (K 394).toNat = u := by omega
    have x1 : zwr D 91 18 (400 * K 394) 93 = K := by rw [zwr_row (by omega), hK]
    have x2 : (395 + K 394).toNat = 395 + u := by omega
    refine qS_chk (by omega) (qS_leti ?_)
    rw [x1, x2, zwr_eq, hz, hu]
    refine qS_chk (by omega) (qS_leti ?_)
    generalize hD2 : zwr (zwr D 91 18 (400 * (u : Int))) 91 19 (400 * (u : Int) + (sz : Int)) = D2
    have f18 : D2 91 18 = 400 * (u : Int) := by rw [← hD2, zwr_off (by omega), zwr_eq]
    have f19 : D2 91 19 = 400 * (u : Int) + sz := by rw [← hD2, zwr_eq]
    have fr : ∀ a, a ≠ 91 → D2 a = D a := fun a ha => by rw [← hD2, zwr_row ha, zwr_row ha]
    have hG : eG D2 K A u sz := ⟨by rw [fr 93 (by omega), hK], fun k hk => by rw [fr 102 (by omega)]; exact hA k hk, f19, by omega, by omega, hz, hb⟩
    have hst : D2 = eS D2 u 0 (D2 91 20) := by
      have e1 : zwr D2 91 18 (400 * (u : Int) + (0 : Nat)) = D2 := zwr_id (by rw [f18]; omega)
      unfold eS
      rw [e1, zwr_id rfl]
    have hrd : kText (kCode K u) (kVal K u) 13 0 0 0 = .inr (kCls K u, sz) := by
      unfold kCls
      rw [hcs]
      unfold kRead at hcs
      cases ht : kText (kCode K u) (kVal K u) 13 0 0 0 with
      | inl e => rw [ht] at hcs; cases hcs
      | inr q =>
        obtain ⟨r, k⟩ := q
        rw [ht] at hcs
        dsimp only at hcs
        by_cases hke : k = (K (395 + u)).toNat
        · rw [if_pos hke] at hcs
          cases hcs
          rw [hke, hz]; rfl
        · rw [if_neg hke] at hcs; cases hcs
    obtain ⟨b', e⟩ := (eTextLoop (F := F) hG (o1 := head) (o2 := low) (o3 := high) 13 0 0 0 _ _ hrd).2 rfl zfu wo (D2 91 20) (zfu_gt (by omega))
    rw [hst]
    refine ⟨_, e, ?_, ?_⟩
    · rw [show ((u : Int)).toNat = u by omega]
    · dsimp only
      have h1 : zfm [] [18, 19, 20] D D2 := by
        rw [← hD2]; exact (((zfm.rfl' _ _ D).wf (by decide)).wf (by decide))
      unfold eS
      exact (h1.wf (by decide)).wf (by decide)
end EV4
