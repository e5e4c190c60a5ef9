section C8
variable {F : zFs} {D D1 : zDa} {Z : Nat → Prop} {K K' : Nat → Int} {im : Nat → Option (Nat → Int)} {tp : Nat → Int} {tl : Int} {ms : Nat → Int} {c : Nat}
theorem pX12_row_word {o1 o2 : Int} {k40 : Int → Int → zDa → Option (Int × zDa)} {a : Nat} (ha : a + 4 ≤ 400) (h : ∀ i : Nat, i < a + 4 → D 97 i = sgn8 (tp i) ∧ 0 ≤ tp i ∧ tp i ≤ 255) :
    zfix (fun _ _ _ => none) (fX12_row_53 F o1 o2 (a : Int) k40) zfu 0 0 D = fX12_row_53 F o1 o2 (a : Int) k40 (fun _ _ _ => none) (kWord tp a) 4 D := by
  have st : ∀ (k : Int → Int → zDa → Option (Int × zDa)) (i : Nat) (v p : Int), i < 4 → p = (i : Int) → fX12_row_53 F o1 o2 (a : Int) k40 k v p D = k (zor (zshl v 8) (tp (a + i))) (p + 1) D := by
    intro k i v p hi hp
    unfold fX12_row_53
    rw [if_pos (by omega), if_pos (by omega), show ((a : Int) + p).toNat = a + i by omega, (h _ (by omega)).1, zand_sgn8 (h _ (by omega)).2]
    unfold zlet
    exact if_pos (by omega)
  have en : ∀ (k k' : Int → Int → zDa → Option (Int × zDa)) (v p : Int), p = 4 → fX12_row_53 F o1 o2 (a : Int) k40 k v p D = fX12_row_53 F o1 o2 (a : Int) k40 k' v p D := by
    intro k k' v p hp
    have hp4 : ¬ p < 4 := by omega
    unfold fX12_row_53
    rw [if_neg hp4, if_neg hp4]
  have go : ∀ N : Nat, zfix (fun _ _ _ => none) (fX12_row_53 F o1 o2 (a : Int) k40) (N + 1 + 1 + 1 + 1 + 1) 0 0 D = fX12_row_53 F o1 o2 (a : Int) k40 (fun _ _ _ => none) (kWord tp a) 4 D := by
    intro N
    rw [zfix_succ, st _ 0 _ _ (by omega) (by omega), zfix_succ, st _ 1 _ _ (by omega) (by omega), zfix_succ, st _ 2 _ _ (by omega) (by omega), zfix_succ, st _ 3 _ _ (by omega) (by omega), zfix_succ, en _ (fun _ _ _ => none) _ _ (by omega)]
    rfl
  exact go 999995
theorem pr_row (h : rA D K im tp tl ms c) (hc : c < 1000) :
    qS (fX12_row F D) (fun r => r.1 = (oRow K tp tl ms).1 ∧ rA r.2 (oRow K tp tl ms).2.1 im tp 0 (oRow K tp tl ms).2.2 (c + 1) ∧ fR D r.2 ∧ (((oRow K tp tl ms).2.1 = K ∧ r.2 91 1 = D 91 1) ∨ D 91 1 < r.2 91 1)) := by
  have e4 := h.2.2.1.1
  have ht := h.2.2.1.2
  have hK := h.1.1
  have hk := h.1.2.1
  have h0 := h.1.2.2
  have hz := h.settl (t := 0) (by omega) (by omega)
  have hver := h.2.2.2.2.1
  unfold fX12_row
  refine qS_leti (qS_leti ?_)
  rw [e4.1]
  refine qS_ite (fun t0 => ?_) (fun t0 => ?_)
  · obtain ⟨D', e1, c1, c2, c3⟩ := pX12_refuses (F := F) hz (-6) (by omega) hc
    refine qS_step e1 (qS_ret ?_)
    dsimp only
    unfold oRow
    rw [if_pos t0]
    exact ⟨rfl, c1, ((zfm.rfl' _ _ D).wf (by decide)).trans c2, Or.inl ⟨rfl, c3.trans (zwr_off (by omega))⟩⟩
  · obtain ⟨L, rfl⟩ : ∃ L : Nat, tl = (L : Int) := ⟨tl.toNat, by omega⟩
    have tail : ∀ s0 : Int, s0 = (if L % 4 = 0 then 0 else 1) → qS (fX12_row_35 F (L : Int) 0 s0 (zwr D 91 9 0)) (fun r => r.1 = (oRow K tp (L : Int) ms).1 ∧ rA r.2 (oRow K tp (L : Int) ms).2.1 im tp 0 (oRow K tp (L : Int) ms).2.2 (c + 1) ∧ fR D r.2 ∧ (((oRow K tp (L : Int) ms).2.1 = K ∧ r.2 91 1 = D 91 1) ∨ D 91 1 < r.2 91 1)) := by
      intro s0 hs0
      have s01 : 0 ≤ s0 ∧ s0 ≤ 1 := by rw [hs0]; split <;> omega
      unfold fX12_row_35
      refine qS_leti ?_
      refine qloop2 (fun v2 v3 D1 => ∃ j : Nat, v3 = 4 * (j : Int) ∧ j ≤ L / 4 ∧ v2 = (kRowN K tp j).2.1 ∧ D1 91 59 = (kRowN K tp j).2.2 + s0 ∧ D1 93 = (kRowN K tp j).1 ∧ (∀ a, a ≠ 91 → a ≠ 93 → D1 a = D a) ∧ (∀ k, k ≠ 59 → k ≠ 9 → D1 91 k = D 91 k) ∧ D1 91 9 = 0) (fun _ v3 _ => (1000 - v3).toNat) ?_ ⟨0, by omega, by omega, by simp [kRowN], by rw [zwr_eq]; simp [kRowN], by rw [zwr_row (by omega), zwr_row (by omega)]; exact hK, fun a a1 _ => by rw [zwr_row a1, zwr_row a1], fun k k1 k2 => by rw [zwr_off (by omega), zwr_off (by omega)], by rw [zwr_off (by omega), zwr_eq]⟩ (zfu_gt (by omega))
      intro k v2 v3 D1 ⟨j, ej, hj, ev, el, hs, gr, g1, g9⟩ ih
      have hN := kRowN_ok (tp := tp) hk h0 j
      subst ej
      unfold fX12_row_40
      refine qS_chk (by omega) (qS_ite (fun hlt => ?_) (fun hlt => ?_))
      · have hjj : j = L / 4 := by omega
        subst hjj
        have hbase : rA (zwr (zwr D 91 9 0) 91 59 (D1 91 59)) K im tp 0 (msl ms (D1 91 59)) c := hz.setlost _
        have r0 : ∀ a, a ≠ 93 → D1 a = zwr (zwr D 91 9 0) 91 59 (D1 91 59) a := by
          intro a ha
          by_cases a1 : a = 91
          · subst a1
            funext k
            rw [zwr_at]
            by_cases k6 : k = 59
            · rw [if_pos k6, k6]
            · rw [if_neg k6, zwr_at]
              by_cases k4 : k = 9
              · rw [if_pos k4, k4]; exact g9
              · rw [if_neg k4]; exact g1 k k6 k4
          · rw [zwr_row a1, zwr_row a1]; exact gr a a1 ha
        have hnow := rA.now hbase hc hs hN.1 hN.2.1 r0
        have v1 : D1 91 1 = D 91 1 := g1 1 (by omega) (by omega)
        refine qS_step (pX12_good (by omega)) (qS_ret ?_)
        dsimp only
        unfold oRow
        rw [if_neg t0, show ((L : Int)).toNat = L by omega]
        refine ⟨ev, ?_, ?_, Or.inr ?_⟩
        · rw [el, hs0] at hnow; exact hnow
        · have hf : fR D D1 := ⟨fun a a1 a2 => gr a a1 (fun e => a2 (by rw [e]; decide)), fun k hk' => g1 k (fun e => hk' (by rw [e]; decide)) (fun e => hk' (by rw [e]; decide))⟩
          exact zfm.wf (zfm.wf hf (by decide)) (by decide)
        · rw [zwr_eq]; omega
      · have h97 : D1 97 = D 97 := gr 97 (by omega) (by omega)
        have hw := pX12_row_word (F := F) (D := D1) (tp := tp) (o1 := (L : Int)) (o2 := v2) (k40 := k) (a := 4 * j) (by omega) (fun i hi => by rw [h97]; exact ht i (by omega))
        rw [show ((4 * j : Nat) : Int) = 4 * (j : Int) by omega] at hw
        refine qS_eq hw ?_
        unfold fX12_row_53
        rw [if_neg (by omega)]
        have hN390 := hN.1.1
        have hN6 := hN.1.2.2.2.2.2.1.1
        have lost : ¬ ((0 ≤ kWord tp (4 * j) ∧ kWord tp (4 * j) < 2 ^ ((kRowN K tp j).1 390).toNat) ∧ (kRowN K tp j).1 392 < 40) → qS (fX12_row_119 F k (L : Int) v2 (4 * (j : Int)) (kWord tp (4 * j)) D1) (fun r => r.1 = (oRow K tp (L : Int) ms).1 ∧ rA r.2 (oRow K tp (L : Int) ms).2.1 im tp 0 (oRow K tp (L : Int) ms).2.2 (c + 1) ∧ fR D r.2 ∧ (((oRow K tp (L : Int) ms).2.1 = K ∧ r.2 91 1 = D 91 1) ∨ D 91 1 < r.2 91 1)) := by
          intro hno
          have hstep : kRowN K tp (j + 1) = ((kRowN K tp j).1, (kRowN K tp j).2.1, (kRowN K tp j).2.2 + 1) := by
            conv => lhs; unfold kRowN
            rw [if_neg hno]
          unfold fX12_row_119 fX12_row_120
          refine qS_pos rfl ?_
          unfold fX12_row_161
          refine qS_pos rfl ?_
          unfold fX12_row_176
          refine qS_chk (by omega) (qS_leti (qS_chk (by omega) (ih _ _ _ ⟨j + 1, by omega, by omega, ?_, ?_, ?_, ?_, ?_, ?_⟩ (by omega))))
          · rw [hstep]; exact ev
          · rw [hstep, zwr_eq]; simp only; omega
          · rw [hstep, zwr_row (by omega)]; exact hs
          · intro a a1 a2; rw [zwr_row a1]; exact gr a a1 a2
          · intro k k1 k2; rw [zwr_off (by omega)]; exact g1 k k1 k2
          · rw [zwr_off (by omega)]; exact g9
        refine qS_ite (fun hneg => lost (by omega)) (fun hneg => ?_)
        refine qS_step (r := ((kRowN K tp j).1 390, D1)) (by unfold fX12_questions; rw [hs]) ?_
        dsimp only
        have e1 : zshl 1 ((kRowN K tp j).1 390) = 2 ^ ((kRowN K tp j).1 390).toNat := by
          have := zone_int (n := ((kRowN K tp j).1 390).toNat) (by omega)
          rw [← this, show (((kRowN K tp j).1 390).toNat : Int) = (kRowN K tp j).1 390 by omega]
        rw [e1]
        have e392 : D1 93 392 = (kRowN K tp j).1 392 := by rw [hs]
        refine qS_ite (fun h2 => ?_) (fun h2 => lost (fun hh => h2 hh.1.2))
        refine qS_ite (fun h3 => ?_) (fun h3 => lost (by omega))
        have hok : 0 ≤ kWord tp (4 * j) ∧ kWord tp (4 * j) < 2 ^ ((kRowN K tp j).1 390).toNat := ⟨by omega, h2⟩
        obtain ⟨n, hn⟩ : ∃ n : Nat, (kRowN K tp j).1 392 = (n : Int) := ⟨((kRowN K tp j).1 392).toNat, by omega⟩
        have hstep : kRowN K tp (j + 1) = (zset (zset (kRowN K tp j).1 (350 + n) (kWord tp (4 * j))) 392 ((kRowN K tp j).1 392 + 1), (kRowN K tp j).2.1 + 1, (kRowN K tp j).2.2) := by
          conv => lhs; unfold kRowN
          rw [if_pos ⟨hok, by omega⟩, show ((kRowN K tp j).1 392).toNat = n by omega]
        unfold fX12_row_120
        refine qS_neg (by omega) (qS_chk (by omega) ?_)
        have x1 : (350 + D1 93 392).toNat = 350 + n := by omega
        rw [x1]
        have x3 : zwr D1 93 (350 + n) (kWord tp (4 * j)) 93 392 = (kRowN K tp j).1 392 := by rw [zwr_off (by omega), e392]
        refine qS_leti (qS_chk (by rw [x3]; omega) (qS_leti (qS_chk (by omega) ?_)))
        rw [x3]
        unfold fX12_row_161
        refine qS_neg (by omega) ?_
        unfold fX12_row_176
        have x4 : zwr (zwr D1 93 (350 + n) (kWord tp (4 * j))) 93 392 ((kRowN K tp j).1 392 + 1) 91 = D1 91 := by rw [zwr_row (by omega), zwr_row (by omega)]
        rw [x4]
        refine qS_chk (by omega) (qS_leti (qS_chk (by omega) (ih _ _ _ ⟨j + 1, by omega, by omega, ?_, ?_, ?_, ?_, ?_, ?_⟩ (by omega))))
        · rw [hstep, ev]
        · rw [hstep, zwr_eq]; simp only; omega
        · rw [hstep, zwr_row (by omega), zwr_self, zwr_self, hs]
        · intro a a1 a2; rw [zwr_row a1, zwr_row a2, zwr_row a2]; exact gr a a1 a2
        · intro k k1 k2; rw [zwr_off (by omega), x4]; exact g1 k k1 k2
        · rw [zwr_off (by omega), x4]; exact g9
    have em : Int.tmod (L : Int) 4 = ((L % 4 : Nat) : Int) := by rw [Int.tmod_eq_emod_of_nonneg (by omega)]; omega
    refine qS_ite (fun hm => tail 0 ?_) (fun hm => tail 1 ?_)
    · rw [if_pos (by omega)]
    · rw [if_neg (by omega)]
end C8
