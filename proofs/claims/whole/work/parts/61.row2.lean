def oRow (K tp : Nat → Int) (tl : Int) (ms : Nat → Int) : Int × (Nat → Int) × (Nat → Int) :=
  if tl = 0 then (-6, K, msu ms (-6))
  else ((kRowN K tp (tl.toNat / 4)).2.1, (kRowN K tp (tl.toNat / 4)).1, msu (msl ms ((kRowN K tp (tl.toNat / 4)).2.2 + if tl.toNat % 4 = 0 then 0 else 1)) 0)
section C7
variable {F : zFs} {D D1 : zDa} {Z : Nat → Prop} {K K' : Nat → Int} {im : Nat → Option (Nat → Int)} {tp : Nat → Int} {tl : Int} {ms : Nat → Int} {c : Nat}
theorem pX11_intOnTape {a : Nat} (ha : a + 4 ≤ 400) (h : ∀ i : Nat, i < a + 4 → D 39 i = tp i) : fX11_intOnTape F (a : Int) D = some (kWord tp a, D) := by
  have st : ∀ (k : Int → Int → zDa → Option (Int × zDa)) (i : Nat) (v p : Int), i < 4 → p = (a : Int) + i → fX11_intOnTape_4 F (a : Int) k v p D = k (zor (zshl v 8) (tp (a + i))) (p + 1) D := by
    intro k i v p hi hp
    unfold fX11_intOnTape_4
    rw [if_pos (by omega), if_pos (by omega), if_pos (by omega), if_pos (by omega), show p.toNat = a + i by omega, h _ (by omega)]
    unfold zlet
    exact if_pos (by omega)
  have en : ∀ (k : Int → Int → zDa → Option (Int × zDa)) (v p : Int), p = (a : Int) + 4 → fX11_intOnTape_4 F (a : Int) k v p D = some (v, D) := by
    intro k v p hp
    unfold fX11_intOnTape_4
    rw [if_pos (by omega), if_neg (by omega)]
  have go : ∀ N : Nat, zfix (fun _ _ _ => none) (fX11_intOnTape_4 F (a : Int)) (N + 1 + 1 + 1 + 1 + 1) 0 (a : Int) D = some (kWord tp a, D) := by
    intro N
    rw [zfix_succ, st _ 0 _ _ (by omega) (by omega), zfix_succ, st _ 1 _ _ (by omega) (by omega), zfix_succ, st _ 2 _ _ (by omega) (by omega), zfix_succ, st _ 3 _ _ (by omega) (by omega), zfix_succ, en _ _ _ (by omega)]
    rfl
  exact go 999995
theorem pc_row (h : cA F D Z K im tp tl ms c) (hc : c < 1000) (h0 : ∀ i, 5201 ≤ i → K i = 0) :
    qS (fX11_row F D) (fun r => r.1 = (oRow K tp tl ms).1 ∧ cA F r.2 Z (oRow K tp tl ms).2.1 im tp 0 (oRow K tp tl ms).2.2 (c + 1) ∧ fC D r.2 ∧ vI D r.2 K (oRow K tp tl ms).2.1) := by
  have e4 := h.2.2.1.1
  have ht := h.2.2.1.2
  have hv := h.ver
  have hZ := h.2.2.2.2.2.2.2
  have hk := h.st.1
  have hz := h.settl (t := 0) (by omega) (by omega)
  unfold fX11_row
  refine qS_leti (qS_leti ?_)
  rw [e4.1]
  refine qS_ite (fun t0 => ?_) (fun t0 => ?_)
  · obtain ⟨D', e1, c1, c2, c3⟩ := pX11_refuse hz (-6) (by omega) hc
    refine qS_step e1 (qS_ret ?_)
    dsimp only
    unfold oRow
    rw [if_pos t0]
    exact ⟨rfl, c1, fun a ha => (c2 a ha).trans (zwr_row (by omega)), vI.same (c3.trans (zwr_row (by omega)))⟩
  · refine qS_leti ?_
    have hL : ∃ L : Nat, tl = (L : Int) := ⟨tl.toNat, by omega⟩
    obtain ⟨L, rfl⟩ := hL
    refine qloop2 (fun v2 v3 D1 => ∃ j : Nat, v3 = 4 * (j : Int) ∧ j ≤ (L + 3) / 4 ∧ v2 = (kRowN K tp (min j (L / 4))).2.1 ∧ D1 0 6 = (kRowN K tp (min j (L / 4))).2.2 + (if 4 * j ≤ L then 0 else 1) ∧ qSt F D1 Z 1 (kRowN K tp (min j (L / 4))).1 ∧ (∀ a, a ≠ 0 → a ≠ 1 → a ≠ 12 → D1 a = D a) ∧ (∀ k, k ≠ 15 → D1 1 k = D 1 k) ∧ (∀ k, k ≠ 6 → k ≠ 4 → D1 0 k = D 0 k) ∧ D1 0 4 = 0) (fun _ v3 _ => (1000 - v3).toNat) ?_ ?_ (zfu_gt (by omega))
    · intro k v2 v3 D1 ⟨j, ej, hj, ev, el, hs, gr, g1, g0, g4⟩ ih
      have hN := kRowN_ok (tp := tp) hk h0 (min j (L / 4))
      unfold fX11_row_30
      subst ej
      refine qS_ite (fun hlt => ?_) (fun hlt => ?_)
      · refine qS_chk (by omega) ?_
        have hjm : min j (L / 4) = j := by omega
        have hl4 : 4 * j ≤ L := by omega
        rw [hjm] at ev el hs hN
        rw [if_pos hl4] at el
        have lost : ∀ D2 : zDa, (∀ a, D2 a = D1 a) → (¬ ((0 ≤ kWord tp (4 * j) ∧ kWord tp (4 * j) < 2 ^ ((kRowN K tp j).1 390).toNat) ∧ (kRowN K tp j).1 392 < 40) ∨ L < 4 * j + 4) → qS (fX11_row_99 F k (L : Int) v2 (4 * (j : Int)) D2) (fun r => r.1 = (oRow K tp (L : Int) ms).1 ∧ cA F r.2 Z (oRow K tp (L : Int) ms).2.1 im tp 0 (oRow K tp (L : Int) ms).2.2 (c + 1) ∧ fC D r.2 ∧ vI D r.2 K (oRow K tp (L : Int) ms).2.1) := by
          intro D2 hD2 hno
          have : D2 = D1 := funext hD2
          subst this
          unfold fX11_row_99 fX11_row_109
          refine qS_chk (by omega) (qS_leti (qS_chk (by omega) (ih _ _ _ ⟨j + 1, by omega, by omega, ?_, ?_, ?_, ?_, ?_, ?_, ?_⟩ (by omega))))
          · by_cases hw : L < 4 * j + 4
            · rw [show min (j + 1) (L / 4) = j by omega]; exact ev
            · rw [show min (j + 1) (L / 4) = j + 1 by omega]
              have hno' := hno.resolve_right hw
              unfold kRowN; rw [if_neg hno']; exact ev
          · rw [zwr_eq]
            by_cases hw : L < 4 * j + 4
            · rw [show min (j + 1) (L / 4) = j by omega, if_neg (by omega)]; omega
            · rw [show min (j + 1) (L / 4) = j + 1 by omega, if_pos (by omega)]
              have hno' := hno.resolve_right hw
              unfold kRowN; rw [if_neg hno']; simp only; omega
          · refine qSt.rows (D := D2) ?_ hZ (fun a ha => zwr_row (by omega)) (fun a ha hb => zwr_row (by omega))
            by_cases hw : L < 4 * j + 4
            · rw [show min (j + 1) (L / 4) = j by omega]; exact hs
            · rw [show min (j + 1) (L / 4) = j + 1 by omega]
              have hno' := hno.resolve_right hw
              unfold kRowN; rw [if_neg hno']; exact hs
          · intro a a0 a1 a12; rw [zwr_row a0]; exact gr a a0 a1 a12
          · intro k hk; rw [zwr_row (by omega)]; exact g1 k hk
          · intro k k6 k4; rw [zwr_off (by omega)]; exact g0 k k6 k4
          · rw [zwr_off (by omega)]; exact g4
        have e15 := hs.2.2.2.2.2.2.1.1
        have h39 : D1 39 = D 39 := gr 39 (by omega) (by omega) (by omega)
        refine qS_ite (fun hw => ?_) (fun hw => ?_)
        · unfold fX11_row_47
          exact qS_pos rfl (lost D1 (fun _ => rfl) (Or.inr (by omega)))
        · unfold fX11_row_47
          refine qS_neg (by omega) ?_
          have hint : fX11_intOnTape F (4 * (j : Int)) D1 = some (kWord tp (4 * j), D1) := by
            have := pX11_intOnTape (F := F) (D := D1) (tp := tp) (a := 4 * j) (by omega) (fun i hi => by rw [h39]; exact (ht i (by omega)).1)
            rw [show ((4 * j : Nat) : Int) = 4 * (j : Int) by omega] at this
            exact this
          refine qS_ite (fun h40 => ?_) (fun h40 => lost D1 (fun _ => rfl) (Or.inl (by omega)))
          refine qS_step hint (qS_step (pX9_allThere hs (kWord_in _ _)) ?_)
          dsimp only
          by_cases hok : 0 ≤ kWord tp (4 * j) ∧ kWord tp (4 * j) < 2 ^ ((kRowN K tp j).1 390).toNat
          · rw [if_pos hok]
            refine qS_neg (by omega) (qS_step hint ?_)
            have hn6 := hN.1.2.2.2.2.2.1.1
            obtain ⟨n, hn⟩ : ∃ n : Nat, (kRowN K tp j).1 392 = (n : Int) := ⟨((kRowN K tp j).1 392).toNat, by omega⟩
            refine qS_step (pX9_addYear hs hn (by omega)) (qS_chk (by omega) ?_)
            unfold fX11_row_109
            have hstep : kRowN K tp (j + 1) = (zset (zset (kRowN K tp j).1 (350 + n) (kWord tp (4 * j))) 392 ((kRowN K tp j).1 392 + 1), (kRowN K tp j).2.1 + 1, (kRowN K tp j).2.2) := by
              conv => lhs; unfold kRowN
              rw [if_pos ⟨hok, by omega⟩, show ((kRowN K tp j).1 392).toNat = n by omega]
            refine qS_chk (by omega) (ih _ _ _ ⟨j + 1, by omega, by omega, ?_, ?_, ?_, ?_, ?_, ?_, ?_⟩ (by omega))
            · rw [show min (j + 1) (L / 4) = j + 1 by omega, hstep, ev]
            · rw [show min (j + 1) (L / 4) = j + 1 by omega, hstep, if_pos (by omega), zwr_row (by omega), zwr_row (by omega), el]
            · rw [show min (j + 1) (L / 4) = j + 1 by omega, hstep]
              refine qSt.year hs hn (by omega) hok hZ (fun a _ h1 h2 => by rw [zwr_row h1, zwr_row h2]) (fun j hj => by rw [zwr_off (by omega), zwr_row (by omega)]) zwr_eq (fun j => by rw [zwr_row (by omega), zwr_at])
            · intro a a0 a1 a12; rw [zwr_row a1, zwr_row a12]; exact gr a a0 a1 a12
            · intro k hk; rw [zwr_off (by omega), zwr_row (by omega)]; exact g1 k hk
            · intro k k6 k4; rw [zwr_row (by omega), zwr_row (by omega)]; exact g0 k k6 k4
            · rw [zwr_row (by omega), zwr_row (by omega)]; exact g4
          · rw [if_neg hok]
            exact qS_pos rfl (lost D1 (fun _ => rfl) (Or.inl (fun hh => hok hh.1)))
      · have hmin : min j (L / 4) = L / 4 := by omega
        rw [hmin] at ev el hs hN
        generalize hD0 : zwr (zwr D 0 4 0) 0 6 (D1 0 6) = D0
        have hbase : cA F D0 Z K im tp 0 (msl ms (D1 0 6)) c := by rw [← hD0]; exact hz.setlost _
        have r0 : ∀ a, (a = 0 ∨ 13 ≤ a) → D1 a = D0 a := by
          intro a ha
          rw [← hD0]
          rcases ha with rfl | ha
          · funext k
            rw [zwr_at]
            by_cases k6 : k = 6
            · rw [if_pos k6, k6]
            · rw [if_neg k6, zwr_at]
              by_cases k4 : k = 4
              · rw [if_pos k4, k4]; exact g4
              · rw [if_neg k4]; exact g0 k k6 k4
          · rw [zwr_row (by omega), zwr_row (by omega)]; exact gr a (by omega) (by omega) (by omega)
        have hnow := cA.now hbase hc hs r0 (by rw [g1 16 (by omega), g1 17 (by omega)]; omega)
        refine qS_step (r := (v2, zwr D1 0 9 0)) rfl (qS_ret ?_)
        dsimp only
        unfold oRow
        rw [if_neg t0, show ((L : Int)).toNat = L by omega]
        refine ⟨ev, ?_, fun a ha => ?_, ?_⟩
        · have e6 : (if 4 * j ≤ L then (0 : Int) else 1) = if L % 4 = 0 then 0 else 1 := by
            by_cases hx : L % 4 = 0
            · rw [if_pos hx, if_pos (by omega)]
            · rw [if_neg hx, if_neg (by omega)]
          rw [el, e6] at hnow
          exact hnow
        · rw [zwr_row (by omega)]; exact gr a (by omega) (by omega) (by omega)
        · show vI D (zwr D1 0 9 0) K _
          unfold vI
          rw [zwr_row (by omega), g1 16 (by omega), g1 17 (by omega)]
          exact ⟨Or.inl ⟨rfl, hN.2.2.1.1⟩, Or.inl ⟨rfl, hN.2.2.1⟩⟩
    · refine ⟨0, by omega, by omega, by simp [kRowN], ?_, ?_, ?_, ?_, ?_, ?_⟩
      · rw [zwr_eq, if_pos (by omega)]; simp [kRowN]
      · show qSt F _ Z 1 (kRowN K tp (min 0 (L / 4))).1
        rw [show min 0 (L / 4) = 0 by omega]
        exact (hz.setlost 0).st
      · intro a a0 _ _; rw [zwr_row a0, zwr_row a0]
      · intro k _; rw [zwr_row (by omega), zwr_row (by omega)]
      · intro k k6 k4; rw [zwr_off (by omega), zwr_off (by omega)]
      · rw [zwr_off (by omega), zwr_eq]
end C7
