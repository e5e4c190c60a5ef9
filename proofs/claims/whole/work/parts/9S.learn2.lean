section LE
variable {F : zFs} {D : zDa} {Z : Nat → Prop} {K : Nat → Int} {im : Nat → Option (Nat → Int)} {tp : Nat → Int} {tl : Int} {ms : Nat → Int} {c : Nat}
theorem cA.row4 {D1 : zDa} {K' : Nat → Int} (h : cA F D Z K im tp tl ms c) (hq : qSt F D1 Z 1 K') (hr : ∀ a, a ≠ 4 → D1 a = D a) : cA F D1 Z K' im tp tl ms c := by
  obtain ⟨h1, h2, h3, h4, h5, h6, h7, h8⟩ := h
  refine ⟨hq, cA.images h2 h8 (fun a ha => hr a (by omega)) (fun a ha _ => hr a (by omega)), ?_, ?_, ?_, h6, h7, h8⟩
  · rw [hr 0 (by omega), hr 39 (by omega)]; exact h3
  · rw [hr 0 (by omega), hr 40 (by omega), hr 41 (by omega)]; exact h4
  · intro s hs
    have := h5 s hs
    simp only [List.mem_cons, List.not_mem_nil, or_false] at hs
    rw [hr s (by omega)]; exact this
theorem pc_learn (h : cA F D Z K im tp tl ms c) (hc : c < 1000) (hi : cDi D K) : qS (fX11_learn F D) (fun r => r.1 = (oLearn K).2.1 ∧ cA F r.2 Z (oLearn K).2.2 im tp tl (msu ms 0) (c + 1) ∧ (∀ a, 42 ≤ a → a ∉ ([49, 50, 51, 73, 74, 75, 76, 77] : List Nat) → r.2 a = D a) ∧ vI D r.2 K (oLearn K).2.2 ∧ cDi r.2 (oLearn K).2.2) := by
  have hG := h.good
  have hZ := h.2.2.2.2.2.2.2
  have hk := h.st.1
  have h0 := hk.1
  have ht := kTerms hk
  have hdn := dN_ok hk (K 105).toNat (by omega)
  unfold fX11_learn
  refine qS_call (pX1_refresh h.st hG hZ hi) (fun D1 ⟨c1, s1, f1⟩ => ?_)
  have a1 := h.scr f1 (by decide)
  have e5 : D1 7 5 = K 105 := a1.st.2.2.2.1 5 (by omega)
  rw [e5]
  refine qS_chk (by omega) (qS_leti ?_)
  refine qloop1 (fun v D2 => ∃ j : Nat, v = (j : Int) ∧ j ≤ (K 390).toNat ∧ cA F D2 Z (kLrn K j) im tp tl ms c ∧ (∀ a, a ≠ 4 → D2 a = D1 a)) (fun v _ => (100 - v).toNat) ?_ ⟨0, rfl, by omega, by rw [kLrn_0]; exact a1, fun _ _ => rfl⟩ (zfu_gt (by omega))
  intro kk v D2 ⟨j, ev, hj, a2, r2⟩ ih
  subst ev
  unfold fX11_learn_21
  rw [a2.st.2.1, kLrn_off (by omega) (by omega)]
  refine qS_ite (fun hjn => ?_) (fun hjn => ?_)
  · unfold fX1_levelBehind
    refine qS_bind (qS_chk (by omega) (qS_ret ?_))
    dsimp only
    have ev : D2 76 ((K 105 - 1) * 20 + (j : Int)).toNat = (dN K (K 105).toNat).1 j := by
      rw [r2 76 (by omega), show ((K 105 - 1) * 20 + (j : Int)).toNat = 20 * ((K 105).toNat - 1) + j by omega]
      have := (c1.1 ((K 105).toNat - 1) (by omega)).2 j (by omega)
      rw [show (K 105).toNat - 1 + 1 = (K 105).toNat by omega] at this
      exact this
    rw [ev, show ((j : Int)).toNat = j by omega]
    refine qS_chk (by omega) (qS_leti (qS_chk (by omega) (ih _ _ ⟨j + 1, by omega, by omega, ?_, fun a ha => by rw [zwr_row ha]; exact r2 a ha⟩ (by omega))))
    have hd := (hdn.1 j).1
    have q3 := qSt.know (D1 := zwr D2 4 j ((dN K (K 105).toNat).1 j)) a2 (q := j) (w := 0) (v := (dN K (K 105).toNat).1 j) (by rw [kLrn_off (by omega) (by omega)]; omega) (by omega) (by rw [if_pos rfl]; omega) (fun a ha => zwr_row (by omega)) (fun i hi => by rw [zwr_row (by omega)]) (fun i => by rw [zwr_at]; by_cases e : i = j <;> simp [e]) (fun i => by rw [zwr_row (by omega), if_neg (by omega)]) (fun i => by rw [zwr_row (by omega), if_neg (by omega)])
    rw [Nat.add_zero, kLrn_s] at q3
    exact a2.row4 q3 (fun a ha => zwr_row ha)
  · have : j = (K 390).toNat := by omega
    subst this
    refine qS_call (pX9_knownCount a2.st) (fun r hr => ?_)
    subst hr
    dsimp only
    have f12 : ∀ a, 42 ≤ a → a ∉ ([49, 50, 51, 73, 74, 75, 76, 77] : List Nat) → D2 a = D a := fun a ha hb => by rw [r2 a (by omega)]; exact f1 a hb
    have e1 : D2 1 = D 1 := by rw [r2 1 (by omega)]; exact f1 1 (by decide)
    have hv := a2.ver
    have hI : vI D D2 K (kLrn K (K 390).toNat) := by
      have := kLrn_eV (K := K) (j := (K 390).toNat) (by omega)
      exact ⟨Or.inl ⟨by rw [e1], this.1⟩, Or.inl ⟨by rw [e1], this⟩⟩
    have acc : fX11_accept F (kKnown (kLrn K (K 390).toNat)) D2 = some (kKnown (kLrn K (K 390).toNat), zwr D2 0 9 0) := rfl
    refine qS_step acc (qS_ret ⟨rfl, cA.now a2 hc a2.st (fun _ _ => rfl) ⟨⟨hv.1.1, by have := hv.1.2; omega⟩, hv.2.1, by have := hv.2.2; omega⟩, fun a ha hb => ?_, ?_, ?_⟩)
    · show zwr D2 0 9 0 a = D a
      rw [zwr_row (by omega)]; exact f12 a ha hb
    · show vI D (zwr D2 0 9 0) K _
      unfold vI; rw [zwr_row (by omega)]; exact hI
    · have i1 : cDi D1 K := cDi.now c1 s1 (f1 1 (by decide))
      refine i1.keep hk (fun a ha hb => ?_) (Or.inl ⟨?_, kLrn_eV (by omega)⟩)
      · show zwr D2 0 9 0 a = D1 a
        rw [zwr_row (by omega)]; exact r2 a (by omega)
      · show zwr D2 0 9 0 1 17 = D1 1 17
        rw [zwr_row (by omega), r2 1 (by omega)]
theorem pr_learn (h : rA D K im tp tl ms c) (hP : kPOk K) (hc : c < 1000) : qS (fX12_learn F D) (fun r => r.1 = (oLearn K).2.1 ∧ rA r.2 (oLearn K).2.2 im tp tl (msu ms 0) (c + 1) ∧ zfm [92, 93, 94, 95, 97, 98, 102, 113, 114, 115, 116] [0, 1, 9, 18, 19, 20, 43, 44, 45, 59, 64, 65, 66] D r.2 ∧ (((oLearn K).2.2 = K ∧ r.2 91 1 = D 91 1) ∨ D 91 1 < r.2 91 1)) := by
  have hK := h.1.1
  have hk := h.1.2.1
  have h0 := hk.1
  have ht := kTerms hk
  have hdn := dN_ok hk (K 105).toNat (by omega)
  unfold fX12_learn
  refine qS_call (pX12_lives hK hk hP) (fun D1 ⟨_, c1, f1⟩ => ?_)
  have a1 := h.scr f1 (by decide) (by decide)
  refine qloop2 (fun v1 v D2 => ∃ j : Nat, v = (j : Int) ∧ j ≤ (K 390).toNat ∧ v1 = kKnownN (kLrn K (K 390).toNat) j ∧ D2 93 = kLrn K j ∧ (∀ a, a ≠ 93 → D2 a = D1 a)) (fun _ v _ => (100 - v).toNat) ?_ ⟨0, rfl, by omega, rfl, by rw [kLrn_0]; exact a1.1.1, fun _ _ => rfl⟩ (zfu_gt (by omega))
  intro kk v1 v D2 ⟨j, ev, hj, e1, e93, r2⟩ ih
  subst ev
  have eq : fX12_questions F D2 = some (K 390, D2) := by unfold fX12_questions; rw [e93, kLrn_off (by omega) (by omega)]
  have hn := kKnownN_in (kLrn K (K 390).toNat) j
  unfold fX12_learn_8
  refine qS_step eq ?_
  refine qS_ite (fun hjn => ?_) (fun hjn => ?_)
  · refine qS_chk (by omega) (qS_leti ?_)
    have c115 : D2 115 j = (dN K (K 105).toNat).1 j := by rw [r2 115 (by omega)]; exact (c1.1 j (by omega)).1
    have kl : kLrn K (K 390).toNat (5 * j + 2) = (dN K (K 105).toNat).1 j := kLrn_2 (by omega)
    have hd := (hdn.1 j).1
    have nx : ∀ s0 : Int, s0 = (if 0 < (dN K (K 105).toNat).1 j then 1 else 0) → qS (fX12_learn_49 F kk (j : Int) s0 v1 (zwr D2 93 (5 * j + 2) ((dN K (K 105).toNat).1 j))) (fun r => r.1 = (oLearn K).2.1 ∧ rA r.2 (oLearn K).2.2 im tp tl (msu ms 0) (c + 1) ∧ zfm [92, 93, 94, 95, 97, 98, 102, 113, 114, 115, 116] [0, 1, 9, 18, 19, 20, 43, 44, 45, 59, 64, 65, 66] D r.2 ∧ (((oLearn K).2.2 = K ∧ r.2 91 1 = D 91 1) ∨ D 91 1 < r.2 91 1)) := by
      intro s0 es
      have hs : s0 = 0 ∨ s0 = 1 := by rw [es]; split <;> omega
      unfold fX12_learn_49
      refine qS_chk (by omega) (qS_leti (qS_chk (by omega) (ih _ _ _ ⟨j + 1, by omega, by omega, ?_, ?_, fun a ha => by rw [zwr_row ha]; exact r2 a ha⟩ (by omega))))
      · rw [e1, es]
        show _ = kKnownN (kLrn K (K 390).toNat) j + (if 0 < kLrn K (K 390).toNat (5 * j + 2) then 1 else 0)
        rw [kl]
      · have : (zwr D2 93 (5 * j + 2) ((dN K (K 105).toNat).1 j)) 93 = zset (D2 93) (5 * j + 2) ((dN K (K 105).toNat).1 j) := by
          funext i; rw [zwr_at]; rfl
        rw [this, e93, kLrn_s]
    rw [show (0 + 5 * (j : Int) + 2).toNat = 5 * j + 2 by omega, show ((j : Int)).toNat = j by omega, c115]
    have w115 : (zwr D2 93 (5 * j + 2) ((dN K (K 105).toNat).1 j)) 115 j = (dN K (K 105).toNat).1 j := by rw [zwr_row (by omega)]; exact c115
    refine qS_ite (fun e => nx 1 ?_) (fun e => nx 0 ?_)
    · rw [w115] at e; rw [if_pos e]
    · rw [w115] at e; rw [if_neg e]
  · have : j = (K 390).toNat := by omega
    subst this
    have gd := rP.good (F := F) (D1 := D2) (o := oLearn K) a1 hc e93 (kLrn_ok hk (Nat.le_refl _)) (fun i hi => by rw [kLrn_off (by omega) (by omega)]; exact h.1.2.2 i hi) r2 (kKnown (kLrn K (K 390).toNat)) rfl
    rw [show v1 = kKnown (kLrn K (K 390).toNat) by rw [e1]; unfold kKnown; rw [kLrn_off (i := 390) (by omega) (by omega)]]
    have x1 : D1 91 1 = D 91 1 := f1.2 1 (by decide)
    obtain ⟨r0, er0, _⟩ := gd
    have gd2 : qS ((fX12_good F (kKnown (kLrn K (K 390).toNat)) D2).bind (fun (r, D') => some (r, D'))) (fun r => rP D1 K im tp tl ms c (oLearn K) r ∧ D 91 1 < r.2 91 1) := by
      obtain ⟨r, er, hr⟩ := rP.good (F := F) (D1 := D2) (o := oLearn K) a1 hc e93 (kLrn_ok hk (Nat.le_refl _)) (fun i hi => by rw [kLrn_off (by omega) (by omega)]; exact h.1.2.2 i hi) r2 (kKnown (kLrn K (K 390).toNat)) rfl
      refine ⟨r, er, hr, ?_⟩
      have h5 := a1.2.2.2.2
      have e2 : fX12_good F (kKnown (kLrn K (K 390).toNat)) D2 = some (kKnown (kLrn K (K 390).toNat), zwr (zwr D2 91 0 0) 91 1 (D2 91 1 + 1)) := pX12_good (by rw [r2 91 (by omega)]; omega)
      rw [e2] at er
      have e3 : r = (kKnown (kLrn K (K 390).toNat), zwr (zwr D2 91 0 0) 91 1 (D2 91 1 + 1)) := (Option.some.inj er).symm
      rw [e3]
      show D 91 1 < zwr (zwr D2 91 0 0) 91 1 (D2 91 1 + 1) 91 1
      rw [zwr_eq, r2 91 (by omega), x1]; omega
    refine qS_mono gd2 (fun r hr => ?_)
    obtain ⟨⟨g1, g2, g3, _⟩, g5⟩ := hr
    exact ⟨g1, g2, (f1.mono (by decide) (by decide)).trans (g3.mono (by decide) (by decide)), Or.inr g5⟩
end LE
