section PCP
variable {F F' : zFs} {D D' : zDa} {Z Z' : Nat → Prop} {K K' : Nat → Int} {im : Nat → Option (Nat → Int)} {tp : Nat → Int} {tl : Int} {ms : Nat → Int} {c n0 sl : Nat}
theorem tC_rng {L i : Nat} (ht : ∀ i, i < L → 0 ≤ tp i ∧ tp i ≤ 255) (h : i < (tToks tp L).length) : (0 ≤ tC tp L i ∧ tC tp L i ≤ 14) ∨ tC tp L i = 50 ∨ (100 ≤ tC tp L i ∧ tC tp L i ≤ 355) := by
  rw [(tC_lt h).1]
  obtain ⟨a1, a2, a3, a4, a5⟩ := tTok_in (tp := tp) (L := L) 401 0 (by omega) (tToks tp L)[i] (List.getElem_mem h)
  have hb := ht (tToks tp L)[i].1 (by omega)
  unfold tCode
  split
  · have := tFind_in kWords (tByt tp (tToks tp L)[i].1 (tToks tp L)[i].2) 1 (by omega)
    have e : (kWords.length : Int) = 14 := rfl
    omega
  · split <;> omega
theorem cTk_G {L : Nat} (hk : cTk D tp L) (hL : L ≤ 400) (ht : ∀ i, i < L → 0 ≤ tp i ∧ tp i ≤ 255) : cG D (tC tp L) (tW tp L) (tP tp L) (tToks tp L).length := by
  have hlen := tToks_len (tp := tp) (L := L)
  refine ⟨by omega, fun i hi => ⟨(hk.1 i hi).1, (hk.1 i hi).2, tC_rng ht hi⟩, hk.2.1, hk.2.2, fun i hi => (tC_ge (by omega)).1, fun i => ?_, tNum_in'⟩
  unfold tP; split <;> omega
theorem cA.rd (h : cA F D Z K im tp tl ms c) (hF : ∀ a, a < n0 → F' a = F a) (hD : ∀ a, a < n0 → a ≠ 0 → ¬ (42 ≤ a ∧ a ≤ 48) → D' a = D a) (h0 : ∀ k, k ≠ 4 → k ≠ 5 → D' 0 k = D 0 k) (h4 : D' 0 4 = 0) (hn : 126 ≤ n0) (hZ : ∀ a, Z a → a < n0) :
    cA F' D' Z K im tp 0 (zset ms 7 (D' 0 5)) c := by
  obtain ⟨h1, h2, h3, ⟨m0, m1, m2, m3, m4, m5, m6⟩, h5, h6, h7, h8⟩ := h
  have fz : ∀ a, Z a → F' a = F a := fun a ha => hF a (hZ a ha)
  have dz : ∀ a, Z a → D' a = D a := fun a ha => hD a (hZ a ha) (by have := h8 a ha; omega) (by have := h8 a ha; omega)
  refine ⟨h1.fr fz dz (fun _ h => h) (fun a ha hb => hD a (by omega) (by omega) (by omega)), ?_, ⟨by omega, fun i hi => by omega⟩, ?_, ?_, h6, zG_of h7 (fun b hb => hF b (by omega)), h8⟩
  · intro k hk
    obtain ⟨q1, q2⟩ := h2 k hk
    rw [hD 13 (by omega) (by omega) (by omega), hD 38 (by omega) (by omega) (by omega)]
    refine ⟨q1, ?_⟩
    rcases q2 with q2 | ⟨q2, Kk, e, q3⟩
    · exact Or.inl q2
    · exact Or.inr ⟨q2, Kk, e, q3.fr fz dz (fun _ h => h) (fun a ha hb => hD a (by omega) (by omega) (by omega))⟩
  · rw [h0 9 (by omega) (by omega), h0 6 (by omega) (by omega), hD 40 (by omega) (by omega) (by omega), hD 41 (by omega) (by omega) (by omega)]
    refine ⟨by rw [zset_off (by omega)]; exact m0, by rw [zset_eq], by rw [zset_off (by omega)]; exact m2, by rw [zset_off (by omega)]; exact m3, by rw [zset_off (by omega)]; exact m4, by rw [zset_off (by omega)]; exact m5, ?_⟩
    intro k k1 k6
    rw [zset_off (by omega)]; exact m6 k k1 k6
  · intro s hs
    have := h5 s hs
    simp only [List.mem_cons, List.not_mem_nil, or_false] at hs
    rw [hD s (by omega) (by omega) (by omega)]; exact this
theorem qSt_POk {s : Nat} (h : qSt F D Z s K) : kPOk K := fun t ht => ⟨(h.2.2.2.2.2.2.2.2.2.2 t ht).1, (h.2.2.2.2.2.2.2.2.2.2 t ht).2.2⟩
/-- a paper laid to the others -/
theorem qSt_put {t n : Nat} {cc ww : Nat → Int} {cs : List (Int × kSum)} {D1 : zDa} (h : qSt F D Z 1 K) (ht : t < 6) (h3 : K 393 = (t : Int)) (hn : n ≤ 400) (hc : ∀ i, n ≤ i → cc i = 0) (hr : kRead cc ww n = .inr cs) (hp : qPap F D1 Z' (n0 : Int) cs)
    (hZ : ∀ a, Z a → Z' a) (hD : ∀ a, Z a → D1 a = D a) (hrow : ∀ a, 2 ≤ a → a ≤ 12 → a ≠ 8 → D1 a = D a) (h8 : D1 8 = zset (D 8) t (n0 : Int)) (h1 : D1 1 = zset (D 1) 8 ((t : Int) + 1)) : qSt F D1 Z' 1 (kPut K t n cc ww) := by
  have hP := qSt_POk h
  obtain ⟨q0, q1, q2, q3, ⟨q4, q5⟩, q6, ⟨q7, q8⟩, q9, q10, q11, q12⟩ := h
  have lo : ∀ i, i < 393 → kPut K t n cc ww i = K i := fun i hi => kPut_low (by omega) (by omega)
  have k390 := q0.1
  have k391 := q0.2.2.2.1.1
  have k392 := q0.2.2.2.2.2.1.1
  unfold qSt
  rw [lo 390 (by omega), lo 391 (by omega), lo 392 (by omega), kPut_393, kPut_low (i := 394) (by omega) (by omega), h1, hrow (1 + 1) (by omega) (by omega) (by omega), hrow (1 + 2) (by omega) (by omega) (by omega), hrow (1 + 3) (by omega) (by omega) (by omega), hrow (1 + 4) (by omega) (by omega) (by omega), hrow (1 + 5) (by omega) (by omega) (by omega), hrow (1 + 6) (by omega) (by omega) (by omega), hrow (1 + 8) (by omega) (by omega) (by omega), hrow (1 + 9) (by omega) (by omega) (by omega), hrow (1 + 10) (by omega) (by omega) (by omega), hrow (1 + 11) (by omega) (by omega) (by omega), show 1 + 7 = 8 from rfl, h8, zset_off (by omega), zset_off (by omega), zset_off (by omega), zset_eq, zset_off (by omega)]
  refine ⟨kPut_ok q0 ht h3, q1, ?_, ?_, ⟨q4, ?_⟩, ?_, ⟨q7, ?_⟩, rfl, q10, ?_, ?_⟩
  · intro q hq
    rw [lo _ (by omega), lo _ (by omega), lo _ (by omega), lo _ (by omega), lo _ (by omega)]
    exact q2 q hq
  · intro k hk
    rw [lo _ (by omega)]; exact q3 k hk
  · intro i hi
    rw [lo _ (by omega), lo _ (by omega)]; exact q5 i hi
  · intro f hf
    rw [lo _ (by omega)]; exact q6 f hf
  · intro y hy
    rw [lo _ (by omega)]; exact q8 y hy
  · intro s hs
    by_cases e : s = t
    · subst e
      rw [zset_eq]
      exact Or.inr ⟨hp.2.2.1, hp.2.1⟩
    · rw [zset_off e]
      rcases q11 s hs with h | ⟨h, hz⟩
      · exact Or.inl h
      · exact Or.inr ⟨h, hZ _ hz⟩
  · intro s hs
    by_cases e : s = t
    · subst e
      rw [zset_eq]
      have er := kPut_read (K := K) (w := ww) ht hn hc
      refine ⟨by rw [kPut_size hn]; omega, ?_, cs, by rw [er]; exact hr⟩
      unfold kCls
      rw [er, hr]
      exact hp
    · rw [zset_off e]
      obtain ⟨p1, p2, cs', p3⟩ := q12 s (by omega)
      obtain ⟨e1, e2⟩ := kPut_old (K := K) (c := cc) (w := ww) ht hn (s := s) (by omega) p1
      refine ⟨by rw [e1]; exact p1, ?_, cs', by rw [e2]; exact p3⟩
      unfold kCls
      rw [e2]
      exact p2.fr (fun _ _ => rfl) hD hZ
theorem pc_paper (h : cA F D Z K im tp tl ms c) (hc : c < 1000) (hn : 126 ≤ n0) (hn9 : n0 + 10 < 900000) (hZ : ∀ a, Z a → a < n0) :
    qS (fX11_paper F D n0 sl) (fun r => ∃ F' D' n' sl' Z', r = ((oPaper K tp tl.toNat ms).2.1, (F', D', n', sl')) ∧ n0 ≤ n' ∧ n' ≤ n0 + 4 ∧ sl ≤ sl' ∧ sl' ≤ sl + 500 ∧ (∀ a, Z a → Z' a) ∧ (∀ a, Z' a → a < n' ∧ (Z a ∨ n0 ≤ a)) ∧ (∀ a, a < n0 → F' a = F a) ∧
      cA F' D' Z' (oPaper K tp tl.toNat ms).2.2.1 im tp 0 (msu (oPaper K tp tl.toNat ms).2.2.2 (oPaper K tp tl.toNat ms).1) (c + 1) ∧ (∀ a, 49 ≤ a → a < n0 → D' a = D a) ∧ D' 1 16 = D 1 16 ∧ D' 1 17 = D 1 17) := by
  have hS := h.1
  have h8 : D 1 8 = K 393 := hS.2.2.2.2.2.2.2.1
  have hk := hS.1
  have h39 := hk.2.2.2.2.2.2
  have htl := h.2.2.1.1
  have htp := h.2.2.1.2
  have hG := h.2.2.2.2.2.2.1
  have hZ6 := h.2.2.2.2.2.2.2
  unfold fX11_paper
  refine qS_leti (qS_leti ?_)
  rw [htl.1]
  by_cases h6 : K 393 = 6
  · refine qS_neg (by rw [zwr_off (by omega), h8]; omega) ?_
    have hr0 : cA F (zwr D 0 4 0) Z K im tp 0 (zset ms 7 ((zwr D 0 4 0) 0 5)) c := cA.rd h (fun _ _ => rfl) (fun a ha hb hc => zwr_row hb) (fun k k1 k2 => zwr_off (by omega)) zwr_eq hn hZ
    have e7 : zset ms 7 ((zwr D 0 4 0) 0 5) = ms := by rw [zwr_off (by omega), h.2.2.2.1.2.1]; exact zset_self
    rw [e7] at hr0
    obtain ⟨D', e, hr, hf, hv⟩ := pX11_refuse hr0 (-5) (by omega) hc
    have eo : oPaper K tp tl.toNat ms = (-5, -5, K, ms) := by unfold oPaper; rw [if_pos h6]
    refine qS_step e (qS_ret ?_)
    rw [eo]
    refine ⟨F, D', n0, sl, Z, rfl, by omega, by omega, by omega, by omega, fun _ h => h, fun a ha => ⟨hZ a ha, Or.inl ha⟩, fun _ _ => rfl, hr, fun a ha hb => ?_, ?_, ?_⟩
    · rw [hf a (by omega), zwr_row (by omega)]
    · rw [hv, zwr_off (by omega)]
    · rw [hv, zwr_off (by omega)]
  · refine qS_pos (by rw [zwr_off (by omega), h8]; omega) ?_
    obtain ⟨L, hL⟩ : ∃ L : Nat, tl = (L : Int) := ⟨tl.toNat, by omega⟩
    have eL : tl.toNat = L := by omega
    rw [eL, hL]
    unfold fX6_read
    have m1 : fJ9_min_7cf53 F 400 400 (zwr D 0 4 0) = some (400, zwr D 0 4 0) := by unfold fJ9_min_7cf53; rw [if_neg (by omega)]
    have m2 : fJ9_min_7cf53 F (L : Int) 400 (zwr D 0 4 0) = some ((L : Int), zwr D 0 4 0) := by unfold fJ9_min_7cf53; rw [if_neg (by omega)]
    refine qS_bind (qS_step m1 (qS_step m2 (qS_call (pX6_cutTokens (tp := tp) (fun i hi => by rw [zwr_row (by omega)]; exact htp i (by omega)) (by omega)) ?_)))
    intro D6 ⟨ctk, cfr⟩
    refine qS_leti (qS_leti (qS_leti (qS_leti (qS_leti ?_))))
    have e0 : zwr (zwr (zwr (zwr (zwr D6 42 3 0) 42 4 0) 42 5 0) 42 9 0) 42 10 (-1) = cS (zwr D6 42 5 0) 0 0 0 (-1) (D6 48) := by
      refine cS_ext ?_ ?_ ?_ ?_ ?_ (fun k k1 k2 k3 k4 => ?_) (fun a ha hb => ?_)
      · simp [zwr]
      · simp [zwr]
      · simp [zwr]
      · simp [zwr]
      · rw [zwr_row (by omega), zwr_row (by omega), zwr_row (by omega), zwr_row (by omega), zwr_row (by omega)]
      · rw [zwr_off (by omega), zwr_off (by omega)]
        by_cases h5 : k = 5
        · subst h5
          rw [zwr_eq, zwr_eq]
        · rw [zwr_off (by omega), zwr_off (by omega), zwr_off (by omega), zwr_off (by omega)]
      · rw [zwr_row ha, zwr_row ha, zwr_row ha, zwr_row ha, zwr_row ha, zwr_row ha]
    rw [e0]
    have hb : ∀ i, i < L → 0 ≤ tp i ∧ tp i ≤ 255 := fun i hi => (htp i (by omega)).2
    have hcG : cG (zwr D6 42 5 0) (tC tp L) (tW tp L) (tP tp L) (tToks tp L).length := by
      have := cTk_G ctk (by omega) hb
      exact this.fr (cF.rfl' D6).w5
    have hlen := tToks_len (tp := tp) (L := L)
    have base : ∀ a, a < n0 → a ≠ 0 → ¬ (42 ≤ a ∧ a ≤ 48) → (zwr D6 42 5 0) a = D a := fun a ha h0 h4 => by
      rw [zwr_row (by omega), cfr a (by simp; omega), zwr_row h0]
    have base0 : (zwr D6 42 5 0) 0 = zwr D 0 4 0 0 := by rw [zwr_row (by omega), cfr 0 (by simp)]
    refine qS_mono (cText (F := F) (n0 := n0) (sl := sl) (w := tW tp L) (S := D6 48) (Post := pPost F (zwr D6 42 5 0) n0 sl) hcG zwr_eq (fun cs D' j l z S hf hI h1 => cPaper hG hn hn9 hf hI h1)) ?_
    intro r hr
    generalize hD9 : zwr D6 42 5 0 = D9 at *
    cases hrd : kRead (tC tp L) (tW tp L) (tToks tp L).length with
    | inl e =>
      rw [hrd] at hr
      obtain ⟨he, D', i', l', z', S', f1, rfl⟩ := hr
      have eo : oPaper K tp L ms = (-6, -6, K, zset ms 7 (tP tp L e)) := by unfold oPaper; rw [if_neg h6, hrd]
      rw [eo]
      dsimp only
      refine qS_chk ⟨hG, hn⟩ (qS_leti (qS_pos (by omega) ?_))
      rw [cS_10]
      have hr0 := cA.rd (D' := zwr (cS D' i' l' z' (tP tp L e) S') 0 5 (tP tp L e)) (n0 := n0) h (fun _ _ => rfl) (fun a ha hb hc => by rw [zwr_row hb, cS_r (by omega), f1.1 a (by omega) (by omega) (by omega)]; exact base a ha hb hc) (fun k k1 k2 => by rw [zwr_off (by omega), cS_r (by omega), f1.1 0 (by omega) (by omega) (by omega), base0, zwr_off (by omega)]) (by rw [zwr_off (by omega), cS_r (by omega), f1.1 0 (by omega) (by omega) (by omega), base0, zwr_eq]) hn hZ
      rw [zwr_eq] at hr0
      obtain ⟨D2, e2, hr, hf, hv⟩ := pX11_refuse hr0 (-6) (by omega) hc
      refine qS_step e2 (qS_ret ?_)
      refine ⟨F, D2, n0, sl, Z, rfl, by omega, by omega, by omega, by omega, fun _ h => h, fun a ha => ⟨hZ a ha, Or.inl ha⟩, fun _ _ => rfl, hr, fun a ha hb => ?_, ?_, ?_⟩
      · rw [hf a (by omega), zwr_row (by omega), cS_r (by omega), f1.1 a (by omega) (by omega) (by omega)]
        exact base a hb (by omega) (by omega)
      · rw [hv, zwr_row (by omega), cS_r (by omega), f1.1 1 (by omega) (by omega) (by omega), base 1 (by omega) (by omega) (by omega)]
      · rw [hv, zwr_row (by omega), cS_r (by omega), f1.1 1 (by omega) (by omega) (by omega), base 1 (by omega) (by omega) (by omega)]
    | inr cs =>
      rw [hrd] at hr
      obtain ⟨F', D', sl', rfl, s1, s2, hF, hD, h10, hp⟩ := hr
      obtain ⟨t, ht⟩ : ∃ t : Nat, K 393 = (t : Int) := ⟨(K 393).toNat, by omega⟩
      have eo : oPaper K tp L ms = (0, (t : Int), kPut K t (tToks tp L).length (tC tp L) (tW tp L), zset ms 7 (-1)) := by
        unfold oPaper; rw [if_neg h6, hrd, ht]; rfl
      rw [eo]
      dsimp only
      have hG' : zG F' := zG_of hG (fun b hb => hF b (by omega))
      refine qS_chk ⟨hG', by omega⟩ (qS_leti (qS_neg (by omega) ?_))
      rw [h10]
      have hD' : ∀ a, a < n0 → a ≠ 0 → ¬ (42 ≤ a ∧ a ≤ 48) → D' a = D a := fun a ha h0 h4 => by
        rw [hD a ha (by omega) (by omega) (by omega) (by omega)]; exact base a ha h0 h4
      have hD0 : D' 0 = zwr D 0 4 0 0 := by rw [hD 0 (by omega) (by omega) (by omega) (by omega) (by omega)]; exact base0
      have hr0 := cA.rd (F' := F') (D' := zwr D' 0 5 (-1)) (n0 := n0) h hF (fun a ha hb hc => by rw [zwr_row hb]; exact hD' a ha hb hc) (fun k k1 k2 => by rw [zwr_off (by omega), hD0, zwr_off (by omega)]) (by rw [zwr_off (by omega), hD0, zwr_eq]) hn hZ
      rw [zwr_eq] at hr0
      have e18 : zwr D' 0 5 (-1) 1 8 = (t : Int) := by rw [zwr_off (by omega), hD' 1 (by omega) (by omega) (by omega), h8, ht]
      have kn : (F' ((n0 : Int)).toNat).1 = 4 := hp.2.2.1
      rw [e18]
      refine qS_chk ⟨by omega, Or.inr kn⟩ (qS_leti ?_)
      rw [show ((t : Int)).toNat = t by omega]
      have e18' : zwr (zwr D' 0 5 (-1)) 8 t (n0 : Int) 1 8 = (t : Int) := by rw [zwr_row (by omega)]; exact e18
      rw [e18']
      refine qS_chk (by omega) (qS_leti (qS_chk (by rw [zwr_eq]; omega) ?_))
      rw [zwr_eq, show (t : Int) + 1 - 1 = (t : Int) by omega]
      unfold fX11_accept
      refine qS_bind (qS_leti (qS_ret (qS_ret ?_)))
      have hdn : ∀ a, a ≠ 0 → a ≠ 1 → a ≠ 8 → (zwr (zwr (zwr (zwr D' 0 5 (-1)) 8 t (n0 : Int)) 1 8 ((t : Int) + 1)) 0 9 0) a = D' a := fun a h0 h1 h8 => by
        rw [zwr_row h0, zwr_row h1, zwr_row h8, zwr_row h0]
      have hd1 : (zwr (zwr (zwr (zwr D' 0 5 (-1)) 8 t (n0 : Int)) 1 8 ((t : Int) + 1)) 0 9 0) 1 = zset (D 1) 8 ((t : Int) + 1) := by
        rw [zwr_row (by omega), zwr_self, zwr_row (by omega), zwr_row (by omega), hD' 1 (by omega) (by omega) (by omega)]
      have hd8 : (zwr (zwr (zwr (zwr D' 0 5 (-1)) 8 t (n0 : Int)) 1 8 ((t : Int) + 1)) 0 9 0) 8 = zset (D 8) t (n0 : Int) := by
        rw [zwr_row (by omega), zwr_row (by omega), zwr_self, zwr_row (by omega), hD' 8 (by omega) (by omega) (by omega)]
      have hd0 : ∀ k, k ≠ 9 → (zwr (zwr (zwr (zwr D' 0 5 (-1)) 8 t (n0 : Int)) 1 8 ((t : Int) + 1)) 0 9 0) 0 k = (zwr D' 0 5 (-1)) 0 k := fun k hk => by
        rw [zwr_off (by omega), zwr_row (by omega), zwr_row (by omega)]
      have hd09 : (zwr (zwr (zwr (zwr D' 0 5 (-1)) 8 t (n0 : Int)) 1 8 ((t : Int) + 1)) 0 9 0) 0 9 = 0 := zwr_eq
      generalize zwr (zwr (zwr (zwr D' 0 5 (-1)) 8 t (n0 : Int)) 1 8 ((t : Int) + 1)) 0 9 0 = Df at *
      have hZf : ∀ a, Z a → (fun a => Z a ∨ (n0 ≤ a ∧ a < n0 + 4)) a := fun a ha => Or.inl ha
      have dz : ∀ a, Z a → Df a = D a := fun a ha => by
        have := hZ6 a ha
        have := hZ a ha
        rw [hdn a (by omega) (by omega) (by omega)]; exact hD' a (by omega) (by omega) (by omega)
      have fz : ∀ a, Z a → F' a = F a := fun a ha => hF a (hZ a ha)
      have hSF : qSt F' D Z 1 K := hS.fr fz (fun _ _ => rfl) (fun _ h => h) (fun _ _ _ => rfl)
      have hp' : qPap F' Df (fun a => Z a ∨ (n0 ≤ a ∧ a < n0 + 4)) (n0 : Int) cs := hp.fr (fun _ _ => rfl) (fun a ha => hdn a (by omega) (by omega) (by omega)) (fun a ha => Or.inr ha)
      obtain ⟨r1, r2, r3, ⟨v0, v1, v2, v3, v4, v5, v6⟩, r5, r6, r7, r8⟩ := hr0
      refine ⟨F', Df, n0 + 4, sl', _, rfl, by omega, by omega, s1, s2, hZf, ?_, hF, ⟨?_, ?_, ⟨?_, ?_⟩, ?_, ?_, by omega, hG', ?_⟩, ?_, ?_, ?_⟩
      · intro a ha
        rcases ha with ha | ha
        · exact ⟨by have := hZ a ha; omega, Or.inl ha⟩
        · exact ⟨by omega, Or.inr ha.1⟩
      · exact qSt_put hSF (by omega) ht (by omega) (fun i hi => (tC_ge hi).1) hrd hp' hZf dz (fun a a1 a2 a3 => by rw [hdn a (by omega) (by omega) (by omega)]; exact hD' a (by omega) (by omega) (by omega)) hd8 hd1
      · intro k hk
        obtain ⟨q1, q2⟩ := h.2.1 k hk
        rw [hdn 13 (by omega) (by omega) (by omega), hdn 38 (by omega) (by omega) (by omega), hD' 13 (by omega) (by omega) (by omega), hD' 38 (by omega) (by omega) (by omega)]
        refine ⟨q1, ?_⟩
        rcases q2 with q2 | ⟨q2, Kk, e, q3⟩
        · exact Or.inl q2
        · exact Or.inr ⟨q2, Kk, e, q3.fr fz dz hZf (fun a ha hb => by rw [hdn a (by omega) (by omega) (by omega)]; exact hD' a (by omega) (by omega) (by omega))⟩
      · rw [hd0 4 (by omega)]; exact r3.1
      · intro i hi; omega
      · rw [hd09, hd0 5 (by omega), hd0 6 (by omega), hdn 40 (by omega) (by omega) (by omega), hdn 41 (by omega) (by omega) (by omega)]
        rw [zwr_row (b := 40) (by omega)] at v3 v4 v5
        rw [zwr_row (b := 41) (by omega)] at v6
        refine ⟨rfl, by rw [msu_0 (by omega)]; exact v1, by rw [msu_0 (by omega)]; exact v2, by rw [msu_0 (by omega)]; exact v3, by rw [msu_0 (by omega)]; exact v4, by rw [msu_0 (by omega)]; exact v5, ?_⟩
        intro k k1 k6
        have := v6 k k1 k6
        rw [msu_0 k1]; omega
      · intro s hs
        have h5 := r5 s hs
        simp only [List.mem_cons, List.not_mem_nil, or_false] at hs
        rw [zwr_row (by omega)] at h5
        rcases hs with rfl | rfl | rfl
        · rw [hd1, zset_off (by omega), zset_off (by omega)]
          rw [hD' 1 (by omega) (by omega) (by omega)] at h5
          omega
        · rw [hdn 14 (by omega) (by omega) (by omega)]; omega
        · rw [hdn 26 (by omega) (by omega) (by omega)]; omega
      · intro a ha
        rcases ha with ha | ha
        · exact hZ6 a ha
        · omega
      · intro a ha hb
        rw [hdn a (by omega) (by omega) (by omega)]; exact hD' a hb (by omega) (by omega)
      · rw [hd1, zset_off (by omega)]
      · rw [hd1, zset_off (by omega)]
end PCP
