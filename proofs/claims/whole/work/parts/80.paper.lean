/-! ===== a paper comes to the state ===== -/
section KC
variable {c w w' : Nat → Int}
theorem kPart_w (h : ∀ i, c i = 50 → w i = w' i) (dp : Option (kP kSum)) : kPart c w dp = kPart c w' dp := by
  funext i l
  unfold kPart
  by_cases h5 : c i = 50
  · rw [h i h5]
  · simp [h5]
theorem kSumD_w (h : ∀ i, c i = 50 → w i = w' i) (d : Nat) : kSumD c w d = kSumD c w' d := by
  induction d with
  | zero => unfold kSumD; rw [kPart_w h]
  | succ d ih => unfold kSumD; rw [kPart_w h, ih]
theorem kTestD_w (h : ∀ i, c i = 50 → w i = w' i) (d : Nat) : kTestD c w d = kTestD c w' d := by
  induction d with
  | zero => unfold kTestD; rw [kSumD_w h]
  | succ d ih => unfold kTestD; rw [kSumD_w h, ih]
theorem kClause_w (h : ∀ i, c i = 50 → w i = w' i) : kClause c w = kClause c w' := by
  funext i l
  unfold kClause
  rw [kSumD_w h, kTestD_w h]
theorem kText_w (h : ∀ i, c i = 50 → w i = w' i) (m : Nat) : kText c w m = kText c w' m := by
  induction m with
  | zero => rfl
  | succ m ih => funext n i l; unfold kText; rw [kClause_w h, ih]
theorem kRead_w (h : ∀ i, c i = 50 → w i = w' i) (n : Nat) : kRead c w n = kRead c w' n := by
  unfold kRead
  rw [kText_w h]
end KC
def zPut (K : Nat → Int) (t n j : Nat) (c w : Nat → Int) : Nat → Int := fun i =>
  if i = 395 + t then (n : Int) else if 401 + 400 * t ≤ i ∧ i < 401 + 400 * t + j then c (i - (401 + 400 * t)) else if 2801 + 400 * t ≤ i ∧ i < 2801 + 400 * t + j then w (i - (2801 + 400 * t)) else K i
def kPut (K : Nat → Int) (t n : Nat) (c w : Nat → Int) : Nat → Int := zset (zPut K t n n c w) 393 ((t : Int) + 1)
theorem zPut_low {K : Nat → Int} {t n j : Nat} {c w : Nat → Int} {i : Nat} (h : i < 395) : zPut K t n j c w i = K i := by
  unfold zPut; rw [if_neg (by omega), if_neg (by omega), if_neg (by omega)]
section KPUT
variable {K : Nat → Int} {t n : Nat} {c w : Nat → Int}
theorem kPut_low {i : Nat} (h : i < 395) (h3 : i ≠ 393) : kPut K t n c w i = K i := by
  unfold kPut; rw [zset_off h3, zPut_low h]
theorem kPut_393 : kPut K t n c w 393 = (t : Int) + 1 := zset_eq
theorem kPut_high (ht : t < 6) (hn : n ≤ 400) {i : Nat} (h : 5201 ≤ i) : kPut K t n c w i = K i := by
  unfold kPut zPut; rw [zset_off (by omega), if_neg (by omega), if_neg (by omega), if_neg (by omega)]
theorem kPut_ok (hk : kOk K) (ht : t < 6) (h3 : K 393 = (t : Int)) : kOk (kPut K t n c w) := by
  obtain ⟨k1, k2, k3, ⟨k4, k5⟩, k6, ⟨k7, k8⟩, k9, k10⟩ := hk
  have e : ∀ i, i < 393 → kPut K t n c w i = K i := fun i hi => kPut_low (by omega) (by omega)
  unfold kOk
  rw [e 390 (by omega), e 391 (by omega), e 392 (by omega), kPut_393, kPut_low (i := 394) (by omega) (by omega)]
  refine ⟨k1, ?_, ?_, ⟨k4, ?_⟩, ?_, ⟨k7, ?_⟩, by omega, by omega⟩
  · intro q hq
    rw [e _ (by omega), e _ (by omega), e _ (by omega), e _ (by omega), e _ (by omega)]
    exact k2 q hq
  · intro k hk
    rw [e _ (by omega)]
    exact k3 k hk
  · intro i hi
    rw [e _ (by omega), e _ (by omega)]
    exact k5 i hi
  · intro f hf
    rw [e _ (by omega)]
    exact k6 f hf
  · intro y hy
    rw [e _ (by omega)]
    exact k8 y hy
theorem kPut_size (hn : n ≤ 400) : kPut K t n c w (395 + t) = (n : Int) := by
  unfold kPut zPut; rw [zset_off (by omega), if_pos rfl]
theorem kPut_code (ht : t < 6) (hn : n ≤ 400) (hc : ∀ i, n ≤ i → c i = 0) : kCode (kPut K t n c w) t = c := by
  funext i
  unfold kCode
  rw [kPut_size hn]
  by_cases h : i < n
  · rw [if_pos (by omega)]
    unfold kPut zPut
    rw [zset_off (by omega), if_neg (by omega), if_pos (by omega)]
    congr 1; omega
  · rw [if_neg (by omega), hc i (by omega)]
theorem kPut_read (ht : t < 6) (hn : n ≤ 400) (hc : ∀ i, n ≤ i → c i = 0) : kRead (kCode (kPut K t n c w) t) (kVal (kPut K t n c w) t) (kPut K t n c w (395 + t)).toNat = kRead c w n := by
  rw [kPut_code ht hn hc, kPut_size hn]
  refine kRead_w (fun i hi => ?_) n
  have hin : i < n := by
    by_cases h : i < n
    · exact h
    · rw [hc i (by omega)] at hi; omega
  unfold kVal kPut zPut
  rw [zset_off (by omega), if_neg (by omega), if_neg (by omega), if_pos (by omega)]
  congr 1; omega
theorem kPut_old (ht : t < 6) (hn : n ≤ 400) {s : Nat} (hs : s < t) (h : 0 ≤ K (395 + s) ∧ K (395 + s) ≤ 400) :
    kPut K t n c w (395 + s) = K (395 + s) ∧ kRead (kCode (kPut K t n c w) s) (kVal (kPut K t n c w) s) (kPut K t n c w (395 + s)).toNat = kRead (kCode K s) (kVal K s) (K (395 + s)).toNat := by
  have e1 : kPut K t n c w (395 + s) = K (395 + s) := by
    unfold kPut zPut; rw [zset_off (by omega), if_neg (by omega), if_neg (by omega), if_neg (by omega)]
  have e2 : kCode (kPut K t n c w) s = kCode K s := by
    funext i
    unfold kCode
    rw [e1]
    by_cases hi : (i : Int) < K (395 + s)
    · rw [if_pos hi, if_pos hi]
      unfold kPut zPut; rw [zset_off (by omega), if_neg (by omega), if_neg (by omega), if_neg (by omega)]
    · rw [if_neg hi, if_neg hi]
  refine ⟨e1, ?_⟩
  rw [e1, e2]
  refine kRead_w (fun i hi => ?_) _
  have hin : (i : Int) < K (395 + s) := by
    unfold kCode at hi
    by_cases h : (i : Int) < K (395 + s)
    · exact h
    · rw [if_neg h] at hi; omega
  unfold kVal kPut zPut
  rw [zset_off (by omega), if_neg (by omega), if_neg (by omega), if_neg (by omega)]
theorem kPut_told (hk : kOk K) (ht : t < 6) (h3 : K 393 = (t : Int)) (hn : n ≤ 400) (hP : kPOk K) (head low high wo : Int) (A : Nat → Int) : kTold (kPut K t n c w) head low high wo A = kTold K head low high wo A := by
  have h9 := hk.2.2.2.2.2.2.2
  unfold kTold
  rw [kPut_low (i := 394) (by omega) (by omega)]
  by_cases h : K 394 = -1
  · rw [if_pos h, if_pos h]
  · rw [if_neg h, if_neg h]
    unfold kCls
    rw [(kPut_old ht hn (s := (K 394).toNat) (by omega) (hP _ (by omega)).1).2]
theorem kPut_eV (hk : kOk K) (ht : t < 6) (h3 : K 393 = (t : Int)) (hn : n ≤ 400) (hP : kPOk K) : eV K (kPut K t n c w) :=
  ⟨⟨kPut_low (by omega) (by omega), fun i hi _ => kPut_low (by omega) (by omega), fun head low high wo A => kPut_told hk ht h3 hn hP head low high wo A⟩, fun i _ hi => kPut_low (by omega) (by omega), kPut_low (by omega) (by omega), fun i _ hi => kPut_low (by omega) (by omega)⟩
theorem kPut_POk (ht : t < 6) (h3 : K 393 = (t : Int)) (hn : n ≤ 400) (hc : ∀ i, n ≤ i → c i = 0) {cs : List (Int × kSum)} (hr : kRead c w n = .inr cs) (hP : kPOk K) : kPOk (kPut K t n c w) := by
  intro s hs
  rw [kPut_393] at hs
  by_cases hst : s = t
  · subst hst
    exact ⟨by rw [kPut_size hn]; omega, cs, by rw [kPut_read ht hn hc]; exact hr⟩
  · obtain ⟨p1, cs', p2⟩ := hP s (by omega)
    obtain ⟨e1, e2⟩ := kPut_old (K := K) (c := c) (w := w) ht hn (s := s) (by omega) p1
    exact ⟨by rw [e1]; exact p1, cs', by rw [e2]; exact p2⟩
end KPUT
theorem tNum_in' {tp : Nat → Int} {L : Nat} (i : Nat) : 0 ≤ tW tp L i := by
  by_cases h : i < (tToks tp L).length
  · rw [(tC_lt h).2.1]
    obtain ⟨a1, a2, a3, a4, a5⟩ := tTok_in (tp := tp) (L := L) 401 0 (by omega) (tToks tp L)[i] (List.getElem_mem h)
    unfold tVal
    generalize (tToks tp L)[i] = q at *
    by_cases hd : tDg (tp q.1) = true
    · rw [if_pos hd]
      refine (tNum_bnd _ _ (fun k hk => ?_)).1
      by_cases hk0 : k = 0
      · subst hk0
        unfold tDg at hd
        rw [decide_eq_true_iff] at hd
        exact hd
      · have hs : ¬ tSm (tp q.1) = true := by
          unfold tDg at hd
          unfold tSm
          rw [decide_eq_true_iff] at hd ⊢
          omega
        have he : tEnd tp L q.1 = tRun tDg tp L 400 (q.1 + 1) := by unfold tEnd; rw [if_neg hs, if_pos hd]
        have := tRun_all (tp := tp) (L := L) tDg 400 (q.1 + 1) (q.1 + k) (by omega) (by omega)
        unfold tDg at this
        rw [decide_eq_true_iff] at this
        exact this
    · rw [if_neg hd]; omega
  · rw [(tC_ge (by omega)).2.1]; omega
/-- status, answer, state, and what the counters are before the status is put -/
def oPaper (K tp : Nat → Int) (L : Nat) (ms : Nat → Int) : Int × Int × (Nat → Int) × (Nat → Int) :=
  if K 393 = 6 then (-5, -5, K, ms)
  else match kRead (tC tp L) (tW tp L) (tToks tp L).length with
    | .inl e => (-6, -6, K, zset ms 7 (tP tp L e))
    | .inr _ => (0, K 393, kPut K (K 393).toNat (tToks tp L).length (tC tp L) (tW tp L), zset ms 7 (-1))
def fRP (D D' : zDa) : Prop := zfm [92, 93, 94, 95, 97, 98, 99, 100, 101] [0, 1, 9, 10, 14, 15, 16, 17, 59, 64, 65, 66] D D'
theorem fR.p {D D' : zDa} (h : fR D D') : fRP D D' := zfm.mono h (by decide) (by decide)
section PRP
variable {F : zFs} {D D' D5 : zDa} {K K' : Nat → Int} {im : Nat → Option (Nat → Int)} {tp : Nat → Int} {tl : Int} {ms : Nat → Int} {c : Nat}
theorem rA.rd (h : rA D K im tp tl ms c) (hf : zfm [99, 100, 101] [9, 10, 14, 15, 16, 17] D D5) (h9 : D5 91 9 = 0) : rA D5 K im tp 0 (zset ms 7 (D5 91 10)) c := by
  obtain ⟨h1, h2, h3, ⟨m0, m1, m2, m3, m4, m5, m6⟩, h5, h6⟩ := h
  have r93 := hf.1 93 (by decide) (by decide)
  have r94 := hf.1 94 (by decide) (by decide)
  have r95 := hf.1 95 (by decide) (by decide)
  have r92 := hf.1 92 (by decide) (by decide)
  refine ⟨by rw [r93]; exact h1, by rw [r94, r95]; exact h2, ⟨by omega, fun i hi => by omega⟩, ?_, by rw [hf.2 1 (by decide)]; exact h5, h6⟩
  rw [hf.2 0 (by decide), hf.2 59 (by decide), hf.2 64 (by decide), hf.2 65 (by decide), hf.2 66 (by decide), r92]
  refine ⟨by rw [zset_off (by omega)]; exact m0, by rw [zset_eq], by rw [zset_off (by omega)]; exact m2, by rw [zset_off (by omega)]; exact m3, by rw [zset_off (by omega), zset_off (by omega), zset_off (by omega)]; exact m4, by rw [zset_off (by omega), zset_off (by omega), zset_off (by omega)]; exact m5, ?_⟩
  intro k k1 k6
  rw [zset_off (by omega)]; exact m6 k k1 k6
theorem zset_self {r : Nat → Int} {k : Nat} : zset r k (r k) = r := by
  funext j; unfold zset; by_cases h : j = k
  · rw [if_pos h, h]
  · rw [if_neg h]
theorem pr_paper (h : rA D K im tp tl ms c) (hw : rWs D) (hc : c < 1000) : qS (fX12_paper F D) (fun r => r.1 = (oPaper K tp tl.toNat ms).2.1 ∧ rA r.2 (oPaper K tp tl.toNat ms).2.2.1 im tp 0 (msu (oPaper K tp tl.toNat ms).2.2.2 (oPaper K tp tl.toNat ms).1) (c + 1) ∧ fRP D r.2 ∧ (((oPaper K tp tl.toNat ms).2.2.1 = K ∧ r.2 91 1 = D 91 1) ∨ D 91 1 < r.2 91 1)) := by
  have hK := h.1.1
  have hk := h.1.2.1
  have h39 := hk.2.2.2.2.2.2
  have htl := h.2.2.1.1
  have htp := h.2.2.1.2
  unfold fX12_paper
  rw [hK]
  by_cases h6 : K 393 = 6
  · refine qS_pos h6 (qS_leti ?_)
    have hr0 : rA (zwr D 91 9 0) K im tp 0 (zset ms 7 (zwr D 91 9 0 91 10)) c := rA.rd h ((zfm.rfl' _ _ D).wf (by decide)) zwr_eq
    have e7 : zset ms 7 (zwr D 91 9 0 91 10) = ms := by
      rw [zwr_off (by omega), h.2.2.2.1.2.1]; exact zset_self
    rw [e7] at hr0
    obtain ⟨D', e, hr, hf, hv⟩ := pX12_refuses (F := F) hr0 (-5) (by omega) hc
    have eo : oPaper K tp tl.toNat ms = (-5, -5, K, ms) := by unfold oPaper; rw [if_pos h6]
    refine qS_step e (qS_ret ?_)
    rw [eo]
    exact ⟨rfl, hr, (((zfm.rfl' _ _ D).wf (k := 9) (v := 0) (by decide)).trans hf.p), Or.inl ⟨rfl, by dsimp only; rw [hv, zwr_off (by omega)]⟩⟩
  · refine qS_neg h6 ?_
    obtain ⟨L, hL⟩ : ∃ L : Nat, tl = (L : Int) := ⟨tl.toNat, by omega⟩
    have eL : tl.toNat = L := by omega
    rw [eL]
    unfold fX12_reads
    rw [htl.1, hL]
    refine qS_bind (qS_call (pX12_splits (tp := tp) hw (fun i hi => htp i (by omega)) (by omega)) ?_)
    intro D2 ⟨s14, srow, sfr⟩
    refine qS_leti (qS_leti (qS_leti (qS_leti ?_)))
    have e0 : zwr (zwr (zwr (zwr D2 91 9 0) 91 15 0) 91 16 0) 91 17 (-1) = rS (zwr D2 91 9 0) 0 0 (-1) := rfl
    rw [e0]
    generalize hn : (tToks tp L).length = n at *
    have hnL : n ≤ L := by rw [← hn]; exact tToks_len
    have hG : rG (zwr D2 91 9 0) (tC tp L) (tW tp L) (tP tp L) n := by
      refine ⟨fun i hi => ?_, by omega, fun i hi => (tC_ge (by omega)).1, fun i => ?_, tNum_in'⟩
      · rw [zwr_row (by omega), zwr_row (by omega), zwr_row (by omega)]; exact srow i hi
      · unfold tP; split <;> omega
    have hfin := rText (F := F) hG (by rw [zwr_off (by omega)]; exact s14)
    have base : zfm [99, 100, 101] [9, 10, 14, 15, 16, 17] D (zwr D2 91 9 0) := (sfr.mono (by decide) (by decide)).wf (by decide)
    have after : ∀ i' l' b, zfm [99, 100, 101] [9, 10, 14, 15, 16, 17] D (zwr (rS (zwr D2 91 9 0) i' l' b) 91 10 b) := by
      intro i' l' b
      unfold rS
      exact (((base.wf (by decide)).wf (by decide)).wf (by decide)).wf (by decide)
    have after9 : ∀ i' l' b, (zwr (rS (zwr D2 91 9 0) i' l' b) 91 10 b) 91 9 = 0 := by
      intro i' l' b
      rw [zwr_off (by omega), rS_f (by omega) (by omega) (by omega), zwr_eq]
    cases hrd : kRead (tC tp L) (tW tp L) n with
    | inl e =>
      rw [hrd] at hfin
      obtain ⟨he, i', l', e1⟩ := hfin
      have eo : oPaper K tp L ms = (-6, -6, K, zset ms 7 (tP tp L e)) := by unfold oPaper; rw [if_neg h6, hn, hrd]
      rw [eo]
      refine qS_of e1 ?_
      refine qS_pos rfl ?_
      have hr0 := rA.rd h (after i' l' (tP tp L e)) (after9 i' l' _)
      rw [zwr_eq] at hr0
      obtain ⟨D', e, hr, hf, hv⟩ := pX12_refuses (F := F) hr0 (-6) (by omega) hc
      refine qS_step e (qS_ret ?_)
      refine ⟨rfl, hr, (zfm.mono (after i' l' _) (by decide) (by decide)).trans hf.p, Or.inl ⟨rfl, ?_⟩⟩
      show D' 91 1 = D 91 1
      rw [hv]
      exact (after i' l' _).2 1 (by decide)
    | inr cs =>
      rw [hrd] at hfin
      obtain ⟨i', l', e1⟩ := hfin
      obtain ⟨t, ht⟩ : ∃ t : Nat, K 393 = (t : Int) := ⟨(K 393).toNat, by omega⟩
      have eo : oPaper K tp L ms = (0, (t : Int), kPut K t n (tC tp L) (tW tp L), zset ms 7 (-1)) := by
        unfold oPaper; rw [if_neg h6, hn, hrd, ht]; rfl
      rw [eo]
      refine qS_of e1 ?_
      have hr0 := rA.rd h (after i' l' (-1)) (after9 i' l' _)
      rw [zwr_eq] at hr0
      have haf := after i' l' (-1)
      have hr99 : ∀ i, i ≤ n → (zwr (rS (zwr D2 91 9 0) i' l' (-1)) 91 10 (-1)) 99 i = tC tp L i ∧ (zwr (rS (zwr D2 91 9 0) i' l' (-1)) 91 10 (-1)) 100 i = tW tp L i := by
        intro i hi
        rw [zwr_row (by omega), zwr_row (by omega), rS_r (by omega), rS_r (by omega)]
        exact ⟨(hG.1 i hi).1, (hG.1 i hi).2.1⟩
      have hr14 : (zwr (rS (zwr D2 91 9 0) i' l' (-1)) 91 10 (-1)) 91 14 = (n : Int) := by
        rw [zwr_off (by omega), rS_f (by omega) (by omega) (by omega), zwr_off (by omega)]; exact s14
      generalize zwr (rS (zwr D2 91 9 0) i' l' (-1)) 91 10 (-1) = D5 at *
      have hK5 : D5 93 = K := hr0.1.1
      refine qS_neg (by omega) (qS_leti ?_)
      rw [hK5, ht, hr14, show (395 + (t : Int)).toNat = 395 + t by omega]
      refine qS_chk (by omega) (qS_leti ?_)
      refine qloop1 (fun v D1 => ∃ j : Nat, v = (j : Int) ∧ j ≤ n ∧ D1 93 = zPut K t n j (tC tp L) (tW tp L) ∧ ∀ a, a ≠ 93 → D1 a = D5 a) (fun v _ => (1000 - v).toNat) ?_ ⟨0, rfl, by omega, ?_, fun a ha => zwr_row ha⟩ (zfu_gt (by omega))
      · intro k64 v D1 ⟨j, ev, hj, e93, hoff⟩ ih
        subst ev
        unfold fX12_paper_64
        rw [hoff 91 (by omega), hr14]
        refine qS_ite (fun hlt => ?_) (fun hlt => ?_)
        · refine qS_chk (by omega) (qS_leti (qS_chk (by omega) (qS_leti (qS_chk (by omega) (ih _ _ ⟨j + 1, by omega, by omega, ?_, ?_⟩ (by omega))))))
          · rw [show ((401 + (400 * (t : Int))) + (j : Int)).toNat = 401 + 400 * t + j by omega, show ((2801 + (400 * (t : Int))) + (j : Int)).toNat = 2801 + 400 * t + j by omega, show ((j : Int)).toNat = j by omega, zwr_row (b := 100) (by omega), hoff 99 (by omega), hoff 100 (by omega), (hr99 j (by omega)).1, (hr99 j (by omega)).2]
            funext i
            rw [zwr_at, zwr_at, e93]
            unfold zPut
            by_cases ha : i = 2801 + 400 * t + j
            · rw [if_pos ha, if_neg (by omega), if_neg (by omega), if_pos (by omega)]
              congr 1; omega
            · rw [if_neg ha]
              by_cases hb : i = 401 + 400 * t + j
              · rw [if_pos hb, if_neg (by omega), if_pos (by omega)]
                congr 1; omega
              · rw [if_neg hb]
                by_cases h1 : i = 395 + t
                · rw [if_pos h1, if_pos h1]
                · rw [if_neg h1, if_neg h1]
                  by_cases h2 : 401 + 400 * t ≤ i ∧ i < 401 + 400 * t + j
                  · rw [if_pos h2, if_pos (by omega)]
                  · rw [if_neg h2, if_neg (c := 401 + 400 * t ≤ i ∧ i < 401 + 400 * t + (j + 1)) (by omega)]
                    by_cases h3 : 2801 + 400 * t ≤ i ∧ i < 2801 + 400 * t + j
                    · rw [if_pos h3, if_pos (by omega)]
                    · rw [if_neg h3, if_neg (by omega)]
          · intro a ha
            rw [zwr_row ha, zwr_row ha]; exact hoff a ha
        · have hjn : j = n := by omega
          subst hjn
          have e3 : D1 93 393 = (t : Int) := by rw [e93, zPut_low (by omega)]; exact ht
          rw [e3]
          refine qS_chk (by omega) (qS_leti ?_)
          have h5 := hr0.2.2.2.2.1
          have r91 : (zwr D1 93 393 ((t : Int) + 1)) 91 = D5 91 := by rw [zwr_row (by omega)]; exact hoff 91 (by omega)
          refine qS_step (pX12_good (by rw [r91]; omega)) (qS_ret ⟨rfl, ?_, ?_, Or.inr ?_⟩)
          · refine rA.now hr0 hc ?_ (kPut_ok hk (by omega) ht) (fun i hi => (kPut_high (by omega) (by omega) hi).trans (h.1.2.2 i hi)) (fun a ha => by rw [zwr_row ha]; exact hoff a ha)
            funext i
            rw [zwr_at, e93]
            rfl
          · have f1 : fRP D (zwr D1 93 393 ((t : Int) + 1)) := by
              refine ⟨fun a ha hb => ?_, fun k hk => ?_⟩
              · have h93 : a ≠ 93 := fun e => hb (by rw [e]; decide)
                rw [zwr_row h93, hoff a h93]
                exact haf.1 a ha (fun hh => hb (by revert hh; simp; omega))
              · rw [r91]
                exact haf.2 k (fun hh => hk (by revert hh; simp; omega))
            exact (zfm.wf (zfm.wf f1 (by decide)) (by decide))
          · have := haf.2 1 (by decide)
            dsimp only
            rw [zwr_eq, r91]; omega
      · funext i
        rw [zwr_at, hK5]
        unfold zPut
        by_cases h1 : i = 395 + t
        · rw [if_pos h1, if_pos h1]
        · rw [if_neg h1, if_neg h1, if_neg (by omega), if_neg (by omega)]
end PRP
