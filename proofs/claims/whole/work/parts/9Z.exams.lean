/-! ===== exam, exams ===== -/
def kExN (K : Nat → Int) (s : Int) (n : Nat) : Int × Int := match n with
  | 0 => (s, 0)
  | n + 1 => ((kAns K (kLay K (kExN K s n).1)).1, (kExN K s n).2 + (if (bPop (kAns K (kLay K (kExN K s n).1)).2.2 20 0 : Int) < K 102 then 0 else 1))
def oExams (K : Nat → Int) (n s : Int) : Int := if (1 ≤ n ∧ n ≤ 500) ∧ (0 ≤ s ∧ s ≤ 1000000) then (kExN K s n.toNat).2 else -1
theorem kExN_in (K : Nat → Int) (s : Int) (n : Nat) : 0 ≤ (kExN K s n).2 ∧ (kExN K s n).2 ≤ n := by
  induction n with
  | zero => show (0 : Int) ≤ 0 ∧ (0 : Int) ≤ ((0 : Nat) : Int); omega
  | succ n ih =>
    show 0 ≤ (kExN K s n).2 + _ ∧ (kExN K s n).2 + _ ≤ ((n + 1 : Nat) : Int)
    split <;> omega
def kExMs (K : Nat → Int) (ms : Nat → Int) (s : Int) : Nat → Int :=
  if 0 ≤ s ∧ s ≤ 1000000 then msu (fun k => if k = 9 then ((kLay K s).2 : Int) else if k = 10 then ((kAns K (kLay K s)).2.1 : Int) else if k = 11 then ((kAns K (kLay K s)).2.2 : Int) else ms k) 0 else msu ms (-1)
def oExam (K : Nat → Int) (s : Int) : Int := if 0 ≤ s ∧ s ≤ 1000000 then (bPop (kAns K (kLay K s)).2.2 20 0 : Int) else -1
section EY
variable {F : zFs} {D : zDa} {Z : Nat → Prop} {K : Nat → Int} {im : Nat → Option (Nat → Int)} {tp : Nat → Int} {tl : Int} {ms : Nat → Int} {c : Nat}
theorem cA.exam {D1 : zDa} {ms' : Nat → Int} (h : cA F D Z K im tp tl ms c) (hr : ∀ a, a ≠ 40 → D1 a = D a) (h9 : D1 40 0 = ms' 9 ∧ D1 40 1 = ms' 10 ∧ D1 40 2 = ms' 11) (hm : ∀ k, k < 9 → ms' k = ms k) : cA F D1 Z K im tp tl ms' c := by
  obtain ⟨h1, h2, h3, ⟨m0, m1, m2, _, _, _, m6⟩, h5, h6, h7, h8⟩ := h
  refine ⟨h1.rows h8 (fun a ha => hr a (by omega)) (fun a _ hb => hr a (by omega)), cA.images h2 h8 (fun a ha => hr a (by omega)) (fun a ha hb => hr a (by omega)), ?_, ⟨?_, ?_, ?_, h9.1, h9.2.1, h9.2.2, fun k k1 k6 => ?_⟩, ?_, h6, h7, h8⟩
  · rw [hr 0 (by omega), hr 39 (by omega)]; exact h3
  · rw [hr 0 (by omega), hm 0 (by omega)]; exact m0
  · rw [hr 0 (by omega), hm 7 (by omega)]; exact m1
  · rw [hr 0 (by omega), hm 8 (by omega)]; exact m2
  · rw [hr 41 (by omega), hm k (by omega)]; exact m6 k k1 k6
  · intro s hs
    have := h5 s hs
    simp only [List.mem_cons, List.not_mem_nil, or_false] at hs
    rw [hr s (by omega)]; exact this
theorem pc_exam (h : cA F D Z K im tp tl ms c) (hc : c < 1000) (s : Int) : qS (fX11_exam F s D) (fun r => r.1 = oExam K s ∧ cA F r.2 Z K im tp tl (kExMs K ms s) (c + 1) ∧ (∀ a, 42 ≤ a → a ∉ ([49, 50, 51, 89, 90] : List Nat) → r.2 a = D a) ∧ vI D r.2 K K) := by
  have hG := h.good
  have hZ := h.2.2.2.2.2.2.2
  have hk := h.st.1
  unfold fX11_exam oExam kExMs
  by_cases hs : 0 ≤ s ∧ s ≤ 1000000
  · rw [if_pos hs, if_pos hs]
    refine qS_neg (by omega) (qS_neg (by omega) ?_)
    refine qS_call (pX8_begin h.st hG hZ hs) (fun D1 ⟨c1, s1, f1⟩ => ?_)
    refine qS_call (pX8_sit (h.st.zfr hZ f1 (by decide)) hZ c1) (fun D2 ⟨c2, s2, l2, g2, w2, hw, f2⟩ => ?_)
    rw [s1] at s2 l2 g2 w2 hw
    have f12 : zfr [49, 50, 51, 89, 90] D D2 := f1.trans (f2.mono (by decide))
    have a2 := h.scr f12 (by decide)
    refine qS_leti (qS_leti (qS_leti ?_))
    rw [l2]
    rw [show (zwr D2 40 0 ((kLay K s).2 : Int)) 89 7 = ((kAns K (kLay K s)).2.1 : Int) by rw [zwr_row (by omega)]; exact g2]
    rw [show (zwr (zwr D2 40 0 ((kLay K s).2 : Int)) 40 1 ((kAns K (kLay K s)).2.1 : Int)) 89 8 = ((kAns K (kLay K s)).2.2 : Int) by rw [zwr_row (by omega), zwr_row (by omega)]; exact w2]
    have a3 : cA F (zwr (zwr (zwr D2 40 0 ((kLay K s).2 : Int)) 40 1 ((kAns K (kLay K s)).2.1 : Int)) 40 2 ((kAns K (kLay K s)).2.2 : Int)) Z K im tp tl (fun k => if k = 9 then ((kLay K s).2 : Int) else if k = 10 then ((kAns K (kLay K s)).2.1 : Int) else if k = 11 then ((kAns K (kLay K s)).2.2 : Int) else ms k) c := by
      refine a2.exam (fun a ha => by rw [zwr_row ha, zwr_row ha, zwr_row ha]) ⟨?_, ?_, ?_⟩ (fun k hk => by rw [if_neg (by omega), if_neg (by omega), if_neg (by omega)])
      · rw [zwr_off (by omega), zwr_off (by omega), zwr_eq]; rfl
      · rw [zwr_off (by omega), zwr_eq]; rfl
      · rw [zwr_eq]; rfl
    have r3 : ∀ a, a ≠ 40 → (zwr (zwr (zwr D2 40 0 ((kLay K s).2 : Int)) 40 1 ((kAns K (kLay K s)).2.1 : Int)) 40 2 ((kAns K (kLay K s)).2.2 : Int)) a = D2 a := fun a ha => by rw [zwr_row ha, zwr_row ha, zwr_row ha]
    generalize zwr (zwr (zwr D2 40 0 ((kLay K s).2 : Int)) 40 1 ((kAns K (kLay K s)).2.1 : Int)) 40 2 ((kAns K (kLay K s)).2.2 : Int) = D3 at *
    rw [r3 89 (by omega), w2, zbitCount (by omega), ← bPop_20]
    refine qS_step rfl ?_
    have acc : fX11_accept F ((bPop (kAns K (kLay K s)).2.2 20 0 : Nat) : Int) D3 = some (((bPop (kAns K (kLay K s)).2.2 20 0 : Nat) : Int), zwr D3 0 9 0) := rfl
    have hv := a3.ver
    refine qS_step acc (qS_ret ⟨rfl, cA.now a3 hc a3.st (fun _ _ => rfl) ⟨⟨hv.1.1, by have := hv.1.2; omega⟩, hv.2.1, by have := hv.2.2; omega⟩, fun a ha hb => ?_, ?_⟩)
    · show zwr D3 0 9 0 a = D a
      rw [zwr_row (by omega), r3 a (by omega)]; exact f12 a hb
    · refine vI.same ?_
      show zwr D3 0 9 0 1 = D 1
      rw [zwr_row (by omega), r3 1 (by omega)]; exact f12 1 (by decide)
  · rw [if_neg hs, if_neg hs]
    have ref : qS (fX11_exam_11 F D) (fun r => r.1 = -1 ∧ cA F r.2 Z K im tp tl (msu ms (-1)) (c + 1) ∧ (∀ a, 42 ≤ a → a ∉ ([49, 50, 51, 89, 90] : List Nat) → r.2 a = D a) ∧ vI D r.2 K K) := by
      unfold fX11_exam_11
      refine qS_mono (cP.refuse h hc (-1) (by omega) rfl) (fun r hr => ?_)
      exact ⟨hr.1, hr.2.1, fun a ha _ => hr.2.2.1 a ha, hr.2.2.2⟩
    by_cases h1 : s < 0
    · exact qS_pos h1 ref
    · exact qS_neg h1 (qS_pos (by omega) ref)
theorem pr_exam (h : rA D K im tp tl ms c) (hP : kPOk K) (hc : c < 1000) (s : Int) : qS (fX12_exam F s D) (fun r => r.1 = oExam K s ∧ rA r.2 K im tp tl (kExMs K ms s) (c + 1) ∧ zfm [92, 93, 94, 95, 97, 98, 102, 103] [0, 1, 9, 18, 19, 20, 59, 63, 64, 65, 66, 67, 68, 69] D r.2 ∧ (r.2 91 1 = D 91 1 ∨ D 91 1 < r.2 91 1)) := by
  have hK := h.1.1
  have hk := h.1.2.1
  unfold fX12_exam oExam kExMs
  by_cases hs : 0 ≤ s ∧ s ≤ 1000000
  · rw [if_pos hs, if_pos hs]
    refine qS_step (lies_t hs) (qS_neg (by omega) (qS_leti ?_))
    refine qS_call (pX12_goes (K := K) (D := zwr D 91 63 s) (by rw [zwr_row (by omega)]; exact hK) hk hP zwr_eq (by omega)) (fun r ⟨hr, he⟩ => ?_)
    obtain ⟨x, D2⟩ := r
    dsimp only at hr he ⊢
    obtain ⟨s2, l2, g2, w2, _, hw, f2⟩ := he
    subst hr
    have f12 : zfm [102, 103] [18, 19, 20, 63, 67, 68, 69] D D2 := ((zfm.rfl' _ _ D).wf (by decide)).trans f2
    have a2 := h.scr f12 (by decide) (by decide)
    refine qS_leti (qS_leti (qS_leti ?_))
    rw [l2]
    rw [show (zwr D2 91 64 ((kLay K s).2 : Int)) 91 68 = ((kAns K (kLay K s)).2.1 : Int) by rw [zwr_off (by omega)]; exact g2]
    rw [show (zwr (zwr D2 91 64 ((kLay K s).2 : Int)) 91 65 ((kAns K (kLay K s)).2.1 : Int)) 91 69 = ((kAns K (kLay K s)).2.2 : Int) by rw [zwr_off (by omega), zwr_off (by omega)]; exact w2]
    have f3 : zfm [102, 103] [18, 19, 20, 63, 64, 65, 66, 67, 68, 69] D (zwr (zwr (zwr D2 91 64 ((kLay K s).2 : Int)) 91 65 ((kAns K (kLay K s)).2.1 : Int)) 91 66 ((kAns K (kLay K s)).2.2 : Int)) := (((f12.mono (by decide) (by decide)).wf (by decide)).wf (by decide)).wf (by decide)
    have q3 : (zwr (zwr (zwr D2 91 64 ((kLay K s).2 : Int)) 91 65 ((kAns K (kLay K s)).2.1 : Int)) 91 66 ((kAns K (kLay K s)).2.2 : Int)) 91 64 = ((kLay K s).2 : Int) ∧ (zwr (zwr (zwr D2 91 64 ((kLay K s).2 : Int)) 91 65 ((kAns K (kLay K s)).2.1 : Int)) 91 66 ((kAns K (kLay K s)).2.2 : Int)) 91 65 = ((kAns K (kLay K s)).2.1 : Int) ∧ (zwr (zwr (zwr D2 91 64 ((kLay K s).2 : Int)) 91 65 ((kAns K (kLay K s)).2.1 : Int)) 91 66 ((kAns K (kLay K s)).2.2 : Int)) 91 66 = ((kAns K (kLay K s)).2.2 : Int) := by
      refine ⟨?_, ?_, ?_⟩
      · rw [zwr_off (by omega), zwr_off (by omega), zwr_eq]
      · rw [zwr_off (by omega), zwr_eq]
      · rw [zwr_eq]
    generalize zwr (zwr (zwr D2 91 64 ((kLay K s).2 : Int)) 91 65 ((kAns K (kLay K s)).2.1 : Int)) 91 66 ((kAns K (kLay K s)).2.2 : Int) = D3 at *
    have a3 : rA D3 K im tp tl (fun k => if k = 9 then ((kLay K s).2 : Int) else if k = 10 then ((kAns K (kLay K s)).2.1 : Int) else if k = 11 then ((kAns K (kLay K s)).2.2 : Int) else ms k) c := by
      obtain ⟨h1, h2, h3, ⟨m0, m1, m2, _, _, _, m6⟩, h5, h6⟩ := h
      have lo : ∀ a, a ≠ 91 → a < 98 → D3 a = D a := fun a h0 h => f3.1 a h0 (fun h' => by simp at h'; omega)
      refine ⟨by rw [lo 93 (by omega) (by omega)]; exact h1, by rw [lo 95 (by omega) (by omega), lo 94 (by omega) (by omega)]; exact h2, by rw [f3.2 9 (by decide), lo 97 (by omega) (by omega)]; exact h3, ⟨?_, ?_, ?_, ?_, ?_, ?_, fun k k1 k6 => ?_⟩, by rw [f3.2 1 (by decide)]; exact h5, h6⟩
      · rw [f3.2 0 (by decide)]; exact m0
      · rw [f3.2 10 (by decide)]; exact m1
      · rw [f3.2 59 (by decide)]; exact m2
      · exact q3.1
      · intro e
        have e' : ((kLay K s).2 : Int) = -1 := e
        omega
      · intro _
        exact ⟨q3.2.1, q3.2.2⟩
      · rw [lo 92 (by omega) (by omega)]
        dsimp only
        rw [if_neg (by omega), if_neg (by omega), if_neg (by omega)]; exact m6 k k1 k6
    have v3 : D3 91 1 = D 91 1 := f3.2 1 (by decide)
    obtain ⟨r, er, hr⟩ := rP.good (F := F) (D1 := D3) (o := (0, (bPop (kAns K (kLay K s)).2.2 20 0 : Int), K)) a3 hc a3.1.1 hk a3.1.2.2 (fun _ _ => rfl) (bPop (kAns K (kLay K s)).2.2 20 0 : Int) rfl
    refine ⟨r, er, hr.1, hr.2.1, (f3.mono (by decide) (by decide)).trans (hr.2.2.1.mono (by decide) (by decide)), ?_⟩
    rcases hr.2.2.2 with ⟨_, e⟩ | e
    · exact Or.inl (by rw [e, v3])
    · exact Or.inr (by rw [← v3]; exact e)
  · rw [if_neg hs, if_neg hs]
    refine qS_step (lies_f hs) (qS_pos rfl ?_)
    refine qS_mono (rP.refuse h hc (-1) (by omega) rfl) (fun r hr => ?_)
    refine ⟨hr.1, hr.2.1, hr.2.2.1.mono (by decide) (by decide), ?_⟩
    rcases hr.2.2.2 with ⟨_, e⟩ | e
    · exact Or.inl e
    · exact Or.inr e
theorem pc_exams (h : qSt F D Z 1 K) (hG : zG F) (hZ : ∀ a, Z a → 126 ≤ a) (n s : Int) : qS (fX11_exams F n s D) (fun r => r.1 = oExams K n s ∧ zfr [49, 50, 51, 89, 90] D r.2) := by
  unfold fX11_exams oExams
  by_cases hn : 1 ≤ n ∧ n ≤ 500
  · by_cases hs : 0 ≤ s ∧ s ≤ 1000000
    · rw [if_pos (c := (1 ≤ n ∧ n ≤ 500) ∧ (0 ≤ s ∧ s ≤ 1000000)) ⟨hn, hs⟩]
      refine qS_neg (by omega) (qS_neg (by omega) (qS_neg (by omega) (qS_neg (by omega) ?_)))
      refine qS_call (pX8_begin h hG hZ hs) (fun D1 ⟨c1, s1, f1⟩ => ?_)
      refine qloop2 (fun v3 v4 D2 => ∃ i : Nat, v4 = (i : Int) ∧ i ≤ n.toNat ∧ v3 = (kExN K s i).2 ∧ cSi D2 K ∧ D2 89 3 = (kExN K s i).1 ∧ zfr [49, 50, 51, 89, 90] D D2) (fun _ v4 _ => (1000 - v4).toNat) ?_ ⟨0, rfl, by omega, rfl, c1, s1, f1⟩ (zfu_gt (by omega))
      intro kk v3 v4 D2 ⟨i, e4, hi, e3, c2, s2, f2⟩ ih
      subst e4
      have hx := kExN_in K s i
      unfold fX11_exams_38
      refine qS_ite (fun hlt => ?_) (fun hlt => ?_)
      · refine qS_call (pX8_sit (h.zfr hZ f2 (by decide)) hZ c2) (fun D3 ⟨c3, s3, l3, g3, w3, hw, f3⟩ => ?_)
        rw [s2] at s3 w3 hw
        have f23 : zfr [49, 50, 51, 89, 90] D D3 := f2.trans (f3.mono (by decide))
        have ht := kTerms h.1
        have e72 : D3 7 2 = K 102 := (h.zfr hZ f23 (by decide)).2.2.2.1 2 (by omega)
        rw [w3, zbitCount (by omega), ← bPop_20]
        refine qS_step rfl ?_
        have hnx : kExN K s (i + 1) = ((kAns K (kLay K (kExN K s i).1)).1, (kExN K s i).2 + (if (bPop (kAns K (kLay K (kExN K s i).1)).2.2 20 0 : Int) < K 102 then 0 else 1)) := rfl
        refine qS_ite (fun hp => ?_) (fun hp => ?_)
        · have hp' : (bPop (kAns K (kLay K (kExN K s i).1)).2.2 20 0 : Int) < K 102 := by rw [← e72]; exact hp
          rw [if_pos hp'] at hnx
          unfold fX11_exams_76
          exact qS_chk (by omega) (ih _ _ _ ⟨i + 1, by omega, by omega, by rw [hnx, e3]; exact (Int.add_zero _).symm, c3, by rw [hnx]; exact s3, f23⟩ (by omega))
        · have hp' : ¬ (bPop (kAns K (kLay K (kExN K s i).1)).2.2 20 0 : Int) < K 102 := by rw [← e72]; exact hp
          rw [if_neg hp'] at hnx
          unfold fX11_exams_76
          exact qS_chk (by omega) (qS_chk (by omega) (ih _ _ _ ⟨i + 1, by omega, by omega, by rw [hnx, e3], c3, by rw [hnx]; exact s3, f23⟩ (by omega)))
      · have : i = n.toNat := by omega
        subst this
        exact qS_ret ⟨e3, f2⟩
    · rw [if_neg (c := (1 ≤ n ∧ n ≤ 500) ∧ (0 ≤ s ∧ s ≤ 1000000)) (fun e => hs e.2)]
      refine qS_neg (by omega) (qS_neg (by omega) ?_)
      by_cases h1 : s < 0
      · exact qS_pos h1 (qS_ret ⟨rfl, zfr.rfl' _ D⟩)
      · exact qS_neg h1 (qS_pos (by omega) (qS_ret ⟨rfl, zfr.rfl' _ D⟩))
  · rw [if_neg (c := (1 ≤ n ∧ n ≤ 500) ∧ (0 ≤ s ∧ s ≤ 1000000)) (fun e => hn e.1)]
    by_cases h1 : n < 1
    · exact qS_pos h1 (qS_ret ⟨rfl, zfr.rfl' _ D⟩)
    · exact qS_neg h1 (qS_pos (by omega) (qS_ret ⟨rfl, zfr.rfl' _ D⟩))
theorem pr_exams (hK : D 93 = K) (hk : kOk K) (hP : kPOk K) (n s : Int) : qS (fX12_exams F n s D) (fun r => r.1 = oExams K n s ∧ zfm [102, 103] [18, 19, 20, 63, 67, 68, 69] D r.2) := by
  have ht := kTerms hk
  unfold fX12_exams oExams
  by_cases hn : 1 ≤ n ∧ n ≤ 500
  · refine qS_step (lies_t hn) (qS_neg (by omega) ?_)
    by_cases hs : 0 ≤ s ∧ s ≤ 1000000
    · rw [if_pos (c := (1 ≤ n ∧ n ≤ 500) ∧ (0 ≤ s ∧ s ≤ 1000000)) ⟨hn, hs⟩]
      refine qS_step (lies_t hs) (qS_neg (by omega) (qS_leti ?_))
      refine qloop2 (fun v3 v4 D2 => ∃ i : Nat, v4 = (i : Int) ∧ i ≤ n.toNat ∧ v3 = (kExN K s i).2 ∧ (0 ≤ (kExN K s i).1 ∧ (kExN K s i).1 < 1000003) ∧ D2 91 63 = (kExN K s i).1 ∧ zfm [102, 103] [18, 19, 20, 63, 67, 68, 69] D D2) (fun _ v4 _ => (1000 - v4).toNat) ?_ ⟨0, rfl, by omega, rfl, by show 0 ≤ s ∧ s < 1000003; omega, zwr_eq, (zfm.rfl' _ _ D).wf (by decide)⟩ (zfu_gt (by omega))
      intro kk v3 v4 D2 ⟨i, e4, hi, e3, hr2, s2, f2⟩ ih
      subst e4
      have hx := kExN_in K s i
      have K2 : D2 93 = K := by rw [f2.1 93 (by decide) (by decide)]; exact hK
      unfold fX12_exams_33
      refine qS_ite (fun hlt => ?_) (fun hlt => ?_)
      · refine qS_call (pX12_goes (K := K) K2 hk hP s2 hr2) (fun r ⟨hr, he⟩ => ?_)
        obtain ⟨x, D3⟩ := r
        obtain ⟨s3, l3, g3, w3, hs3, hw, f3⟩ := he
        have hr' : x = (bPop (kAns K (kLay K (kExN K s i).1)).2.2 20 0 : Int) := hr
        subst hr'
        have f23 : zfm [102, 103] [18, 19, 20, 63, 67, 68, 69] D D3 := f2.trans f3
        have K3 : D3 93 = K := by rw [f23.1 93 (by decide) (by decide)]; exact hK
        have hnx : kExN K s (i + 1) = ((kAns K (kLay K (kExN K s i).1)).1, (kExN K s i).2 + (if (bPop (kAns K (kLay K (kExN K s i).1)).2.2 20 0 : Int) < K 102 then 0 else 1)) := rfl
        have e102 : D3 93 (100 + 2) = K 102 := by rw [K3]
        refine qS_step (pX12_term (k := 2) rfl (by omega)) ?_
        refine qS_ite (fun hp => ?_) (fun hp => ?_)
        · have hp' : (bPop (kAns K (kLay K (kExN K s i).1)).2.2 20 0 : Int) < K 102 := by rw [← e102]; exact hp
          rw [if_pos hp'] at hnx
          unfold fX12_exams_57
          exact qS_chk (by omega) (qS_leti (qS_chk (by omega) (ih _ _ _ ⟨i + 1, by omega, by omega, by rw [hnx, e3], by rw [hnx]; exact hs3, by rw [hnx]; exact s3, f23⟩ (by omega))))
        · have hp' : ¬ (bPop (kAns K (kLay K (kExN K s i).1)).2.2 20 0 : Int) < K 102 := by rw [← e102]; exact hp
          rw [if_neg hp'] at hnx
          unfold fX12_exams_57
          exact qS_chk (by omega) (qS_leti (qS_chk (by omega) (ih _ _ _ ⟨i + 1, by omega, by omega, by rw [hnx, e3], by rw [hnx]; exact hs3, by rw [hnx]; exact s3, f23⟩ (by omega))))
      · have : i = n.toNat := by omega
        subst this
        exact qS_ret ⟨e3, f2⟩
    · rw [if_neg (c := (1 ≤ n ∧ n ≤ 500) ∧ (0 ≤ s ∧ s ≤ 1000000)) (fun e => hs e.2)]
      exact qS_step (lies_f hs) (qS_pos rfl (qS_ret ⟨rfl, zfm.rfl' _ _ D⟩))
  · rw [if_neg (c := (1 ≤ n ∧ n ≤ 500) ∧ (0 ≤ s ∧ s ≤ 1000000)) (fun e => hn e.1)]
    exact qS_step (lies_f hn) (qS_pos rfl (qS_ret ⟨rfl, zfm.rfl' _ _ D⟩))
end EY
