def nOf (a b c : Nat) : Nat → Nat := fun lv => if lv = 0 then a else if lv = 1 then b else c
def dSc (d : Nat → Int) : Nat → Int := fun m => d m * 100
theorem dOk_sc {k : Nat} {d : Nat → Int} (hd : dOk k d) : dOk (k + 1) (dSc d) := by
  obtain ⟨⟨a0, a1, a2, a3⟩, hs⟩ := hd
  unfold dOk dSc
  rw [Int.pow_succ]
  omega
theorem kRk_in (ch : Nat → Int) : (kRk ch).1 < 3 ∧ (kRk ch).2.1 < 3 ∧ (kRk ch).2.2 < 3 ∧ (kRk ch).1 ≠ (kRk ch).2.1 ∧ (kRk ch).1 ≠ (kRk ch).2.2 ∧ (kRk ch).2.1 ≠ (kRk ch).2.2 := by
  unfold kRk
  repeat' split
  all_goals decide
def kAn (r : Nat × Nat × Nat) (n : Nat → Nat) (A : Nat) : Nat := min (n r.1) A + min (n r.2.1) (A - min (n r.1) A) + min (n r.2.2) (A - min (n r.1) A - min (n r.2.1) (A - min (n r.1) A))
theorem kAn_eq {ch : Nat → Int} {n : Nat → Nat} {A : Nat} : kAn (kRk ch) n A = min (n 0 + n 1 + n 2) A := by
  unfold kAn kRk
  repeat' split
  all_goals (dsimp only; omega)
theorem kG_ok {ch : Nat → Int} (hh : ∀ lv, lv < 3 → 0 ≤ ch lv ∧ ch lv ≤ 100) (n : Nat → Nat) (A : Nat) : dOk (kAn (kRk ch) n A) (kG ch n A) := by
  obtain ⟨r1, r2, r3, _⟩ := kRk_in ch
  unfold kG kGr kAn
  have h1 := dOk_pw (hh _ r1) (min (n (kRk ch).1) A) dOk_0
  have h2 := dOk_pw (hh _ r2) (min (n (kRk ch).2.1) (A - min (n (kRk ch).1) A)) h1
  have h3 := dOk_pw (hh _ r3) (min (n (kRk ch).2.2) (A - min (n (kRk ch).1) A - min (n (kRk ch).2.1) (A - min (n (kRk ch).1) A))) h2
  rw [Nat.zero_add] at h3
  exact h3
section AN2
variable {F : zFs} {D : zDa}
theorem pX2_answer_116 {P : zDa → Prop} {k107 : Int → zDa → Option zDa} {o6 : Int} {d : Nat → Int} {k : Nat} (hk : k ≤ 3) (hd : dOk k d) (hrow : ∀ m, m < 4 → D 58 m = d m) (ho : 0 ≤ o6 ∧ o6 ≤ 100) (hn : ∀ D', (∀ m, m < 4 → D' 58 m = dSc d m) → zfr [58] D D' → qS (k107 (o6 + 1) D') P) :
    qS (zfix (fun _ _ => none) (fX2_answer_116 F o6 k107) zfu 0 D) P := by
  refine qloop1 (fun v D1 => ∃ j : Nat, v = (j : Int) ∧ j ≤ 4 ∧ (∀ m, m < 4 → D1 58 m = if m < j then d m * 100 else d m) ∧ zfr [58] D D1) (fun v _ => (10 - v).toNat) ?_ ⟨0, rfl, by omega, fun m hm => by rw [if_neg (by omega)]; exact hrow m hm, zfr.rfl' _ D⟩ (zfu_gt (by omega))
  intro kk v D1 ⟨j, ev, hj, hr, hfr⟩ ih
  subst ev
  unfold fX2_answer_116
  refine qS_ite (fun h3 => ?_) (fun h3 => ?_)
  · refine qS_chk (by omega) (hn D1 (fun m hm => ?_) hfr)
    rw [hr m hm, if_pos (by omega)]; rfl
  · have rj := hr j (by omega)
    rw [if_neg (by omega)] at rj
    have bj := dOk_le hd hk j (by omega)
    rw [show ((j : Int)).toNat = j by omega, rj]
    refine qS_chk (by omega) (qS_leti (qS_chk (by omega) (ih _ _ ⟨j + 1, by omega, by omega, fun m hm => ?_, hfr.wr (by decide)⟩ (by omega))))
    rw [zwr_at]
    by_cases hm2 : m = j
    · rw [if_pos hm2, if_pos (by omega), hm2]
    · rw [if_neg hm2, hr m hm]
      by_cases h4 : m < j
      · rw [if_pos h4, if_pos (by omega)]
      · rw [if_neg h4, if_neg (by omega)]
theorem pX2_answer_107 {d : Nat → Int} {k : Nat} (hk : k ≤ 3) (hd : dOk k d) (hrow : ∀ m, m < 4 → D 58 m = d m) :
    qS (zfix (fun _ _ => none) (fX2_answer_107 F) zfu (k : Int) D) (fun D' => (∀ m, m < 4 → D' 58 m = d m * 100 ^ (3 - k)) ∧ zfr [58] D D') := by
  refine qloop1 (fun v D1 => ∃ j : Nat, v = (j : Int) ∧ j ≤ 3 ∧ zfr [58] D D1 ∧ ∃ d1, dOk j d1 ∧ (∀ m, m < 4 → D1 58 m = d1 m) ∧ ∀ m, d1 m * 100 ^ (3 - j) = d m * 100 ^ (3 - k)) (fun v _ => (10 - v).toNat) ?_ ⟨k, rfl, hk, zfr.rfl' _ D, d, hd, hrow, fun _ => rfl⟩ (zfu_gt (by omega))
  intro kk v D1 ⟨j, ev, hj, hfr, d1, hd1, hr, he⟩ ih
  subst ev
  unfold fX2_answer_107
  refine qS_ite (fun h3 => ?_) (fun h3 => ?_)
  · refine pX2_answer_116 (k := j) (by omega) hd1 hr (by omega) (fun D' hr' hf' => ih _ _ ⟨j + 1, by omega, by omega, hfr.trans hf', dSc d1, dOk_sc hd1, hr', fun m => ?_⟩ (by omega))
    rw [← he m, show 3 - j = (3 - (j + 1)) + 1 by omega, Int.pow_succ]
    unfold dSc
    rw [Int.mul_assoc, Int.mul_comm 100]
  · have : j = 3 := by omega
    subst this
    refine qS_ret ⟨fun m hm => ?_, hfr⟩
    rw [hr m hm, ← he m]
    simp
/-- the class's row of chances and its ranks -/
def cCh (D : zDa) (ch : Nat → Int) : Prop := (∀ lv, lv < 3 → D 54 lv = ch lv ∧ 0 ≤ ch lv ∧ ch lv ≤ 100) ∧ D 55 0 = ((kRk ch).1 : Int) ∧ D 55 1 = ((kRk ch).2.1 : Int) ∧ D 55 2 = ((kRk ch).2.2 : Int)
theorem pX2_answer_rank {P : zDa → Prop} {kk : Int → Int → zDa → Option zDa} {ch : Nat → Int} {n0 n1 n2 A lv i L k : Nat} {d : Nat → Int} (hc : cCh D ch) (hn3 : n0 ≤ 1000 ∧ n1 ≤ 1000 ∧ n2 ≤ 1000) (hi : i < 3) (h55 : D 55 i = (lv : Int)) (hlv : lv < 3) (hd : dOk k d) (hk : k + L ≤ 3) (hrow : ∀ m, m < 4 → D 58 m = d m)
    (hn : ∀ D', (∀ m, m < 4 → D' 58 m = dPw (ch lv) (min (nOf n0 n1 n2 lv) L) d m) → zfr [58] D D' → qS (kk ((L - min (nOf n0 n1 n2 lv) L : Nat) : Int) ((i : Int) + 1) D') P) :
    qS (fX2_answer_22 F (n0 : Int) (n1 : Int) (n2 : Int) (A : Int) kk (L : Int) (i : Int) D) P := by
  unfold fX2_answer_22
  refine qS_pos (by omega) (qS_chk (by omega) (qS_leti ?_))
  rw [show ((i : Int)).toNat = i by omega, h55]
  have h := hc.1 lv hlv
  rcases (by omega : lv = 0 ∨ lv = 1 ∨ lv = 2) with rfl | rfl | rfl
  · exact qS_pos rfl (pX2_answer_57 (lv := 0) (by omega) hd hk hrow h.1 h.2 (by omega) (by omega) hn)
  · exact qS_neg (by omega) (qS_pos rfl (pX2_answer_57 (lv := 1) (by omega) hd hk hrow h.1 h.2 (by omega) (by omega) hn))
  · exact qS_neg (by omega) (qS_neg (by omega) (pX2_answer_57 (lv := 2) (by omega) hd hk hrow h.1 h.2 (by omega) (by omega) hn))
theorem cCh.fr {D D' : zDa} {ch : Nat → Int} (h : cCh D ch) (h4 : D' 54 = D 54) (h5 : D' 55 = D 55) : cCh D' ch := by unfold cCh; rw [h4, h5]; exact h
theorem pX2_answer {ch : Nat → Int} {n0 n1 n2 A : Nat} (hG : zG F) (hc : cCh D ch) (hn3 : n0 ≤ 1000 ∧ n1 ≤ 1000 ∧ n2 ≤ 1000) (hA : A ≤ 3) :
    qS (fX2_answer F (n0 : Int) (n1 : Int) (n2 : Int) (A : Int) D) (fun D' => (∀ m, m < 4 → D' 58 m = kG ch (nOf n0 n1 n2) A m * 100 ^ (3 - min (n0 + n1 + n2) A)) ∧ zfr [58] D D') := by
  unfold fX2_answer
  refine qS_call (pFill_d0a16 0 (gk_58 hG) (gl_58 hG) (by omega)) ?_
  intro D1 ⟨hz, hf1⟩
  refine qS_leti ?_
  have hf2 : zfr [58] D (zwr D1 58 0 1) := hf1.wr (by decide)
  have hr2 : ∀ m, m < 4 → (zwr D1 58 0 1) 58 m = d0 m := fun m hm => by
    rw [zwr_at]
    unfold d0
    by_cases h : m = 0
    · rw [if_pos h, if_pos h]
    · rw [if_neg h, if_neg h]; exact hz m hm
  generalize zwr D1 58 0 1 = D2 at *
  have hc2 : cCh D2 ch := hc.fr (hf2 54 (by decide)) (hf2 55 (by decide))
  obtain ⟨r1, r2, r3, _⟩ := kRk_in ch
  have hh : ∀ lv, lv < 3 → 0 ≤ ch lv ∧ ch lv ≤ 100 := fun lv h => (hc.1 lv h).2
  rw [show zfu = 999996 + 1 + 1 + 1 + 1 from rfl, zfix_succ]
  have g1 := dOk_pw (hh _ r1) (min (nOf n0 n1 n2 (kRk ch).1) A) dOk_0
  refine pX2_answer_rank (i := 0) hc2 hn3 (by omega) hc2.2.1 r1 dOk_0 (by omega) hr2 ?_
  intro D3 hr3 hf3
  have hc3 : cCh D3 ch := hc2.fr (hf3 54 (by decide)) (hf3 55 (by decide))
  have g2 := dOk_pw (hh _ r2) (min (nOf n0 n1 n2 (kRk ch).2.1) (A - min (nOf n0 n1 n2 (kRk ch).1) A)) g1
  rw [zfix_succ]
  refine pX2_answer_rank (i := 1) hc3 hn3 (by omega) hc3.2.2.1 r2 g1 (by omega) hr3 ?_
  intro D4 hr4 hf4
  have hc4 : cCh D4 ch := hc3.fr (hf4 54 (by decide)) (hf4 55 (by decide))
  have g3 := dOk_pw (hh _ r3) (min (nOf n0 n1 n2 (kRk ch).2.2) (A - min (nOf n0 n1 n2 (kRk ch).1) A - min (nOf n0 n1 n2 (kRk ch).2.1) (A - min (nOf n0 n1 n2 (kRk ch).1) A))) g2
  rw [zfix_succ]
  refine pX2_answer_rank (i := 2) hc4 hn3 (by omega) hc4.2.2.2 r3 g2 (by omega) hr4 ?_
  intro D5 hr5 hf5
  rw [zfix_succ]
  unfold fX2_answer_22
  refine qS_neg (by omega) (qS_chk (by omega) (qS_leti ?_))
  have ek := kAn_eq (ch := ch) (n := nOf n0 n1 n2) (A := A)
  have en : nOf n0 n1 n2 0 + nOf n0 n1 n2 1 + nOf n0 n1 n2 2 = n0 + n1 + n2 := rfl
  rw [en] at ek
  have ek2 := ek
  unfold kAn at ek2
  have e6 : (A : Int) - ((A - min (nOf n0 n1 n2 (kRk ch).1) A - min (nOf n0 n1 n2 (kRk ch).2.1) (A - min (nOf n0 n1 n2 (kRk ch).1) A) - min (nOf n0 n1 n2 (kRk ch).2.2) (A - min (nOf n0 n1 n2 (kRk ch).1) A - min (nOf n0 n1 n2 (kRk ch).2.1) (A - min (nOf n0 n1 n2 (kRk ch).1) A)) : Nat) : Int) = ((min (n0 + n1 + n2) A : Nat) : Int) := by omega
  rw [e6]
  have hok := kG_ok hh (nOf n0 n1 n2) A
  rw [ek] at hok
  refine qS_mono (pX2_answer_107 (k := min (n0 + n1 + n2) A) (by omega) hok (fun m hm => hr5 m hm)) ?_
  intro D6 ⟨h1, h2⟩
  exact ⟨h1, hf2.trans (hf3.trans (hf4.trans (hf5.trans h2)))⟩
end AN2
