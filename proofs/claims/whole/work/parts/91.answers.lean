/-! ===== how many are right of a set ===== -/
def dOne (h : Int) (d : Nat → Int) : Nat → Int := fun m => d m * (100 - h) + (if m = 0 then 0 else d (m - 1) * h)
def dPw (h : Int) (k : Nat) (d : Nat → Int) : Nat → Int := match k with
  | 0 => d
  | k + 1 => dPw h k (dOne h d)
def d0 : Nat → Int := fun m => if m = 0 then 1 else 0
/-- the levels, those with the greatest chance ahead -/
def kRk (ch : Nat → Int) : Nat × Nat × Nat :=
  if ch 0 < ch 1 then (if ch 1 < ch 2 then (2, 1, 0) else if ch 0 < ch 2 then (1, 2, 0) else (1, 0, 2))
  else (if ch 0 < ch 2 then (2, 0, 1) else if ch 1 < ch 2 then (0, 2, 1) else (0, 1, 2))
def kGr (ch : Nat → Int) (r : Nat × Nat × Nat) (n : Nat → Nat) (A : Nat) : Nat → Int :=
  dPw (ch r.2.2) (min (n r.2.2) (A - min (n r.1) A - min (n r.2.1) (A - min (n r.1) A))) (dPw (ch r.2.1) (min (n r.2.1) (A - min (n r.1) A)) (dPw (ch r.1) (min (n r.1) A) d0))
def kG (ch : Nat → Int) (n : Nat → Nat) (A : Nat) : Nat → Int := kGr ch (kRk ch) n A
def dOk (k : Nat) (d : Nat → Int) : Prop := (0 ≤ d 0 ∧ 0 ≤ d 1 ∧ 0 ≤ d 2 ∧ 0 ≤ d 3) ∧ d 0 + d 1 + d 2 + d 3 ≤ 100 ^ k
theorem mulb {a b A : Int} (ha : 0 ≤ a ∧ a ≤ A) (hb : 0 ≤ b ∧ b ≤ 100) : 0 ≤ a * b ∧ a * b ≤ A * 100 := ⟨Int.mul_nonneg ha.1 hb.1, Int.mul_le_mul ha.2 hb.2 hb.1 (by omega)⟩
theorem dOk_0 : dOk 0 d0 := by unfold dOk d0; simp
theorem dOk_one {k : Nat} {d : Nat → Int} {h : Int} (hd : dOk k d) (hh : 0 ≤ h ∧ h ≤ 100) : dOk (k + 1) (dOne h d) := by
  obtain ⟨⟨a0, a1, a2, a3⟩, hs⟩ := hd
  have b0 := Int.mul_nonneg a0 (show 0 ≤ 100 - h by omega)
  have b1 := Int.mul_nonneg a1 (show 0 ≤ 100 - h by omega)
  have b2 := Int.mul_nonneg a2 (show 0 ≤ 100 - h by omega)
  have b3 := Int.mul_nonneg a3 (show 0 ≤ 100 - h by omega)
  have c0 := Int.mul_nonneg a0 hh.1
  have c1 := Int.mul_nonneg a1 hh.1
  have c2 := Int.mul_nonneg a2 hh.1
  have c3 := Int.mul_nonneg a3 hh.1
  have e : ∀ x : Int, x * (100 - h) = 100 * x - x * h := fun x => by rw [Int.mul_sub, Int.mul_comm x 100]
  unfold dOk dOne
  simp only [if_true, if_neg (show ¬ (1 : Nat) = 0 by omega), if_neg (show ¬ (2 : Nat) = 0 by omega), if_neg (show ¬ (3 : Nat) = 0 by omega), show 1 - 1 = 0 from rfl, show 2 - 1 = 1 from rfl, show 3 - 1 = 2 from rfl]
  refine ⟨⟨by omega, by omega, by omega, by omega⟩, ?_⟩
  rw [e, e, e, e]
  rw [Int.pow_succ]
  omega
theorem dOk_pw {k : Nat} {h : Int} (hh : 0 ≤ h ∧ h ≤ 100) : ∀ (j : Nat) {d : Nat → Int}, dOk k d → dOk (k + j) (dPw h j d)
  | 0, _, hd => hd
  | j + 1, d, hd => by
    have := dOk_pw (k := k + 1) hh j (dOk_one hd hh)
    rw [show k + 1 + j = k + (j + 1) by omega] at this
    exact this
theorem dOk_le {k : Nat} {d : Nat → Int} (hd : dOk k d) (hk : k ≤ 3) : ∀ m, m < 4 → 0 ≤ d m ∧ d m ≤ 1000000 := by
  obtain ⟨⟨a0, a1, a2, a3⟩, hs⟩ := hd
  have h1 : (100 : Int) ^ k ≤ 1000000 := by
    rcases (by omega : k = 0 ∨ k = 1 ∨ k = 2 ∨ k = 3) with rfl | rfl | rfl | rfl <;> decide
  intro m hm
  rcases (by omega : m = 0 ∨ m = 1 ∨ m = 2 ∨ m = 3) with rfl | rfl | rfl | rfl <;> omega
section AN
variable {F : zFs} {D : zDa}
theorem pX2_answerOne {d : Nat → Int} {h : Int} (hd : ∀ m, m < 4 → D 58 m = d m ∧ 0 ≤ d m ∧ d m ≤ 1000000) (hh : 0 ≤ h ∧ h ≤ 100) : qS (fX2_answerOne F h D) (fun D' => (∀ m, m < 4 → D' 58 m = dOne h d m) ∧ zfr [58] D D') := by
  unfold fX2_answerOne
  refine qloop1 (fun v D1 => ∃ j : Nat, v = (j : Int) ∧ j ≤ 3 ∧ (∀ m, m < 4 → D1 58 m = if j < m then dOne h d m else d m) ∧ zfr [58] D D1) (fun v _ => v.toNat) ?_ ⟨3, rfl, by omega, fun m hm => by rw [if_neg (by omega)]; exact (hd m hm).1, zfr.rfl' _ D⟩ (zfu_gt (by omega))
  intro k v D1 ⟨j, ev, hj, hrow, hfr⟩ ih
  subst ev
  unfold fX2_answerOne_2
  have rj := hrow j (by omega)
  rw [if_neg (by omega)] at rj
  have bj := (hd j (by omega)).2
  have p1 := mulb (b := 100 - h) bj (by omega)
  refine qS_ite (fun hpos => ?_) (fun hpos => ?_)
  · have rj1 := hrow (j - 1) (by omega)
    rw [if_neg (by omega)] at rj1
    have bj1 := (hd (j - 1) (by omega)).2
    have p2 := mulb (b := h) bj1 hh
    rw [show ((j : Int)).toNat = j by omega, show ((j : Int) - 1).toNat = j - 1 by omega, rj, rj1]
    refine qS_chk (by omega) (qS_leti (qS_chk (by omega) (ih _ _ ⟨j - 1, by omega, by omega, fun m hm => ?_, hfr.wr (by decide)⟩ (by omega))))
    rw [zwr_at]
    by_cases hm2 : m = j
    · rw [if_pos hm2, if_pos (by omega), hm2]
      unfold dOne
      rw [if_neg (by omega)]
    · rw [if_neg hm2, hrow m hm]
      by_cases h3 : j < m
      · rw [if_pos h3, if_pos (by omega)]
      · rw [if_neg h3, if_neg (by omega)]
  · have hj0 : j = 0 := by omega
    subst hj0
    rw [rj]
    refine qS_chk (by omega) (qS_leti (qS_ret ⟨fun m hm => ?_, hfr.wr (by decide)⟩))
    rw [zwr_at]
    by_cases hm2 : m = 0
    · rw [if_pos hm2, hm2]
      unfold dOne
      rw [if_pos rfl, Int.add_zero]
    · rw [if_neg hm2, hrow m hm, if_pos (by omega)]
/-- one rank of them -/
theorem pX2_answer_57 {P : zDa → Prop} {k22 : Int → Int → zDa → Option zDa} {o1 o2 o3 o4 o6 h : Int} {lv L cnt k : Nat} {d : Nat → Int} (hlv : lv < 3) (hd : dOk k d) (hk : k + L ≤ 3) (hrow : ∀ m, m < 4 → D 58 m = d m) (hch : D 54 lv = h) (hh : 0 ≤ h ∧ h ≤ 100) (hcnt : cnt ≤ 1000) (ho6 : 0 ≤ o6 ∧ o6 < 3)
    (hn : ∀ D', (∀ m, m < 4 → D' 58 m = dPw h (min cnt L) d m) → zfr [58] D D' → qS (k22 ((L - min cnt L : Nat) : Int) (o6 + 1) D') P) :
    qS (fX2_answer_57 F k22 o1 o2 o3 o4 (L : Int) o6 (lv : Int) (cnt : Int) D) P := by
  unfold fX2_answer_57
  refine qloop2 (fun v5 v9 D1 => ∃ j : Nat, j ≤ min cnt L ∧ v9 = (j : Int) ∧ v5 = ((L - j : Nat) : Int) ∧ zfr [58] D D1 ∧ ∃ d1, (∀ m, m < 4 → D1 58 m = d1 m) ∧ dOk (k + j) d1 ∧ dPw h (min cnt L - j) d1 = dPw h (min cnt L) d) (fun _ v9 _ => (2000 - v9).toNat) ?_ ⟨0, by omega, rfl, rfl, zfr.rfl' _ D, d, hrow, hd, rfl⟩ (zfu_gt (by omega))
  intro kk v5 v9 D1 ⟨j, hj, e9, e5, hfr, d1, hr1, hd1, hpw⟩ ih
  subst e9 e5
  have stop : j = min cnt L → qS (fX2_answer_94 F k22 o1 o2 o3 o4 ((L - j : Nat) : Int) o6 D1) P := by
    intro e
    unfold fX2_answer_94
    refine qS_chk (by omega) ?_
    rw [e]
    refine hn D1 (fun m hm => ?_) hfr
    rw [hr1 m hm, ← hpw, e, Nat.sub_self]
    rfl
  unfold fX2_answer_62
  refine qS_ite (fun h1 => qS_ite (fun h2 => ?_) (fun h2 => stop (by omega))) (fun h1 => stop (by omega))
  refine qS_chk (by omega) ?_
  have e54 : D1 54 ((lv : Int)).toNat = h := by rw [hfr 54 (by decide), show ((lv : Int)).toNat = lv by omega]; exact hch
  rw [e54]
  refine qS_call (pX2_answerOne (d := d1) (fun m hm => ⟨hr1 m hm, dOk_le hd1 (by omega) m hm⟩) hh) ?_
  intro D2 ⟨hr2, hf2⟩
  refine qS_chk (by omega) (ih _ _ _ ⟨j + 1, by omega, by omega, by omega, hfr.trans hf2, dOne h d1, hr2, ?_, ?_⟩ (by omega))
  · have := dOk_one hd1 hh
    rw [show k + j + 1 = k + (j + 1) by omega] at this
    exact this
  · rw [← hpw, show min cnt L - j = (min cnt L - (j + 1)) + 1 by omega]
    rfl
end AN
