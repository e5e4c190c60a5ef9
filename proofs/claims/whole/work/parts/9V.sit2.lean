theorem bPop_0 {x : Nat} : ∀ n i, bPop x n i = 0 → ∀ j, i ≤ j → j < i + n → x.testBit j = false
  | 0, _, _, _, h1, h2 => by omega
  | n + 1, i, h, j, h1, h2 => by
    rw [bPop_s] at h
    by_cases hb : x.testBit i = true
    · rw [if_pos hb] at h; omega
    · rw [if_neg hb] at h
      by_cases e : j = i
      · rw [e]; simpa using hb
      · exact bPop_0 n (i + 1) (by omega) j (by omega) (by omega)
def bSub (x y : Nat) : Prop := ∀ j, x.testBit j = true → y.testBit j = true
theorem bDiff_pos {x y : Nat} (h : bPop x 20 0 < bPop y 20 0) : 0 < bPop (zdiff y x) 20 0 := by
  rcases Nat.eq_zero_or_pos (bPop (zdiff y x) 20 0) with e | e
  · have z := bPop_0 20 0 e
    have := (bPop_sub (x := y) (y := x) 20 0 (fun j h1 h2 hy => by
      have := z j h1 h2
      rw [zdiff_bit, hy] at this
      simpa using this)).1
    omega
  · exact e
theorem bSub_eq {x y : Nat} (hx : x < 2 ^ 20) (hy : y < 2 ^ 20) (h : bSub x y) (e : bPop x 20 0 = bPop y 20 0) : x = y :=
  bEq hx hy (fun j hj => (bPop_sub 20 0 (fun j _ _ => h j)).2 e j (by omega) (by omega))
theorem bOr_lt {x b : Nat} (hx : x < 2 ^ 20) (hb : b < 20) : x ||| 2 ^ b < 2 ^ 20 := Nat.or_lt_two_pow hx (Nat.pow_lt_pow_right (by omega) hb)
theorem bOr_bit {x b j : Nat} : (x ||| 2 ^ b).testBit j = (x.testBit j || decide (b = j)) := by rw [Nat.testBit_or, Nat.testBit_two_pow]
theorem bSub_or {x y b : Nat} (h : bSub x y) (hb : y.testBit b = true) : bSub (x ||| 2 ^ b) y := fun j hj => by
  rw [bOr_bit] at hj
  by_cases e : b = j
  · rw [← e]; exact hb
  · rw [decide_eq_false e, Bool.or_false] at hj; exact h j hj
def kAllN (K : Nat → Int) (j : Nat) : Nat := match j with
  | 0 => 0
  | j + 1 => kAllN K j ||| (if K (5 * j + 4) = 0 then 2 ^ j else 0)
def kLuN (K : Nat → Int) (j : Nat) : Nat := match j with
  | 0 => 0
  | j + 1 => kLuN K j ||| (if K (5 * j + 3) = 1 then 2 ^ j else 0)
def kLkN (K : Nat → Int) (j : Nat) : Nat := match j with
  | 0 => 0
  | j + 1 => kLkN K j ||| (if K (5 * j + 4) = 0 ∧ K (5 * j + 3) = 1 then 2 ^ j else 0)
theorem pw_lt {c : Prop} [Decidable c] {j n : Nat} (h : j < n) : (if c then 2 ^ j else 0) < 2 ^ n := by
  split
  · exact Nat.pow_lt_pow_right (by omega) h
  · exact Nat.pow_pos (by omega)
theorem pw_bit {c : Prop} [Decidable c] {j i : Nat} : (if c then 2 ^ j else 0).testBit i = (decide c && decide (j = i)) := by
  by_cases h : c
  · rw [if_pos h, decide_eq_true h, Nat.testBit_two_pow, Bool.true_and]
  · rw [if_neg h, decide_eq_false h, Nat.zero_testBit, Bool.false_and]
theorem kAllN_lt (K : Nat → Int) : ∀ j n, j ≤ n → kAllN K j < 2 ^ n
  | 0, n, _ => Nat.pow_pos (by omega)
  | j + 1, n, h => Nat.or_lt_two_pow (kAllN_lt K j n (by omega)) (pw_lt (by omega))
theorem kLuN_lt (K : Nat → Int) : ∀ j n, j ≤ n → kLuN K j < 2 ^ n
  | 0, n, _ => Nat.pow_pos (by omega)
  | j + 1, n, h => Nat.or_lt_two_pow (kLuN_lt K j n (by omega)) (pw_lt (by omega))
theorem kLkN_lt (K : Nat → Int) : ∀ j n, j ≤ n → kLkN K j < 2 ^ n
  | 0, n, _ => Nat.pow_pos (by omega)
  | j + 1, n, h => Nat.or_lt_two_pow (kLkN_lt K j n (by omega)) (pw_lt (by omega))
theorem kLu_and (K : Nat → Int) : ∀ j, kLuN K j &&& kAllN K j = kLkN K j := by
  intro j
  apply Nat.eq_of_testBit_eq
  intro i
  rw [Nat.testBit_and]
  induction j with
  | zero => show ((0 : Nat).testBit i && (0 : Nat).testBit i) = (0 : Nat).testBit i; rw [Nat.zero_testBit]; rfl
  | succ j ih =>
    show ((kLuN K j ||| (if K (5 * j + 3) = 1 then 2 ^ j else 0)).testBit i && (kAllN K j ||| (if K (5 * j + 4) = 0 then 2 ^ j else 0)).testBit i) = (kLkN K j ||| (if K (5 * j + 4) = 0 ∧ K (5 * j + 3) = 1 then 2 ^ j else 0)).testBit i
    rw [Nat.testBit_or, Nat.testBit_or, Nat.testBit_or, ← ih, pw_bit, pw_bit, pw_bit]
    by_cases e : j = i
    · subst e
      have a := bOut (kLuN_lt K j j (Nat.le_refl _)) (Nat.le_refl j)
      have b := bOut (kAllN_lt K j j (Nat.le_refl _)) (Nat.le_refl j)
      rw [a, b]
      by_cases h1 : K (5 * j + 3) = 1 <;> by_cases h2 : K (5 * j + 4) = 0 <;> simp [h1, h2]
    · rw [decide_eq_false e]; simp
theorem kLk_sub (K : Nat → Int) (j : Nat) : bSub (kLkN K j) (kAllN K j) := fun i h => by
  rw [← kLu_and, Nat.testBit_and] at h
  simp at h; exact h.2
theorem kAll_n {K : Nat → Int} {j i : Nat} (h : (kAllN K j).testBit i = true) : i < j := by
  rcases Nat.lt_or_ge i j with e | e
  · exact e
  · rw [bOut (kAllN_lt K j j (Nat.le_refl _)) e] at h; exact absurd h (by decide)
/-- what lies there, by draws -/
def kLayN (all n : Nat) (p : Int × Nat) : Int × Nat := match n with
  | 0 => p
  | n + 1 => kLayN all n (sNext p.1, p.2 ||| 2 ^ sOne p.1 (zdiff all p.2))
theorem kLayN_s (all n : Nat) (p : Int × Nat) : kLayN all (n + 1) p = kLayN all n (sNext p.1, p.2 ||| 2 ^ sOne p.1 (zdiff all p.2)) := rfl
theorem kLayN_0 (all : Nat) (p : Int × Nat) : kLayN all 0 p = p := rfl
def kLay0 (K : Nat → Int) (s : Int) : Int × Nat :=
  if kLkN K (K 390).toNat = 0 then (s, 0) else if (sOf s 100 : Int) < K 103 then (sNext (sNext s), 2 ^ sOne (sNext s) (kLkN K (K 390).toNat)) else (sNext s, 0)
def kLay (K : Nat → Int) (s : Int) : Int × Nat :=
  if (K 100).toNat < bPop (kAllN K (K 390).toNat) 20 0 then kLayN (kAllN K (K 390).toNat) ((K 100).toNat - bPop (kLay0 K s).2 20 0) (kLay0 K s) else (s, kAllN K (K 390).toNat)
/-- the surest of those that lie there and aren't answered -/
def kSurN (K : Nat → Int) (lay gave j : Nat) : Int := match j with
  | 0 => -1
  | j + 1 => if lay.testBit j = true ∧ gave.testBit j = false then (if kSurN K lay gave j = -1 then (j : Int) else if kChance K (K (5 * (kSurN K lay gave j).toNat + 2)) < kChance K (K (5 * j + 2)) then (j : Int) else kSurN K lay gave j) else kSurN K lay gave j
theorem kSurN_in (K : Nat → Int) (lay gave : Nat) : ∀ j, (kSurN K lay gave j = -1 ∧ ∀ i, i < j → lay.testBit i = true → gave.testBit i = true) ∨ ∃ b : Nat, kSurN K lay gave j = (b : Int) ∧ b < j ∧ lay.testBit b = true ∧ gave.testBit b = false
  | 0 => Or.inl ⟨rfl, fun i h => by omega⟩
  | j + 1 => by
    have ih := kSurN_in K lay gave j
    unfold kSurN
    by_cases hc : lay.testBit j = true ∧ gave.testBit j = false
    · rw [if_pos hc]
      split
      · exact Or.inr ⟨j, rfl, by omega, hc⟩
      · split
        · exact Or.inr ⟨j, rfl, by omega, hc⟩
        · rcases ih with ⟨h1, _⟩ | ⟨b, h1, h2, h3⟩
          · rename_i hn _ _; exact absurd h1 hn
          · exact Or.inr ⟨b, h1, by omega, h3⟩
    · rw [if_neg hc]
      rcases ih with ⟨h1, h2⟩ | ⟨b, h1, h2, h3⟩
      · refine Or.inl ⟨h1, fun i hi hl => ?_⟩
        by_cases e : i = j
        · subst e
          cases hg : gave.testBit i
          · exact absurd ⟨hl, hg⟩ hc
          · rfl
        · exact h2 i (by omega) hl
      · exact Or.inr ⟨b, h1, by omega, h3⟩
def kAnsN (K : Nat → Int) (lay n : Nat) (t : Int × Nat × Nat) : Int × Nat × Nat := match n with
  | 0 => t
  | n + 1 => kAnsN K lay n (sNext t.1, t.2.1 ||| 2 ^ (kSurN K lay t.2.1 (K 390).toNat).toNat, if (sOf t.1 100 : Int) < kChance K (K (5 * (kSurN K lay t.2.1 (K 390).toNat).toNat + 2)) then t.2.2 ||| 2 ^ (kSurN K lay t.2.1 (K 390).toNat).toNat else t.2.2)
def kAns (K : Nat → Int) (p : Int × Nat) : Int × Nat × Nat := kAnsN K p.2 (min (K 101).toNat (bPop p.2 20 0)) (p.1, 0, 0)
/-- the state of a lot so far -/
def lOk (all : Nat) (p : Int × Nat) : Prop := (0 ≤ p.1 ∧ p.1 < 1000003) ∧ p.2 < 2 ^ 20 ∧ bSub p.2 all
theorem bNil (y : Nat) : bSub 0 y := fun j h => by rw [Nat.zero_testBit] at h; exact absurd h (by decide)
theorem bPop_nil : bPop 0 20 0 = 0 := by decide
theorem bPop_pw {b : Nat} (h : b < 20) : bPop (2 ^ b) 20 0 = 1 := by
  have := bPop_or (x := 0) (b := b) (Nat.zero_testBit b) 20 0 (by omega) (by omega)
  rw [Nat.zero_or, bPop_nil] at this
  exact this
theorem lOk.step {all : Nat} {p : Int × Nat} (hall : all < 2 ^ 20) (h : lOk all p) (hp : bPop p.2 20 0 < bPop all 20 0) : lOk all (sNext p.1, p.2 ||| 2 ^ sOne p.1 (zdiff all p.2)) ∧ bPop (p.2 ||| 2 ^ sOne p.1 (zdiff all p.2)) 20 0 = bPop p.2 20 0 + 1 ∧ 0 < bPop (zdiff all p.2) 20 0 ∧ zdiff all p.2 < 2 ^ 20 ∧ sOne p.1 (zdiff all p.2) < 20 := by
  have d := bDiff_pos hp
  have o := sOne_in h.1 d
  have ob := o.2
  rw [zdiff_bit] at ob
  simp at ob
  have := zdiff_le all p.2
  refine ⟨⟨sNext_in h.1, bOr_lt h.2.1 o.1, bSub_or h.2.2 ob.1⟩, bPop_or ob.2 20 0 (by omega) (by omega), d, by omega, o.1⟩
theorem kLay0_ok {K : Nat → Int} (hk : kOk K) {s : Int} (hs : 0 ≤ s ∧ s < 1000003) : lOk (kAllN K (K 390).toNat) (kLay0 K s) ∧ bPop (kLay0 K s).2 20 0 ≤ 1 := by
  have h0 := hk.1
  unfold kLay0
  split
  · exact ⟨⟨hs, by show 0 < 2 ^ 20; omega, bNil _⟩, by rw [bPop_nil]; omega⟩
  · rename_i hn
    split
    · have hl := kLkN_lt K (K 390).toNat 20 (by omega)
      have hp : 0 < bPop (kLkN K (K 390).toNat) 20 0 := by
        rcases Nat.eq_zero_or_pos (bPop (kLkN K (K 390).toNat) 20 0) with e | e
        · exact absurd (bEq hl (show 0 < 2 ^ 20 by decide) (fun j hj => by rw [bPop_0 20 0 e j (by omega) (by omega), Nat.zero_testBit])) hn
        · exact e
      have o := sOne_in (sNext_in hs) hp
      refine ⟨⟨sNext_in (sNext_in hs), Nat.pow_lt_pow_right (by omega) o.1, fun j hj => ?_⟩, by rw [bPop_pw o.1]; omega⟩
      rw [Nat.testBit_two_pow] at hj
      have : sOne (sNext s) (kLkN K (K 390).toNat) = j := by simpa using hj
      rw [← this]
      exact kLk_sub K _ _ o.2
    · exact ⟨⟨sNext_in hs, by show 0 < 2 ^ 20; omega, bNil _⟩, by rw [bPop_nil]; omega⟩
section SJ
variable {F : zFs} {D : zDa} {Z : Nat → Prop} {K : Nat → Int}
def cSi (D : zDa) (K : Nat → Int) : Prop := (0 ≤ D 89 3 ∧ D 89 3 < 1000003) ∧ D 89 4 = (kAllN K (K 390).toNat : Int) ∧ D 89 5 = (kLkN K (K 390).toNat : Int) ∧ ∀ lv : Nat, lv < 3 → D 90 lv = kChance K (lv : Int)
theorem pX8_begin (h : qSt F D Z 1 K) (hG : zG F) (hZ : ∀ a, Z a → 126 ≤ a) {s : Int} (hs : 0 ≤ s ∧ s ≤ 1000000) : qS (fX8_begin F s D) (fun D' => cSi D' K ∧ D' 89 3 = s ∧ zfr [49, 50, 51, 89, 90] D D') := by
  have h0 := h.1.1
  unfold fX8_begin
  refine qS_leti ?_
  refine qloop1 (fun v D1 => ∃ j : Nat, v = (j : Int) ∧ j ≤ 3 ∧ (∀ lv : Nat, lv < j → D1 90 lv = kChance K (lv : Int)) ∧ D1 89 3 = s ∧ zfr [49, 50, 51, 89, 90] D D1) (fun v _ => (100 - v).toNat) ?_ ⟨0, rfl, by omega, fun _ h => absurd h (by omega), zwr_eq, (zfr.rfl' _ D).wr (by decide)⟩ (zfu_gt (by omega))
  intro kk v D1 ⟨j, ev, hj, c1, s1, f1⟩ ih
  subst ev
  unfold fX8_begin_7
  refine qS_ite (fun h3 => ?_) (fun h3 => ?_)
  · refine qS_call (pX10_chanceOf (h.zfr hZ f1 (by decide)) hG hZ (l := (j : Int)) (by omega)) (fun r ⟨hr, f2⟩ => ?_)
    obtain ⟨x, D2⟩ := r
    dsimp only at hr f2 ⊢
    subst hr
    refine qS_chk (by omega) (qS_leti (qS_chk (by omega) (ih _ _ ⟨j + 1, by omega, by omega, fun lv hlv => ?_, ?_, (f1.trans (f2.mono (by decide))).wr (by decide)⟩ (by omega))))
    · rw [show ((j : Int)).toNat = j by omega, zwr_at]
      by_cases e : lv = j
      · rw [if_pos e, e]
      · rw [if_neg e, f2 90 (by decide)]; exact c1 lv (by omega)
    · rw [zwr_row (by omega), f2 89 (by decide)]; exact s1
  · have : j = 3 := by omega
    subst this
    refine qS_leti (qS_leti ?_)
    refine qloop1 (fun v D2 => ∃ j : Nat, v = (j : Int) ∧ j ≤ (K 390).toNat ∧ D2 89 4 = (kAllN K j : Int) ∧ D2 89 5 = (kLuN K j : Int) ∧ D2 90 = D1 90 ∧ D2 89 3 = s ∧ zfr [49, 50, 51, 89, 90] D D2) (fun v _ => (100 - v).toNat) ?_ ⟨0, rfl, by omega, by rw [zwr_off (by omega), zwr_eq]; rfl, by rw [zwr_eq]; rfl, by rw [zwr_row (by omega), zwr_row (by omega)], by rw [zwr_off (by omega), zwr_off (by omega)]; exact s1, (f1.wr (by decide)).wr (by decide)⟩ (zfu_gt (by omega))
    intro kk2 v D2 ⟨j, ev, hj, a2, b2, g2, s2, f2⟩ ih2
    subst ev
    have q2 := h.zfr hZ f2 (by decide)
    unfold fX8_begin_44
    rw [q2.2.1]
    refine qS_ite (fun hjn => ?_) (fun hjn => ?_)
    · have r := q2.2.2.1 j (by omega)
      have o := h.1.2.1 j (by omega)
      have e5 : D2 5 j = K (5 * j + 3) := r.2.2.2.1
      have hA := kAllN_lt K j 20 (by omega)
      have hU := kLuN_lt K j 20 (by omega)
      have hp : 2 ^ j < 2 ^ 20 := Nat.pow_lt_pow_right (by omega) (by omega)
      rw [show ((j : Int)).toNat = j by omega, show D2 6 j = K (5 * j + 4) from r.2.2.2.2]
      have sh : ∀ x : Int, x = 0 ∨ x = 1 → zshl x (j : Int) = (((if x = 1 then 2 ^ j else 0) : Nat) : Int) := fun x hx => by
        rcases hx with rfl | rfl
        · rw [if_neg (by omega), show (0 : Int) = ((0 : Nat) : Int) from rfl, zshl_nat (by omega) (by omega), Nat.zero_mul]
        · rw [if_pos rfl]; exact zone_shl (by omega)
      refine qS_chk (by omega) (qS_leti (qS_leti (qS_chk (by omega) (ih2 _ _ ⟨j + 1, by omega, by omega, ?_, ?_, ?_, ?_, (f2.wr (by decide)).wr (by decide)⟩ (by omega)))))
      · rw [zwr_off (by omega), zwr_eq, a2, sh _ (by omega), zor_nat (by omega) (by have := pw_lt (c := (1 : Int) - K (5 * j + 4) = 1) (j := j) (n := 20) (by omega); omega)]
        show _ = ((kAllN K j ||| (if K (5 * j + 4) = 0 then 2 ^ j else 0) : Nat) : Int)
        by_cases e : K (5 * j + 4) = 0
        · rw [if_pos e, if_pos (by omega)]
        · rw [if_neg e, if_neg (by omega)]
      · rw [zwr_eq, zwr_off (by omega), zwr_row (by omega), b2, e5, sh _ (by omega), zor_nat (by omega) (by have := pw_lt (c := K (5 * j + 3) = 1) (j := j) (n := 20) (by omega); omega)]
        rfl
      · rw [zwr_row (by omega), zwr_row (by omega)]; exact g2
      · rw [zwr_off (by omega), zwr_off (by omega)]; exact s2
    · have : j = (K 390).toNat := by omega
      subst this
      have hA := kAllN_lt K (K 390).toNat 20 (by omega)
      have hU := kLuN_lt K (K 390).toNat 20 (by omega)
      refine qS_leti (qS_ret ⟨⟨?_, ?_, ?_, ?_⟩, ?_, f2.wr (by decide)⟩)
      · rw [zwr_off (by omega), s2]; omega
      · rw [zwr_off (by omega)]; exact a2
      · rw [zwr_eq, a2, b2, zand_nat (by omega) (by omega), kLu_and]
      · intro lv hlv
        rw [zwr_row (by omega), g2]; exact c1 lv hlv
      · rw [zwr_off (by omega)]; exact s2
theorem cSi.fr {D D' : zDa} (h : cSi D K) (h1 : D' 89 4 = D 89 4) (h2 : D' 89 5 = D 89 5) (h3 : D' 90 = D 90) (hs : 0 ≤ D' 89 3 ∧ D' 89 3 < 1000003) : cSi D' K := ⟨hs, by rw [h1]; exact h.2.1, by rw [h2]; exact h.2.2.1, by rw [h3]; exact h.2.2.2⟩
theorem pX8_layOut (h : qSt F D Z 1 K) (hZ : ∀ a, Z a → 126 ≤ a) (hc : cSi D K) : qS (fX8_layOut F D) (fun D' => cSi D' K ∧ D' 89 3 = (kLay K (D 89 3)).1 ∧ D' 89 6 = ((kLay K (D 89 3)).2 : Int) ∧ (kLay K (D 89 3)).2 < 2 ^ 20 ∧ bSub (kLay K (D 89 3)).2 (kAllN K (K 390).toNat) ∧ zfr [89] D D') := by
  have h0 := h.1.1
  have ht := kTerms h.1
  have hA := kAllN_lt K (K 390).toNat 20 (by omega)
  have hk0 := kLay0_ok h.1 hc.1
  unfold fX8_layOut
  refine qS_leti (qS_leti ?_)
  have e0 : D 7 0 = K 100 := h.2.2.2.1 0 (by omega)
  rw [e0, zwr_off (by omega), hc.2.1, zbitCount (by omega), ← bPop_20]
  refine qS_step rfl ?_
  unfold kLay
  have c2 : cSi (zwr D 89 6 (kAllN K (K 390).toNat : Int)) K := hc.fr (by rw [zwr_off (by omega)]) (by rw [zwr_off (by omega)]) (by rw [zwr_row (by omega)]) (by rw [zwr_off (by omega)]; exact hc.1)
  refine qS_ite (fun hlt => ?_) (fun hlt => ?_)
  · rw [if_pos (c := (K 100).toNat < bPop (kAllN K (K 390).toNat) 20 0) (by omega)]
    have g72 : ∀ D3 : zDa, cSi D3 K → D3 89 3 = (kLay0 K (D 89 3)).1 → D3 89 6 = ((kLay0 K (D 89 3)).2 : Int) → zfr [89] D D3 → qS (fX8_layOut_72 F (K 100) D3) (fun D' => cSi D' K ∧ D' 89 3 = (kLayN (kAllN K (K 390).toNat) ((K 100).toNat - bPop (kLay0 K (D 89 3)).2 20 0) (kLay0 K (D 89 3))).1 ∧ D' 89 6 = ((kLayN (kAllN K (K 390).toNat) ((K 100).toNat - bPop (kLay0 K (D 89 3)).2 20 0) (kLay0 K (D 89 3))).2 : Int) ∧ (kLayN (kAllN K (K 390).toNat) ((K 100).toNat - bPop (kLay0 K (D 89 3)).2 20 0) (kLay0 K (D 89 3))).2 < 2 ^ 20 ∧ bSub (kLayN (kAllN K (K 390).toNat) ((K 100).toNat - bPop (kLay0 K (D 89 3)).2 20 0) (kLay0 K (D 89 3))).2 (kAllN K (K 390).toNat) ∧ zfr [89] D D') := by
      intro D3 c3 s3 l3 f3
      generalize kLay0 K (D 89 3) = p0 at *
      unfold fX8_layOut_72
      rw [l3, zbitCount (by have := hk0.1.2.1; omega), ← bPop_20]
      refine qS_step rfl ?_
      refine qloop1 (fun v D4 => ∃ p : Int × Nat, v = (bPop p.2 20 0 : Int) ∧ bPop p.2 20 0 ≤ (K 100).toNat ∧ lOk (kAllN K (K 390).toNat) p ∧ kLayN (kAllN K (K 390).toNat) ((K 100).toNat - bPop p.2 20 0) p = kLayN (kAllN K (K 390).toNat) ((K 100).toNat - bPop p0.2 20 0) p0 ∧ cSi D4 K ∧ D4 89 3 = p.1 ∧ D4 89 6 = (p.2 : Int) ∧ zfr [89] D D4) (fun v _ => (100 - v).toNat) ?_ ⟨p0, rfl, by have := hk0.2; omega, hk0.1, rfl, c3, s3, l3, f3⟩ (zfu_gt (by omega))
      intro kk v D4 ⟨p, ev, hp, ok, hN, c4, s4, l4, f4⟩ ih
      subst ev
      generalize kLayN (kAllN K (K 390).toNat) ((K 100).toNat - bPop p0.2 20 0) p0 = R at *
      unfold fX8_layOut_80
      refine qS_ite (fun hl => ?_) (fun hl => ?_)
      · have st := ok.step hA (by omega)
        rw [c4.2.1, l4, zdiff_nat (by omega) (by have := ok.2.1; omega)]
        refine qS_call (pX8_drawnOf st.2.2.2.1 st.2.2.1 c4.1) (fun r hr => ?_)
        subst hr
        dsimp only
        rw [s4, zor_nat (by have := ok.2.1; omega) (by have : 2 ^ sOne p.1 (zdiff (kAllN K (K 390).toNat) p.2) < 2 ^ 20 := Nat.pow_lt_pow_right (by omega) st.2.2.2.2; omega)]
        refine qS_leti (qS_chk (by omega) (ih _ _ ⟨(sNext p.1, p.2 ||| 2 ^ sOne p.1 (zdiff (kAllN K (K 390).toNat) p.2)), by dsimp only; rw [st.2.1]; omega, by dsimp only; rw [st.2.1]; omega, st.1, ?_, ?_, ?_, ?_, (f4.wr (by decide)).wr (by decide)⟩ (by omega)))
        · rw [show (K 100).toNat - bPop p.2 20 0 = ((K 100).toNat - (bPop p.2 20 0 + 1)) + 1 by omega, kLayN_s] at hN
          dsimp only
          rw [st.2.1]; exact hN
        · exact c4.fr (by rw [zwr_off (by omega), zwr_off (by omega)]) (by rw [zwr_off (by omega), zwr_off (by omega)]) (by rw [zwr_row (by omega), zwr_row (by omega)]) (by rw [zwr_off (by omega), zwr_eq]; exact st.1.1)
        · rw [zwr_off (by omega), zwr_eq]
        · rw [zwr_eq]
      · rw [show (K 100).toNat - bPop p.2 20 0 = 0 by omega, kLayN_0] at hN
        subst hN
        exact qS_ret ⟨c4, s4, l4, ok.2.1, ok.2.2, f4⟩
    refine qS_leti ?_
    have c3 : cSi (zwr (zwr D 89 6 (kAllN K (K 390).toNat : Int)) 89 6 0) K := c2.fr (by rw [zwr_off (by omega)]) (by rw [zwr_off (by omega)]) (by rw [zwr_row (by omega)]) (by rw [zwr_off (by omega)]; exact c2.1)
    have s3 : (zwr (zwr D 89 6 (kAllN K (K 390).toNat : Int)) 89 6 0) 89 3 = D 89 3 := by rw [zwr_off (by omega), zwr_off (by omega)]
    have l3 : (zwr (zwr D 89 6 (kAllN K (K 390).toNat : Int)) 89 6 0) 89 6 = 0 := zwr_eq
    have f3 : zfr [89] D (zwr (zwr D 89 6 (kAllN K (K 390).toNat : Int)) 89 6 0) := ((zfr.rfl' _ D).wr (by decide)).wr (by decide)
    generalize zwr (zwr D 89 6 (kAllN K (K 390).toNat : Int)) 89 6 0 = D3 at *
    have hL := kLkN_lt K (K 390).toNat 20 (by omega)
    by_cases hl0 : kLkN K (K 390).toNat = 0
    · have e : kLay0 K (D 89 3) = (D 89 3, 0) := by unfold kLay0; rw [if_pos hl0]
      refine qS_pos (by rw [c3.2.2.1, hl0]; rfl) ?_
      exact g72 D3 c3 (by rw [e]; exact s3) (by rw [e]; exact l3) f3
    · refine qS_neg (by rw [c3.2.2.1]; omega) ?_
      rw [show (100 : Int) = ((100 : Nat) : Int) from rfl]
      refine qS_step (pX8_lots (by omega) c3.1) ?_
      rw [s3]
      have c4 : cSi (zwr D3 89 3 (sNext (D 89 3))) K := c3.fr (by rw [zwr_off (by omega)]) (by rw [zwr_off (by omega)]) (by rw [zwr_row (by omega)]) (by rw [zwr_eq]; exact sNext_in hc.1)
      have f4 : zfr [89] D (zwr D3 89 3 (sNext (D 89 3))) := f3.wr (by decide)
      have e73 : (zwr D3 89 3 (sNext (D 89 3))) 7 3 = K 103 := by rw [f4 7 (by decide)]; exact h.2.2.2.1 3 (by omega)
      have s4 : (zwr D3 89 3 (sNext (D 89 3))) 89 3 = sNext (D 89 3) := zwr_eq
      have l4 : (zwr D3 89 3 (sNext (D 89 3))) 89 6 = 0 := by rw [zwr_off (by omega)]; exact l3
      generalize zwr D3 89 3 (sNext (D 89 3)) = D4 at *
      by_cases hln : (sOf (D 89 3) 100 : Int) < K 103
      · have e : kLay0 K (D 89 3) = (sNext (sNext (D 89 3)), 2 ^ sOne (sNext (D 89 3)) (kLkN K (K 390).toNat)) := by unfold kLay0; rw [if_neg hl0, if_pos hln]
        have hp : 0 < bPop (kLkN K (K 390).toNat) 20 0 := by
          rcases Nat.eq_zero_or_pos (bPop (kLkN K (K 390).toNat) 20 0) with e | e
          · exact absurd (bEq hL (show 0 < 2 ^ 20 by decide) (fun j hj => by rw [bPop_0 20 0 e j (by omega) (by omega), Nat.zero_testBit])) hl0
          · exact e
        refine qS_pos (by rw [e73]; exact hln) ?_
        dsimp only
        rw [c4.2.2.1]
        refine qS_call (pX8_drawnOf hL hp c4.1) (fun r hr => ?_)
        subst hr
        dsimp only
        refine qS_leti (g72 _ ?_ ?_ ?_ ((f4.wr (by decide)).wr (by decide)))
        · exact c4.fr (by rw [zwr_off (by omega), zwr_off (by omega)]) (by rw [zwr_off (by omega), zwr_off (by omega)]) (by rw [zwr_row (by omega), zwr_row (by omega)]) (by rw [zwr_off (by omega), zwr_eq]; exact sNext_in c4.1)
        · rw [e, zwr_off (by omega), zwr_eq, s4]
        · rw [e, zwr_eq, s4]
      · have e : kLay0 K (D 89 3) = (sNext (D 89 3), 0) := by unfold kLay0; rw [if_neg hl0, if_neg hln]
        refine qS_neg (by rw [e73]; exact hln) ?_
        exact g72 D4 c4 (by rw [e]; exact s4) (by rw [e]; exact l4) f4
  · rw [if_neg (c := (K 100).toNat < bPop (kAllN K (K 390).toNat) 20 0) (by omega)]
    exact qS_ret ⟨c2, by rw [zwr_off (by omega)], zwr_eq, hA, fun _ h => h, (zfr.rfl' _ D).wr (by decide)⟩
end SJ
