/-! ===== the diary: levels, since when, dropped, first dropped, falls ===== -/
abbrev dT : Type := (Nat → Int) × (Nat → Int) × Int × Int × Int
def kHlp (K lv : Nat → Int) (q j : Nat) : Int := match j with
  | 0 => 0
  | j + 1 => if kHlp K lv q j = 1 then 1 else if j ≠ q ∧ 0 < K (5 * q) ∧ K (5 * j) = K (5 * q) ∧ 0 < lv j then 1 else 0
theorem kHlp_in (K lv : Nat → Int) (q j : Nat) : kHlp K lv q j = 0 ∨ kHlp K lv q j = 1 := by
  induction j with
  | zero => exact Or.inl rfl
  | succ j ih =>
    unfold kHlp
    split
    · exact Or.inr rfl
    · split
      · exact Or.inr rfl
      · exact Or.inl rfl
theorem kHlp_up {K lv : Nat → Int} {q j : Nat} (h : kHlp K lv q j = 1) (d : Nat) : kHlp K lv q (j + d) = 1 := by
  induction d with
  | zero => exact h
  | succ d ih => rw [← Nat.add_assoc]; unfold kHlp; rw [if_pos ih]
theorem kHlp_cg {K K' lv lv' : Nat → Int} {q j : Nat} (h1 : ∀ i, i < j → K' (5 * i) = K (5 * i) ∧ lv' i = lv i) (h2 : K' (5 * q) = K (5 * q)) : kHlp K' lv' q j = kHlp K lv q j := by
  induction j with
  | zero => rfl
  | succ j ih => unfold kHlp; rw [ih (fun i hi => h1 i (by omega)), (h1 j (by omega)).1, (h1 j (by omega)).2, h2]
def dCost (K lv : Nat → Int) (q : Nat) (day : Int) : Int := if lv q = 2 then 1 else kTakes K q (lv q + 1) (kHlp K lv q (K 390).toNat) day
def dDrop (S : dT) (day : Int) : dT := (S.1, S.2.1, S.2.2.1 + 1, (if S.2.2.2.1 = -1 then day else S.2.2.2.1), S.2.2.2.2)
def dLearn (S : dT) (q : Nat) (day : Int) : dT := (zset S.1 q (if S.1 q = 2 then 2 else S.1 q + 1), zset S.2.1 q day, S.2.2)
def dLes (K : Nat → Int) (day : Int) (i : Nat) (x : Int × Int × dT) : Int × Int × dT :=
  if K (107 + 2 * i) = day then
    (if x.2.1 = 1 ∨ x.1 < dCost K x.2.2.1 (K (108 + 2 * i)).toNat day then (x.1, 1, dDrop x.2.2 day)
     else (x.1 - dCost K x.2.2.1 (K (108 + 2 * i)).toNat day, 0, dLearn x.2.2 (K (108 + 2 * i)).toNat day))
  else x
def dLesN (K : Nat → Int) (day : Int) (S : dT) (n : Nat) : Int × Int × dT := match n with
  | 0 => (K 106, 0, S)
  | n + 1 => dLes K day n (dLesN K day S n)
def dFg (K : Nat → Int) (day : Int) (q : Nat) (S : dT) : dT :=
  if 0 < S.1 q ∧ kKeeps K q (S.1 q) ≤ day - S.2.1 q then (zset S.1 q (S.1 q - 1), zset S.2.1 q day, S.2.2.1, S.2.2.2.1, S.2.2.2.2 + 1) else S
def dFgN (K : Nat → Int) (day : Int) (S : dT) (n : Nat) : dT := match n with
  | 0 => S
  | n + 1 => dFg K day n (dFgN K day S n)
def dNight (K : Nat → Int) (d : Nat) (S : dT) : Int × Int × dT := dLesN K (d : Int) S (K 391).toNat
def dN (K : Nat → Int) (d : Nat) : dT := match d with
  | 0 => (fun _ => 0, fun _ => 0, 0, -1, 0)
  | d + 1 => dFgN K (d : Int) (dNight K d (dN K d)).2.2 (K 390).toNat
def dH (K : Nat → Int) (d : Nat) : Int := K 106 - (dNight K d (dN K d)).1
def dOkM (M : Nat) (S : dT) : Prop := (∀ q, (0 ≤ S.1 q ∧ S.1 q ≤ 2) ∧ 0 ≤ S.2.1 q ∧ S.2.1 q ≤ 20) ∧ (0 ≤ S.2.2.1 ∧ S.2.2.1 ≤ M) ∧ 0 ≤ S.2.2.2.2 ∧ S.2.2.2.2 ≤ M
theorem dOkM.le {M N : Nat} {S : dT} (h : dOkM M S) (hl : M ≤ N) : dOkM N S := ⟨h.1, ⟨h.2.1.1, by have := h.2.1.2; omega⟩, h.2.2.1, by have := h.2.2.2; omega⟩
theorem dOkM.drop {M : Nat} {S : dT} (h : dOkM M S) (day : Int) : dOkM (M + 1) (dDrop S day) := by
  refine ⟨h.1, ?_, ?_⟩
  · have := h.2.1
    show 0 ≤ S.2.2.1 + 1 ∧ S.2.2.1 + 1 ≤ ((M + 1 : Nat) : Int)
    omega
  · have := h.2.2
    show 0 ≤ S.2.2.2.2 ∧ S.2.2.2.2 ≤ ((M + 1 : Nat) : Int)
    omega
theorem dOkM.learn {M : Nat} {S : dT} (h : dOkM M S) (q : Nat) {day : Int} (hd : 0 ≤ day ∧ day ≤ 20) : dOkM (M + 1) (dLearn S q day) := by
  refine ⟨fun p => ?_, ?_, ?_⟩
  · have hp := h.1 p
    unfold dLearn
    dsimp only
    by_cases e : p = q
    · subst e
      rw [zset_eq, zset_eq]
      refine ⟨?_, hd⟩
      split <;> omega
    · rw [zset_off e, zset_off e]; exact hp
  · have := h.2.1
    show 0 ≤ S.2.2.1 ∧ S.2.2.1 ≤ ((M + 1 : Nat) : Int)
    omega
  · have := h.2.2
    show 0 ≤ S.2.2.2.2 ∧ S.2.2.2.2 ≤ ((M + 1 : Nat) : Int)
    omega
theorem dOkM.fg {M : Nat} {K : Nat → Int} {S : dT} (h : dOkM M S) (q : Nat) {day : Int} (hd : 0 ≤ day ∧ day ≤ 20) : dOkM (M + 1) (dFg K day q S) := by
  unfold dFg
  split
  · rename_i hc
    refine ⟨fun p => ?_, ?_, ?_⟩
    · have hp := h.1 p
      by_cases e : p = q
      · subst e
        show (0 ≤ zset S.1 p (S.1 p - 1) p ∧ zset S.1 p (S.1 p - 1) p ≤ 2) ∧ 0 ≤ zset S.2.1 p day p ∧ zset S.2.1 p day p ≤ 20
        rw [zset_eq, zset_eq]
        omega
      · show (0 ≤ zset S.1 q (S.1 q - 1) p ∧ zset S.1 q (S.1 q - 1) p ≤ 2) ∧ 0 ≤ zset S.2.1 q day p ∧ zset S.2.1 q day p ≤ 20
        rw [zset_off e, zset_off e]; exact hp
    · have := h.2.1
      show 0 ≤ S.2.2.1 ∧ S.2.2.1 ≤ ((M + 1 : Nat) : Int)
      omega
    · have := h.2.2
      show 0 ≤ S.2.2.2.2 + 1 ∧ S.2.2.2.2 + 1 ≤ ((M + 1 : Nat) : Int)
      omega
  · exact h.le (by omega)
theorem dOkM.les {M : Nat} {K : Nat → Int} {day : Int} {x : Int × Int × dT} (h : dOkM M x.2.2) (i : Nat) (hd : 0 ≤ day ∧ day ≤ 20) : dOkM (M + 1) (dLes K day i x).2.2 := by
  unfold dLes
  split
  · split
    · exact h.drop day
    · exact h.learn _ hd
  · exact h.le (by omega)
theorem dCost_in (K lv : Nat → Int) (q : Nat) (day : Int) : 1 ≤ dCost K lv q day ∧ dCost K lv q day ≤ 20 := by
  unfold dCost
  split
  · omega
  · exact kTakes_in _ _ _ _ _
theorem dLesN_ok {M : Nat} {K : Nat → Int} {day : Int} {S : dT} (hk : kOk K) (h : dOkM M S) (hd : 0 ≤ day ∧ day ≤ 20) (n : Nat) : dOkM (M + n) (dLesN K day S n).2.2 ∧ (0 ≤ (dLesN K day S n).1 ∧ (dLesN K day S n).1 ≤ K 106) ∧ ((dLesN K day S n).2.1 = 0 ∨ (dLesN K day S n).2.1 = 1) := by
  induction n with
  | zero =>
    have := kTerms hk
    exact ⟨h, ⟨this.2.2.2.2.2.2.1, Int.le_refl _⟩, Or.inl rfl⟩
  | succ n ih =>
    obtain ⟨a, b, c⟩ := ih
    refine ⟨a.les n hd, ?_⟩
    show (0 ≤ (dLes K day n (dLesN K day S n)).1 ∧ (dLes K day n (dLesN K day S n)).1 ≤ K 106) ∧ ((dLes K day n (dLesN K day S n)).2.1 = 0 ∨ (dLes K day n (dLesN K day S n)).2.1 = 1)
    unfold dLes
    split
    · split
      · exact ⟨b, Or.inr rfl⟩
      · rename_i hc
        have := dCost_in K (dLesN K day S n).2.2.1 (K (108 + 2 * n)).toNat day
        exact ⟨by dsimp only; omega, Or.inl rfl⟩
    · exact ⟨b, c⟩
theorem dFgN_ok {M : Nat} {K : Nat → Int} {day : Int} {S : dT} (h : dOkM M S) (hd : 0 ≤ day ∧ day ≤ 20) (n : Nat) : dOkM (M + n) (dFgN K day S n) := by
  induction n with
  | zero => exact h
  | succ n ih => exact ih.fg n hd
theorem dN_ok {K : Nat → Int} (hk : kOk K) (d : Nat) (hd : d ≤ 20) : dOkM (140 * d) (dN K d) := by
  induction d with
  | zero =>
    show (∀ _ : Nat, ((0 : Int) ≤ 0 ∧ (0 : Int) ≤ 2) ∧ (0 : Int) ≤ 0 ∧ (0 : Int) ≤ 20) ∧ ((0 : Int) ≤ 0 ∧ (0 : Int) ≤ ((140 * 0 : Nat) : Int)) ∧ (0 : Int) ≤ 0 ∧ (0 : Int) ≤ ((140 * 0 : Nat) : Int)
    exact ⟨fun _ => by omega, by omega, by omega⟩
  | succ d ih =>
    have h0 := hk.1
    have h1 := hk.2.2.2.1.1
    have a := (dLesN_ok hk (ih (by omega)) (day := (d : Int)) (by omega) (K 391).toNat).1
    exact (dFgN_ok (K := K) a (by omega) (K 390).toNat).le (by omega)
/-! ===== the class's diary ===== -/
def cDS (D : zDa) (S : dT) (n : Int) : Prop := (∀ q : Nat, (q : Int) < n → D 74 q = S.1 q ∧ D 75 q = S.2.1 q) ∧ D 73 7 = S.2.2.1 ∧ D 73 8 = S.2.2.2.1 ∧ D 73 9 = S.2.2.2.2
theorem cDS.fr {D D' : zDa} {S : dT} {n : Int} (h : cDS D S n) (h3 : D' 73 = D 73) (h4 : D' 74 = D 74) (h5 : D' 75 = D 75) : cDS D' S n := by unfold cDS; rw [h3, h4, h5]; exact h
section DI
variable {F : zFs} {D : zDa} {Z : Nat → Prop} {K : Nat → Int}
theorem pX1_isHelped (h : qSt F D Z 1 K) {lv : Nat → Int} (hl : ∀ q : Nat, (q : Int) < K 390 → D 74 q = lv q) {q : Nat} (hq : (q : Int) < K 390) : qS (fX1_isHelped F (q : Int) D) (fun r => r = (kHlp K lv q (K 390).toNat, D)) := by
  have h0 := h.1.1
  have oq := h.1.2.1 q hq
  unfold fX1_isHelped
  refine qS_chk (by omega) (qS_leti ?_)
  rw [show ((q : Int)).toNat = q by omega, (h.2.2.1 q hq).1]
  refine qloop1 (fun v D1 => ∃ j : Nat, v = (j : Int) ∧ j ≤ (K 390).toNat ∧ kHlp K lv q j = 0 ∧ D1 = D) (fun v _ => (100 - v).toNat) ?_ ⟨0, rfl, by omega, rfl, rfl⟩ (zfu_gt (by omega))
  intro kk v D1 ⟨j, ev, hj, hz, eD⟩ ih
  subst ev eD
  unfold fX1_isHelped_12
  rw [h.2.1]
  refine qS_ite (fun hjn => ?_) (fun hjn => ?_)
  · have r := h.2.2.1 j (by omega)
    have hs : kHlp K lv q (j + 1) = if j ≠ q ∧ 0 < K (5 * q) ∧ K (5 * j) = K (5 * q) ∧ 0 < lv j then 1 else 0 := by
      rw [kHlp, if_neg (by omega)]
    have nxt : ¬ (j ≠ q ∧ 0 < K (5 * q) ∧ K (5 * j) = K (5 * q) ∧ 0 < lv j) → qS (fX1_isHelped_56 F kk (q : Int) (K (5 * q)) (j : Int) D1) (fun r => r = (kHlp K lv q (K 390).toNat, D1)) := by
      intro hc
      unfold fX1_isHelped_56
      exact qS_chk (by omega) (ih _ _ ⟨j + 1, by omega, by omega, by rw [hs, if_neg hc], rfl⟩ (by omega))
    refine qS_ite (fun e => nxt (by omega)) (fun e => ?_)
    refine qS_ite (fun e2 => nxt (by omega)) (fun e2 => ?_)
    refine qS_chk (by omega) ?_
    rw [show ((j : Int)).toNat = j by omega, r.1, hl j (by omega)]
    refine qS_ite (fun e3 => ?_) (fun e3 => nxt (by omega))
    refine qS_ite (fun e4 => ?_) (fun e4 => nxt (by omega))
    refine qS_ret ?_
    have := kHlp_up (d := (K 390).toNat - (j + 1)) (hs.trans (if_pos ⟨by omega, by omega, e3, e4⟩))
    rw [show j + 1 + ((K 390).toNat - (j + 1)) = (K 390).toNat by omega] at this
    rw [this]
  · have : j = (K 390).toNat := by omega
    subst this
    exact qS_ret (by rw [hz])
theorem pX1_hoursFor (h : qSt F D Z 1 K) (hG : zG F) (hZ : ∀ a, Z a → 126 ≤ a) {lv : Nat → Int} (hl : ∀ q : Nat, (q : Int) < K 390 → D 74 q = lv q) {q : Nat} (hq : (q : Int) < K 390) (hv : 0 ≤ lv q ∧ lv q ≤ 2) {day : Int} (hd : 0 ≤ day ∧ day ≤ 20) : qS (fX1_hoursFor F (q : Int) day D) (fun r => r.1 = dCost K lv q day ∧ zfr [49, 50, 51] D r.2) := by
  have h0 := h.1.1
  unfold fX1_hoursFor dCost
  refine qS_chk (by omega) ?_
  rw [show ((q : Int)).toNat = q by omega, hl q hq]
  refine qS_ite (fun e => ?_) (fun e => ?_)
  · rw [if_pos e]; exact qS_ret ⟨rfl, zfr.rfl' _ D⟩
  · rw [if_neg e]
    refine qS_chk (by omega) (qS_call (pX1_isHelped h hl hq) (fun r hr => ?_))
    subst hr
    dsimp only
    rcases kHlp_in K lv q (K 390).toNat with e1 | e1
    · rw [e1]
      refine qS_pos rfl ?_
      unfold fX1_hoursFor_38
      exact qS_id' (pX10_hoursOf h hG hZ hq (by omega) (by omega) (by omega))
    · rw [e1]
      refine qS_neg (by omega) ?_
      unfold fX1_hoursFor_38
      exact qS_id' (pX10_hoursOf h hG hZ hq (by omega) (by omega) (by omega))
theorem pX1_holdLessons (h : qSt F D Z 1 K) (hG : zG F) (hZ : ∀ a, Z a → 126 ≤ a) {S : dT} {M : Nat} (hS : cDS D S (K 390)) (hM : dOkM M S) (hMM : M ≤ 100000) {d : Nat} (hd : d < 20) : qS (fX1_holdLessons F (d : Int) D) (fun D' => cDS D' (dNight K d S).2.2 (K 390) ∧ D' 77 d = K 106 - (dNight K d S).1 ∧ (∀ k, k ≠ d → D' 77 k = D 77 k) ∧ D' 73 2 = D 73 2 ∧ zfr [49, 50, 51, 73, 74, 75, 77] D D') := by
  have h0 := h.1.1
  have h1 := h.1.2.2.2.1
  have ht := kTerms h.1
  unfold fX1_holdLessons
  refine qS_leti ?_
  have e76 : D 7 6 = K 106 := h.2.2.2.1 6 (by omega)
  rw [e76]
  refine qloop3 (fun v2 v3 v4 D1 => ∃ i : Nat, v4 = (i : Int) ∧ i ≤ (K 391).toNat ∧ v2 = (dLesN K (d : Int) S i).1 ∧ v3 = (dLesN K (d : Int) S i).2.1 ∧ cDS D1 (dLesN K (d : Int) S i).2.2 (K 390) ∧ D1 73 2 = D 73 2 ∧ zfr [49, 50, 51, 73, 74, 75] D D1) (fun _ _ v4 _ => (1000 - v4).toNat) ?_ ⟨0, rfl, by omega, rfl, rfl, hS, rfl, zfr.rfl' _ _⟩ (zfu_gt (by omega))
  intro kk v2 v3 v4 D1 ⟨i, ev, hi, e2, e3, c1, s1, f1⟩ ih
  have ok := dLesN_ok h.1 hM (day := (d : Int)) (by omega) i
  have q1 := h.zfr hZ f1 (by decide)
  subst ev
  have hnx : dLesN K (d : Int) S (i + 1) = dLes K (d : Int) i (dLesN K (d : Int) S i) := rfl
  obtain ⟨left, full, T⟩ : Int × Int × dT := dLesN K (d : Int) S i
  generalize hx : dLesN K (d : Int) S i = x at *
  obtain ⟨lft, ful, T⟩ := x
  dsimp only at e2 e3 c1 ok
  subst e2 e3
  unfold fX1_holdLessons_16
  rw [q1.2.2.2.2.1.1]
  refine qS_ite (fun hin => ?_) (fun hin => ?_)
  · refine qS_chk (by omega) ?_
    have r := q1.2.2.2.2.1.2 i (by omega)
    have o := h1.2 i (by omega)
    rw [show ((i : Int)).toNat = i by omega, r.1]
    have g132 : ∀ (l f : Int) (T' : dT) (D2 : zDa), dLes K (d : Int) i (v2, v3, T) = (l, f, T') → cDS D2 T' (K 390) → D2 73 2 = D 73 2 → zfr [49, 50, 51, 73, 74, 75] D D2 → qS (fX1_holdLessons_132 F kk (d : Int) l f (i : Int) D2) (fun D' => cDS D' (dNight K d S).2.2 (K 390) ∧ D' 77 d = K 106 - (dNight K d S).1 ∧ (∀ k, k ≠ d → D' 77 k = D 77 k) ∧ D' 73 2 = D 73 2 ∧ zfr [49, 50, 51, 73, 74, 75, 77] D D') := by
      intro l f T' D2 e c2 s2 f2
      unfold fX1_holdLessons_132
      refine qS_chk (by omega) (ih _ _ _ _ ⟨i + 1, by omega, by omega, by rw [hnx, e], by rw [hnx, e], by rw [hnx, e]; exact c2, s2, f2⟩ (by omega))
    refine qS_ite (fun ed => ?_) (fun ed => ?_)
    · refine qS_leti ?_
      rw [show D1 10 i = K (108 + 2 * i) from r.2]
      obtain ⟨q, hq⟩ : ∃ q : Nat, K (108 + 2 * i) = (q : Int) := ⟨(K (108 + 2 * i)).toNat, by omega⟩
      have hqn : (q : Int) < K 390 := by omega
      have hlv := ok.1.1 q
      have cq := c1.1 q hqn
      have dr : ∀ (cost : Int) (D2 : zDa), (v3 = 1 ∨ v2 < dCost K T.1 q (d : Int)) → zfr [49, 50, 51] D1 D2 → qS (fX1_holdLessons_86 F kk (d : Int) v2 (i : Int) (q : Int) cost 1 D2) (fun D' => cDS D' (dNight K d S).2.2 (K 390) ∧ D' 77 d = K 106 - (dNight K d S).1 ∧ (∀ k, k ≠ d → D' 77 k = D 77 k) ∧ D' 73 2 = D 73 2 ∧ zfr [49, 50, 51, 73, 74, 75, 77] D D') := by
        intro cost D2 hc f2
        have c2 : cDS D2 T (K 390) := c1.fr (f2 73 (by decide)) (f2 74 (by decide)) (f2 75 (by decide))
        have ee : dLes K (d : Int) i (v2, v3, T) = (v2, 1, dDrop T (d : Int)) := by
          unfold dLes
          rw [if_pos ed, hq, show ((q : Int)).toNat = q by omega, if_pos hc]
        unfold fX1_holdLessons_86
        refine qS_neg (by omega) ?_
        have b := ok.1.2.1
        unfold fX1_drop
        refine qS_bind ?_
        rw [c2.2.1]
        refine qS_chk (by omega) (qS_leti ?_)
        have e8 : (zwr D2 73 7 (T.2.2.1 + 1)) 73 8 = T.2.2.2.1 := by rw [zwr_off (by omega)]; exact c2.2.2.1
        refine qS_ite (fun h8 => ?_) (fun h8 => ?_)
        · rw [e8] at h8
          refine qS_leti (qS_ret (g132 _ _ _ _ ee ⟨fun p hp => ?_, ?_, ?_, ?_⟩ ?_ ?_))
          · rw [zwr_row (by omega), zwr_row (by omega), zwr_row (by omega), zwr_row (by omega)]; exact c2.1 p hp
          · rw [zwr_off (by omega), zwr_eq]; rfl
          · rw [zwr_eq]; show (d : Int) = if T.2.2.2.1 = -1 then (d : Int) else _; rw [if_pos h8]
          · rw [zwr_off (by omega), zwr_off (by omega)]; exact c2.2.2.2
          · rw [zwr_off (by omega), zwr_off (by omega), f2 73 (by decide)]; exact s1
          · exact ((f1.trans (f2.mono (by decide))).wr (by decide)).wr (by decide)
        · rw [e8] at h8
          refine qS_ret (g132 _ _ _ _ ee ⟨fun p hp => ?_, ?_, ?_, ?_⟩ ?_ ?_)
          · rw [zwr_row (by omega), zwr_row (by omega)]; exact c2.1 p hp
          · rw [zwr_eq]; rfl
          · rw [e8]; show _ = if T.2.2.2.1 = -1 then (d : Int) else _; rw [if_neg h8]
          · rw [zwr_off (by omega)]; exact c2.2.2.2
          · rw [zwr_off (by omega), f2 73 (by decide)]; exact s1
          · exact (f1.trans (f2.mono (by decide))).wr (by decide)
      rw [hq]
      rcases ok.2.2 with e3 | e3
      · refine qS_pos e3 ?_
        refine qS_call (pX1_hoursFor q1 hG hZ (fun p hp => (c1.1 p hp).1) hqn hlv.1 (by omega)) (fun r ⟨hr, f2⟩ => ?_)
        obtain ⟨cost, D2⟩ := r
        dsimp only at hr f2 ⊢
        subst hr
        have hci := dCost_in K T.1 q (d : Int)
        unfold fX1_holdLessons_69
        refine qS_pos e3 ?_
        refine qS_ite (fun hlt => ?_) (fun hlt => ?_)
        · unfold fX1_holdLessons_81
          exact dr _ D2 (Or.inr hlt) f2
        · have c2 : cDS D2 T (K 390) := c1.fr (f2 73 (by decide)) (f2 74 (by decide)) (f2 75 (by decide))
          have ee : dLes K (d : Int) i (v2, v3, T) = (v2 - dCost K T.1 q (d : Int), 0, dLearn T q (d : Int)) := by
            unfold dLes
            rw [if_pos ed, hq, show ((q : Int)).toNat = q by omega, if_neg (by dsimp only; omega)]
          have c2q := c2.1 q hqn
          unfold fX1_holdLessons_86
          refine qS_pos rfl (qS_chk (by omega) (qS_leti ?_))
          rw [show ((q : Int)).toNat = q by omega, c2q.1]
          refine qS_chk (by omega) ?_
          have em : fJ9_min_7cf53 F 2 (T.1 q + 1) D2 = some ((if T.1 q = 2 then 2 else T.1 q + 1), D2) := by
            unfold fJ9_min_7cf53
            by_cases h2 : T.1 q = 2
            · rw [if_neg (by omega), if_pos h2]
            · rw [if_neg h2]
              by_cases h3 : T.1 q = 1
              · rw [if_neg (by omega), h3]; rfl
              · rw [if_pos (by omega)]
          refine qS_step em (qS_leti (qS_leti (g132 _ _ _ _ ee ⟨fun p hp => ?_, ?_, ?_, ?_⟩ ?_ ?_)))
          · unfold dLearn
            dsimp only
            by_cases e : p = q
            · subst e
              rw [zwr_row (by omega), zwr_eq, zwr_eq, zset_eq, zset_eq]; exact ⟨rfl, rfl⟩
            · rw [zwr_row (by omega), zwr_off (by omega), zwr_off (by omega), zwr_row (by omega), zset_off e, zset_off e]; exact c2.1 p hp
          · rw [zwr_row (by omega), zwr_row (by omega)]; exact c2.2.1
          · rw [zwr_row (by omega), zwr_row (by omega)]; exact c2.2.2.1
          · rw [zwr_row (by omega), zwr_row (by omega)]; exact c2.2.2.2
          · rw [zwr_row (by omega), zwr_row (by omega), f2 73 (by decide)]; exact s1
          · exact ((f1.trans (f2.mono (by decide))).wr (by decide)).wr (by decide)
      · refine qS_neg (by omega) ?_
        unfold fX1_holdLessons_69
        refine qS_neg (by omega) ?_
        unfold fX1_holdLessons_81
        exact dr _ D1 (Or.inl e3) (zfr.rfl' _ _)
    · exact g132 _ _ _ _ (by unfold dLes; rw [if_neg ed]) c1 s1 f1
  · have : i = (K 391).toNat := by omega
    subst this
    rw [q1.2.2.2.1 6 (by omega)]
    have hb := ok.2.1
    have hN : dNight K d S = (v2, v3, T) := hx
    refine qS_chk (by show (-2147483648 ≤ K 106 - v2 ∧ K 106 - v2 ≤ 2147483647) ∧ _; omega) (qS_leti (qS_ret ⟨?_, ?_, fun k hk => ?_, ?_, ?_⟩))
    · rw [hN]; exact c1.fr (zwr_row (by omega)) (zwr_row (by omega)) (zwr_row (by omega))
    · rw [hN, show ((d : Int)).toNat = d by omega, zwr_eq]
    · rw [show ((d : Int)).toNat = d by omega, zwr_off (by omega), f1 77 (by decide)]
    · rw [zwr_row (by omega)]; exact s1
    · exact (f1.mono (by decide)).wr (by decide)
end DI
