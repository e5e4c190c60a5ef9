/-! ===== the planner's hours, with a row that may grow ===== -/
theorem qloopM1 {β : Type} {step : (Int → zFs → zDa → Nat → Nat → Option β) → Int → zFs → zDa → Nat → Nat → Option β} {F : zFs} {n sl : Nat} (I : Int → zDa → Prop) (m : Int → zDa → Nat) {P : β → Prop}
    (hs : ∀ (k : Int → zFs → zDa → Nat → Nat → Option β) (v0 : Int) (D : zDa), I v0 D → (∀ (u0 : Int) (D' : zDa), I u0 D' → m u0 D' < m v0 D → qS (k u0 F D' n sl) P) → qS (step k v0 F D n sl) P)
    {N : Nat} {v0 : Int} {D : zDa} (hI : I v0 D) (hm : m v0 D < N) : qS (zfix (fun _ _ _ _ _ => none) step N v0 F D n sl) P := by
  have h := zfix_ind (bot := fun (_ : Int) (_ : zFs) (_ : zDa) (_ : Nat) (_ : Nat) => (none : Option β)) (step := step) (fun j k => ∀ (v0 : Int) (D : zDa), I v0 D → m v0 D < j → qS (k v0 F D n sl) P)
    (fun _ _ _ h => absurd h (Nat.not_lt_zero _))
    (fun j k ih v0 D hI hm => hs k v0 D hI (fun u0 D' hI' hlt => ih u0 D' hI' (by omega)))
  exact h N v0 D hI hm
theorem qloopM2 {β : Type} {step : (Int → Int → zFs → zDa → Nat → Nat → Option β) → Int → Int → zFs → zDa → Nat → Nat → Option β} {F : zFs} {n sl : Nat} (I : Int → Int → zDa → Prop) (m : Int → Int → zDa → Nat) {P : β → Prop}
    (hs : ∀ (k : Int → Int → zFs → zDa → Nat → Nat → Option β) (v0 v1 : Int) (D : zDa), I v0 v1 D → (∀ (u0 u1 : Int) (D' : zDa), I u0 u1 D' → m u0 u1 D' < m v0 v1 D → qS (k u0 u1 F D' n sl) P) → qS (step k v0 v1 F D n sl) P)
    {N : Nat} {v0 v1 : Int} {D : zDa} (hI : I v0 v1 D) (hm : m v0 v1 D < N) : qS (zfix (fun _ _ _ _ _ _ => none) step N v0 v1 F D n sl) P := by
  have h := zfix_ind (bot := fun (_ : Int) (_ : Int) (_ : zFs) (_ : zDa) (_ : Nat) (_ : Nat) => (none : Option β)) (step := step) (fun j k => ∀ (v0 v1 : Int) (D : zDa), I v0 v1 D → m v0 v1 D < j → qS (k v0 v1 F D n sl) P)
    (fun _ _ _ _ h => absurd h (Nat.not_lt_zero _))
    (fun j k ih v0 v1 D hI hm => hs k v0 v1 D hI (fun u0 u1 D' hI' hlt => ih u0 u1 D' hI' (by omega)))
  exact h N v0 v1 D hI hm
/-- the row that grows, behind a call -/
def cGrow (F : zFs) (n sl r : Nat) (F' : zFs) (n' sl' r' : Nat) : Prop :=
  (F' = F ∧ n' = n ∧ sl' = sl ∧ r' = r) ∨ (r' = n ∧ n' = n + 1 ∧ ∃ sz, F' = znew F n (20, sz, fun _ => 0) ∧ sl' = sl + sz ∧ 2 * (F r).2.1 ≤ sz ∧ sz ≤ 160000)
/-- what the planner's row of hours holds -/
def cHr (F : zFs) (D : zDa) (K : Nat → Int) (N : Nat) (bq : Nat → Nat) (r : Nat) : Prop :=
  kBqs K N bq ∧ cSh D K N bq ∧ D 60 11 = (r : Int) ∧ oF N (D 64) (N + 1) ≤ (F r).2.1 ∧ ∀ i, i ≤ N → cFw (D r) K N bq (D 63) (D 64) i
section FH
variable {F : zFs} {D : zDa} {Z : Nat → Prop} {K : Nat → Int} {r n sl : Nat}
theorem cFw.cg {A A' : Nat → Int} {N : Nat} {bq : Nat → Nat} {kb b : Nat → Int} {i : Nat} (h : cFw A K N bq kb b i) (e : ∀ y, oF N b i ≤ y → y < oF N b (i + 1) → A' y = A y) : cFw A' K N bq kb b i := by
  intro c hc s t ht hs
  have p := tri_in hs ht
  have := cell_lt hc p
  rw [e _ (by omega) (by rw [oF_s]; omega)]
  exact h c hc s t ht hs
theorem fH_139 {N : Nat} {bq : Nat → Nat} (hk : kOk K) (hB : kBqs K N bq) (h : cSh D K N bq) (h11 : D 60 11 = (r : Int)) (hr2 : r = 66 ∨ 126 ≤ r) (hF : (F r).1 = 20) (hl : oF N (D 64) (N + 1) ≤ (F r).2.1) (hlen : (F r).2.1 ≤ 1000000) :
    qS (fX4_fillHours_139 F D n sl) (fun M => ∃ D', M = (F, D', n, sl) ∧ cHr F D' K N bq r ∧ zfr [r] D D') := by
  have hN := h.1
  unfold fX4_fillHours_139
  refine qS_leti ?_
  rw [h.2.1]
  refine qloopM1 (fun v D1 => ∃ m : Nat, v = (m : Int) - 1 ∧ m ≤ N + 1 ∧ (∀ i, m ≤ i → i ≤ N → cFw (D1 r) K N bq (D 63) (D 64) i) ∧ zfr [r] D D1) (fun v _ => (v + 1).toNat) ?_ ⟨N + 1, by omega, by omega, fun i h1 h2 => absurd h2 (by omega), zfr.rfl' _ _⟩ (zfu_gt (by omega))
  intro k v D1 ⟨m, ev, hm, a1, f1⟩ ih
  subst ev
  have g : ∀ a, a ≠ r → D1 a = D a := fun a ha => f1 a (by simpa using ha)
  have sh1 : cSh D1 K N bq := h.fr (by rw [g 60 (by omega)]) (g 61 (by omega)) (g 62 (by omega)) (g 63 (by omega)) (g 64 (by omega)) (g 65 (by omega))
  have e64 : D1 64 = D 64 := g 64 (by omega)
  have e63 : D1 63 = D 63 := g 63 (by omega)
  have e11 : D1 60 11 = (r : Int) := by rw [g 60 (by omega)]; exact h11
  unfold fX4_fillHours_144
  refine qS_ite (fun hlt => ?_) (fun hlt => ?_)
  · refine qS_ret ⟨D1, rfl, ⟨hB, sh1, e11, by rw [e64]; exact hl, fun i hi => ?_⟩, f1⟩
    rw [e63, e64]
    exact a1 i (by omega) hi
  · rw [show (m : Int) - 1 = ((m - 1 : Nat) : Int) by omega]
    refine qS_call (pX4_fillFrom (F := F) hk sh1 (r := r) (i := m - 1) e11 (by omega) hr2 hF (by rw [e64]; exact hl) hlen (by omega) (fun hi => ?_)) (fun D2 ⟨c2, y2, f2⟩ => ?_)
    · rw [e63, e64, show m - 1 + 1 = m by omega]; exact a1 m (Nat.le_refl _) (by omega)
    · rw [e63, e64] at c2
      rw [e64] at y2
      refine qS_chk (by omega) (ih _ _ ⟨m - 1, by omega, by omega, fun i h1 h2 => ?_, f1.trans f2⟩ (by omega))
      by_cases e : i = m - 1
      · rw [e]; exact c2
      · refine (a1 i (by omega) h2).cg (fun y h3 h4 => y2 y (Or.inr ?_))
        have := oF_mono (N := N) (b := D 64) (i := m - 1 + 1) (j := i) (by omega)
        omega
theorem fH_73 {N : Nat} {bq : Nat → Nat} (hk : kOk K) (hB : kBqs K N bq) (hN : N ≤ 20) (h60 : D 60 5 = (N : Int)) (hq : cBq D K N bq) (nm : kNm (kSame K N bq) (fun j => K (5 * bq j)) N (D 63) (D 64))
    (h11 : D 60 11 = (r : Int)) (hr2 : r = 66 ∨ 126 ≤ r) (hF : (F r).1 = 20) (hlen : (F r).2.1 ≤ 160000) (hrn : r < n) (hn : 126 ≤ n) (hn9 : n < 900000) :
    qS (zfix (fun _ _ _ _ _ _ => none) (fX4_fillHours_73) zfu 0 0 F D n sl) (fun M => ∃ F' D' n' sl' r', M = (F', D', n', sl') ∧ cGrow F n sl r F' n' sl' r' ∧ cHr F' D' K N bq r' ∧ (∀ k, k ≠ 11 → D' 60 k = D 60 k) ∧ zfr [60, 65, r, n] D D') := by
  refine qloopM2 (fun v1 v2 D1 => ∃ i : Nat, v2 = (i : Int) ∧ i ≤ N + 1 ∧ v1 = (oF N (D 64) i : Int) ∧ (∀ j, j < i → D1 65 j = (oF N (D 64) j : Int)) ∧ zfr [65] D D1) (fun _ v2 _ => (100 - v2).toNat) ?_ ⟨0, rfl, by omega, rfl, fun j hj => absurd hj (by omega), zfr.rfl' _ _⟩ (zfu_gt (by omega))
  intro k v1 v2 D1 ⟨i, e2, hi, e1, o1, f1⟩ ih
  subst e2 e1
  have ole := oF_le (N := N) (b := D 64) hN i hi (fun j hj => (nm.b4 (by omega)).2)
  unfold fX4_fillHours_73
  have n1 : D1 60 5 = (N : Int) := by rw [f1 60 (by decide)]; exact h60
  rw [n1]
  refine qS_ite (fun hlt => ?_) (fun hlt => ?_)
  · have : i = N + 1 := by omega
    subst this
    have sh1 : cSh D1 K N bq := by
      refine ⟨hN, n1, ?_, ?_, fun j hj => ?_⟩
      · unfold cBq cPi; rw [f1 61 (by decide), f1 62 (by decide)]; exact hq
      · rw [f1 63 (by decide), f1 64 (by decide)]; exact nm
      · rw [f1 64 (by decide)]; exact o1 j (by omega)
    have e11 : D1 60 11 = (r : Int) := by rw [f1 60 (by decide)]; exact h11
    have e64 : D1 64 = D 64 := f1 64 (by decide)
    rw [e11, show ((r : Int)).toNat = r by omega]
    refine qS_chk ⟨by omega, hF⟩ ?_
    refine qS_ite (fun hg => ?_) (fun hg => ?_)
    · refine qS_chk (by omega) ?_
      obtain ⟨sz, hsz, hs1, hs2, hs3⟩ : ∃ sz : Nat, fJ9_max_7cf53 F (oF N (D 64) (N + 1) : Int) (2 * ((F r).2.1 : Int)) D1 = some ((sz : Int), D1) ∧ oF N (D 64) (N + 1) ≤ sz ∧ 2 * (F r).2.1 ≤ sz ∧ sz ≤ 160000 := by
        unfold fJ9_max_7cf53
        by_cases e : (oF N (D 64) (N + 1) : Int) < 2 * ((F r).2.1 : Int)
        · rw [if_pos e]
          exact ⟨2 * (F r).2.1, by congr 2, by omega, by omega, by omega⟩
        · rw [if_neg e]
          exact ⟨oF N (D 64) (N + 1), rfl, by omega, by omega, by omega⟩
      refine qS_step hsz (qS_chk (by omega) (qS_leti ?_))
      rw [show ((sz : Int)).toNat = sz by omega]
      have g : ∀ a, a ≠ 60 → a ≠ n → (zwr (zrow D1 n (fun _ => 0)) 60 11 ((n : Nat) : Int)) a = D1 a := fun a h1 h2 => by rw [zwr_row h1, zrow_row h2]
      have g60 : ∀ k, k ≠ 11 → (zwr (zrow D1 n (fun _ => 0)) 60 11 ((n : Nat) : Int)) 60 k = D1 60 k := fun k hk => by rw [zwr_off (Or.inr hk), zrow_row (by omega)]
      have g11 : (zwr (zrow D1 n (fun _ => 0)) 60 11 ((n : Nat) : Int)) 60 11 = (n : Int) := zwr_eq
      have f2 : zfr [60, 65, r, n] D (zwr (zrow D1 n (fun _ => 0)) 60 11 ((n : Nat) : Int)) := ((f1.mono (by simp)).row (by simp)).wr (by simp)
      generalize zwr (zrow D1 n (fun _ => 0)) 60 11 ((n : Nat) : Int) = D2 at *
      have sh2 : cSh D2 K N bq := sh1.fr (g60 5 (by omega)) (g 61 (by omega) (by omega)) (g 62 (by omega) (by omega)) (g 63 (by omega) (by omega)) (g 64 (by omega) (by omega)) (g 65 (by omega) (by omega))
      have e642 : D2 64 = D 64 := by rw [g 64 (by omega) (by omega)]; exact e64
      refine qS_mono (fH_139 (F := znew F n (20, sz, fun _ => 0)) (r := n) hk hB sh2 g11 (Or.inr hn) (by rw [znew_self]) (by rw [znew_self, e642]; exact hs1) (by rw [znew_self]; show sz ≤ 1000000; omega)) (fun M ⟨D3, eM, h3, f3⟩ => ?_)
      refine ⟨_, D3, n + 1, sl + sz, n, eM, Or.inr ⟨rfl, rfl, sz, rfl, rfl, hs2, hs3⟩, h3, fun k hk => ?_, f2.trans (f3.mono (by simp))⟩
      rw [f3 60 (by simp; omega), g60 k hk, f1 60 (by decide)]
    · refine qS_mono (fH_139 (F := F) (r := r) hk hB sh1 e11 hr2 hF (by rw [e64]; omega) (by omega)) (fun M ⟨D3, eM, h3, f3⟩ => ?_)
      refine ⟨F, D3, n, sl, r, eM, Or.inl ⟨rfl, rfl, rfl, rfl⟩, h3, fun k hk => ?_, (f1.mono (by simp)).trans (f3.mono (by simp))⟩
      rw [f3 60 (by simp; omega), f1 60 (by decide)]
  · have hiN : i ≤ N := by omega
    have b4 := nm.b4 (j := i) hiN
    have bp := pow4 b4
    refine qS_chk (by omega) (qS_leti ?_)
    have n2 : (zwr D1 65 ((i : Int)).toNat (oF N (D 64) i : Int)) 60 5 = (N : Int) := by rw [zwr_row (by omega)]; exact n1
    have e64 : (zwr D1 65 ((i : Int)).toNat (oF N (D 64) i : Int)) 64 = D 64 := by rw [zwr_row (by omega)]; exact f1 64 (by decide)
    rw [n2]
    refine qS_chk (by omega) ?_
    rw [show (N : Int) - (i : Int) = ((N - i : Nat) : Int) by omega]
    refine qS_step (pX4_pairs (by omega)) ?_
    have t : tri (N - i + 1) ≤ 231 := tri_le (t := 21) (by omega)
    have tm := Nat.mul_le_mul t bp
    have es := zshl_nat (a := tri (N - i + 1)) (k := (D 64 i).toNat) (by omega) (by omega)
    rw [show (((D 64 i).toNat : Nat) : Int) = D 64 i by omega] at es
    have e64' : (zwr D1 65 ((i : Int)).toNat (oF N (D 64) i : Int)) 64 ((i : Int)).toNat = D 64 i := by rw [e64, show ((i : Int)).toNat = i by omega]
    dsimp only
    rw [e64', es]
    refine qS_chk (by omega) (qS_leti (qS_chk (by omega) (ih _ _ _ ⟨i + 1, by omega, by omega, by rw [oF_s]; omega, fun j hj => ?_, f1.wr (by decide)⟩ (by omega))))
    rw [show ((i : Int)).toNat = i by omega, zwr_at]
    by_cases e : j = i
    · rw [if_pos e, e]
    · rw [if_neg e]; exact o1 j (by omega)
theorem pX4_fillHours (h : qSt F D Z 1 K) (hG : zG F) (hZ : ∀ a, Z a → 126 ≤ a) (h11 : D 60 11 = (r : Int)) (hr2 : r = 66 ∨ 126 ≤ r) (hF : (F r).1 = 20) (hlen : (F r).2.1 ≤ 160000) (hrn : r < n) (hn : 126 ≤ n) (hn9 : n < 900000) :
    qS (fX4_fillHours F D n sl) (fun M => ∃ F' D' n' sl' r' N bq, M = (F', D', n', sl') ∧ cGrow F n sl r F' n' sl' r' ∧ cHr F' D' K N bq r' ∧ (∀ k, k ≠ 5 → k ≠ 11 → D' 60 k = D 60 k) ∧ zfr [49, 50, 51, 60, 61, 62, 63, 64, 65, r, n] D D') := by
  have hk := h.1
  have h0 := hk.1
  unfold fX4_fillHours
  refine qS_leti ?_
  refine qloopM1 (fun v D1 => ∃ q : Nat, v = (q : Int) ∧ q ≤ (K 390).toNat ∧ D1 60 5 = kBowlN K q ∧ (∀ i : Nat, (i : Int) < kBowlN K q → ∃ x : Nat, x < q ∧ K (5 * x + 4) = 0 ∧ kBowlN K x = (i : Int) ∧ D1 61 i = (x : Int) ∧ cPi D1 K i x) ∧ (∀ k, k ≠ 5 → D1 60 k = D 60 k) ∧ zfr [49, 50, 51, 60, 61, 62] D D1) (fun v _ => (100 - v).toNat) ?_ ⟨0, rfl, by omega, zwr_eq, fun i hi => absurd hi (by show ¬ (i : Int) < 0; omega), fun k hk => zwr_off (Or.inr hk), (zfr.rfl' _ _).wr (by decide)⟩ (zfu_gt (by omega))
  intro k7 v D1 ⟨q, ev, hq, s1, b1, k1, f1⟩ ih
  subst ev
  have q1 := h.zfr hZ f1 (by decide)
  have bn := kBowlN_in K q
  unfold fX4_fillHours_7
  rw [q1.2.1]
  refine qS_ite (fun hlt => ?_) (fun hlt => ?_)
  · have hqn : (q : Int) < K 390 := hlt
    refine qS_chk (by omega) ?_
    rw [show ((q : Int)).toNat = q by omega, (q1.2.2.1 q hqn).2.2.2.2]
    refine qS_ite (fun ho => ?_) (fun ho => ?_)
    · rw [s1]
      refine qS_chk (by omega) (qS_leti ?_)
      have s2 : (zwr D1 61 (kBowlN K q).toNat (q : Int)) 60 5 = kBowlN K q := by rw [zwr_row (by omega)]; exact s1
      rw [s2]
      have f2 : zfr [49, 50, 51, 60, 61, 62] D (zwr D1 61 (kBowlN K q).toNat (q : Int)) := f1.wr (by decide)
      have e61 : ∀ j, (zwr D1 61 (kBowlN K q).toNat (q : Int)) 61 j = if j = (kBowlN K q).toNat then (q : Int) else D1 61 j := fun j => zwr_at
      have e62 : (zwr D1 61 (kBowlN K q).toNat (q : Int)) 62 = D1 62 := zwr_row (by omega)
      have e60 : (zwr D1 61 (kBowlN K q).toNat (q : Int)) 60 = D1 60 := zwr_row (by omega)
      generalize zwr D1 61 (kBowlN K q).toNat (q : Int) = D2 at *
      obtain ⟨p, hp⟩ : ∃ p : Nat, kBowlN K q = (p : Int) := ⟨(kBowlN K q).toNat, by omega⟩
      rw [hp] at s1 b1 s2 e61 ⊢
      rw [show ((p : Int)).toNat = p by omega] at e61
      refine qS_call (pX4_price (h.zfr hZ f2 (by decide)) hG hZ (i := p) (q := q) (by omega) hqn) (fun D3 ⟨p3, n3, f3⟩ => ?_)
      have s3 : D3 60 5 = (p : Int) := by rw [f3 60 (by decide)]; exact s2
      rw [s3]
      refine qS_chk (by omega) (qS_leti ?_)
      unfold fX4_fillHours_59
      refine qS_chk (by omega) (ih _ _ ⟨q + 1, by omega, by omega, by rw [zwr_eq, kBowlN_s, if_pos ho, hp], fun i hi => ?_, fun k hk => ?_, (f2.trans (f3.mono (by decide))).wr (by decide)⟩ (by omega))
      · rw [kBowlN_s, if_pos ho, hp] at hi
        unfold cPi
        rw [zwr_row (b := 61) (by omega), zwr_row (b := 62) (by omega)]
        by_cases e : i = p
        · subst e
          refine ⟨q, by omega, ho, hp, ?_, p3⟩
          rw [f3 61 (by decide), e61, if_pos rfl]
        · obtain ⟨x, x1, x2, x3, x4, x5⟩ := b1 i (by omega)
          refine ⟨x, by omega, x2, x3, ?_, fun e' he => ?_⟩
          · rw [f3 61 (by decide), e61, if_neg e]; exact x4
          · have := x5 e' he
            rw [n3 _ (by omega), n3 _ (by omega), e62]
            exact this
      · rw [zwr_off (Or.inr hk), f3 60 (by decide), e60]; exact k1 k hk
    · unfold fX4_fillHours_59
      have eb : kBowlN K (q + 1) = kBowlN K q := by rw [kBowlN_s, if_neg ho, Int.add_zero]
      refine qS_chk (by omega) (ih _ _ ⟨q + 1, by omega, by omega, by rw [eb]; exact s1, fun i hi => ?_, k1, f1⟩ (by omega))
      rw [eb] at hi
      obtain ⟨x, x1, x2⟩ := b1 i hi
      exact ⟨x, by omega, x2⟩
  · have : q = (K 390).toNat := by omega
    subst this
    obtain ⟨N, hN⟩ : ∃ N : Nat, kBowlN K (K 390).toNat = (N : Int) := ⟨(kBowlN K (K 390).toNat).toNat, by omega⟩
    rw [hN] at s1 b1
    have hB : kBqs K N (fun i => (D1 61 i).toNat) := by
      refine ⟨hN, fun i hi => ?_⟩
      obtain ⟨x, x1, x2, x3, x4, x5⟩ := b1 i (by omega)
      have : (D1 61 i).toNat = x := by omega
      dsimp only
      rw [this]; exact ⟨x1, x2, x3⟩
    have hq : cBq D1 K N (fun i => (D1 61 i).toNat) := by
      intro i hi
      obtain ⟨x, x1, x2, x3, x4, x5⟩ := b1 i (by omega)
      have : (D1 61 i).toNat = x := by omega
      dsimp only
      rw [this]; exact ⟨x4, by omega, x5⟩
    refine qS_call (pX4_nameKings q1 hZ (by omega) s1 hq) (fun D2 ⟨nm, f2⟩ => ?_)
    have e60 : D2 60 = D1 60 := f2 60 (by decide)
    refine qS_mono (fH_73 (F := F) (r := r) (n := n) (sl := sl) hk hB (by omega) (by rw [e60]; exact s1) (by unfold cBq cPi; rw [f2 61 (by decide), f2 62 (by decide)]; exact hq) nm (by rw [e60, k1 11 (by omega)]; exact h11) hr2 hF hlen hrn hn hn9) (fun M ⟨F', D', n', sl', r', eM, g1, g2, g3, g4⟩ => ?_)
    refine ⟨F', D', n', sl', r', N, _, eM, g1, g2, fun k h5 h11 => ?_, ((f1.mono (by simp)).trans (f2.mono (by simp))).trans (g4.mono (by simp))⟩
    rw [g3 k h11, e60]; exact k1 k h5
end FH
