theorem zfm.ofr {as bs ks : List Nat} {D D' : zDa} (h : zfr as D D') (h9 : 91 ∉ as) (hs : ∀ a ∈ as, a ∈ bs) : zfm bs ks D D' :=
  ⟨fun a _ ha => h a (fun h' => ha (hs a h')), fun k _ => by rw [h 91 h9]⟩
section OD
variable {F : zFs} {D : zDa}
theorem rCh.frm {D D' : zDa} {ch : Nat → Int} {as ks : List Nat} (h : rCh D ch) (f : zfm as ks D D') (h1 : 103 ∉ as) : rCh D' ch := h.fr (f.1 103 (by decide) h1)
theorem rO_244 {ch : Nat → Int} {B Q : Nat → Nat} {L R N lean : Nat} {Dz : zDa} (hc : rCh D ch) (hB : B 0 + B 1 + B 2 ≤ 20) (hQ : ∀ lv, lv < 3 → Q lv ≤ B lv) (h104 : ∀ lv, lv < 3 → D 104 lv = (B lv : Int)) (h105 : ∀ lv, lv < 3 → D 105 lv = (Q lv : Int)) (h28 : D 91 28 = (L : Int)) (h29 : D 91 29 = (R : Int)) (hR : R ≤ 3) (hRL : R ≤ L) (hL : 1 ≤ L ∧ L ≤ 10) (hN : N ≤ 20) (hn : lean ≤ 100) {lk : Nat} (hk : lk ≤ 20)
    (h108 : ∀ m, m < 4 → D 108 m = kMix lean N lk L Q (kXo ch B R L m) 0) (fz : zfm [104, 106, 107, 108] [28, 29, 30] Dz D) :
    qS (zfix (fun _ _ => none) (fX12_odds_244 F (lean : Int) (N : Int)) zfu 0 D) (fun D' => (∀ m, m < 4 → D' 108 m = kMix lean N lk L Q (kXo ch B R L m) 3) ∧ (∀ lv, lv < 3 → D' 104 lv = (B lv : Int)) ∧ D' 91 = D 91 ∧ zfm [104, 106, 107, 108] [28, 29, 30] Dz D') := by
  have hh : ∀ lv, lv < 3 → 0 ≤ ch lv ∧ ch lv ≤ 100 := fun lv h => (hc lv h).2
  have q0 := hQ 0 (by omega)
  have q1 := hQ 1 (by omega)
  have q2 := hQ 2 (by omega)
  have hQ20 : ∀ l, l < 3 → Q l ≤ 20 := fun l hl => by rcases (by omega : l = 0 ∨ l = 1 ∨ l = 2) with rfl | rfl | rfl <;> omega
  have p := p100 hR
  have xin : ∀ m, m < 4 → ∀ lev : Int, lev = -1 ∨ (0 ≤ lev ∧ lev < 3) → 0 ≤ kXo ch B R L m lev ∧ kXo ch B R L m lev ≤ 184756000000 := fun m hm lev _ => by
    have := kXo_in (L := L) hB hh hR hL.2 hm lev
    omega
  refine qloop1 (fun v D4 => ∃ j : Nat, v = (j : Int) ∧ j ≤ 3 ∧ (∀ m, m < 4 → D4 108 m = kMix lean N lk L Q (kXo ch B R L m) j) ∧ (∀ lv, lv < 3 → D4 104 lv = (B lv : Int)) ∧ zfr [104, 106, 107, 108] D D4) (fun v _ => (10 - v).toNat) ?_ ⟨0, rfl, by omega, h108, h104, zfr.rfl' _ D⟩ (zfu_gt (by omega))
  intro kk v D4 ⟨j, ev, hj, h4, b4, f4⟩ ih
  subst ev
  unfold fX12_odds_244
  refine qS_ite (fun hj3 => ?_) (fun hj3 => ?_)
  · refine qS_chk (by omega) ?_
    rw [show ((j : Int)).toNat = j by omega, f4 105 (by decide), h105 j (by omega)]
    have hqj := hQ20 j (by omega)
    have hqb := hQ j (by omega)
    refine qS_ite (fun hq => ?_) (fun hq => ?_)
    · unfold fX12_odds_311
      refine qS_chk (by omega) (ih _ _ ⟨j + 1, by omega, by omega, fun m hm => ?_, b4, f4⟩ (by omega))
      rw [h4 m hm, kMix_s, show Q j = 0 by omega]; simp
    · have bj := b4 j (by omega)
      have hbj : B j ≤ 20 := by rcases (by omega : j = 0 ∨ j = 1 ∨ j = 2) with rfl | rfl | rfl <;> omega
      rw [bj]
      refine qS_chk (by omega) (qS_leti ?_)
      have f5 : zfr [104, 106, 107, 108] D (zwr D4 104 j ((B j : Int) - 1)) := f4.wr (by decide)
      have r5 : ∀ lv, lv < 3 → (zwr D4 104 j ((B j : Int) - 1)) 104 lv = ((B lv - eOf (j : Int) lv : Nat) : Int) := fun lv hl => by
        rw [zwr_at]
        unfold eOf
        by_cases h : lv = j
        · subst h; rw [if_pos rfl, if_pos rfl]; omega
        · rw [if_neg h, if_neg (by omega), b4 lv hl]; omega
      have s5 : (zwr D4 104 j ((B j : Int) - 1)) 108 = D4 108 := zwr_row (by omega)
      generalize zwr D4 104 j ((B j : Int) - 1) = D5 at *
      rw [f5 91 (by decide), f5 105 (by decide), h105 j (by omega), h28]
      have b1 := mul3b (a := (lean : Int)) (b := (Q j : Int)) (c := (N : Int)) (A := 100) (B := 20) (C := 20) (by omega) (by omega) (by omega)
      refine qS_chk (by omega) ?_
      rw [show (L : Int) - 1 = ((L - 1 : Nat) : Int) by omega]
      refine qS_call (pX12_lots (ch := ch) (B := fun lv => B lv - eOf (j : Int) lv) (R := R) (lev := (j : Int)) (acc := fun m => kMix lean N lk L Q (kXo ch B R L m) j) (hc.fr (f5 103 (by decide))) r5 (by omega) (by rw [f5 91 (by decide)]; exact h29) hR (by omega) (Or.inr (by omega)) (by rw [if_neg (by omega)]; omega) (by omega) (fun m hm => ?_)) ?_
      · have := kMix_in (lean := lean) (N := N) (lk := lk) (L := L) (Q := Q) (j := j) hn hN hk hL.2 hQ20 (xin m hm) hj
        exact ⟨by rw [s5]; exact h4 m hm, this.1, by omega⟩
      intro D6 ⟨h6, f6⟩
      have r6 := r5 j (by omega)
      rw [show eOf (j : Int) j = 1 from if_pos rfl] at r6
      rw [f6 104 (by decide), r6]
      refine qS_chk (by omega) (qS_leti ?_)
      unfold fX12_odds_311
      refine qS_chk (by omega) (ih _ _ ⟨j + 1, by omega, by omega, fun m hm => ?_, fun lv hl => ?_, (f5.trans (f6.mono (by decide))).wr (by decide)⟩ (by omega))
      · rw [zwr_row (by omega), h6 m hm, kMix_s]
        have : kXo ch B R L m (j : Int) = kLots ch (fun lv => B lv - eOf (j : Int) lv) (eOf (j : Int)) R (L - 1) m := by
          unfold kXo; rw [eOf_sum (by omega)]
        rw [this, Int.mul_right_comm (lean : Int) (Q j : Int)]
      · rw [zwr_at]
        by_cases h : lv = j
        · subst h; rw [if_pos rfl]; omega
        · rw [if_neg h, f6 104 (by decide), r5 lv hl]
          unfold eOf
          rw [if_neg (by omega)]; omega
  · have : j = 3 := by omega
    subst this
    exact qS_ret ⟨h4, b4, f4 91 (by decide), fz.trans (zfm.ofr f4 (by decide) (by decide))⟩
theorem pX12_odds {K : Nat → Int} {ch : Nat → Int} {B Q : Nat → Nat} {lie A lean : Nat} (hK : D 93 = K) (hc : rCh D ch) (h104 : ∀ lv, lv < 3 → D 104 lv = (B lv : Int)) (h105 : ∀ lv, lv < 3 → D 105 lv = (Q lv : Int)) (hB : B 0 + B 1 + B 2 ≤ 20) (hQ : ∀ lv, lv < 3 → Q lv ≤ B lv) (k0 : K 100 = (lie : Int)) (k1 : K 101 = (A : Int)) (hl : 1 ≤ lie ∧ lie ≤ 10) (hA : A ≤ 3) (hn : lean ≤ 100) :
    qS (fX12_odds F (lean : Int) D) (fun D' => (∀ m, m < 4 → D' 108 m = kOd ch B Q lie A lean m) ∧ D' 91 30 = (kWh B Q lie A lean : Int) ∧ (∀ lv, lv < 3 → D' 104 lv = (B lv : Int)) ∧ zfm [104, 106, 107, 108] [28, 29, 30] D D') := by
  have hh : ∀ lv, lv < 3 → 0 ≤ ch lv ∧ ch lv ≤ 100 := fun lv h => (hc lv h).2
  have q0 := hQ 0 (by omega)
  have q1 := hQ 1 (by omega)
  have q2 := hQ 2 (by omega)
  have e4 : D 104 0 + D 104 1 + D 104 2 = ((B 0 + B 1 + B 2 : Nat) : Int) := by rw [h104 0 (by omega), h104 1 (by omega), h104 2 (by omega)]; omega
  have e5 : D 105 0 + D 105 1 + D 105 2 = ((Q 0 + Q 1 + Q 2 : Nat) : Int) := by rw [h105 0 (by omega), h105 1 (by omega), h105 2 (by omega)]; omega
  unfold fX12_odds
  refine qS_chk (by rw [e4, h104 0 (by omega), h104 1 (by omega)]; omega) (qS_leti (qS_chk (by rw [e5, h105 0 (by omega), h105 1 (by omega)]; omega) (qS_leti ?_)))
  simp only [e4, e5]
  unfold kOd kWh
  have hlk : Q 0 + Q 1 + Q 2 ≤ B 0 + B 1 + B 2 := by omega
  generalize hN : B 0 + B 1 + B 2 = N at *
  generalize hKe : Q 0 + Q 1 + Q 2 = lk at *
  have hL : min lie N ≤ 10 := by omega
  have hLN : min lie N ≤ N := by omega
  have hR : min (min lie N) A ≤ 3 := by omega
  have hLi : min lie N = if lie < N then lie else N := by split <;> omega
  have hRi : min (min lie N) A = if A < min lie N then A else min lie N := by split <;> omega
  generalize hLe : min lie N = L at *
  generalize hRe : min L A = R at *
  have p := p100 hR
  have hcm := kC_max (n := N) (by omega) L
  have g179p : ∀ D3 : zDa, (∀ m, m < 4 → D3 108 m = 0) → D3 91 28 = (L : Int) → D3 91 29 = (R : Int) → D3 91 30 = ((kC N L * 100 ^ R : Nat) : Int) → zfm [108] [28, 29, 30] D D3 → qS (fX12_odds_179 F (lean : Int) (N : Int) (lk : Int) 0 D3) (fun D' => (∀ m, m < 4 → D' 108 m = kXo ch B R L m (-1)) ∧ D' 91 30 = ((kC N L * 100 ^ R : Nat) : Int) ∧ (∀ lv, lv < 3 → D' 104 lv = (B lv : Int)) ∧ zfm [104, 106, 107, 108] [28, 29, 30] D D') := by
    intro D3 z3 a28 a29 a30 f3
    unfold fX12_odds_179
    refine qS_pos rfl ?_
    rw [a28]
    refine qS_call (pX12_lots (ch := ch) (B := B) (R := R) (lev := -1) (acc := fun _ => 0) (hc.frm f3 (by decide)) (fun lv h => by rw [f3.1 104 (by decide) (by decide)]; exact h104 lv h) (by omega) a29 hR hL (Or.inl rfl) (by rw [if_pos rfl]; omega) (by omega) (fun m hm => ⟨z3 m hm, by omega, by omega⟩)) ?_
    intro D4 ⟨h4, f4⟩
    refine qS_ret ⟨fun m hm => ?_, by rw [f4 91 (by decide)]; exact a30, fun lv h => by rw [f4 104 (by decide), f3.1 104 (by decide) (by decide)]; exact h104 lv h, (f3.mono (by decide) (by decide)).trans (zfm.ofr f4 (by decide) (by decide))⟩
    rw [h4 m hm, kXo_n1, eOf_n1]; omega
  have g179l : 0 < lk → lie < N → ∀ D3 : zDa, (∀ m, m < 4 → D3 108 m = 0) → D3 91 28 = (L : Int) → D3 91 29 = (R : Int) → D3 91 30 = ((kC N L * 100 ^ R : Nat) : Int) → zfm [108] [28, 29, 30] D D3 → qS (fX12_odds_179 F (lean : Int) (N : Int) (lk : Int) 1 D3) (fun D' => (∀ m, m < 4 → D' 108 m = kMix lean N lk L Q (kXo ch B R L m) 3) ∧ D' 91 30 = ((kC N L * 100 ^ R * (100 * lk * L) : Nat) : Int) ∧ (∀ lv, lv < 3 → D' 104 lv = (B lv : Int)) ∧ zfm [104, 106, 107, 108] [28, 29, 30] D D') := by
    intro hlk0 hln D3 z3 a28 a29 a30 f3
    unfold fX12_odds_179
    refine qS_neg (by omega) ?_
    rw [a28, a30]
    have wb : ((kC N L * 100 ^ R : Nat) : Int) ≤ 184756000000 := by
      have := mul2b (a := ((kC N L : Nat) : Int)) (b := (100 : Int) ^ R) (A := 184756) (B := 1000000) (by omega) (by omega)
      rw [Int.natCast_mul, show ((100 ^ R : Nat) : Int) = (100 : Int) ^ R by exact_mod_cast rfl]; omega
    have we : ((kC N L * 100 ^ R * (100 * lk * L) : Nat) : Int) = ((kC N L * 100 ^ R : Nat) : Int) * 100 * (lk : Int) * (L : Int) := by
      rw [Int.natCast_mul, show ((100 * lk * L : Nat) : Int) = 100 * (lk : Int) * (L : Int) by simp, Int.mul_assoc, Int.mul_assoc, Int.mul_assoc]
    rw [we]
    have hW0 : (0 : Int) ≤ ((kC N L * 100 ^ R : Nat) : Int) := Int.natCast_nonneg _
    generalize ((kC N L * 100 ^ R : Nat) : Int) = W at *
    have t2 := mul3b (a := W * 100) (b := (lk : Int)) (c := (L : Int)) (A := 18475600000000) (B := 20) (C := 10) (by omega) (by omega) (by omega)
    refine qS_chk (by omega) (qS_leti ?_)
    have f4 : zfm [108] [28, 29, 30] D (zwr D3 91 30 (W * 100 * (lk : Int) * (L : Int))) := f3.wf (by decide)
    have b28 : (zwr D3 91 30 (W * 100 * (lk : Int) * (L : Int))) 91 28 = (L : Int) := by rw [zwr_off (by omega)]; exact a28
    have b29 : (zwr D3 91 30 (W * 100 * (lk : Int) * (L : Int))) 91 29 = (R : Int) := by rw [zwr_off (by omega)]; exact a29
    have b30 : (zwr D3 91 30 (W * 100 * (lk : Int) * (L : Int))) 91 30 = W * 100 * (lk : Int) * (L : Int) := zwr_eq
    have z4 : ∀ m, m < 4 → (zwr D3 91 30 (W * 100 * (lk : Int) * (L : Int))) 108 m = 0 := fun m hm => by rw [zwr_row (by omega)]; exact z3 m hm
    generalize zwr D3 91 30 (W * 100 * (lk : Int) * (L : Int)) = D4 at *
    rw [b28]
    have t1 := mul3b (a := 100 - (lean : Int)) (b := (lk : Int)) (c := (L : Int)) (A := 100) (B := 20) (C := 10) (by omega) (by omega) (by omega)
    refine qS_chk (by omega) ?_
    refine qS_call (pX12_lots (ch := ch) (B := B) (R := R) (lev := -1) (acc := fun _ => 0) (hc.frm f4 (by decide)) (fun lv h => by rw [f4.1 104 (by decide) (by decide)]; exact h104 lv h) (by omega) b29 hR hL (Or.inl rfl) (by rw [if_pos rfl]; omega) (by omega) (fun m hm => ⟨z4 m hm, by omega, by omega⟩)) ?_
    intro D5 ⟨h5, f5⟩
    have f45 : zfm [104, 106, 107, 108] [28, 29, 30] D D5 := (f4.mono (by decide) (by decide)).trans (zfm.ofr f5 (by decide) (by decide))
    refine qS_mono (rO_244 (ch := ch) (B := B) (Q := Q) (L := L) (R := R) (N := N) (lean := lean) (lk := lk) (Dz := D) (hc.frm f45 (by decide)) (by omega) hQ (fun lv h => by rw [f5 104 (by decide), f4.1 104 (by decide) (by decide)]; exact h104 lv h) (fun lv h => by rw [f45.1 105 (by decide) (by decide)]; exact h105 lv h) (by rw [f5 91 (by decide)]; exact b28) (by rw [f5 91 (by decide)]; exact b29) hR (by omega) (by omega) (by omega) hn (by omega) (fun m hm => ?_) f45) ?_
    · rw [h5 m hm]
      unfold kMix
      rw [kXo_n1, eOf_n1]
      show 0 + _ = _ + (0 : Int)
      rw [Int.zero_add, Int.add_zero]
    · intro D6 ⟨h6, h7, h8, h9⟩
      exact ⟨h6, by rw [h8, f5 91 (by decide)]; exact b30, h7, h9⟩
  have g89 : ∀ D1 : zDa, D1 91 28 = (L : Int) → zfm [108] [28, 29, 30] D D1 → qS (fX12_odds_89 F (lean : Int) (N : Int) (lk : Int) (R : Int) D1) (fun D' => (∀ m, m < 4 → D' 108 m = if 0 < lean ∧ 0 < lk ∧ lie < N then kMix lean N lk L Q (kXo ch B R L m) 3 else kXo ch B R L m (-1)) ∧ D' 91 30 = (((if 0 < lean ∧ 0 < lk ∧ lie < N then kC N L * 100 ^ R * (100 * lk * L) else kC N L * 100 ^ R) : Nat) : Int) ∧ (∀ lv, lv < 3 → D' 104 lv = (B lv : Int)) ∧ zfm [104, 106, 107, 108] [28, 29, 30] D D') := by
    intro D1 a28 f1
    unfold fX12_odds_89
    refine qS_leti ?_
    refine qloop1 (fun v D4 => ∃ j : Nat, v = (j : Int) ∧ j ≤ 4 ∧ (∀ m, m < j → D4 108 m = 0) ∧ D4 91 28 = (L : Int) ∧ D4 91 29 = (R : Int) ∧ zfm [108] [28, 29, 30] D D4) (fun v _ => (10 - v).toNat) ?_ ⟨0, rfl, by omega, fun m hm => absurd hm (by omega), by rw [zwr_off (by omega)]; exact a28, zwr_eq, f1.wf (by decide)⟩ (zfu_gt (by omega))
    intro kk v D4 ⟨j, ev, hj, z4, b28, b29, f4⟩ ih
    subst ev
    unfold fX12_odds_95
    refine qS_ite (fun hj4 => ?_) (fun hj4 => ?_)
    · refine qS_chk (by omega) (qS_leti (qS_chk (by omega) (ih _ _ ⟨j + 1, by omega, by omega, fun m hm => ?_, by rw [zwr_row (by omega)]; exact b28, by rw [zwr_row (by omega)]; exact b29, f4.wr (by decide) (by decide)⟩ (by omega))))
      rw [show ((j : Int)).toNat = j by omega, zwr_at]
      by_cases h : m = j
      · rw [if_pos h]
      · rw [if_neg h]; exact z4 m (by omega)
    · have : j = 4 := by omega
      subst this
      rw [b28]
      refine qS_call (pX12_choose (by omega)) ?_
      intro r hr
      subst hr
      dsimp only
      rw [kCi_nat]
      refine qS_leti ?_
      refine qloop1 (fun v D5 => ∃ j : Nat, v = (j : Int) ∧ j ≤ R ∧ (∀ m, m < 4 → D5 108 m = 0) ∧ D5 91 28 = (L : Int) ∧ D5 91 29 = (R : Int) ∧ D5 91 30 = ((kC N L * 100 ^ j : Nat) : Int) ∧ zfm [108] [28, 29, 30] D D5) (fun v _ => (10 - v).toNat) ?_ ⟨0, rfl, by omega, fun m hm => by rw [zwr_row (by omega)]; exact z4 m hm, by rw [zwr_off (by omega)]; exact b28, by rw [zwr_off (by omega)]; exact b29, by rw [zwr_eq, Nat.pow_zero, Nat.mul_one], f4.wf (by decide)⟩ (zfu_gt (by omega))
      intro kk2 v D5 ⟨i, ev, hi, z5, c28, c29, c30, f5⟩ ih2
      subst ev
      unfold fX12_odds_130
      rw [c29]
      refine qS_ite (fun hiR => ?_) (fun hiR => ?_)
      · have pi := p100 (R := i) (by omega)
        have wb : ((kC N L * 100 ^ i : Nat) : Int) ≤ 184756000000 := by
          have := mul2b (a := ((kC N L : Nat) : Int)) (b := (100 : Int) ^ i) (A := 184756) (B := 1000000) (by omega) (by omega)
          rw [Int.natCast_mul, show ((100 ^ i : Nat) : Int) = (100 : Int) ^ i by exact_mod_cast rfl]; omega
        rw [c30]
        refine qS_chk (by omega) (qS_leti (qS_chk (by omega) (ih2 _ _ ⟨i + 1, by omega, by omega, fun m hm => by rw [zwr_row (by omega)]; exact z5 m hm, by rw [zwr_off (by omega)]; exact c28, by rw [zwr_off (by omega)]; exact c29, ?_, f5.wf (by decide)⟩ (by omega))))
        rw [zwr_eq, Nat.pow_succ, ← Nat.mul_assoc]; omega
      · have : i = R := by omega
        subst this
        have pl : ¬ (0 < lean ∧ 0 < lk ∧ lie < N) → qS (fX12_odds_178 F (lean : Int) (N : Int) (lk : Int) D5) (fun D' => (∀ m, m < 4 → D' 108 m = if 0 < lean ∧ 0 < lk ∧ lie < N then kMix lean N lk L Q (kXo ch B i L m) 3 else kXo ch B i L m (-1)) ∧ D' 91 30 = (((if 0 < lean ∧ 0 < lk ∧ lie < N then kC N L * 100 ^ i * (100 * lk * L) else kC N L * 100 ^ i) : Nat) : Int) ∧ (∀ lv, lv < 3 → D' 104 lv = (B lv : Int)) ∧ zfm [104, 106, 107, 108] [28, 29, 30] D D') := by
          intro hc0
          simp only [if_neg hc0]
          exact g179p D5 z5 c28 c29 c30 f5
        refine qS_ite (fun h1 => ?_) (fun h1 => pl (by omega))
        refine qS_ite (fun h2 => ?_) (fun h2 => pl (by omega))
        refine qS_step (pX12_term (k := 0) rfl (by omega)) ?_
        have e93 : D5 93 (100 + 0) = (lie : Int) := by rw [f5.1 93 (by decide) (by decide), hK]; exact k0
        rw [e93]
        refine qS_ite (fun h3 => ?_) (fun h3 => pl (by omega))
        have hc1 : 0 < lean ∧ 0 < lk ∧ lie < N := by omega
        simp only [if_pos hc1]
        exact g179l hc1.2.1 hc1.2.2 D5 z5 c28 c29 c30 f5
  have g61 : ∀ s0 : Int, s0 = (L : Int) → qS (fX12_odds_61 F (lean : Int) (N : Int) (lk : Int) s0 D) (fun D' => (∀ m, m < 4 → D' 108 m = if 0 < lean ∧ 0 < lk ∧ lie < N then kMix lean N lk L Q (kXo ch B R L m) 3 else kXo ch B R L m (-1)) ∧ D' 91 30 = (((if 0 < lean ∧ 0 < lk ∧ lie < N then kC N L * 100 ^ R * (100 * lk * L) else kC N L * 100 ^ R) : Nat) : Int) ∧ (∀ lv, lv < 3 → D' 104 lv = (B lv : Int)) ∧ zfm [104, 106, 107, 108] [28, 29, 30] D D') := by
    intro s0 e0
    subst e0
    unfold fX12_odds_61
    refine qS_leti ?_
    have a28 : (zwr D 91 28 (L : Int)) 91 28 = (L : Int) := zwr_eq
    have f1 : zfm [108] [28, 29, 30] D (zwr D 91 28 (L : Int)) := (zfm.rfl' _ _ D).wf (by decide)
    generalize zwr D 91 28 (L : Int) = D1 at *
    have e93 : D1 93 (100 + 1) = (A : Int) := by rw [f1.1 93 (by decide) (by decide), hK]; exact k1
    refine qS_step (pX12_term (k := 1) rfl (by omega)) ?_
    dsimp only
    simp only [e93, a28]
    refine qS_ite (fun hAL => ?_) (fun hAL => ?_)
    · refine qS_step (pX12_term (k := 1) rfl (by omega)) ?_
      dsimp only
      rw [e93, show (A : Int) = (R : Int) by rw [if_pos (by omega)] at hRi; omega]
      exact g89 D1 a28 f1
    · rw [show (L : Int) = (R : Int) by rw [if_neg (by omega)] at hRi; omega]
      exact g89 D1 a28 f1
  refine qS_step (pX12_term (k := 0) rfl (by omega)) ?_
  dsimp only
  rw [hK, show K (100 + 0) = (lie : Int) from k0]
  refine qS_ite (fun hlN => ?_) (fun hlN => ?_)
  · refine qS_step (pX12_term (k := 0) rfl (by omega)) ?_
    dsimp only
    rw [hK, show K (100 + 0) = (lie : Int) from k0]
    exact g61 _ (by rw [if_pos (by omega)] at hLi; omega)
  · exact g61 _ (by rw [if_neg (by omega)] at hLi; omega)
end OD
