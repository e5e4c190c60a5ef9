/-! ===== the first of the best schemes, class ===== -/
theorem bq_inj {K : Nat → Int} {a b : Nat} (ha : K (5 * a + 4) = 0) (hb : K (5 * b + 4) = 0) (e : kBowlN K a = kBowlN K b) : a = b := by
  rcases Nat.lt_trichotomy a b with h | h | h
  · have := kBowlN_mono K (a := a + 1) (b := b) h
    rw [kBowlN_s, if_pos ha] at this; omega
  · exact h
  · have := kBowlN_mono K (a := b + 1) (b := a) h
    rw [kBowlN_s, if_pos hb] at this; omega
/-- the class's levels and helps -/
def cFst (D : zDa) (K : Nat → Int) (bp bh : Int) : Prop := ∀ q : Nat, q < 20 → ((q : Int) < K 390 → D 69 q = kFl K bp bh q ∧ (K (5 * q + 4) = 0 → ∃ h : Nat, h < 2 ∧ D 70 q = (h : Int) ∧ kCo K q 1 h = kCo K q 1 (kHb K q (kSs K bp bh q).1) ∧ kCo K q 2 h = kCo K q 2 (kHb K q (kSs K bp bh q).1))) ∧ (K 390 ≤ (q : Int) → D 69 q = -1)
section CF
variable {F : zFs} {D : zDa} {K : Nat → Int} {N r : Nat} {bq : Nat → Nat} {bp bh : Int}
theorem pX4_canStillBe (hk : kOk K) (h : cPl F D K N bq r) (h18 : D 60 18 = (kCm K : Int) * bp) (h19 : D 60 19 = bh) (hbh : 0 ≤ bh ∧ bh ≤ 800) {i c rr one two : Nat} {spent : Int} (hi : i < N) (hc : c < 2 ^ (D 64 (i + 1)).toNat) (hrr : rr < 16) (cm : kCmp2 N (fun j => K (5 * bq j)) (D 63) c rr) (h12 : one + two ≤ i + 1) (hsp : 0 ≤ spent ∧ spent ≤ 2000) :
    qS (fX4_canStillBe F (i : Int) (c : Int) (one : Int) (two : Int) spent D) (fun x => x.2 = D ∧ ((x.1 = 1 ∧ kCan K bp (bq i + 1) rr one two (bh - spent)) ∨ (x.1 = 0 ∧ ¬ kCan K bp (bq i + 1) rr one two (bh - spent)))) := by
  have hbw := h.bowl
  obtain ⟨⟨hB, sh, h11, hl, hcells⟩, ⟨hr, hF, hlen⟩, h67, h17⟩ := h
  have hN := sh.1
  have nm := sh.2.2.2.1
  have bp4 := pow4 (nm.b4 (j := i + 1) (by omega))
  have hcm := kCm_in hk
  have Bi := hB.2 i hi
  have eLe := kLe_kTm hB (N - (i + 1)) (by omega) (bq i + 1) (by omega) (by rw [kBowlN_s, if_pos Bi.2.1, Bi.2.2]; omega)
  have cell := hcells (i + 1) (by omega) c hc
  have hbo1 := oF_s N (D 64) (i + 1)
  have hom1 := oF_mono (N := N) (b := D 64) (i := i + 1 + 1) (j := N + 1) (by omega)
  have cl1 : c * tri (N - (i + 1) + 1) + tri (N - (i + 1) + 1) ≤ tri (N - (i + 1) + 1) * 2 ^ (D 64 (i + 1)).toNat := by
    have := Nat.mul_le_mul_right (tri (N - (i + 1) + 1)) (show c + 1 ≤ 2 ^ (D 64 (i + 1)).toNat from hc)
    rw [Nat.add_mul, Nat.one_mul, Nat.mul_comm (2 ^ (D 64 (i + 1)).toNat)] at this
    exact this
  unfold fX4_canStillBe
  rw [sh.2.1]
  refine qS_chk (by omega) (qS_leti (qS_chk (by omega) ?_))
  rw [show (i : Int) + 1 = ((i + 1 : Nat) : Int) by omega, show (N : Int) - (i : Int) - 1 = ((N - (i + 1) : Nat) : Int) by omega]
  refine qS_step (pX4_rowAt (F := F) sh (i := i + 1) (c := c) (by omega) (by omega)) ?_
  generalize hrow : oF N (D 64) (i + 1) + c * tri (N - (i + 1) + 1) = row at *
  generalize hm : N - (i + 1) = m at *
  have cellv : ∀ a b, a + b ≤ m → D r (row + pPl a b) = kTm K N bq m rr a b ∧ row + pPl a b < (F r).2.1 := fun a b hab => by
    have := (cell (a + b) b (by omega) (by omega)).2 rr hrr cm
    rw [show a + b - b = a by omega] at this
    refine ⟨this, ?_⟩
    have := tri_in (s := a + b) (t := b) (L := m) hab (by omega)
    unfold pPl
    omega
  have no : ∀ a b, a + b ≤ m → (kCan K bp (bq i + 1) rr one two (bh - spent) → True) := fun _ _ _ _ => trivial
  refine qloop1 (fun v D1 => ∃ a : Nat, v = (a : Int) ∧ a ≤ m + 1 ∧ (∀ x y, x + y ≤ m → x < a → ¬ (kPw K (one + x) (two + y) = bp ∧ kTm K N bq m rr x y = bh - spent)) ∧ D1 = D) (fun v _ => (100 - v).toNat) ?_ ⟨0, rfl, by omega, fun x y _ h => absurd h (by omega), rfl⟩ (zfu_gt (by omega))
  intro k23 v D1 ⟨a, ev, ha, r1, eD⟩ ih
  subst ev eD
  unfold fX4_canStillBe_23
  refine qS_ite (fun hlt => ?_) (fun hlt => ?_)
  · refine qS_ret ⟨rfl, Or.inr ⟨rfl, fun ⟨x, y, g1, g2, g3⟩ => ?_⟩⟩
    rw [eLe] at g3
    have t := kTm_in K N bq m rr x y
    by_cases e : x + y ≤ m
    · exact r1 x y e (by omega) ⟨g2, g3⟩
    · have := t.2.2 (by omega)
      omega
  · refine qloop1 (fun v D2 => ∃ b : Nat, v = (b : Int) ∧ a + b ≤ m + 1 ∧ (∀ x y, x + y ≤ m → (x < a ∨ (x = a ∧ y < b)) → ¬ (kPw K (one + x) (two + y) = bp ∧ kTm K N bq m rr x y = bh - spent)) ∧ D2 = D1) (fun v _ => (100 - v).toNat) ?_ ⟨0, rfl, by omega, fun x y h1 h2 => r1 x y h1 (by omega), rfl⟩ (zfu_gt (by omega))
    intro k33 v D2 ⟨b, ev, hb, r2, eD⟩ ih2
    subst ev eD
    unfold fX4_canStillBe_33
    refine qS_chk (by omega) ?_
    refine qS_ite (fun hl2 => ?_) (fun hl2 => ?_)
    · exact qS_chk (by omega) (ih _ _ ⟨a + 1, by omega, by omega, fun x y h1 h2 => r2 x y h1 (by omega), rfl⟩ (by omega))
    · have hab : a + b ≤ m := by omega
      have cv := cellv a b hab
      have tin := kTm_in K N bq m rr a b
      have skip : ¬ (kPw K (one + a) (two + b) = bp ∧ kTm K N bq m rr a b = bh - spent) → qS (fX4_canStillBe_95 F k23 k33 (one : Int) (two : Int) spent (m : Int) (row : Int) (a : Int) (b : Int) D2) (fun x => x.2 = D2 ∧ ((x.1 = 1 ∧ kCan K bp (bq i + 1) rr one two (bh - spent)) ∨ (x.1 = 0 ∧ ¬ kCan K bp (bq i + 1) rr one two (bh - spent)))) := by
        intro hn
        unfold fX4_canStillBe_95
        refine qS_chk (by omega) (ih2 _ _ ⟨b + 1, by omega, by omega, fun x y h1 h2 => ?_, rfl⟩ (by omega))
        by_cases e : x = a ∧ y = b
        · rw [e.1, e.2]; exact hn
        · exact r2 x y h1 (by omega)
      refine qS_step (pX4_pairPlace (by omega)) ?_
      dsimp only
      rw [h11, show ((r : Int)).toNat = r by omega, show ((row : Int) + (pPl a b : Int)).toNat = row + pPl a b by omega]
      have cvi : spent + D2 r (row + pPl a b) = spent + kTm K N bq m rr a b := by rw [cv.1]
      refine qS_chk ⟨by omega, by omega, hF, by omega, by omega⟩ ?_
      refine qS_ite (fun c1 => ?_) (fun c1 => skip (fun g => c1 ?_))
      · refine qS_chk (by omega) ?_
        rw [show (one : Int) + (a : Int) = ((one + a : Nat) : Int) by omega, show (two : Int) + (b : Int) = ((two + b : Nat) : Int) by omega]
        refine qS_step (pX4_pairPlace (by omega)) ?_
        have pl : pPl (one + a) (two + b) ≤ 230 := by have := tri_20 (s := one + a + (two + b)) (by omega); unfold pPl; omega
        refine qS_chk (by omega) ?_
        have w0 := h67 (one + a) (two + b) (by omega)
        dsimp only
        rw [show (((pPl (one + a) (two + b) : Nat) : Int)).toNat = pPl (one + a) (two + b) by omega]
        refine qS_ite (fun c2 => ?_) (fun c2 => skip (fun g => c2 ?_))
        · refine qS_ret ⟨rfl, Or.inl ⟨rfl, a, b, by omega, ?_, ?_⟩⟩
          · rw [w0, h18] at c2
            exact Int.eq_of_mul_eq_mul_left (by omega) c2
          · rw [eLe]; omega
        · rw [w0, h18, g.1]
      · have := g.2
        omega
theorem pX4_findFirst (hk : kOk K) (hG : zG F) (h : cPl F D K N bq r) {hours : Int} (hh : 0 ≤ hours ∧ hours ≤ 100000) (hcache : D 60 14 = hours → ∃ bp bh, kBst K hours bp bh ∧ cFst D K bp bh) :
    qS (fX4_findFirst F hours D) (fun D' => (∃ bp bh, kBst K hours bp bh ∧ cFst D' K bp bh) ∧ D' 60 14 = hours ∧ (∀ k, k ≠ 14 → k ≠ 18 → k ≠ 19 → D' 60 k = D 60 k) ∧ zfr [60, 69, 70] D D') := by
  have h0 := hk.1
  unfold fX4_findFirst
  refine qS_ite (fun e => qS_ret ⟨hcache e, e, fun _ _ _ _ => rfl, zfr.rfl' _ _⟩) (fun _ => qS_leti ?_)
  have p1 : cPl F (zwr D 60 14 hours) K N bq r := h.fr (fun a h1 _ _ => zwr_row h1) (fun k h1 _ _ => zwr_off (Or.inr h1))
  refine qS_call (pX4_choose hk p1 hh) (fun D3 ⟨⟨bp, bh, hbst, c18, c19⟩, k3, f3⟩ => ?_)
  refine qS_call (pFill_53178 (F := F) (D := D3) (a := 69) (len := 20) (-1) (gk_69 hG) (gl_69 hG) (by omega)) (fun D5 ⟨l5, f5⟩ => ?_)
  refine qS_call (pFill_53178 (F := F) (D := D5) (a := 70) (len := 20) 0 (gk_70 hG) (gl_70 hG) (by omega)) (fun D7 ⟨l7, f7⟩ => ?_)
  have e7 : ∀ a, a ≠ 60 → a ≠ 69 → a ≠ 70 → D7 a = D a := fun a h1 h2 h3 => by
    rw [f7 a (by simpa using h3), f5 a (by simpa using h2), f3 a (by simpa using h1), zwr_row h1]
  have e60 : D7 60 = D3 60 := by rw [f7 60 (by decide), f5 60 (by decide)]
  have k60 : ∀ k, k ≠ 14 → k ≠ 18 → k ≠ 19 → D7 60 k = D 60 k := fun k h1 h2 h3 => by rw [e60, k3 k h2 h3, zwr_off (Or.inr h1)]
  have e14 : D7 60 14 = hours := by rw [e60, k3 14 (by omega) (by omega), zwr_eq]
  have p7 : cPl F D7 K N bq r := h.fr e7 k60
  rw [← e60] at c18 c19
  have l69 : ∀ x, x < 20 → D7 69 x = -1 := fun x hx => by rw [f7 69 (by decide)]; exact l5 x hx
  clear l5 l7 f7 f5 f3 k3 p1
  have hbh : 0 ≤ bh ∧ bh ≤ 800 := by
    obtain ⟨⟨a, b, g1, _, _, g4⟩, _⟩ := hbst
    have hb := p7.bowl
    have := p7.at0 (s := a + b) (t := b) (by omega) (by omega)
    rw [show a + b - b = a by omega] at this
    omega
  have hB0 := kCan_first hbst
  have hBq := p7.1.1
  have sh7 := p7.1.2.1
  have hN := sh7.1
  have nm := sh7.2.2.2.1
  have hbw : kBowlN K (K 390).toNat = (N : Int) := hBq.1
  refine qloop5 (fun v2 v3 v4 v5 v6 D1 => ∃ i c rr one two : Nat, v6 = (i : Int) ∧ v4 = (c : Int) ∧ v2 = (one : Int) ∧ v3 = (two : Int) ∧ i ≤ N ∧ c < 2 ^ (D7 64 i).toNat ∧ rr < 16 ∧ kCmp2 N (fun j => K (5 * bq j)) (D7 63) c rr ∧ (∀ q, q ≤ (K 390).toNat → kBowlN K q = (i : Int) → kSs K bp bh q = (rr, one, two, bh - v5)) ∧
      (∀ j, j < i → D1 69 (bq j) = kFl K bp bh (bq j) ∧ ∃ e : Nat, e < 2 ∧ D1 70 (bq j) = (e : Int) ∧ kCo K (bq j) 1 e = kCo K (bq j) 1 (kHb K (bq j) (kSs K bp bh (bq j)).1) ∧ kCo K (bq j) 2 e = kCo K (bq j) 2 (kHb K (bq j) (kSs K bp bh (bq j)).1)) ∧
      (∀ x, x < 20 → (∀ j, j < i → bq j ≠ x) → D1 69 x = -1) ∧ zfr [69, 70] D7 D1) (fun _ _ _ _ v6 _ => (100 - v6).toNat) ?_
      ⟨0, 0, 0, 0, 0, rfl, rfl, rfl, rfl, by omega, Nat.pow_pos (by omega), by omega, kCmp2_0 _, fun q hq e => ?_, fun j hj => absurd hj (by omega), fun x hx _ => l69 x hx, zfr.rfl' _ _⟩ (zfu_gt (by omega))
  · intro k48 v2 v3 v4 v5 v6 D1 ⟨i, c, rr, one, two, e6, e4, e2, e3, hi, hc, hrr, cm, hss, cont, rest, f1⟩ ih
    subst e6 e4 e2 e3
    have pc : cPl F D1 K N bq r := p7.fr (fun a _ h2 h3 => f1 a (by simp; omega)) (fun k _ _ _ => by rw [f1 60 (by decide)])
    have e64 : D1 64 = D7 64 := f1 64 (by decide)
    have e63 : D1 63 = D7 63 := f1 63 (by decide)
    have e601 : D1 60 = D7 60 := f1 60 (by decide)
    have shc := pc.1.2.1
    unfold fX4_findFirst_48
    rw [shc.2.1]
    refine qS_ite (fun hlt => ?_) (fun hlt => ?_)
    · have hiN : i < N := by omega
      have Bi := hBq.2 i hiN
      have Ci := shc.2.2.1 i hiN
      have S0 := hss (bq i) (by omega) Bi.2.2
      have ok := kSs_ok hk hB0 (bq i) (by omega)
      rw [S0] at ok
      dsimp only at ok
      obtain ⟨ok1, ok2, ok3, ok4⟩ := ok
      rw [Bi.2.2] at ok3
      have lnn := kCan_nn ok1
      have bp4 := pow4 (nm.b4 (j := i) (by omega))
      have bp5 := pow4 (nm.b4 (j := i + 1) (by omega))
      have hm := nm.2.2.2.2.1 i (i + 1) (by omega) (by omega)
      have hc1 : c < 2 ^ (D7 64 (i + 1)).toNat := Nat.lt_of_lt_of_le hc (Nat.pow_le_pow_right (by omega) (by omega))
      have hc2 := cKw_lt nm hiN hc
      have cm2 := cm.kw nm hiN
      have hb := cm.hb nm hiN
      have gi := (hk.2.1 (bq i) (by omega)).1.2
      have rr2 := kKw_lt (q := bq i) gi hrr
      have hbt := cHb_lt (D7 63) i c
      have q1 := kCo_in K (bq i) 1 (cHb (D7 63) i c)
      have st := kCan_step (by omega) Bi.2.1 ok1
      have hH := pX4_helpedBy (F := F) shc hiN (c := c) (by omega)
      have hW := pX4_kingsWith (F := F) shc hiN (c := c) (by omega)
      rw [e63] at hH hW
      -- the level has been found
      have fin : ∀ l : Nat, l = kLv K bp (bq i) rr one two (bh - v5) → ∀ v2 v3 v4 : Int, v2 = ((one + (if l = 1 then 1 else 0) : Nat) : Int) → v3 = ((two + (if l = 2 then 1 else 0) : Nat) : Int) → v4 = ((if l = 0 then c else cKw (D7 63) i c : Nat) : Int) →
          qS (fX4_findFirst_139 F k48 v2 v3 v4 v5 (i : Int) (cHb (D7 63) i c : Int) (l : Int) D1) (fun D' => (∃ bp bh, kBst K hours bp bh ∧ cFst D' K bp bh) ∧ D' 60 14 = hours ∧ (∀ k, k ≠ 14 → k ≠ 18 → k ≠ 19 → D' 60 k = D 60 k) ∧ zfr [60, 69, 70] D D') := by
        intro l hl v2 v3 v4 g2 g3 g4
        have hl2 : l ≤ 2 := by rw [hl]; exact kLv_lt ..
        have cl := kCo_in K (bq i) l (kHb K (bq i) rr)
        have t164 : ∀ s0 : Int, s0 = kCo K (bq i) l (kHb K (bq i) rr) → qS (fX4_findFirst_164 F k48 v2 v3 v4 (i : Int) (cHb (D7 63) i c : Int) (l : Int) s0 v5 D1) (fun D' => (∃ bp bh, kBst K hours bp bh ∧ cFst D' K bp bh) ∧ D' 60 14 = hours ∧ (∀ k, k ≠ 14 → k ≠ 18 → k ≠ 19 → D' 60 k = D 60 k) ∧ zfr [60, 69, 70] D D') := by
          intro s0 es
          unfold fX4_findFirst_164
          rw [show ((i : Int)).toNat = i by omega, Ci.1, show ((bq i : Int)).toNat = bq i by omega]
          refine qS_chk (by omega) (qS_leti (qS_chk (by omega) (qS_leti ?_)))
          have e61 : (zwr D1 69 (bq i) (l : Int)) 61 i = (bq i : Int) := by rw [zwr_row (by omega)]; exact Ci.1
          rw [e61, show ((bq i : Int)).toNat = bq i by omega]
          refine qS_chk (by omega) (qS_leti (qS_chk (by omega) ?_))
          refine ih _ _ _ _ _ _ ⟨i + 1, if l = 0 then c else cKw (D7 63) i c, if l = 0 then rr else kKw K (bq i) rr, one + (if l = 1 then 1 else 0), two + (if l = 2 then 1 else 0), by omega, g4, g2, g3, by omega, ?_, ?_, ?_, fun q hq eq => ?_, fun j hj => ?_, fun x hx hne => ?_, (f1.wr (by decide)).wr (by decide)⟩ (by omega)
          · split
            · exact hc1
            · exact hc2
          · split <;> omega
          · split
            · exact cm
            · exact cm2
          · have hqb : bq i + 1 ≤ q := by
              rcases Nat.lt_or_ge (bq i) q with h1 | h1
              · exact h1
              · have := kBowlN_mono K (a := q) (b := bq i) h1
                rw [Bi.2.2] at this; omega
            rw [← kSs_skip (bp := bp) (bh := bh) hqb (by rw [kBowlN_s, if_pos Bi.2.1, Bi.2.2, eq]; omega), kSs_s, S0]
            unfold kSn
            rw [if_pos Bi.2.1]
            dsimp only
            rw [← hl, es]
            congr 3
            omega
          · rw [zwr_row (b := 69) (by omega)]
            by_cases ej : j = i
            · subst ej
              rw [zwr_eq, zwr_eq, S0]
              refine ⟨?_, _, hbt, rfl, hb.1, hb.2⟩
              unfold kFl
              rw [if_pos Bi.2.1, S0, hl]
            · have nb : bq j ≠ bq i := fun eb => by
                have a := (hBq.2 j (by omega)).2.2
                rw [eb, Bi.2.2] at a; omega
              have := cont j (by omega)
              rw [zwr_off (Or.inr nb), zwr_off (Or.inr nb), zwr_row (b := 70) (by omega)]
              exact this
          · rw [zwr_row (b := 69) (by omega), zwr_off (Or.inr (fun ex => hne i (by omega) ex.symm))]
            exact rest x hx (fun j hj => hne j (by omega))
        unfold fX4_findFirst_139
        refine qS_ite (fun cz => t164 0 ?_) (fun cz => ?_)
        · have : l = 0 := by omega
          rw [this]; unfold kCo; rw [if_pos rfl]
        · refine qS_step (pX4_priceAt (l := l) (by omega) hbt (by omega)) (qS_chk (by omega) (t164 _ ?_))
          rw [show (((6 * i + 3 * cHb (D7 63) i c + l : Nat) : Int)).toNat = 6 * i + 3 * cHb (D7 63) i c + l by omega]
          have pr := Ci.2.2 _ hbt
          rcases (by omega : l = 1 ∨ l = 2) with e | e
          · rw [e, pr.1]; exact hb.1
          · rw [e, pr.2]; exact hb.2
      refine qS_step hH ?_
      refine qS_call (pX4_canStillBe (bp := bp) (bh := bh) (rr := rr) hk pc (by rw [e601]; exact c18) (by rw [e601]; exact c19) hbh hiN (by rw [e64]; exact hc1) hrr (by rw [e63]; exact cm) (by omega) (by omega)) (fun x ⟨hx2, hx⟩ => ?_)
      obtain ⟨x1, D2⟩ := x
      dsimp only at hx2 hx ⊢
      subst hx2
      rcases hx with ⟨hx, hcan⟩ | ⟨hx, hcan⟩
      · refine qS_neg (by omega) ?_
        exact fin 0 (kLv_0.2 hcan).symm _ _ _ (by rw [if_neg (by omega)]; rfl) (by rw [if_neg (by omega)]; rfl) (by rw [if_pos rfl])
      · refine qS_pos hx (qS_step hW (qS_chk (by omega) (qS_step (pX4_priceAt (l := 1) (by omega) hbt (by omega)) ?_)))
        have pr : D2 62 (((6 * i + 3 * cHb (D7 63) i c + 1 : Nat) : Int)).toNat = kCo K (bq i) 1 (cHb (D7 63) i c) := by
          rw [show (((6 * i + 3 * cHb (D7 63) i c + 1 : Nat) : Int)).toNat = 6 * i + 3 * cHb (D7 63) i c + 1 by omega]
          exact (Ci.2.2 _ hbt).1
        dsimp only
        refine qS_chk (by rw [pr]; omega) ?_
        rw [pr, show (one : Int) + 1 = ((one + 1 : Nat) : Int) by omega]
        refine qS_call (pX4_canStillBe (bp := bp) (bh := bh) (rr := kKw K (bq i) rr) hk pc (by rw [e601]; exact c18) (by rw [e601]; exact c19) hbh hiN (by rw [e64]; exact hc2) rr2 (by rw [e63]; exact cm2) (by omega) (by omega)) (fun x ⟨hx2, hx⟩ => ?_)
        obtain ⟨x1, D3⟩ := x
        dsimp only at hx2 hx ⊢
        subst hx2
        have el : bh - (v5 + kCo K (bq i) 1 (cHb (D7 63) i c)) = bh - v5 - kCo K (bq i) 1 (kHb K (bq i) rr) := by rw [hb.1]; omega
        rw [el] at hx
        rcases hx with ⟨hx, hcan1⟩ | ⟨hx, hcan1⟩
        · refine qS_neg (by omega) ?_
          exact fin 1 ((kLv_1 hcan).2 hcan1).symm _ _ _ (by rw [if_pos rfl]) (by rw [if_neg (by omega)]; rfl) (by rw [if_neg (by omega)])
        · refine qS_pos hx (qS_chk (by omega) ?_)
          have l0 : kLv K bp (bq i) rr one two (bh - v5) ≠ 0 := fun e => hcan (kLv_0.1 e)
          have l1 : kLv K bp (bq i) rr one two (bh - v5) ≠ 1 := fun e => hcan1 ((kLv_1 hcan).1 e)
          have l2 := kLv_lt (K := K) (bp := bp) (bq i) rr one two (bh - v5)
          exact fin 2 (by omega) _ _ _ (by rw [if_neg (by omega)]; omega) (by rw [if_pos rfl]; omega) (by rw [if_neg (by omega)])
    · have : i = N := by omega
      subst this
      refine qS_ret ⟨⟨bp, bh, hbst, fun q hq => ⟨fun hqn => ?_, fun hqn => ?_⟩⟩, ?_, fun k h1 h2 h3 => ?_, fun a ha => ?_⟩
      · by_cases ho : K (5 * q + 4) = 0
        · have hb1 := kBowlN_mono K (a := q + 1) (b := (K 390).toNat) (by omega)
          rw [kBowlN_s, if_pos ho, hbw] at hb1
          have hb0 := kBowlN_in K q
          have Bj := hBq.2 (kBowlN K q).toNat (by omega)
          have eq : bq (kBowlN K q).toNat = q := bq_inj Bj.2.1 ho (by rw [Bj.2.2]; omega)
          have := cont (kBowlN K q).toNat (by omega)
          rw [eq] at this
          exact ⟨this.1, fun _ => this.2⟩
        · refine ⟨?_, fun e => absurd e ho⟩
          unfold kFl
          rw [if_neg ho]
          exact rest q hq (fun j hj e => ho (by rw [← e]; exact (hBq.2 j hj).2.1))
      · exact rest q hq (fun j hj e => by have := (hBq.2 j hj).1; omega)
      · rw [e601]; exact e14
      · rw [e601]; exact k60 k h1 h2 h3
      · have ha' : a ≠ 60 ∧ a ≠ 69 ∧ a ≠ 70 := by simpa using ha
        rw [f1 a (by simp; omega)]; exact e7 a ha'.1 ha'.2.1 ha'.2.2
  · have e0 : kBowlN K 0 = 0 := rfl
    rw [← kSs_skip (bp := bp) (bh := bh) (a := 0) (b := q) (by omega) (by rw [e0, e]; rfl)]
    show (0, 0, 0, bh) = _
    rw [Int.sub_zero]
end CF
