/-! ===== lots that lean or not ===== -/
theorem eOf_n1 : eOf (-1) = fun _ => 0 := by funext lv; unfold eOf; rw [if_neg (by omega)]
theorem eOf_sum {lv : Nat} (h : lv < 3) : eOf (lv : Int) 0 + eOf (lv : Int) 1 + eOf (lv : Int) 2 = 1 := by
  rcases (by omega : lv = 0 ∨ lv = 1 ∨ lv = 2) with rfl | rfl | rfl <;> rfl
/-- sums over sets of L, one of a level (or none: -1) there already -/
def kXo (ch : Nat → Int) (B : Nat → Nat) (R L : Nat) (m : Nat) (lev : Int) : Int := kLots ch (fun lv => B lv - eOf lev lv) (eOf lev) R (L - (eOf lev 0 + eOf lev 1 + eOf lev 2)) m
theorem kXo_n1 {ch : Nat → Int} {B : Nat → Nat} {R L m : Nat} : kXo ch B R L m (-1) = kLots ch B (fun _ => 0) R L m := by
  unfold kXo; rw [eOf_n1]; rfl
def kMix (lean N lk L : Nat) (Q : Nat → Nat) (x : Int → Int) (j : Nat) : Int := (((100 - (lean : Int)) * (lk : Int)) * (L : Int)) * x (-1) + zsum j (fun l => (((lean : Int) * (N : Int)) * (Q l : Int)) * x (l : Int))
theorem kMix_sc (lean N lk L : Nat) (Q : Nat → Nat) (x : Int → Int) (c : Int) (j : Nat) : kMix lean N lk L Q (fun l => c * x l) j = c * kMix lean N lk L Q x j := by
  unfold kMix
  rw [Int.mul_add, ← zsum_mul, Int.mul_left_comm]
  congr 1
  refine zsum_congr (fun k _ => ?_)
  rw [Int.mul_left_comm]
theorem kMix_s (lean N lk L : Nat) (Q : Nat → Nat) (x : Int → Int) (j : Nat) : kMix lean N lk L Q x (j + 1) = kMix lean N lk L Q x j + (((lean : Int) * (N : Int)) * (Q j : Int)) * x (j : Int) := by
  unfold kMix
  rw [Int.add_assoc]
  rfl
theorem mul3b {a b c A B C : Int} (ha : 0 ≤ a ∧ a ≤ A) (hb : 0 ≤ b ∧ b ≤ B) (hc : 0 ≤ c ∧ c ≤ C) : (0 ≤ a * b ∧ a * b ≤ A * B) ∧ 0 ≤ a * b * c ∧ a * b * c ≤ A * B * C := by
  have h1 : 0 ≤ a * b ∧ a * b ≤ A * B := ⟨Int.mul_nonneg ha.1 hb.1, Int.mul_le_mul ha.2 hb.2 hb.1 (by omega)⟩
  exact ⟨h1, Int.mul_nonneg h1.1 hc.1, Int.mul_le_mul h1.2 hc.2 hc.1 (by omega)⟩
theorem mul2b {a b A B : Int} (ha : 0 ≤ a ∧ a ≤ A) (hb : 0 ≤ b ∧ b ≤ B) : 0 ≤ a * b ∧ a * b ≤ A * B := ⟨Int.mul_nonneg ha.1 hb.1, Int.mul_le_mul ha.2 hb.2 hb.1 (by omega)⟩
theorem kMix_in {lean N lk L : Nat} {Q : Nat → Nat} {x : Int → Int} {j : Nat} (h1 : lean ≤ 100) (h2 : N ≤ 20) (h3 : lk ≤ 20) (h4 : L ≤ 10) (hQ : ∀ l, l < 3 → Q l ≤ 20) (hx : ∀ lev : Int, lev = -1 ∨ (0 ≤ lev ∧ lev < 3) → 0 ≤ x lev ∧ x lev ≤ 184756000000) (hj : j ≤ 3) : 0 ≤ kMix lean N lk L Q x j ∧ kMix lean N lk L Q x j ≤ 30000000000000000 := by
  have a1 := mul3b (a := 100 - (lean : Int)) (b := (lk : Int)) (c := (L : Int)) (A := 100) (B := 20) (C := 10) (by omega) (by omega) (by omega)
  have a2 := mul2b a1.2 (hx (-1) (Or.inl rfl))
  have a3 : ∀ l, l < j → 0 ≤ (((lean : Int) * (N : Int)) * (Q l : Int)) * x (l : Int) ∧ (((lean : Int) * (N : Int)) * (Q l : Int)) * x (l : Int) ≤ 7390240000000000 := fun l hl => by
    have hq := hQ l (by omega)
    have b1 := mul3b (a := (lean : Int)) (b := (N : Int)) (c := (Q l : Int)) (A := 100) (B := 20) (C := 20) (by omega) (by omega) (by omega)
    have := mul2b b1.2 (hx (l : Int) (Or.inr (by omega)))
    omega
  have a4 := zsum_nn (fun l hl => (a3 l hl).1)
  have a5 := zsum_le (fun l hl => (a3 l hl).2)
  unfold kMix
  omega
theorem kLots_in {ch : Nat → Int} {B e : Nat → Nat} {R L m : Nat} (hB : B 0 + B 1 + B 2 ≤ 20) (hh : ∀ lv, lv < 3 → 0 ≤ ch lv ∧ ch lv ≤ 100) (hR : R ≤ 3) (hL : L ≤ 10) (hm : m < 4) : 0 ≤ kLots ch B e R L m ∧ kLots ch B e R L m ≤ 100 ^ R * 184756 := by
  have nn : ∀ m, m < 4 → 0 ≤ kLots ch B e R L m := fun m hm => by
    rw [← kPs_end]; exact (kPs_in hB hh hR hm hL (by omega) (by omega)).1
  have s := kLots_sum (B := B) (e := e) (R := R) (L := L) hh
  have n0 := nn 0 (by omega)
  have n1 := nn 1 (by omega)
  have n2 := nn 2 (by omega)
  have n3 := nn 3 (by omega)
  have hc : ((kC (B 0 + B 1 + B 2) L : Nat) : Int) ≤ 184756 := by have := kC_max hB L; omega
  have hp : (0 : Int) ≤ 100 ^ R := by
    rcases (by omega : R = 0 ∨ R = 1 ∨ R = 2 ∨ R = 3) with rfl | rfl | rfl | rfl <;> decide
  have := Int.mul_le_mul_of_nonneg_left hc hp
  refine ⟨nn m hm, ?_⟩
  rcases (by omega : m = 0 ∨ m = 1 ∨ m = 2 ∨ m = 3) with rfl | rfl | rfl | rfl <;> omega
theorem kXo_in {ch : Nat → Int} {B : Nat → Nat} {R L m : Nat} (hB : B 0 + B 1 + B 2 ≤ 20) (hh : ∀ lv, lv < 3 → 0 ≤ ch lv ∧ ch lv ≤ 100) (hR : R ≤ 3) (hL : L ≤ 10) (hm : m < 4) (lev : Int) : 0 ≤ kXo ch B R L m lev ∧ kXo ch B R L m lev ≤ 100 ^ R * 184756 := by
  unfold kXo
  exact kLots_in (by omega) hh hR (by omega) hm
theorem p100 {R : Nat} (hR : R ≤ 3) : (100 : Int) ^ (3 - R) * 100 ^ R = 1000000 ∧ (0 : Int) < 100 ^ (3 - R) ∧ (100 : Int) ^ (3 - R) ≤ 1000000 ∧ (0 : Int) < 100 ^ R ∧ (100 : Int) ^ R ≤ 1000000 := by
  rcases (by omega : R = 0 ∨ R = 1 ∨ R = 2 ∨ R = 3) with rfl | rfl | rfl | rfl <;> decide
theorem kXs_in {ch : Nat → Int} {B : Nat → Nat} {R L m : Nat} (hB : B 0 + B 1 + B 2 ≤ 20) (hh : ∀ lv, lv < 3 → 0 ≤ ch lv ∧ ch lv ≤ 100) (hR : R ≤ 3) (hL : L ≤ 10) (hm : m < 4) (lev : Int) : 0 ≤ 100 ^ (3 - R) * kXo ch B R L m lev ∧ 100 ^ (3 - R) * kXo ch B R L m lev ≤ 184756000000 := by
  have h := kXo_in hB hh hR hL hm lev
  have p := p100 hR
  refine ⟨Int.mul_nonneg (by omega) h.1, ?_⟩
  have := Int.mul_le_mul_of_nonneg_left h.2 (show (0 : Int) ≤ 100 ^ (3 - R) by omega)
  rw [← Int.mul_assoc, p.1] at this
  omega
/-- how often so many are right, and of how many -/
def kOd (ch : Nat → Int) (B Q : Nat → Nat) (lie A lean m : Nat) : Int :=
  if 0 < lean ∧ 0 < Q 0 + Q 1 + Q 2 ∧ lie < B 0 + B 1 + B 2 then kMix lean (B 0 + B 1 + B 2) (Q 0 + Q 1 + Q 2) (min lie (B 0 + B 1 + B 2)) Q (kXo ch B (min (min lie (B 0 + B 1 + B 2)) A) (min lie (B 0 + B 1 + B 2)) m) 3
  else kXo ch B (min (min lie (B 0 + B 1 + B 2)) A) (min lie (B 0 + B 1 + B 2)) m (-1)
def kWh (B Q : Nat → Nat) (lie A lean : Nat) : Nat :=
  if 0 < lean ∧ 0 < Q 0 + Q 1 + Q 2 ∧ lie < B 0 + B 1 + B 2 then kC (B 0 + B 1 + B 2) (min lie (B 0 + B 1 + B 2)) * 100 ^ (min (min lie (B 0 + B 1 + B 2)) A) * (100 * (Q 0 + Q 1 + Q 2) * min lie (B 0 + B 1 + B 2))
  else kC (B 0 + B 1 + B 2) (min lie (B 0 + B 1 + B 2)) * 100 ^ (min (min lie (B 0 + B 1 + B 2)) A)
section SP
variable {F : zFs} {D : zDa}
theorem pMinN {x y : Nat} : fJ9_min_7cf53 F (x : Int) (y : Int) D = some (((min x y : Nat) : Int), D) := by
  unfold fJ9_min_7cf53
  by_cases h : y < x
  · rw [if_pos (by omega), Nat.min_eq_right (by omega)]
  · rw [if_neg (by omega), Nat.min_eq_left (by omega)]
theorem pX2_spread {ch : Nat → Int} {B Q : Nat → Nat} {lie A lean : Nat} (hG : zG F) (hc : cCh D ch) (hLt : cLot D) (h56 : ∀ lv, lv < 3 → D 56 lv = (B lv : Int)) (h57 : ∀ lv, lv < 3 → D 57 lv = (Q lv : Int)) (hB : B 0 + B 1 + B 2 ≤ 20) (hQ : ∀ lv, lv < 3 → Q lv ≤ B lv) (hl : 1 ≤ lie ∧ lie ≤ 10) (hA : A ≤ 3) (hn : lean ≤ 100) :
    qS (fX2_spread F (lie : Int) (A : Int) (lean : Int) D) (fun D' => (∀ m, m < 4 → D' 59 m = 100 ^ (3 - min (min lie (B 0 + B 1 + B 2)) A) * kOd ch B Q lie A lean m) ∧ D' 52 7 = 100 ^ (3 - min (min lie (B 0 + B 1 + B 2)) A) * (kWh B Q lie A lean : Int) ∧ zfr [52, 58, 59] D D') := by
  have hh : ∀ lv, lv < 3 → 0 ≤ ch lv ∧ ch lv ≤ 100 := fun lv h => (hc.1 lv h).2
  have q0 := hQ 0 (by omega)
  have q1 := hQ 1 (by omega)
  have q2 := hQ 2 (by omega)
  have e4 : D 56 0 + D 56 1 + D 56 2 = ((B 0 + B 1 + B 2 : Nat) : Int) := by rw [h56 0 (by omega), h56 1 (by omega), h56 2 (by omega)]; omega
  have e5 : D 57 0 + D 57 1 + D 57 2 = ((Q 0 + Q 1 + Q 2 : Nat) : Int) := by rw [h57 0 (by omega), h57 1 (by omega), h57 2 (by omega)]; omega
  unfold fX2_spread
  refine qS_chk (by rw [e4, h56 0 (by omega), h56 1 (by omega)]; omega) (qS_leti (qS_chk (by rw [e5, h57 0 (by omega), h57 1 (by omega)]; omega) (qS_leti ?_)))
  simp only [e4, e5]
  unfold kOd kWh
  have hlk : Q 0 + Q 1 + Q 2 ≤ B 0 + B 1 + B 2 := by omega
  generalize hN : B 0 + B 1 + B 2 = N at *
  generalize hK : Q 0 + Q 1 + Q 2 = lk at *
  have hL : min lie N ≤ 10 := by omega
  have hLN : min lie N ≤ N := by omega
  have hR : min (min lie N) A ≤ 3 := by omega
  rw [pMinN]
  generalize hLe : min lie N = L at *
  generalize hRe : min L A = R at *
  have p := p100 hR
  refine qS_step rfl ?_
  dsimp only
  refine qS_call (pFill_d0a16 0 (gk_59 hG) (gl_59 hG) (by omega)) ?_
  intro D1 ⟨hz, hf1⟩
  refine qS_call (pX2_sets (hLt.fr (hf1 53 (by decide))) (by omega)) ?_
  intro r hr
  subst hr
  dsimp only
  rw [kCi_nat]
  have hcm := kC_max (n := N) (by omega) L
  refine qS_chk (by omega) (qS_leti ?_)
  have e59 : ∀ m, m < 4 → (zwr D1 52 7 (((kC N L : Nat) : Int) * 1000000)) 59 m = 0 := fun m hm => by rw [zwr_row (by omega)]; exact hz m hm
  have f2 : zfr [52, 58, 59] D (zwr D1 52 7 (((kC N L : Nat) : Int) * 1000000)) := (hf1.mono (by decide)).wr (by decide)
  have w2 : (zwr D1 52 7 (((kC N L : Nat) : Int) * 1000000)) 52 7 = ((kC N L : Nat) : Int) * 1000000 := zwr_eq
  generalize zwr D1 52 7 (((kC N L : Nat) : Int) * 1000000) = D2 at *
  have whl : 100 ^ (3 - R) * ((kC N L * 100 ^ R : Nat) : Int) = ((kC N L : Nat) : Int) * 1000000 := by
    rw [Int.natCast_mul, Int.mul_left_comm, show ((100 ^ R : Nat) : Int) = (100 : Int) ^ R by exact_mod_cast rfl, p.1]
  have plain : qS (fX2_spread_91 F (A : Int) (L : Int) D2) (fun D' => (∀ m, m < 4 → D' 59 m = 100 ^ (3 - R) * kXo ch B R L m (-1)) ∧ D' 52 7 = 100 ^ (3 - R) * ((kC N L * 100 ^ R : Nat) : Int) ∧ zfr [52, 58, 59] D D') := by
    unfold fX2_spread_91
    refine qS_call (pX2_addSets (ch := ch) (B := B) (lev := -1) (times := 1) (acc := fun _ => 0) hG (hc.fr (f2 54 (by decide)) (f2 55 (by decide))) (hLt.fr (f2 53 (by decide))) (fun lv h => by rw [f2 56 (by decide)]; exact h56 lv h) (by omega) (Or.inl rfl) hL hA (by omega) (fun m hm => ⟨e59 m hm, by omega, by omega⟩)) ?_
    intro D3 ⟨h3, f3⟩
    refine qS_ret ⟨fun m hm => ?_, ?_, f2.trans (f3.mono (by decide))⟩
    · rw [h3 m hm, hRe]; unfold kXo; omega
    · rw [f3 52 (by decide), w2, whl]
  refine qS_ite (fun hk0 => ?_) (fun hk0 => ?_)
  · simp only [if_neg (show ¬ (0 < lean ∧ 0 < lk ∧ lie < N) by omega)]
    exact plain
  refine qS_ite (fun hln => ?_) (fun hln => ?_)
  · refine qS_ite (fun h0 => ?_) (fun h0 => ?_)
    · simp only [if_neg (show ¬ (0 < lean ∧ 0 < lk ∧ lie < N) by omega)]
      exact plain
    · simp only [if_pos (show 0 < lean ∧ 0 < lk ∧ lie < N by omega)]
      have t1 := mul3b (a := 100 - (lean : Int)) (b := (lk : Int)) (c := (L : Int)) (A := 100) (B := 20) (C := 10) (by omega) (by omega) (by omega)
      refine qS_chk (by omega) ?_
      have xin : ∀ m, m < 4 → ∀ lev : Int, lev = -1 ∨ (0 ≤ lev ∧ lev < 3) → 0 ≤ 100 ^ (3 - R) * kXo ch B R L m lev ∧ 100 ^ (3 - R) * kXo ch B R L m lev ≤ 184756000000 := fun m hm lev _ => kXs_in (by omega) hh hR hL hm lev
      have hQ20 : ∀ l, l < 3 → Q l ≤ 20 := fun l hl => by rcases (by omega : l = 0 ∨ l = 1 ∨ l = 2) with rfl | rfl | rfl <;> omega
      refine qS_call (pX2_addSets (ch := ch) (B := B) (lev := -1) (times := ((100 - (lean : Int)) * (lk : Int)) * (L : Int)) (acc := fun _ => 0) hG (hc.fr (f2 54 (by decide)) (f2 55 (by decide))) (hLt.fr (f2 53 (by decide))) (fun lv h => by rw [f2 56 (by decide)]; exact h56 lv h) (by omega) (Or.inl rfl) hL hA (by omega) (fun m hm => ⟨e59 m hm, by omega, by omega⟩)) ?_
      intro D3 ⟨h3, f3⟩
      rw [hRe] at h3
      refine qloop1 (fun v D4 => ∃ j : Nat, v = (j : Int) ∧ j ≤ 3 ∧ (∀ m, m < 4 → D4 59 m = kMix lean N lk L Q (fun lev => 100 ^ (3 - R) * kXo ch B R L m lev) j) ∧ zfr [58, 59] D2 D4) (fun v _ => (10 - v).toNat) ?_ ⟨0, rfl, by omega, fun m hm => ?_, f3⟩ (zfu_gt (by omega))
      · intro kk v D4 ⟨j, ev, hj, h4, f4⟩ ih
        subst ev
        have f24 := f2.trans (f4.mono (by decide) : zfr [52, 58, 59] D2 D4)
        unfold fX2_spread_126
        refine qS_ite (fun hj3 => ?_) (fun hj3 => ?_)
        · refine qS_chk (by omega) ?_
          rw [show ((j : Int)).toNat = j by omega, f24 57 (by decide), h57 j (by omega)]
          have hqj := hQ20 j (by omega)
          have hqb := hQ j (by omega)
          refine qS_ite (fun hq => ?_) (fun hq => ?_)
          · have b1 := mul3b (a := (lean : Int)) (b := (N : Int)) (c := (Q j : Int)) (A := 100) (B := 20) (C := 20) (by omega) (by omega) (by omega)
            refine qS_chk (by omega) ?_
            refine qS_call (pX2_addSets (ch := ch) (B := B) (lev := (j : Int)) (times := ((lean : Int) * (N : Int)) * (Q j : Int)) (acc := fun m => kMix lean N lk L Q (fun lev => 100 ^ (3 - R) * kXo ch B R L m lev) j) hG (hc.fr (f24 54 (by decide)) (f24 55 (by decide))) (hLt.fr (f24 53 (by decide))) (fun lv h => by rw [f24 56 (by decide)]; exact h56 lv h) (by omega) (Or.inr ⟨by omega, by omega, by rw [show ((j : Int)).toNat = j by omega]; omega, by omega⟩) hL hA (by omega) (fun m hm => ?_)) ?_
            · have := kMix_in (lean := lean) (N := N) (lk := lk) (L := L) (Q := Q) (j := j) hn hB (by omega) hL hQ20 (xin m hm) hj
              exact ⟨h4 m hm, this.1, by omega⟩
            intro D5 ⟨h5, f5⟩
            rw [hRe] at h5
            unfold fX2_spread_166
            refine qS_chk (by omega) (ih _ _ ⟨j + 1, by omega, by omega, fun m hm => ?_, f4.trans f5⟩ (by omega))
            rw [h5 m hm, kMix_s]; rfl
          · unfold fX2_spread_166
            refine qS_chk (by omega) (ih _ _ ⟨j + 1, by omega, by omega, fun m hm => ?_, f4⟩ (by omega))
            rw [h4 m hm, kMix_s, show Q j = 0 by omega]; simp
        · have : j = 3 := by omega
          subst this
          have t2 := mul2b (a := 100 * (lk : Int)) (b := (L : Int)) (A := 2000) (B := 10) (by omega) (by omega)
          rw [f4 52 (by decide), w2]
          have t3 := mul2b (a := ((kC N L : Nat) : Int) * 1000000) (b := 100 * (lk : Int) * (L : Int)) (A := 184756000000) (B := 20000) (by omega) (by omega)
          refine qS_chk (by omega) (qS_leti (qS_ret ⟨fun m hm => ?_, ?_, (f2.trans (f4.mono (by decide))).wr (by decide)⟩))
          · rw [zwr_row (by omega), h4 m hm, kMix_sc]
          · rw [zwr_eq, Int.natCast_mul, show ((100 * lk * L : Nat) : Int) = 100 * (lk : Int) * (L : Int) by simp, ← whl, Int.mul_assoc]
      · rw [h3 m hm]
        unfold kMix kXo
        show 0 + _ = _ + (0 : Int)
        rw [Int.zero_add, Int.add_zero]
  · simp only [if_neg (show ¬ (0 < lean ∧ 0 < lk ∧ lie < N) by omega)]
    exact plain
end SP
