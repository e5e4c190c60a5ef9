section LT2
variable {F : zFs} {D : zDa}
/-- which level lies there already -/
def eOf (lev : Int) : Nat → Nat := fun lv => if lev = (lv : Int) then 1 else 0
theorem pX12_lots {ch : Nat → Int} {B : Nat → Nat} {R L : Nat} {lev times : Int} {acc : Nat → Int} (hc : rCh D ch) (h104 : ∀ lv, lv < 3 → D 104 lv = (B lv : Int)) (hB : B 0 + B 1 + B 2 ≤ 20) (h29 : D 91 29 = (R : Int)) (hR : R ≤ 3) (hL : L ≤ 10) (hlev : lev = -1 ∨ (0 ≤ lev ∧ lev < 3)) (hRL : R ≤ L + (if lev = -1 then 0 else 1)) (ht : 0 ≤ times ∧ times ≤ 40000) (hacc : ∀ m, m < 4 → D 108 m = acc m ∧ 0 ≤ acc m ∧ acc m ≤ 4000000000000000000) :
    qS (fX12_lots F (L : Int) lev times D) (fun D' => (∀ m, m < 4 → D' 108 m = acc m + times * kLots ch B (eOf lev) R L m) ∧ zfr [106, 107, 108] D D') := by
  have hh : ∀ lv, lv < 3 → 0 ≤ ch lv ∧ ch lv ≤ 100 := fun lv h => (hc lv h).2
  unfold fX12_lots
  refine qloop1 (fun v D1 => ∃ a : Nat, v = (a : Int) ∧ a ≤ L + 1 ∧ (∀ m, m < 4 → D1 108 m = acc m + times * kPs ch B (eOf lev) R L m a 0) ∧ zfr [106, 107, 108] D D1) (fun v _ => (100 - v).toNat) ?_ ⟨0, rfl, by omega, fun m hm => by rw [(hacc m hm).1]; simp [kPs, zsum], zfr.rfl' _ D⟩ (zfu_gt (by omega))
  intro k3 v D1 ⟨a, ev, ha, hr1, hf1⟩ ih1
  subst ev
  unfold fX12_lots_3
  refine qS_ite (fun hend => ?_) (fun hend => ?_)
  · have : a = L + 1 := by omega
    subst this
    exact qS_ret ⟨fun m hm => by rw [hr1 m hm, kPs_end], hf1⟩
  refine qloop1 (fun v D2 => ∃ b : Nat, v = (b : Int) ∧ b ≤ L + 1 - a ∧ (∀ m, m < 4 → D2 108 m = acc m + times * kPs ch B (eOf lev) R L m a b) ∧ zfr [106, 107, 108] D D2) (fun v _ => (100 - v).toNat) ?_ ⟨0, rfl, by omega, hr1, hf1⟩ (zfu_gt (by omega))
  intro k12 v D2 ⟨b, ev, hb, hr2, hf2⟩ ih2
  subst ev
  unfold fX12_lots_12
  refine qS_chk (by omega) (qS_ite (fun hov => ?_) (fun hov => ?_))
  · refine qS_chk (by omega) (ih1 _ _ ⟨a + 1, by omega, by omega, fun m hm => ?_, hf2⟩ (by omega))
    rw [hr2 m hm, kPs_a (by omega)]
  · refine qS_chk (by omega) (qS_leti ?_)
    have e104 : D2 104 = D 104 := hf2 104 (by decide)
    have x7 : ((L : Int) - (a : Int)) - (b : Int) = ((L - a - b : Nat) : Int) := by omega
    rw [x7]
    generalize hcc : L - a - b = cc
    have hsum : a + b + cc = L := by omega
    rw [e104, h104 0 (by omega)]
    refine qS_call (pX12_choose (by omega)) ?_
    intro r hr
    subst hr
    dsimp only
    rw [e104, h104 1 (by omega)]
    refine qS_call (pX12_choose (by omega)) ?_
    intro r hr
    subst hr
    dsimp only
    rw [kCi_nat, kCi_nat]
    have w1 : ((kC (B 0) a : Nat) : Int) * ((kC (B 1) b : Nat) : Int) = ((kC (B 0) a * kC (B 1) b : Nat) : Int) := by rw [Int.natCast_mul]
    have w2 : ((kC (B 0) a * kC (B 1) b : Nat) : Int) * ((kC (B 2) cc : Nat) : Int) = kWays B a b cc := (Int.natCast_mul _ _).symm
    have w3 : kC (B 0) a * kC (B 1) b ≤ 184756 := Nat.le_trans (kC_mul _ _ _ _) (kC_max (by omega) _)
    rw [w1]
    refine qS_chk (by omega) ?_
    rw [e104, h104 2 (by omega)]
    refine qS_call (pX12_choose (by omega)) ?_
    intro r hr
    subst hr
    dsimp only
    rw [kCi_nat, w2]
    have wb := kWays_in (B := B) (a := a) (b := b) (c := cc) hB
    refine qS_chk (by omega) (qS_leti ?_)
    have nxt : ∀ D3 : zDa, (∀ m, m < 4 → D3 108 m = acc m + times * kPs ch B (eOf lev) R L m a (b + 1)) → zfr [106, 107, 108] D D3 → qS (fX12_lots_157 F k3 k12 (L : Int) lev times (a : Int) (b : Int) D3) (fun D' => (∀ m, m < 4 → D' 108 m = acc m + times * kLots ch B (eOf lev) R L m) ∧ zfr [106, 107, 108] D D') := by
      intro D3 h3 f3
      unfold fX12_lots_157
      exact qS_chk (by omega) (ih2 _ _ ⟨b + 1, by omega, by omega, h3, f3⟩ (by omega))
    refine qS_ite (fun h0 => ?_) (fun h0 => ?_)
    · refine nxt D2 (fun m hm => ?_) hf2
      rw [hr2 m hm, kPs_b]
      unfold kTerm3
      rw [hcc, h0, Int.zero_mul, Int.add_zero]
    · refine qS_leti (qS_leti (qS_leti ?_))
      have f5 : zfr [106, 107, 108] D (zwr (zwr (zwr D2 106 0 (a : Int)) 106 1 (b : Int)) 106 2 (cc : Int)) := ((hf2.wr (by decide)).wr (by decide)).wr (by decide)
      have r5 : ∀ lv, lv < 3 → (zwr (zwr (zwr D2 106 0 (a : Int)) 106 1 (b : Int)) 106 2 (cc : Int)) 106 lv = (nOf a b cc lv : Int) := by
        intro lv hl
        rcases (by omega : lv = 0 ∨ lv = 1 ∨ lv = 2) with rfl | rfl | rfl
        · rw [zwr_off (by omega), zwr_off (by omega), zwr_eq]; rfl
        · rw [zwr_off (by omega), zwr_eq]; rfl
        · rw [zwr_eq]; rfl
      have s5 : (zwr (zwr (zwr D2 106 0 (a : Int)) 106 1 (b : Int)) 106 2 (cc : Int)) 108 = D2 108 := by rw [zwr_row (by omega), zwr_row (by omega), zwr_row (by omega)]
      generalize zwr (zwr (zwr D2 106 0 (a : Int)) 106 1 (b : Int)) 106 2 (cc : Int) = D5 at *
      have go : ∀ D6 : zDa, zfr [106, 107, 108] D D6 → D6 108 = D2 108 → (∀ lv, lv < 3 → D6 106 lv = (nOf (a + eOf lev 0) (b + eOf lev 1) (cc + eOf lev 2) lv : Int)) → R ≤ a + eOf lev 0 + (b + eOf lev 1) + (cc + eOf lev 2) →
          qS (fX12_lots_116 F k3 k12 (L : Int) lev times (a : Int) (b : Int) (kWays B a b cc) D6) (fun D' => (∀ m, m < 4 → D' 108 m = acc m + times * kLots ch B (eOf lev) R L m) ∧ zfr [106, 107, 108] D D') := by
        intro D6 f6 s6 r6 hT
        have ee : eOf lev 0 ≤ 1 ∧ eOf lev 1 ≤ 1 ∧ eOf lev 2 ≤ 1 := by unfold eOf; refine ⟨?_, ?_, ?_⟩ <;> split <;> omega
        unfold fX12_lots_116
        refine qS_call (pX12_answers (ch := ch) (nn := nOf (a + eOf lev 0) (b + eOf lev 1) (cc + eOf lev 2)) (R := R) (hc.fr (f6 103 (by decide))) (fun lv hl => ⟨r6 lv hl, ?_⟩) (by rw [f6 91 (by decide)]; exact h29) hR hT) ?_
        · rcases (by omega : lv = 0 ∨ lv = 1 ∨ lv = 2) with rfl | rfl | rfl <;> (unfold nOf; simp; omega)
        intro D7 ⟨g7, f7⟩
        have bnd : ∀ m, m < 4 → 0 ≤ kPs ch B (eOf lev) R L m a b ∧ kPs ch B (eOf lev) R L m a b ≤ 24387792000000 := fun m hm => kPs_in hB hh hR hm hL (by omega) (by omega)
        refine rL_123 (acc := fun m => acc m + times * kPs ch B (eOf lev) R L m a b) (g := kG ch (nOf (a + eOf lev 0) (b + eOf lev 1) (cc + eOf lev 2)) R) ht wb (fun m hm => ⟨g7 m hm, kG_in hh _ hR hm⟩) (fun m hm => ?_) (fun D8 h8 f8 => ?_)
        · have b1 := bnd m hm
          have b2 := hacc m hm
          have b3 : 0 ≤ times * kPs ch B (eOf lev) R L m a b ∧ times * kPs ch B (eOf lev) R L m a b ≤ 975511680000000000 := ⟨Int.mul_nonneg ht.1 b1.1, by have := Int.mul_le_mul ht.2 b1.2 b1.1 (by omega); omega⟩
          refine ⟨?_, by omega, by omega⟩
          rw [f7 108 (by decide), s6]; exact hr2 m hm
        · refine nxt D8 (fun m hm => ?_) (f6.trans ((f7.mono (by decide)).trans (f8.mono (by decide))))
          rw [h8 m hm, kPs_b, Int.mul_add]
          unfold kTerm3
          rw [hcc]; omega
      refine qS_ite (fun hl => ?_) (fun hl => ?_)
      · refine go D5 f5 s5 (fun lv hlv => ?_) ?_
        · rw [r5 lv hlv]
          subst hl
          rfl
        · rw [if_pos hl] at hRL
          omega
      · rw [if_neg hl] at hRL
        obtain ⟨lv, rfl⟩ : ∃ lv : Nat, lev = (lv : Int) := ⟨lev.toNat, by omega⟩
        rw [show ((lv : Int)).toNat = lv by omega, r5 lv (by omega)]
        have hn : nOf a b cc lv ≤ 1000 := by unfold nOf; repeat' split
                                             all_goals omega
        refine qS_chk (by omega) (qS_leti (go _ (f5.wr (by decide)) (by rw [zwr_row (by omega)]; exact s5) (fun x hx => ?_) ?_))
        · rw [zwr_at]
          by_cases hxl : x = lv
          · rw [if_pos hxl, hxl]
            rcases (by omega : lv = 0 ∨ lv = 1 ∨ lv = 2) with rfl | rfl | rfl <;> simp [nOf, eOf]
          · rw [if_neg hxl, r5 x hx]
            rcases (by omega : x = 0 ∨ x = 1 ∨ x = 2) with rfl | rfl | rfl
            · have : eOf (lv : Int) 0 = 0 := by unfold eOf; rw [if_neg (by omega)]
              simp [nOf, this]
            · have : eOf (lv : Int) 1 = 0 := by unfold eOf; rw [if_neg (by omega)]
              simp [nOf, this]
            · have : eOf (lv : Int) 2 = 0 := by unfold eOf; rw [if_neg (by omega)]
              simp [nOf, this]
        · have : eOf (lv : Int) 0 + eOf (lv : Int) 1 + eOf (lv : Int) 2 = 1 := by
            rcases (by omega : lv = 0 ∨ lv = 1 ∨ lv = 2) with rfl | rfl | rfl <;> rfl
          omega
end LT2
