/-! ===== places of pairs ===== -/
def tri (s : Nat) : Nat := match s with
  | 0 => 0
  | s + 1 => tri s + s + 1
theorem tri_2 (s : Nat) : s * (s + 1) = 2 * tri s := by
  induction s with
  | zero => rfl
  | succ s ih =>
    show (s + 1) * (s + 1 + 1) = 2 * (tri s + s + 1)
    rw [Nat.mul_add (s + 1) (s + 1) 1, Nat.add_mul s 1, Nat.mul_comm] at *
    omega
theorem tri_le {s t : Nat} (h : s ≤ t) : tri s ≤ tri t := by
  induction t with
  | zero => have : s = 0 := by omega
            rw [this]; exact Nat.le_refl _
  | succ t ih =>
    by_cases e : s = t + 1
    · rw [e]; exact Nat.le_refl _
    · have := ih (by omega)
      show tri s ≤ tri t + t + 1
      omega
theorem tri_20 {s : Nat} (h : s ≤ 20) : tri s ≤ 210 := tri_le (t := 20) h
def pPl (one two : Nat) : Nat := tri (one + two) + two
theorem pPl_inj {a b c d : Nat} (h : pPl a b = pPl c d) : a = c ∧ b = d := by
  unfold pPl at h
  rcases Nat.lt_trichotomy (a + b) (c + d) with e | e | e
  · have := tri_le (s := a + b + 1) (t := c + d) e
    have e2 : tri (a + b + 1) = tri (a + b) + (a + b) + 1 := rfl
    omega
  · rw [e] at h; omega
  · have := tri_le (s := c + d + 1) (t := a + b) e
    have e2 : tri (c + d + 1) = tri (c + d) + (c + d) + 1 := rfl
    omega
section PP
variable {F : zFs} {D : zDa}
theorem tdiv_tri (s : Nat) : Int.tdiv ((s : Int) * ((s : Int) + 1)) 2 = (tri s : Int) := by
  have e : (s : Int) * ((s : Int) + 1) = 2 * (tri s : Int) := by
    have := tri_2 s
    have h2 : ((s * (s + 1) : Nat) : Int) = ((2 * tri s : Nat) : Int) := by rw [this]
    rw [Int.natCast_mul, Int.natCast_mul] at h2
    exact h2
  rw [e, Int.mul_comm]
  exact Int.mul_tdiv_cancel _ (by omega)
theorem tri_int {s : Nat} (h : s ≤ 40) : 0 ≤ (s : Int) * ((s : Int) + 1) ∧ (s : Int) * ((s : Int) + 1) ≤ 2000 := by
  have := mul2b (a := (s : Int)) (b := (s : Int) + 1) (A := 40) (B := 50) (by omega) (by omega)
  omega
theorem pX4_pairPlace {one two : Nat} (h : one + two ≤ 20) : fX4_pairPlace F (one : Int) (two : Int) D = some ((pPl one two : Int), D) := by
  have t := tri_20 h
  have b := tri_int (s := one + two) (by omega)
  have d := tdiv_tri (one + two)
  unfold fX4_pairPlace
  rw [show (one : Int) + (two : Int) = ((one + two : Nat) : Int) by omega, d, if_pos (by omega)]
  unfold pPl
  congr 2
theorem pX4_pairs {m : Nat} (h : m ≤ 20) : fX4_pairs F (m : Int) D = some ((tri (m + 1) : Int), D) := by
  have b := tri_int (s := m + 1) (by omega)
  have d := tdiv_tri (m + 1)
  unfold fX4_pairs
  rw [show (m : Int) + 1 = ((m + 1 : Nat) : Int) by omega, show (m : Int) + 2 = ((m + 1 : Nat) : Int) + 1 by omega, d, if_pos (by omega)]
end PP
section WQ
variable {F : zFs} {D : zDa} {Z : Nat → Prop} {K : Nat → Int}
/-- the measure of the planner's ways -/
def kCm (K : Nat → Int) : Nat := 100 ^ (3 - min (min (K 100).toNat (kBowl K).toNat) (K 101).toNat)
def kPw (K : Nat → Int) (one two : Nat) : Int := kAtl (kSu K one two) (K 102).toNat
theorem kSuO_all {K : Nat → Int} {one two : Nat} (h : one + two ≤ (kBowl K).toNat) : kSuO K one two = kC (kBowl K).toNat (min (K 100).toNat (kBowl K).toNat) * 100 ^ (min (min (K 100).toNat (kBowl K).toNat) (K 101).toNat) := by
  unfold kSuO kWh
  have e : nOf ((kBowl K).toNat - one - two) one two 0 + nOf ((kBowl K).toNat - one - two) one two 1 + nOf ((kBowl K).toNat - one - two) one two 2 = (kBowl K).toNat := by
    show (kBowl K).toNat - one - two + one + two = _
    omega
  rw [if_neg (by omega), e]
theorem pX4_weighPairs (h : qSt F D Z 1 K) (hG : zG F) (hZ : ∀ a, Z a → 126 ≤ a) (hLt : cLot D) (h60 : D 60 5 = kBowl K) :
    qS (fX4_weighPairs F D) (fun D' => (∀ one two, one + two ≤ (kBowl K).toNat → D' 67 (pPl one two) = (kCm K : Int) * kPw K one two) ∧ D' 60 17 = (kCm K : Int) * (kSuO K 0 0 : Int) ∧ (∀ k, k ≠ 17 → D' 60 k = D 60 k) ∧ zfr [49, 50, 51, 54, 55, 58, 60, 67, 68] D D') := by
  have hk := h.1
  have ht := kTerms hk
  have h0 := hk.1
  have hbw := kBowl_in hk
  obtain ⟨N, hN⟩ : ∃ N : Nat, kBowl K = (N : Int) := ⟨(kBowl K).toNat, by omega⟩
  obtain ⟨lie, hlie⟩ : ∃ lie : Nat, K 100 = (lie : Int) := ⟨(K 100).toNat, by omega⟩
  obtain ⟨A, hA⟩ : ∃ A : Nat, K 101 = (A : Int) := ⟨(K 101).toNat, by omega⟩
  obtain ⟨w, hw⟩ : ∃ w : Nat, K 102 = (w : Int) := ⟨(K 102).toNat, by omega⟩
  have e70 : D 7 0 = (lie : Int) := by rw [← hlie]; exact h.2.2.2.1 0 (by omega)
  have ch := kChs K
  unfold fX4_weighPairs
  rw [h60, hN, e70, pMinN]
  refine qS_step rfl ?_
  have hL10 : min lie N ≤ 10 := by omega
  have hLN : min lie N ≤ N := by omega
  have eC : (kCm K : Int) = 100 ^ (3 - min (min lie N) A) := by
    unfold kCm
    rw [hlie, hN, hA, show ((lie : Int)).toNat = lie by omega, show ((N : Int)).toNat = N by omega, show ((A : Int)).toNat = A by omega]
    exact_mod_cast rfl
  have eO : kSuO K 0 0 = kC N (min lie N) * 100 ^ (min (min lie N) A) := by
    rw [kSuO_all (by omega), hlie, hN, hA, show ((lie : Int)).toNat = lie by omega, show ((N : Int)).toNat = N by omega, show ((A : Int)).toNat = A by omega]
  have eW : ∀ one two, one + two ≤ N → kWy (fun lv => kChance K (lv : Int)) A (min lie N) w (N - one - two) one two = (kCm K : Int) * kPw K one two := fun one two h2 => by
    rw [kWy_eq (lie := lie) (by rw [show N - one - two + one + two = N by omega]), eC]
    unfold kPw kSu
    rw [hlie, hN, hA, hw, show ((lie : Int)).toNat = lie by omega, show ((N : Int)).toNat = N by omega, show ((A : Int)).toNat = A by omega, show ((w : Int)).toNat = w by omega]
  have p := p100 (R := min (min lie N) A) (by omega)
  generalize hLe : min lie N = L at *
  refine qS_call (pX2_setChances h hG hZ) (fun D1 ⟨c1, f1⟩ => ?_)
  rw [show D1 60 5 = (N : Int) by rw [f1 60 (by decide), h60, hN]]
  refine qS_call (pX2_sets (hLt.fr (f1 53 (by decide))) (by omega)) (fun r hr => ?_)
  subst hr
  dsimp only
  rw [kCi_nat]
  have hcm := kC_max (n := N) (by omega) L
  refine qS_chk (by omega) (qS_leti ?_)
  have w2 : (zwr D1 60 17 (((kC N L : Nat) : Int) * 1000000)) 60 17 = (kCm K : Int) * (kSuO K 0 0 : Int) := by
    rw [zwr_eq, eC, eO, Int.natCast_mul, show ((100 ^ min L A : Nat) : Int) = (100 : Int) ^ min L A by exact_mod_cast rfl, Int.mul_left_comm, p.1]
  have k2 : ∀ k, k ≠ 17 → (zwr D1 60 17 (((kC N L : Nat) : Int) * 1000000)) 60 k = D 60 k := fun k hk => by rw [zwr_off (by omega), f1 60 (by decide)]
  have f2 : zfr [49, 50, 51, 54, 55, 58, 60, 67, 68] D (zwr D1 60 17 (((kC N L : Nat) : Int) * 1000000)) := (f1.mono (by decide)).wr (by decide)
  have c2 : cCh (zwr D1 60 17 (((kC N L : Nat) : Int) * 1000000)) (fun lv => kChance K (lv : Int)) := c1.fr (by rw [zwr_row (by omega)]) (by rw [zwr_row (by omega)])
  generalize zwr D1 60 17 (((kC N L : Nat) : Int) * 1000000) = D2 at *
  -- sets by levels
  refine qloop1 (fun v D3 => ∃ i : Nat, v = (i : Int) ∧ i ≤ L + 1 ∧ (∀ a b, a + b ≤ L → a < i → D3 68 (11 * a + b) = kPp (fun lv => kChance K (lv : Int)) A L w a b) ∧ zfr [58, 68] D2 D3) (fun v _ => (100 - v).toNat) ?_ ⟨0, rfl, by omega, fun a b _ h => absurd h (by omega), zfr.rfl' _ _⟩ (zfu_gt (by omega))
  intro k50 v D3 ⟨i, ev, hi, r3, f3⟩ ih
  subst ev
  unfold fX4_weighPairs_50
  refine qS_ite (fun hlt => ?_) (fun hlt => ?_)
  · have : i = L + 1 := by omega
    subst this
    have r68 : ∀ a b, a + b ≤ L → D3 68 (11 * a + b) = kPp (fun lv => kChance K (lv : Int)) A L w a b := fun a b hab => r3 a b hab (by omega)
    have f23 : zfr [49, 50, 51, 54, 55, 58, 60, 67, 68] D D3 := f2.trans (f3.mono (by decide))
    have e60 : D3 60 = D2 60 := f3 60 (by decide)
    refine qloop1 (fun v D4 => ∃ a : Nat, v = (a : Int) ∧ a ≤ N + 1 ∧ (∀ one two, one + two ≤ N → one < a → D4 67 (pPl one two) = (kCm K : Int) * kPw K one two) ∧ zfr [67] D3 D4) (fun v _ => (100 - v).toNat) ?_ ⟨0, rfl, by omega, fun one two _ h => absurd h (by omega), zfr.rfl' _ _⟩ (zfu_gt (by omega))
    intro k117 v D4 ⟨a, ev, ha, r4, f4⟩ ih4
    subst ev
    have n4 : D4 60 5 = (N : Int) := by rw [f4 60 (by decide), e60, k2 5 (by omega), h60, hN]
    unfold fX4_weighPairs_117
    rw [n4]
    refine qS_ite (fun hl => ?_) (fun hl => ?_)
    · refine qS_ret ⟨fun one two h12 => r4 one two (by omega) (by omega), ?_, fun k hk => ?_, f23.trans (f4.mono (by decide))⟩
      · rw [f4 60 (by decide), e60]; exact w2
      · rw [f4 60 (by decide), e60]; exact k2 k hk
    · refine qloop1 (fun v D5 => ∃ b : Nat, v = (b : Int) ∧ a + b ≤ N + 1 ∧ (∀ one two, one + two ≤ N → (one < a ∨ (one = a ∧ two < b)) → D5 67 (pPl one two) = (kCm K : Int) * kPw K one two) ∧ zfr [67] D3 D5) (fun v _ => (100 - v).toNat) ?_ ⟨0, rfl, by omega, fun one two h1 h2 => r4 one two h1 (by omega), f4⟩ (zfu_gt (by omega))
      intro k127 v D5 ⟨b, ev, hb, r5, f5⟩ ih5
      subst ev
      have n5 : D5 60 5 = (N : Int) := by rw [f5 60 (by decide), e60, k2 5 (by omega), h60, hN]
      unfold fX4_weighPairs_127
      rw [n5]
      refine qS_chk (by omega) ?_
      refine qS_ite (fun hl2 => ?_) (fun hl2 => ?_)
      · exact qS_chk (by omega) (ih4 _ _ ⟨a + 1, by omega, by omega, fun one two h1 h2 => r5 one two h1 (by omega), f5⟩ (by omega))
      · refine qS_step (pX4_pairPlace (by omega)) ?_
        have f35 : zfr [49, 50, 51, 54, 55, 58, 60, 67, 68] D D5 := f23.trans (f5.mono (by decide))
        refine qS_call (pX4_waysOf (ch := fun lv => kChance K (lv : Int)) (A := A) (L := L) (w := w) (none := N - a - b) (one := a) (two := b) (hLt.fr (f35 53 (by decide))) ch (by omega) hL10 (by omega) (by rw [n5]; omega) (fun x y hxy => by rw [f5 68 (by decide)]; exact r68 x y hxy)) (fun r hr => ?_)
        subst hr
        dsimp only
        rw [eW a b (by omega)]
        have pl : pPl a b ≤ 230 := by have := tri_20 (s := a + b) (by omega); unfold pPl; omega
        refine qS_chk (by omega) (qS_leti (qS_chk (by omega) (ih5 _ _ ⟨b + 1, by omega, by omega, fun one two h1 h2 => ?_, f5.wr (by decide)⟩ (by omega))))
        rw [show (((pPl a b : Nat) : Int)).toNat = pPl a b by omega, zwr_at]
        by_cases e : pPl one two = pPl a b
        · have := pPl_inj e
          rw [if_pos e, this.1, this.2]
        · rw [if_neg e]
          refine r5 one two h1 ?_
          rcases h2 with h2 | ⟨h2, h3⟩
          · exact Or.inl h2
          · refine Or.inr ⟨h2, ?_⟩
            rcases Nat.lt_or_ge two b with h4 | h4
            · exact h4
            · exact absurd (by rw [h2, show two = b by omega]) e
  · refine qloop1 (fun v D5 => ∃ j : Nat, v = (j : Int) ∧ i + j ≤ L + 1 ∧ (∀ a b, a + b ≤ L → (a < i ∨ (a = i ∧ b < j)) → D5 68 (11 * a + b) = kPp (fun lv => kChance K (lv : Int)) A L w a b) ∧ zfr [58, 68] D2 D5) (fun v _ => (100 - v).toNat) ?_ ⟨0, rfl, by omega, fun a b h1 h2 => r3 a b h1 (by omega), f3⟩ (zfu_gt (by omega))
    intro k57 v D5 ⟨j, ev, hj, r5, f5⟩ ih5
    subst ev
    have f25 : zfr [49, 50, 51, 54, 55, 58, 60, 67, 68] D D5 := f2.trans (f5.mono (by decide))
    have q5 := h.zfr hZ f25 (by decide)
    have e71 : D5 7 1 = (A : Int) := by rw [← hA]; exact q5.2.2.2.1 1 (by omega)
    have e72 : D5 7 2 = (w : Int) := by rw [← hw]; exact q5.2.2.2.1 2 (by omega)
    unfold fX4_weighPairs_57
    refine qS_chk (by omega) ?_
    refine qS_ite (fun hl2 => ?_) (fun hl2 => ?_)
    · exact qS_chk (by omega) (ih _ _ ⟨i + 1, by omega, by omega, fun a b h1 h2 => r5 a b h1 (by omega), f5⟩ (by omega))
    · refine qS_chk (by omega) ?_
      rw [e71, e72]
      refine qS_call (pX2_passing (ch := fun lv => kChance K (lv : Int)) (A := A) (L := L) (w := w) (i := i) (j := j) hG (c2.fr (f5 54 (by decide)) (f5 55 (by decide))) (by omega) (by omega) (by omega) hL10) (fun r ⟨hr, f6⟩ => ?_)
      obtain ⟨x, D6⟩ := r
      dsimp only at hr f6 ⊢
      subst hr
      refine qS_chk (by omega) (qS_leti (qS_chk (by omega) (ih5 _ _ ⟨j + 1, by omega, by omega, fun a b h1 h2 => ?_, (f5.trans (f6.mono (by decide))).wr (by decide)⟩ (by omega))))
      rw [show ((i : Int) * 11 + (j : Int)).toNat = 11 * i + j by omega, zwr_at]
      by_cases e : 11 * a + b = 11 * i + j
      · have ea : a = i := by omega
        have eb : b = j := by omega
        rw [if_pos e, ea, eb]
      · rw [if_neg e, f6 68 (by decide)]
        exact r5 a b h1 (by omega)
end WQ
