/-! ===== the fewest hours, as the reference counts them ===== -/
def kHb (K : Nat → Int) (q kings : Nat) : Nat := if 0 < K (5 * q) ∧ kings.testBit ((K (5 * q)).toNat - 1) = true then 1 else 0
def kKw (K : Nat → Int) (q kings : Nat) : Nat := if 0 < K (5 * q) then kings ||| 2 ^ ((K (5 * q)).toNat - 1) else kings
def kCo (K : Nat → Int) (q level h : Nat) : Int := if level = 0 then 0 else if level = 1 then kTakes K q 1 (h : Int) 0 else kTakes K q 1 (h : Int) 0 + kTakes K q 2 (h : Int) 0
def kLeS (K : Nat → Int) (q : Nat) (f : Nat → Nat → Nat → Int) (kings half well : Nat) : Int :=
  if K (5 * q + 4) = 0 then
    (if 0 < well then min (if 0 < half then min (f kings half well) (kCo K q 1 (kHb K q kings) + f (kKw K q kings) (half - 1) well) else f kings half well) (kCo K q 2 (kHb K q kings) + f (kKw K q kings) half (well - 1))
     else (if 0 < half then min (f kings half well) (kCo K q 1 (kHb K q kings) + f (kKw K q kings) (half - 1) well) else f kings half well))
  else f kings half well
/-- with m questions to come, of n -/
def kLe (K : Nat → Int) (n m : Nat) : Nat → Nat → Nat → Int := match m with
  | 0 => fun _ half well => if half = 0 ∧ well = 0 then 0 else 1000000
  | m + 1 => kLeS K (n - (m + 1)) (kLe K n m)
theorem kCo_in (K : Nat → Int) (q level h : Nat) : 0 ≤ kCo K q level h ∧ kCo K q level h ≤ 40 := by
  unfold kCo
  have a := kTakes_in K q 1 (h : Int) 0
  have b := kTakes_in K q 2 (h : Int) 0
  split
  · omega
  · split <;> omega
theorem kLe_in (K : Nat → Int) (n : Nat) : ∀ m kings half well, 0 ≤ kLe K n m kings half well ∧ kLe K n m kings half well ≤ 1000000
  | 0, _, half, well => by
    show 0 ≤ (if half = 0 ∧ well = 0 then (0 : Int) else 1000000) ∧ (if half = 0 ∧ well = 0 then (0 : Int) else 1000000) ≤ 1000000
    split <;> omega
  | m + 1, kings, half, well => by
    have ih := kLe_in K n m
    show 0 ≤ kLeS K (n - (m + 1)) (kLe K n m) kings half well ∧ kLeS K (n - (m + 1)) (kLe K n m) kings half well ≤ 1000000
    unfold kLeS
    generalize n - (m + 1) = q
    have a0 := ih kings half well
    have a1 := ih (kKw K q kings) (half - 1) well
    have a2 := ih (kKw K q kings) half (well - 1)
    have c1 := kCo_in K q 1 (kHb K q kings)
    have c2 := kCo_in K q 2 (kHb K q kings)
    split
    · split
      · split <;> omega
      · split <;> omega
    · exact a0
theorem kKw_lt {K : Nat → Int} {q kings : Nat} (hk : K (5 * q) ≤ 4) (h : kings < 16) : kKw K q kings < 16 := by
  unfold kKw
  split
  · have h1 : (K (5 * q)).toNat - 1 < 4 := by omega
    exact Nat.or_lt_two_pow (n := 4) h (Nat.pow_lt_pow_right (by omega) h1)
  · exact h
section RS
variable {F : zFs} {D : zDa} {K : Nat → Int}
theorem pX12_cell {q kings half well : Nat} (h : q ≤ 20 ∧ kings < 16 ∧ half < 21 ∧ well < 21) : fX12_cell F (q : Int) (kings : Int) (half : Int) (well : Int) D = some (((7056 * q + 441 * kings + 21 * half + well : Nat) : Int), D) := by
  unfold fX12_cell
  rw [if_pos (by omega)]
  congr 2
theorem pX12_helpedBy (hK : D 93 = K) (hk : kOk K) {q kings : Nat} (hq : (q : Int) < K 390) (hks : kings < 16) : fX12_helpedBy F (q : Int) (kings : Int) D = some ((kHb K q kings : Int), D) := by
  have h0 := hk.1
  have o := hk.2.1 q hq
  unfold fX12_helpedBy
  have ef : fX12_factOf F (q : Int) 0 D = some (K (5 * q), D) := by
    have := pX12_factOf (F := F) (D := D) (v := (q : Int)) (w := 0) (q := q) (k := 0) rfl rfl (by omega)
    rw [hK, Nat.add_zero] at this
    exact this
  rw [ef]
  show (if 0 < K (5 * q) then _ else some (0, D)) = _
  unfold kHb
  by_cases h1 : 0 < K (5 * q)
  · rw [if_pos h1, ef]
    show (if (-2147483648 ≤ K (5 * q) - 1 ∧ K (5 * q) - 1 ≤ 2147483647) then (if (zand (zshr (kings : Int) (K (5 * q) - 1)) 1) = 1 then some ((1 : Int), D) else some (0, D)) else none) = _
    rw [if_pos (by omega)]
    have bit := zbit_shr (a := kings) (k := (K (5 * q)).toNat - 1) (by omega) (by omega)
    rw [show (((K (5 * q)).toNat - 1 : Nat) : Int) = K (5 * q) - 1 by omega] at bit
    by_cases hb : kings.testBit ((K (5 * q)).toNat - 1) = true
    · rw [if_pos hb] at bit
      rw [if_pos bit, if_pos ⟨h1, hb⟩]; rfl
    · rw [if_neg hb] at bit
      rw [if_neg (by omega), if_neg (fun e => hb e.2)]; rfl
  · rw [if_neg h1, if_neg (fun e => h1 e.1)]; rfl
theorem pX12_kingsWith (hK : D 93 = K) (hk : kOk K) {q kings : Nat} (hq : (q : Int) < K 390) (hks : kings < 16) : fX12_kingsWith F (q : Int) (kings : Int) D = some ((kKw K q kings : Int), D) := by
  have h0 := hk.1
  have o := hk.2.1 q hq
  unfold fX12_kingsWith
  have ef : fX12_factOf F (q : Int) 0 D = some (K (5 * q), D) := by
    have := pX12_factOf (F := F) (D := D) (v := (q : Int)) (w := 0) (q := q) (k := 0) rfl rfl (by omega)
    rw [hK, Nat.add_zero] at this
    exact this
  rw [ef]
  show (if 0 < K (5 * q) then _ else some ((kings : Int), D)) = _
  unfold kKw
  by_cases h1 : 0 < K (5 * q)
  · rw [if_pos h1, if_pos h1, ef]
    show (if (-2147483648 ≤ K (5 * q) - 1 ∧ K (5 * q) - 1 ≤ 2147483647) then some ((zor (kings : Int) (zshl 1 (K (5 * q) - 1))), D) else none) = _
    have hp : 2 ^ ((K (5 * q)).toNat - 1) < 2 ^ 4 := Nat.pow_lt_pow_right (by omega) (by omega)
    rw [if_pos (by omega), show K (5 * q) - 1 = (((K (5 * q)).toNat - 1 : Nat) : Int) by omega, zone_shl (by omega), zor_nat (by omega) (by omega)]
  · rw [if_neg h1, if_neg h1]
def rCo (D : zDa) (K : Nat → Int) (n : Int) : Prop := ∀ q : Nat, (q : Int) < n → ∀ h : Nat, h < 2 → D 111 (4 * q + 2 * h) = kTakes K q 1 (h : Int) 0 ∧ D 111 (4 * q + 2 * h + 1) = kTakes K q 2 (h : Int) 0
theorem pX12_costOf (hc : rCo D K (K 390)) (h20 : K 390 ≤ 20) {q level h : Nat} (hq : (q : Int) < K 390) (hl : level ≤ 2) (hh : h < 2) : fX12_costOf F (q : Int) (level : Int) (h : Int) D = some (kCo K q level h, D) := by
  have c := hc q hq h hh
  have a := kTakes_in K q 1 (h : Int) 0
  have b := kTakes_in K q 2 (h : Int) 0
  unfold fX12_costOf kCo
  rcases (by omega : level = 0 ∨ level = 1 ∨ level = 2) with rfl | rfl | rfl
  · rw [if_pos (by omega), if_pos rfl]
  · rw [if_neg (by omega), if_pos (by omega), if_pos (by omega), if_neg (by omega), if_pos rfl, show (4 * (q : Int) + 2 * (h : Int)).toNat = 4 * q + 2 * h by omega, c.1]
  · rw [if_neg (by omega), if_neg (by omega), show (4 * (q : Int) + 2 * (h : Int)).toNat = 4 * q + 2 * h by omega, show (4 * (q : Int) + 2 * (h : Int) + 1).toNat = 4 * q + 2 * h + 1 by omega, c.1, c.2, if_pos (by omega), if_neg (by omega), if_neg (by omega)]
theorem kHb_lt (K : Nat → Int) (q kings : Nat) : kHb K q kings < 2 := by unfold kHb; split <;> omega
theorem pLess (x y : Int) : fX12_lesser F x y D = some (min x y, D) := by
  unfold fX12_lesser
  by_cases h : x < y
  · rw [if_pos h, Int.min_eq_left (by omega)]
  · rw [if_neg h, Int.min_eq_right (by omega)]
theorem pX12_fewest (hK : D 93 = K) (hk : kOk K) (hc : rCo D K (K 390)) {f : Nat → Nat → Nat → Int} (hf : ∀ a b c, 0 ≤ f a b c ∧ f a b c ≤ 1000000) {q : Nat} (hq : (q : Int) < K 390) (hL : ∀ kings half well, kings < 16 → half < 21 → well < 21 → D 109 (7056 * (q + 1) + 441 * kings + 21 * half + well) = f kings half well) {kings half well : Nat} (h1 : kings < 16) (h2 : half < 21) (h3 : well < 21) :
    qS (fX12_fewest F (q : Int) (kings : Int) (half : Int) (well : Int) D) (fun r => r = (kLeS K q f kings half well, D)) := by
  have h0 := hk.1
  have o := hk.2.1 q hq
  have kw := kKw_lt (K := K) (q := q) (by omega) h1
  have hb := kHb_lt K q kings
  unfold fX12_fewest
  refine qS_chk (by omega) ?_
  rw [show (q : Int) + 1 = ((q + 1 : Nat) : Int) by omega]
  refine qS_step (pX12_cell (by omega)) (qS_chk (by omega) (qS_leti ?_))
  refine qS_step (pX12_isBowl (q := q) rfl (by omega)) ?_
  dsimp only
  rw [hK]
  rw [show (((7056 * (q + 1) + 441 * kings + 21 * half + well : Nat) : Int)).toNat = 7056 * (q + 1) + 441 * kings + 21 * half + well by omega, hL kings half well h1 h2 h3]
  unfold kLeS
  by_cases ho : K (5 * q + 4) = 0
  · rw [if_pos ho, if_pos ho]
    refine qS_neg (by omega) ?_
    refine qS_step (pX12_helpedBy hK hk hq h1) (qS_step (pX12_kingsWith hK hk hq h1) ?_)
    have a0 := hf kings half well
    have c1 := kCo_in K q 1 (kHb K q kings)
    have c2 := kCo_in K q 2 (kHb K q kings)
    have a1 := hf (kKw K q kings) (half - 1) well
    have a2 := hf (kKw K q kings) half (well - 1)
    have g82 : ∀ x : Int, x = (if 0 < half then min (f kings half well) (kCo K q 1 (kHb K q kings) + f (kKw K q kings) (half - 1) well) else f kings half well) → qS (fX12_fewest_82 F (q : Int) (half : Int) (well : Int) x (kHb K q kings : Int) (kKw K q kings : Int) D) (fun r => r = ((if 0 < well then min (if 0 < half then min (f kings half well) (kCo K q 1 (kHb K q kings) + f (kKw K q kings) (half - 1) well) else f kings half well) (kCo K q 2 (kHb K q kings) + f (kKw K q kings) half (well - 1)) else (if 0 < half then min (f kings half well) (kCo K q 1 (kHb K q kings) + f (kKw K q kings) (half - 1) well) else f kings half well)), D)) := by
      intro x hx
      rw [← hx]
      unfold fX12_fewest_82
      by_cases hw : 0 < well
      · rw [if_pos hw]
        refine qS_pos (by omega) ?_
        rw [show (2 : Int) = ((2 : Nat) : Int) from rfl]
        refine qS_step (pX12_costOf hc (by omega) hq (by omega) hb) (qS_chk (by omega) ?_)
        rw [show (q : Int) + 1 = ((q + 1 : Nat) : Int) by omega, show (well : Int) - 1 = ((well - 1 : Nat) : Int) by omega]
        refine qS_step (pX12_cell (by omega)) ?_
        dsimp only
        rw [show (((7056 * (q + 1) + 441 * kKw K q kings + 21 * half + (well - 1) : Nat) : Int)).toNat = 7056 * (q + 1) + 441 * kKw K q kings + 21 * half + (well - 1) by omega]
        simp only [hL _ half (well - 1) kw h2 (by omega)]
        refine qS_chk (by omega) ?_
        rw [pLess]
        exact qS_step rfl (qS_ret rfl)
      · rw [if_neg hw]
        exact qS_neg (by omega) (qS_ret rfl)
    by_cases hh : 0 < half
    · refine qS_pos (by omega) ?_
      rw [show (1 : Int) = ((1 : Nat) : Int) from rfl]
      refine qS_step (pX12_costOf hc (by omega) hq (by omega) hb) (qS_chk (by omega) ?_)
      rw [show (half : Int) - ((1 : Nat) : Int) = ((half - 1 : Nat) : Int) by omega]
      refine qS_step (pX12_cell (by omega)) ?_
      dsimp only
      rw [show (((7056 * (q + 1) + 441 * kKw K q kings + 21 * (half - 1) + well : Nat) : Int)).toNat = 7056 * (q + 1) + 441 * kKw K q kings + 21 * (half - 1) + well by omega]
      simp only [hL _ (half - 1) well kw (by omega) h3]
      refine qS_chk (by omega) ?_
      rw [pLess]
      exact qS_step rfl (g82 _ (by rw [if_pos hh]))
    · exact qS_neg (by omega) (g82 _ (by rw [if_neg hh]))
  · rw [if_neg ho, if_neg ho]
    exact qS_pos rfl (qS_ret rfl)
end RS
