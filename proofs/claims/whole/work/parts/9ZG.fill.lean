/-! ===== the fewest hours over the bowl alone ===== -/
def kLeB (K : Nat → Int) (q : Nat) (f : Nat → Nat → Nat → Int) (kings half well : Nat) : Int :=
  (if 0 < well then min (if 0 < half then min (f kings half well) (kCo K q 1 (kHb K q kings) + f (kKw K q kings) (half - 1) well) else f kings half well) (kCo K q 2 (kHb K q kings) + f (kKw K q kings) half (well - 1))
   else (if 0 < half then min (f kings half well) (kCo K q 1 (kHb K q kings) + f (kKw K q kings) (half - 1) well) else f kings half well))
def kTm (K : Nat → Int) (N : Nat) (bq : Nat → Nat) (m : Nat) : Nat → Nat → Nat → Int := match m with
  | 0 => fun _ half well => if half = 0 ∧ well = 0 then 0 else 1000000
  | m + 1 => kLeB K (bq (N - (m + 1))) (kTm K N bq m)
theorem kTm_in (K : Nat → Int) (N : Nat) (bq : Nat → Nat) : ∀ m kings half well, (0 ≤ kTm K N bq m kings half well ∧ kTm K N bq m kings half well ≤ 1000000) ∧ (half + well ≤ m → kTm K N bq m kings half well ≤ 40 * (m : Int)) ∧ (m < half + well → kTm K N bq m kings half well = 1000000)
  | 0, _, half, well => by
    show (0 ≤ (if half = 0 ∧ well = 0 then (0 : Int) else 1000000) ∧ (if half = 0 ∧ well = 0 then (0 : Int) else 1000000) ≤ 1000000) ∧ (half + well ≤ 0 → (if half = 0 ∧ well = 0 then (0 : Int) else 1000000) ≤ 40 * ((0 : Nat) : Int)) ∧ (0 < half + well → (if half = 0 ∧ well = 0 then (0 : Int) else 1000000) = 1000000)
    by_cases e : half = 0 ∧ well = 0
    · rw [if_pos e]; omega
    · rw [if_neg e]; omega
  | m + 1, kings, half, well => by
    have ih := kTm_in K N bq m
    show (0 ≤ kLeB K (bq (N - (m + 1))) (kTm K N bq m) kings half well ∧ kLeB K (bq (N - (m + 1))) (kTm K N bq m) kings half well ≤ 1000000) ∧ (half + well ≤ m + 1 → kLeB K (bq (N - (m + 1))) (kTm K N bq m) kings half well ≤ 40 * ((m + 1 : Nat) : Int)) ∧ (m + 1 < half + well → kLeB K (bq (N - (m + 1))) (kTm K N bq m) kings half well = 1000000)
    unfold kLeB
    generalize bq (N - (m + 1)) = q
    have a0 := ih kings half well
    have a1 := ih (kKw K q kings) (half - 1) well
    have a2 := ih (kKw K q kings) half (well - 1)
    have c1 := kCo_in K q 1 (kHb K q kings)
    have c2 := kCo_in K q 2 (kHb K q kings)
    generalize kTm K N bq m kings half well = x0 at *
    generalize kTm K N bq m (kKw K q kings) (half - 1) well = x1 at *
    generalize kTm K N bq m (kKw K q kings) half (well - 1) = x2 at *
    generalize kCo K q 1 (kHb K q kings) = y1 at *
    generalize kCo K q 2 (kHb K q kings) = y2 at *
    clear ih
    by_cases hw : 0 < well
    · rw [if_pos hw]
      by_cases hh : 0 < half
      · rw [if_pos hh]; omega
      · rw [if_neg hh]; omega
    · rw [if_neg hw]
      by_cases hh : 0 < half
      · rw [if_pos hh]; omega
      · rw [if_neg hh]; omega
theorem kBowlN_s (K : Nat → Int) (n : Nat) : kBowlN K (n + 1) = kBowlN K n + (if K (5 * n + 4) = 0 then 1 else 0) := rfl
theorem kBowlN_mono (K : Nat → Int) {a b : Nat} (h : a ≤ b) : kBowlN K a ≤ kBowlN K b := by
  induction b with
  | zero => rw [show a = 0 by omega]; exact Int.le_refl _
  | succ b ih =>
    by_cases e : a = b + 1
    · rw [e]; exact Int.le_refl _
    · have := ih (by omega)
      rw [kBowlN_s]
      split <;> omega
theorem kLe_skip (K : Nat → Int) (n : Nat) {a b : Nat} (h : a ≤ b) (hb : b ≤ n) (e : kBowlN K a = kBowlN K b) : kLe K n (n - a) = kLe K n (n - b) := by
  induction b with
  | zero => rw [show a = 0 by omega]
  | succ b ih =>
    by_cases e1 : a = b + 1
    · rw [e1]
    · have m1 := kBowlN_mono K (a := a) (b := b) (by omega)
      have m2 := kBowlN_mono K (a := b) (b := b + 1) (by omega)
      have ho : K (5 * b + 4) ≠ 0 := by
        intro h0
        rw [kBowlN_s, if_pos h0] at e
        omega
      rw [ih (by omega) (by omega) (by omega), show n - b = n - (b + 1) + 1 by omega]
      show kLeS K (n - (n - (b + 1) + 1)) (kLe K n (n - (b + 1))) = _
      rw [show n - (n - (b + 1) + 1) = b by omega]
      funext x y z
      unfold kLeS
      rw [if_neg ho]
/-- bq i is the i-th of the bowl -/
def kBqs (K : Nat → Int) (N : Nat) (bq : Nat → Nat) : Prop := kBowlN K (K 390).toNat = (N : Int) ∧ ∀ i, i < N → bq i < (K 390).toNat ∧ K (5 * bq i + 4) = 0 ∧ kBowlN K (bq i) = (i : Int)
theorem kLe_kTm {K : Nat → Int} {N : Nat} {bq : Nat → Nat} (h : kBqs K N bq) : ∀ m, m ≤ N → ∀ q, q ≤ (K 390).toNat → kBowlN K q = ((N - m : Nat) : Int) → kLe K (K 390).toNat ((K 390).toNat - q) = kTm K N bq m
  | 0, _, q, hq, e => by
    rw [kLe_skip K (K 390).toNat hq (Nat.le_refl _) (by rw [h.1]; omega), Nat.sub_self]
    rfl
  | m + 1, hm, q, hq, e => by
    have b := h.2 (N - (m + 1)) (by omega)
    have hqb : q ≤ bq (N - (m + 1)) := by
      rcases Nat.lt_or_ge (bq (N - (m + 1))) q with h1 | h1
      · have := kBowlN_mono K (a := bq (N - (m + 1)) + 1) (b := q) h1
        rw [kBowlN_s, if_pos b.2.1, b.2.2] at this
        omega
      · exact h1
    rw [kLe_skip K (K 390).toNat hqb (by omega) (by rw [e, b.2.2])]
    have ih := kLe_kTm h m (by omega) (bq (N - (m + 1)) + 1) (by omega) (by rw [kBowlN_s, if_pos b.2.1, b.2.2]; omega)
    rw [show (K 390).toNat - bq (N - (m + 1)) = (K 390).toNat - (bq (N - (m + 1)) + 1) + 1 by omega]
    show kLeS K ((K 390).toNat - ((K 390).toNat - (bq (N - (m + 1)) + 1) + 1)) (kLe K (K 390).toNat ((K 390).toNat - (bq (N - (m + 1)) + 1))) = kLeB K (bq (N - (m + 1))) (kTm K N bq m)
    rw [ih, show (K 390).toNat - ((K 390).toNat - (bq (N - (m + 1)) + 1) + 1) = bq (N - (m + 1)) by omega]
    funext x y z
    unfold kLeS kLeB
    rw [if_pos b.2.1]
/-! ===== sets of kings on both sides ===== -/
/-- the class's set c and the reference's set r tell the same of all that are named -/
def kCmp2 (N : Nat) (g kb : Nat → Int) (c r : Nat) : Prop := ∀ j, j < N → kb j ≠ -1 → c.testBit (kb j).toNat = r.testBit ((g j).toNat - 1)
def cKw (kb : Nat → Int) (i c : Nat) : Nat := if kb i = -1 then c else c ||| 2 ^ (kb i).toNat
def cHb (kb : Nat → Int) (i c : Nat) : Nat := if kb i = -1 then 0 else if c.testBit (kb i).toNat = true then 1 else 0
theorem cHb_lt (kb : Nat → Int) (i c : Nat) : cHb kb i c < 2 := by
  unfold cHb
  split
  · omega
  · split <;> omega
section NM
variable {K : Nat → Int} {N : Nat} {bq : Nat → Nat} {kb b : Nat → Int}
theorem kCmp2_0 (g : Nat → Int) : kCmp2 N g kb 0 0 := fun j _ _ => by simp
theorem kCmp2.kw (nm : kNm (kSame K N bq) (fun j => K (5 * bq j)) N kb b) {c r i : Nat} (h : kCmp2 N (fun j => K (5 * bq j)) kb c r) (hi : i < N) : kCmp2 N (fun j => K (5 * bq j)) kb (cKw kb i c) (kKw K (bq i) r) := by
  intro j hj hne
  have hjg := nm.2.1 j hj hne
  have hj1 := nm.1 j hj
  have h0 := h j hj hne
  have hiff := nm.2.2.1 j i hj hi hne
  dsimp only at h0 hjg hiff
  show (cKw kb i c).testBit (kb j).toNat = (kKw K (bq i) r).testBit ((K (5 * bq j)).toNat - 1)
  unfold cKw kKw
  by_cases e : kb i = -1
  · rw [if_pos e]
    by_cases e2 : 0 < K (5 * bq i)
    · rw [if_pos e2, Nat.testBit_or, Nat.testBit_two_pow]
      have : K (5 * bq i) ≠ K (5 * bq j) := fun h => hne (by rw [← hiff.2 h]; exact e)
      rw [decide_eq_false (by omega), Bool.or_false]
      exact h0
    · rw [if_neg e2]; exact h0
  · have hig := nm.2.1 i hi e
    have hi1 := nm.1 i hi
    dsimp only at hig
    rw [if_neg e, if_pos hig, Nat.testBit_or, Nat.testBit_or, Nat.testBit_two_pow, Nat.testBit_two_pow, h0]
    congr 1
    by_cases e3 : kb i = kb j
    · have := hiff.1 e3
      rw [decide_eq_true (by omega), decide_eq_true (by omega)]
    · have : K (5 * bq i) ≠ K (5 * bq j) := fun h => e3 (hiff.2 h)
      rw [decide_eq_false (by omega), decide_eq_false (by omega)]
theorem kCmp2.hb (nm : kNm (kSame K N bq) (fun j => K (5 * bq j)) N kb b) {c r i : Nat} (h : kCmp2 N (fun j => K (5 * bq j)) kb c r) (hi : i < N) : (kCo K (bq i) 1 (cHb kb i c) = kCo K (bq i) 1 (kHb K (bq i) r) ∧ kCo K (bq i) 2 (cHb kb i c) = kCo K (bq i) 2 (kHb K (bq i) r)) := by
  unfold cHb kHb
  by_cases e : kb i = -1
  · rw [if_pos e]
    by_cases e2 : 0 < K (5 * bq i) ∧ r.testBit ((K (5 * bq i)).toNat - 1) = true
    · rw [if_pos e2]
      exact nm.2.2.2.1 i hi e e2.1 i hi rfl
    · rw [if_neg e2]; exact ⟨rfl, rfl⟩
  · have h0 := h i hi e
    have hig := nm.2.1 i hi e
    dsimp only at h0 hig
    rw [if_neg e, h0]
    by_cases e2 : r.testBit ((K (5 * bq i)).toNat - 1) = true
    · rw [if_pos e2, if_pos ⟨hig, e2⟩]; exact ⟨rfl, rfl⟩
    · rw [if_neg e2, if_neg (fun x => e2 x.2)]; exact ⟨rfl, rfl⟩
theorem cKw_lt (nm : kNm (kSame K N bq) (fun j => K (5 * bq j)) N kb b) {c i : Nat} (hi : i < N) (hc : c < 2 ^ (b i).toNat) : cKw kb i c < 2 ^ (b (i + 1)).toNat := by
  have hm := nm.2.2.2.2.1 i (i + 1) (by omega) (by omega)
  have h2 : c < 2 ^ (b (i + 1)).toNat := Nat.lt_of_lt_of_le hc (Nat.pow_le_pow_right (by omega) (by omega))
  unfold cKw
  by_cases e : kb i = -1
  · rw [if_pos e]; exact h2
  · rw [if_neg e]
    have := nm.1 i hi
    exact Nat.or_lt_two_pow h2 (Nat.pow_lt_pow_right (by omega) (by omega))
end NM
/-! ===== where rows of the fewest hours stand ===== -/
def oF (N : Nat) (b : Nat → Int) (i : Nat) : Nat := match i with
  | 0 => 0
  | i + 1 => oF N b i + tri (N - i + 1) * 2 ^ (b i).toNat
theorem oF_s (N : Nat) (b : Nat → Int) (i : Nat) : oF N b (i + 1) = oF N b i + tri (N - i + 1) * 2 ^ (b i).toNat := rfl
theorem tri_pos (s : Nat) : 0 < tri (s + 1) := by show 0 < tri s + s + 1; omega
theorem tri_s (s : Nat) : tri (s + 1) = tri s + s + 1 := rfl
theorem oF_le {N : Nat} {b : Nat → Int} (hN : N ≤ 20) : ∀ i, i ≤ N + 1 → (∀ j, j < i → b j ≤ 4) → oF N b i ≤ i * 3696
  | 0, _, _ => Nat.le_refl _
  | i + 1, hi, hb => by
    have ih := oF_le (b := b) hN i (by omega) (fun j hj => hb j (by omega))
    rw [oF_s]
    have t : tri (N - i + 1) ≤ 231 := tri_le (t := 21) (by omega)
    have p : 2 ^ (b i).toNat ≤ 2 ^ 4 := Nat.pow_le_pow_right (by omega) (by have := hb i (by omega); omega)
    have := Nat.mul_le_mul t p
    omega
theorem oF_mono {N : Nat} {b : Nat → Int} {i j : Nat} (h : i ≤ j) : oF N b i ≤ oF N b j := by
  induction j with
  | zero => rw [show i = 0 by omega]; exact Nat.le_refl _
  | succ j ih =>
    by_cases e : i = j + 1
    · rw [e]; exact Nat.le_refl _
    · have := ih (by omega)
      rw [oF_s]; omega
theorem cell_lt {T c p B : Nat} (hc : c < B) (hp : p < T) : c * T + p < T * B := by
  have := Nat.mul_le_mul_right T (show c + 1 ≤ B from hc)
  rw [Nat.add_mul, Nat.one_mul, Nat.mul_comm B T] at this
  omega
theorem tri_in {s t L : Nat} (hs : s ≤ L) (ht : t ≤ s) : tri s + t < tri (L + 1) := by
  have := tri_le (s := s + 1) (t := L + 1) (by omega)
  rw [tri_s] at this
  omega
theorem cell_inj {T c s t c' s' t' L : Nat} (hT : T = tri (L + 1)) (hs : s ≤ L) (ht : t ≤ s) (hs' : s' ≤ L) (ht' : t' ≤ s') (e : c * T + (tri s + t) = c' * T + (tri s' + t')) : c = c' ∧ s = s' ∧ t = t' := by
  have p := tri_in hs ht
  have p' := tri_in hs' ht'
  rw [← hT] at p p'
  have ec : c = c' := by
    rcases Nat.lt_trichotomy c c' with h | h | h
    · have := Nat.mul_le_mul_right T (show c + 1 ≤ c' from h)
      rw [Nat.add_mul] at this; omega
    · exact h
    · have := Nat.mul_le_mul_right T (show c' + 1 ≤ c from h)
      rw [Nat.add_mul] at this; omega
  subst ec
  have := pPl_inj (a := s - t) (b := t) (c := s' - t') (d := t') (by unfold pPl; rw [show s - t + t = s by omega, show s' - t' + t' = s' by omega]; omega)
  omega
