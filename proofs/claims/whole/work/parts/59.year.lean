/-! ===== bytes and words; year, row, clear ===== -/
theorem zand_255 {z : Int} (h : -2147483648 ≤ z ∧ z ≤ 2147483647) : zand z 255 = z % 256 := by
  unfold zand
  have e : (Int32.ofInt z &&& Int32.ofInt 255).toBitVec.toNat = (z % 256).toNat := by
    show ((Int32.ofInt z).toBitVec &&& (Int32.ofInt 255).toBitVec).toNat = _
    rw [BitVec.toNat_and, Int32.toBitVec_ofInt, BitVec.toNat_ofInt, show (Int32.ofInt 255).toBitVec.toNat = 2 ^ 8 - 1 from by decide, Nat.and_two_pow_sub_one_eq_mod]
    omega
  rw [zb_of _ (by rw [e]; omega), e]
  omega
def zbyte (x : Int) (s : Nat) : Int := (x / 2 ^ s) % 256
theorem zbyte_in (x : Int) (s : Nat) : 0 ≤ zbyte x s ∧ zbyte x s ≤ 255 := by unfold zbyte; omega
theorem zbyte_u {x : Int} {s : Nat} (h : -2147483648 ≤ x ∧ x ≤ 2147483647) (hs : s = 0 ∨ s = 8 ∨ s = 16 ∨ s = 24) : zand (zushr x (s : Int)) 255 = zbyte x s := by
  unfold zbyte
  by_cases h0 : 0 ≤ x
  · obtain ⟨a, rfl⟩ : ∃ a : Nat, x = (a : Int) := ⟨x.toNat, by omega⟩
    have : a / 2 ^ s ≤ a := Nat.div_le_self _ _
    have e0 : zand ((a / 2 ^ s : Nat) : Int) 255 = ((a / 2 ^ s : Nat) : Int) % 256 := by
      generalize a / 2 ^ s = t at this
      exact zand_255 (by omega)
    rw [zushr_nat (by omega) (by omega), e0, Int.natCast_ediv, Int.natCast_pow]; rfl
  · rcases hs with rfl | rfl | rfl | rfl
    · rw [show ((0 : Nat) : Int) = 0 from rfl, zushr_zero h, zand_255 h]; simp
    · rw [zushr_neg (by omega) (by omega) (by omega) (by omega), zand_255 (by omega)]; omega
    · rw [zushr_neg (by omega) (by omega) (by omega) (by omega), zand_255 (by omega)]; omega
    · rw [zushr_neg (by omega) (by omega) (by omega) (by omega), zand_255 (by omega)]; omega
theorem zshr_int {x : Int} {s : Nat} (h : -2147483648 ≤ x ∧ x ≤ 2147483647) (hs : s < 32) : zshr x (s : Int) = x / 2 ^ s := by
  unfold zshr
  show (BitVec.sshiftRight' (Int32.ofInt x).toBitVec ((Int32.ofInt (s : Int) &&& 31).toBitVec.smod 32)).toInt = _
  rw [zsh_k s hs, BitVec.toInt_sshiftRight', zk32 hs]
  have e : (Int32.ofInt x).toBitVec.toInt = x := z32 h
  rw [e, Int.shiftRight_eq_div_pow, Int.natCast_pow]; rfl
theorem zi2b_eq {z : Int} (h : -2147483648 ≤ z ∧ z ≤ 2147483647) : zi2b z = sgn8 (z % 256) := by
  unfold zi2b sgn8
  rw [Int8.toInt_toInt32, Int32.toInt_toInt8, z32 h, Int.bmod_def]
  split <;> split <;> omega
theorem zbyte_s {x : Int} {s : Nat} (h : -2147483648 ≤ x ∧ x ≤ 2147483647) (hs : s < 32) : zi2b (zshr x (s : Int)) = sgn8 (zbyte x s) ∧ -128 ≤ zi2b (zshr x (s : Int)) ∧ zi2b (zshr x (s : Int)) ≤ 127 := by
  have hr : -2147483648 ≤ zshr x (s : Int) ∧ zshr x (s : Int) ≤ 2147483647 := by unfold zshr; exact z32_rng _
  have e : zi2b (zshr x (s : Int)) = sgn8 (zbyte x s) := by rw [zi2b_eq hr, zshr_int h hs]; rfl
  refine ⟨e, ?_⟩
  rw [e]
  have := zbyte_in x s
  unfold sgn8; split <;> omega
theorem zand_sgn8 {b : Int} (h : 0 ≤ b ∧ b ≤ 255) : zand (sgn8 b) 255 = b := by
  have : -2147483648 ≤ sgn8 b ∧ sgn8 b ≤ 2147483647 := by unfold sgn8; split <;> omega
  rw [zand_255 this]
  unfold sgn8; split <;> omega
theorem zall {v : Int} {n : Nat} (hv : -2147483648 ≤ v ∧ v ≤ 2147483647) (hn : n ≤ 20) : zushr v (n : Int) = 0 ↔ (0 ≤ v ∧ v < 2 ^ n) := by
  by_cases h0 : 0 ≤ v
  · obtain ⟨a, rfl⟩ : ∃ a : Nat, v = (a : Int) := ⟨v.toNat, by omega⟩
    rw [zushr_nat (by omega) (by omega)]
    have hp : 0 < 2 ^ n := Nat.two_pow_pos n
    have e : ((2 : Int) ^ n) = ((2 ^ n : Nat) : Int) := by rw [Int.natCast_pow]; rfl
    rw [e]
    have : a / 2 ^ n = 0 ↔ a < 2 ^ n := by rw [Nat.div_eq_zero_iff]; omega
    omega
  · by_cases hn0 : n = 0
    · subst hn0
      rw [show ((0 : Nat) : Int) = 0 from rfl, zushr_zero hv]; omega
    · rw [zushr_neg (by omega) (by omega) (by omega) (by omega)]
      have h1 : 2 ^ n ≤ 2 ^ 20 := Nat.pow_le_pow_right (by omega) hn
      have h2 : 1 ≤ (v + 4294967296).toNat / 2 ^ n := (Nat.one_le_div_iff (Nat.two_pow_pos n)).mpr (by omega)
      omega
theorem zone_int {n : Nat} (hn : n ≤ 20) : zshl 1 (n : Int) = 2 ^ n := by
  rw [zone_shl (by omega), Int.natCast_pow]; rfl
def oYear (K : Nat → Int) (d : Int) : Int × Int × (Nat → Int) :=
  if ¬ (0 ≤ d ∧ d < 2 ^ (K 390).toNat) then (-1, -1, K) else if K 392 = 40 then (-5, -5, K)
  else (0, K 392 + 1, zset (zset K (350 + (K 392).toNat) d) 392 (K 392 + 1))
section C5
variable {F : zFs} {D D1 : zDa} {Z : Nat → Prop} {K K' : Nat → Int} {im : Nat → Option (Nat → Int)} {tp : Nat → Int} {tl : Int} {ms : Nat → Int} {c : Nat}
theorem kOk.year (h : kOk K) {d : Int} {n : Nat} (hn : K 392 = (n : Int)) (hn2 : n < 40) (hd : 0 ≤ d ∧ d < 2 ^ (K 390).toNat) : kOk (zset (zset K (350 + n) d) 392 (K 392 + 1)) := by
  obtain ⟨h1, h2, h3, ⟨h4, h4'⟩, h5, ⟨h6, h6'⟩, h7⟩ := h
  refine ⟨?_, ?_, ?_, ⟨?_, ?_⟩, ?_, ⟨?_, ?_⟩, ?_⟩
  · simp (disch := omega) only [zset_off]; exact h1
  · intro q hq
    simp (disch := omega) only [zset_off] at hq
    have hq20 : (q : Int) < 20 := by omega
    simp (disch := omega) only [zset_off]
    exact h2 q hq
  · intro k hk; simp (disch := omega) only [zset_off]; exact h3 k hk
  · simp (disch := omega) only [zset_off]; exact h4
  · intro i hi
    simp (disch := omega) only [zset_off] at hi
    have : (i : Int) < 120 := by omega
    simp (disch := omega) only [zset_off]; exact h4' i hi
  · intro f hf; simp (disch := omega) only [zset_off]; exact h5 f hf
  · rw [zset_eq]; omega
  · intro y hy
    rw [zset_eq] at hy
    rw [zset_off (j := 390) (by omega), zset_off (j := 390) (by omega), zset_off (by omega)]
    by_cases e : y = n
    · subst e; rw [zset_eq]; exact hd
    · rw [zset_off (by omega)]; exact h6' y (by omega)
  · simp (disch := omega) only [zset_off]; exact h7
theorem qSt.year (h : qSt F D Z 1 K) {d : Int} {n : Nat} (hn : K 392 = (n : Int)) (hn2 : n < 40) (hd : 0 ≤ d ∧ d < 2 ^ (K 390).toNat) (hZ : ∀ a, Z a → 126 ≤ a)
    (gr : ∀ a, a ≠ 0 → a ≠ 1 → a ≠ 12 → D1 a = D a) (g1 : ∀ j, j < 15 → D1 1 j = D 1 j) (g15 : D1 1 15 = K 392 + 1) (g12 : ∀ j, D1 12 j = if j = n then d else D 12 j) : qSt F D1 Z 1 (zset (zset K (350 + n) d) 392 (K 392 + 1)) := by
  obtain ⟨hk, e5, e2, e3, ⟨e4, e4'⟩, e6, ⟨e7, e7'⟩, e8, e9, e10, e11⟩ := id h
  have hk1 := hk.1
  have hk4 := hk.2.2.2.1.1
  refine qSt.mk1 h (hk.year hn hn2 hd) (fun a ha => gr a (by have := hZ a ha; omega) (by have := hZ a ha; omega) (by have := hZ a ha; omega)) (gr 8 (by omega) (by omega) (by omega)) (fun i hi => by rw [zset_off (by omega), zset_off (by omega)]) (by rw [zset_off (by omega), zset_off (by omega)]) ?_ ?_ ?_ ?_ ?_ ?_ ?_ ?_ ?_ ?_
  · rw [g1 5 (by omega)]; simp (disch := omega) only [zset_off]; exact e5
  · intro q hq
    simp (disch := omega) only [zset_off] at hq
    have hq20 : (q : Int) < 20 := by omega
    rw [gr 2 (by omega) (by omega) (by omega), gr 3 (by omega) (by omega) (by omega), gr 4 (by omega) (by omega) (by omega), gr 5 (by omega) (by omega) (by omega), gr 6 (by omega) (by omega) (by omega)]
    simp (disch := omega) only [zset_off]
    exact e2 q hq
  · intro k hk; rw [gr 7 (by omega) (by omega) (by omega)]; simp (disch := omega) only [zset_off]; exact e3 k hk
  · rw [g1 12 (by omega)]; simp (disch := omega) only [zset_off]; exact e4
  · intro i hi
    simp (disch := omega) only [zset_off] at hi
    have : (i : Int) < 120 := by omega
    rw [gr 9 (by omega) (by omega) (by omega), gr 10 (by omega) (by omega) (by omega)]
    simp (disch := omega) only [zset_off]; exact e4' i hi
  · intro f hf; rw [gr 11 (by omega) (by omega) (by omega)]; simp (disch := omega) only [zset_off]; exact e6 f hf
  · rw [g15, zset_eq]
  · intro y hy
    rw [zset_eq] at hy
    rw [g12, zset_off (by omega)]
    by_cases e : y = n
    · subst e; rw [zset_eq, if_pos rfl]
    · rw [zset_off (by omega), if_neg e]; exact e7' y (by omega)
  · exact g1 8 (by omega)
  · rw [g1 9 (by omega)]; simp (disch := omega) only [zset_off]; exact e9
theorem eV.year {d : Int} {n : Nat} (hn : n < 40) : eV K (zset (zset K (350 + n) d) 392 (K 392 + 1)) :=
  (eV.off (by omega) (by omega) (by omega) (by omega)).trans (eV.off (by omega) (by omega) (by omega) (by omega))
theorem pX9_allThere (h : qSt F D Z 1 K) {v : Int} (hv : -2147483648 ≤ v ∧ v ≤ 2147483647) : fX9_allThere F v D = some (if 0 ≤ v ∧ v < 2 ^ (K 390).toNat then 1 else 0, D) := by
  have hk1 := h.1.1
  have e5 := h.2.1
  unfold fX9_allThere
  have e : D 1 5 = ((K 390).toNat : Int) := by omega
  rw [e]
  have := zall (n := (K 390).toNat) hv (by omega)
  by_cases hx : zushr v ((K 390).toNat : Int) = 0
  · rw [if_pos hx, if_pos (this.mp hx)]
  · rw [if_neg hx, if_neg (fun h => hx (this.mpr h))]
theorem pX9_addYear (h : qSt F D Z 1 K) {v : Int} {n : Nat} (hn : K 392 = (n : Int)) (hn2 : n < 40) : fX9_addYear F v D = some (zwr (zwr D 12 n v) 1 15 (K 392 + 1)) := by
  have e7 := h.2.2.2.2.2.2.1.1
  unfold fX9_addYear
  have en : (D 1 15).toNat = n := by omega
  have r1 : zwr D 12 n v 1 15 = D 1 15 := by rw [zwr_row (by omega)]
  simp only [zlet]
  rw [if_pos (by omega), if_pos (by omega), en, r1, if_pos (by omega), e7]
theorem pc_year (h : cA F D Z K im tp tl ms c) (hc : c < 1000) (d : Int) (hd : -2147483648 ≤ d ∧ d ≤ 2147483647) : qS (fX11_year F d D) (cP F D Z K im tp tl ms c (oYear K d)) := by
  have hv := h.ver
  have hk6 := h.st.1.2.2.2.2.2.1.1
  have e7 := h.st.2.2.2.2.2.2.1.1
  unfold fX11_year
  refine qS_step (pX9_allThere h.st hd) ?_
  dsimp only
  by_cases hq : 0 ≤ d ∧ d < 2 ^ (K 390).toNat
  · rw [if_pos hq]
    refine qS_neg (by omega) ?_
    refine qS_ite (fun h3 => ?_) (fun h3 => cP.refuse h hc (-5) (by omega) (by unfold oYear; rw [if_neg (fun hb => hb hq), if_pos (by omega)]))
    obtain ⟨n, hn⟩ : ∃ n : Nat, K 392 = (n : Int) := ⟨(K 392).toNat, by omega⟩
    have en' : (K 392).toNat = n := by omega
    refine qS_step (pX9_addYear h.st hn (by omega)) ?_
    have r1 : ∀ j, j ≠ 15 → zwr (zwr D 12 n d) 1 15 (K 392 + 1) 1 j = D 1 j := fun j hj => by rw [zwr_off (by omega), zwr_row (by omega)]
    rw [zwr_eq]
    refine cP.accept h hc (qSt.year (D1 := zwr (zwr D 12 n d) 1 15 (K 392 + 1)) h.st hn (by omega) hq h.2.2.2.2.2.2.2 (fun a h0 h1 h2 => ?_) (fun j hj => r1 j (by omega)) zwr_eq (fun j => ?_)) (fun a ha => ?_) (by rw [r1 16 (by omega), r1 17 (by omega)]; omega) ?_ _ ?_
    · rw [zwr_row (by omega), zwr_row (by omega)]
    · rw [zwr_row (by omega), zwr_at]
    · rw [zwr_row (by omega), zwr_row (by omega)]
    · unfold vI; rw [r1 16 (by omega), r1 17 (by omega)]
      exact ⟨Or.inl ⟨rfl, (eV.year (by omega)).1⟩, Or.inl ⟨rfl, eV.year (by omega)⟩⟩
    · unfold oYear; rw [if_neg (fun hb => hb hq), if_neg (by omega), en']
  · rw [if_neg hq]
    exact qS_pos rfl (cP.refuse h hc (-1) (by omega) (by unfold oYear; rw [if_pos hq]))
theorem pr_year (h : rA D K im tp tl ms c) (hc : c < 1000) (d : Int) : qS (fX12_year F d D) (rP D K im tp tl ms c (oYear K d)) := by
  have hk := h.1.2.1
  have hK := h.1.1
  have hk1 := hk.1
  have hk6 := hk.2.2.2.2.2.1.1
  unfold fX12_year fX12_year_14
  refine qS_ite (fun h1 => rP.refuse h hc (-1) (by omega) (by unfold oYear; rw [if_pos (by omega)])) (fun h1 => ?_)
  refine qS_step (r := (K 390, D)) (by unfold fX12_questions; rw [hK]) ?_
  dsimp only
  have e1 : zshl 1 (K 390) = 2 ^ (K 390).toNat := by
    have := zone_int (n := (K 390).toNat) (by omega)
    rw [← this, show ((K 390).toNat : Int) = K 390 by omega]
  have h392 : D 93 392 = K 392 := by rw [hK]
  rw [e1]
  refine qS_ite (fun h2 => ?_) (fun h2 => rP.refuse h hc (-1) (by omega) (by unfold oYear; rw [if_pos (fun hb => h2 hb.2)]))
  have hq : 0 ≤ d ∧ d < 2 ^ (K 390).toNat := ⟨by omega, h2⟩
  refine qS_ite (fun h3 => rP.refuse h hc (-5) (by omega) (by unfold oYear; rw [if_neg (fun hb => hb hq), if_pos (by omega)])) (fun h3 => ?_)
  obtain ⟨n, hn⟩ : ∃ n : Nat, K 392 = (n : Int) := ⟨(K 392).toNat, by omega⟩
  have en' : (K 392).toNat = n := by omega
  have x1 : (350 + D 93 392).toNat = 350 + n := by omega
  have x3 : zwr D 93 (350 + n) d 93 392 = K 392 := by rw [zwr_off (by omega), hK]
  refine qS_chk (by omega) ?_
  rw [x1]
  refine qS_leti (qS_chk (by rw [x3]; omega) (qS_leti ?_))
  rw [x3, zwr_eq]
  refine rP.good h hc ?_ (hk.year hn (by omega) hq) ?_ ?_ _ ?_
  · rw [zwr_self, zwr_self, hK]
  · intro j hj
    rw [zset_off (by omega), zset_off (by omega)]; exact h.1.2.2 j hj
  · intro a ha; rw [zwr_row ha, zwr_row ha]
  · unfold oYear; rw [if_neg (fun hb => hb hq), if_neg (by omega), en']
end C5
