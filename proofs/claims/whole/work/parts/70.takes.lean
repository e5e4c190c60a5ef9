section TK
variable {F : zFs} {D : zDa} {Z : Nat → Prop} {K A : Nat → Int}
theorem kAsk_in (hk : kOk K) {q : Nat} (hq : (q : Int) < K 390) {l h d : Int} (hl : -1000 ≤ l ∧ l ≤ 1000) (hh : -1000 ≤ h ∧ h ≤ 1000) (hd : -1000 ≤ d ∧ d ≤ 1000) (k : Nat) : -1000000000 ≤ kAsk K q l h d k ∧ kAsk K q l h d k ≤ 1000000000 := by
  have h1 := hk.1
  have h2 := hk.2.1 q hq
  unfold kAsk
  split; omega
  split; omega
  split; omega
  split; omega
  split; omega
  split; omega
  split <;> omega
theorem pX12_asksOf (hK : D 93 = K) {q : Nat} (hq : q < 20) (l h d : Int) : ∃ D', fX12_asksOf F (q : Int) l h d D = some D' ∧ zfm [102] [] D D' ∧ ∀ k, k < 7 → D' 102 k = kAsk K q l h d k := by
  have f0 : ∀ D1 : zDa, D1 93 = K → fX12_factOf F (q : Int) 0 D1 = some (K (5 * q), D1) := fun D1 h1 => by rw [pX12_factOf (w := 0) (q := q) (k := 0) rfl rfl (by omega), h1]; rfl
  have f1 : ∀ D1 : zDa, D1 93 = K → fX12_factOf F (q : Int) 1 D1 = some (K (5 * q + 1), D1) := fun D1 h1 => by rw [pX12_factOf (w := 1) (q := q) (k := 1) rfl rfl (by omega), h1]
  have f3 : ∀ D1 : zDa, D1 93 = K → fX12_factOf F (q : Int) 3 D1 = some (K (5 * q + 3), D1) := fun D1 h1 => by rw [pX12_factOf (w := 3) (q := q) (k := 3) rfl rfl (by omega), h1]
  refine ⟨zwr (zwr (zwr (zwr (zwr (zwr (zwr D 102 0 (K (5 * q))) 102 1 (K (5 * q + 1))) 102 2 l) 102 3 h) 102 4 (K (5 * q + 3))) 102 5 d) 102 6 (q : Int), ?_, ?_, ?_⟩
  · unfold fX12_asksOf
    rw [f0 D hK, Option.bind_some]
    dsimp only [zlet]
    rw [f1 _ (by rw [zwr_row (by omega), hK]), Option.bind_some]
    dsimp only
    rw [f3 _ (by rw [zwr_row (by omega), zwr_row (by omega), zwr_row (by omega), zwr_row (by omega), hK]), Option.bind_some]
  · exact ((((((((zfm.rfl' _ _ D).wr (by decide) (by decide)).wr (by decide) (by decide)).wr (by decide) (by decide)).wr (by decide) (by decide)).wr (by decide) (by decide)).wr (by decide) (by decide)).wr (by decide) (by decide))
  · intro k hk
    have : k = 0 ∨ k = 1 ∨ k = 2 ∨ k = 3 ∨ k = 4 ∨ k = 5 ∨ k = 6 := by omega
    rcases this with rfl | rfl | rfl | rfl | rfl | rfl | rfl <;> simp [zwr, kAsk]
theorem pX12_takesOf (hK : D 93 = K) (hk : kOk K) (hP : kPOk K) {q : Nat} (hq : (q : Int) < K 390) {l h d : Int} (hl : -1000 ≤ l ∧ l ≤ 1000) (hh : h = 0 ∨ h = 1) (hd : -1000 ≤ d ∧ d ≤ 1000) :
    qS (fX12_takesOf F (q : Int) l h d D) (fun r => r.1 = kTakes K q l h d ∧ zfm [102] [18, 19, 20] D r.2) := by
  have h1 := hk.1
  have core : qS (fX12_takesOf_12 F d h l (q : Int) D) (fun r => r.1 = kTakes K q l h d ∧ zfm [102] [18, 19, 20] D r.2) := by
    unfold fX12_takesOf_12
    obtain ⟨D', e, hf, ha⟩ := pX12_asksOf (F := F) hK (q := q) (by omega) l h d
    refine qS_step e (qS_call (pX12_told (F := F) (D := D') (A := kAsk K q l h d) (by rw [hf.1 93 (by omega) (by decide), hK]) hk hP ha (kAsk_in hk hq hl (by omega) hd) 1 1 20 4) (fun r hr => qS_ret ?_))
    exact ⟨hr.1, (hf.mono (by decide) (by decide)).trans (hr.2.mono (by decide) (by decide))⟩
  unfold fX12_takesOf
  rcases hh with rfl | rfl
  · rw [if_pos rfl]; exact core
  · rw [if_neg (by omega)]; exact core
theorem pX12_keepsOf (hK : D 93 = K) (hk : kOk K) (hP : kPOk K) {q : Nat} (hq : (q : Int) < K 390) {l : Int} (hl : -1000 ≤ l ∧ l ≤ 1000) :
    qS (fX12_keepsOf F (q : Int) l D) (fun r => r.1 = kKeeps K q l ∧ zfm [102] [18, 19, 20] D r.2) := by
  have h1 := hk.1
  unfold fX12_keepsOf
  obtain ⟨D', e, hf, ha⟩ := pX12_asksOf (F := F) hK (q := q) (by omega) l 0 0
  refine qS_step e (qS_call (pX12_told (F := F) (D := D') (A := kAsk K q l 0 0) (by rw [hf.1 93 (by omega) (by decide), hK]) hk hP ha (kAsk_in hk hq hl (by omega) (by omega)) 2 1 30 10) (fun r hr => qS_ret ?_))
  exact ⟨hr.1, (hf.mono (by decide) (by decide)).trans (hr.2.mono (by decide) (by decide))⟩
theorem pX12_chanceOf (hK : D 93 = K) (hk : kOk K) (hP : kPOk K) {l : Int} (hl : 0 ≤ l ∧ l ≤ 2) :
    qS (fX12_chanceOf F l D) (fun r => r.1 = kChance K l ∧ zfm [102] [18, 19, 20] D r.2) := by
  unfold fX12_chanceOf
  refine qloop1 (fun v D1 => ∃ i : Nat, v = (i : Int) ∧ i ≤ 7 ∧ zfm [102] [18, 19, 20] D D1 ∧ ∀ k, k < i → D1 102 k = 0) (fun v _ => (7 - v).toNat) ?_ ⟨0, by omega, by omega, zfm.rfl' _ _ D, fun k hk => by omega⟩ (zfu_gt (by omega))
  intro k v D1 ⟨i, ev, hi, hf, h0⟩ ih
  subst ev
  unfold fX12_chanceOf_2
  refine qS_ite (fun hlt => ?_) (fun hlt => ?_)
  · refine qS_chk (by omega) (qS_leti (qS_chk (by omega) (ih _ _ ⟨i + 1, by omega, by omega, hf.wr (by decide) (by decide), fun k hk => ?_⟩ (by omega))))
    rw [zwr_at, show ((i : Int)).toNat = i by omega]
    by_cases e : k = i
    · rw [if_pos e]
    · rw [if_neg e]; exact h0 k (by omega)
  · have : i = 7 := by omega
    subst this
    refine qS_leti (qS_chk (by omega) ?_)
    have hf2 : zfm [102] [18, 19, 20] D (zwr D1 102 2 l) := hf.wr (by decide) (by decide)
    refine qS_call (pX12_told (F := F) (D := zwr D1 102 2 l) (A := fun k => if k = 2 then l else 0) (by rw [hf2.1 93 (by omega) (by decide), hK]) hk hP (fun k hk => ?_) (fun k => ?_) 3 0 100 (50 * l)) (fun r hr => qS_ret ?_)
    · rw [zwr_at]
      by_cases e : k = 2
      · rw [if_pos e, if_pos e]
      · rw [if_neg e, if_neg e]; exact h0 k hk
    · split <;> omega
    · exact ⟨hr.1, hf2.trans (hr.2.mono (by decide) (by decide))⟩
/-! ===== the class's teller ===== -/
theorem zshr4 {s : Int} (h : 0 ≤ s ∧ s ≤ 2147483647) : zand s 15 = s % 16 ∧ zshr s 4 = s / 16 := by
  obtain ⟨a, rfl⟩ : ∃ a : Nat, s = (a : Int) := ⟨s.toNat, by omega⟩
  constructor
  · rw [show (15 : Int) = ((15 : Nat) : Int) from rfl, zand_nat (by omega) (by omega), show (15 : Nat) = 2 ^ 4 - 1 from rfl, Nat.and_two_pow_sub_one_eq_mod]
    omega
  · rw [show (4 : Int) = ((4 : Nat) : Int) from rfl, zshr_nat (by omega) (by omega)]
    omega
/-- the machine's stack is the class's -/
def hSt (D : zDa) (top : Nat) (st : Nat → Int) : Prop := D 49 3 = (top : Int) ∧ D 51 = st
theorem hPush {D : zDa} {top : Nat} {st : Nat → Int} (h : hSt D top st) (ht : top < 52) (v : Int) : ∃ D', fX10_push F v D = some D' ∧ hSt D' (top + 1) (zset st top v) ∧ zfr [49, 51] D D' := by
  obtain ⟨h1, h2⟩ := h
  refine ⟨zwr (zwr D 51 top v) 49 3 ((top : Int) + 1), ?_, ⟨?_, ?_⟩, ((zfr.rfl' _ D).wr (by decide)).wr (by decide)⟩
  · unfold fX10_push
    rw [if_neg (by omega), if_pos (by omega), if_pos (by omega)]
    dsimp only [zlet]
    rw [zwr_row (by omega), if_pos (by omega), h1, show ((top : Int)).toNat = top by omega]
  · rw [zwr_eq]; omega
  · rw [zwr_row (by omega), zwr_self, h2]
theorem hOp {D : zDa} {top : Nat} {st : Nat → Int} (h : hSt D top st) (ht : 1 < top ∧ top ≤ 52) (b1 : -1000000000 ≤ st (top - 1) ∧ st (top - 1) ≤ 1000000000) (b2 : -1000000000 ≤ st (top - 2) ∧ st (top - 2) ≤ 1000000000) {op : Int} (hop : op ≠ 9) (ho2 : 2 ≤ op ∧ op ≤ 15) :
    match kBin2 op (st (top - 2)) (st (top - 1)) with
    | none => ∃ D', fX10_operate F op D = some (0, D') ∧ zfr [49, 51] D D'
    | some z => ∃ D', fX10_operate F op D = some (1, D') ∧ hSt D' (top - 1) (zset st (top - 2) z) ∧ zfr [49, 51] D D' := by
  obtain ⟨h1, h2⟩ := h
  have i1 : (D 49 3 - 1).toNat = top - 1 := by omega
  generalize hx : st (top - 2) = x at *
  generalize hy : st (top - 1) = y at *
  have hD1 : ∀ k, zwr D 49 3 ((top : Int) - 1) 51 k = st k := fun k => by rw [zwr_row (by omega), h2]
  have fin : ∀ z : Int, fX10_operate_228 F z (zwr D 49 3 ((top : Int) - 1)) = if z < -1000000000 then some (0, zwr (zwr D 49 3 ((top : Int) - 1)) 51 (top - 2) z) else if 1000000000 < z then some (0, zwr (zwr D 49 3 ((top : Int) - 1)) 51 (top - 2) z) else some (1, zwr (zwr D 49 3 ((top : Int) - 1)) 51 (top - 2) z) := by
    intro z
    unfold fX10_operate_228
    rw [zwr_eq, if_pos (by omega), show ((top : Int) - 1 - 1).toNat = top - 2 by omega]
    rfl
  have fr : ∀ z : Int, zfr [49, 51] D (zwr (zwr D 49 3 ((top : Int) - 1)) 51 (top - 2) z) := fun z => ((zfr.rfl' _ D).wr (by decide)).wr (by decide)
  have hs : ∀ z : Int, hSt (zwr (zwr D 49 3 ((top : Int) - 1)) 51 (top - 2) z) (top - 1) (zset st (top - 2) z) := fun z => ⟨by rw [zwr_row (by omega), zwr_eq]; omega, by rw [zwr_self, zwr_row (by omega), h2]⟩
  have bnd : ∀ z : Int, (∀ op', fX10_operate F op D = fX10_operate_228 F z (zwr D 49 3 ((top : Int) - 1)) → op' = op → match kBnd z with | none => ∃ D', fX10_operate F op D = some (0, D') ∧ zfr [49, 51] D D' | some z => ∃ D', fX10_operate F op D = some (1, D') ∧ hSt D' (top - 1) (zset st (top - 2) z) ∧ zfr [49, 51] D D') := by
    intro z op' e _
    rw [e, fin]
    unfold kBnd
    by_cases c1 : z < -1000000000
    · rw [if_pos c1, if_neg (by omega)]
      exact ⟨_, rfl, fr z⟩
    · by_cases c2 : 1000000000 < z
      · rw [if_neg c1, if_pos c2, if_neg (by omega)]
        exact ⟨_, rfl, fr z⟩
      · rw [if_neg c1, if_neg c2, if_pos (by omega)]
        exact ⟨_, rfl, hs z, fr z⟩
  have e73 : ∀ z : Int, (∀ Dx : zDa, Dx = zwr D 49 3 ((top : Int) - 1) → (if op = 2 then (if (-9223372036854775808 ≤ x + y ∧ x + y ≤ 9223372036854775807) then fX10_operate_228 F (x + y) Dx else none) else if op = 3 then (if (-9223372036854775808 ≤ x - y ∧ x - y ≤ 9223372036854775807) then fX10_operate_228 F (x - y) Dx else none) else if op = 4 then (if (-9223372036854775808 ≤ x * y ∧ x * y ≤ 9223372036854775807) then fX10_operate_228 F (x * y) Dx else none) else if op = 5 then (if (y ≠ 0) ∧ (¬ (x = -9223372036854775808 ∧ y = -1)) then fX10_operate_228 F (Int.tdiv x y) Dx else none) else if op = 6 then (if x < y then fX10_operate_228 F 1 Dx else fX10_operate_228 F 0 Dx) else if op = 7 then (if y < x then fX10_operate_228 F 1 Dx else fX10_operate_228 F 0 Dx) else (if x = y then fX10_operate_228 F 1 Dx else fX10_operate_228 F 0 Dx)) = fX10_operate_228 F z Dx) → (op = 5 → y ≠ 0) → fX10_operate F op D = fX10_operate_228 F z (zwr D 49 3 ((top : Int) - 1)) := by
    intro z hz h5
    rw [← hz _ rfl]
    unfold fX10_operate
    rw [if_neg hop, if_neg (by omega)]
    have e : fX10_operate_73 F op D = (if op = 2 then (if (-9223372036854775808 ≤ x + y ∧ x + y ≤ 9223372036854775807) then fX10_operate_228 F (x + y) (zwr D 49 3 ((top : Int) - 1)) else none) else if op = 3 then (if (-9223372036854775808 ≤ x - y ∧ x - y ≤ 9223372036854775807) then fX10_operate_228 F (x - y) (zwr D 49 3 ((top : Int) - 1)) else none) else if op = 4 then (if (-9223372036854775808 ≤ x * y ∧ x * y ≤ 9223372036854775807) then fX10_operate_228 F (x * y) (zwr D 49 3 ((top : Int) - 1)) else none) else if op = 5 then (if (y ≠ 0) ∧ (¬ (x = -9223372036854775808 ∧ y = -1)) then fX10_operate_228 F (Int.tdiv x y) (zwr D 49 3 ((top : Int) - 1)) else none) else if op = 6 then (if x < y then fX10_operate_228 F 1 (zwr D 49 3 ((top : Int) - 1)) else fX10_operate_228 F 0 (zwr D 49 3 ((top : Int) - 1))) else if op = 7 then (if y < x then fX10_operate_228 F 1 (zwr D 49 3 ((top : Int) - 1)) else fX10_operate_228 F 0 (zwr D 49 3 ((top : Int) - 1))) else (if x = y then fX10_operate_228 F 1 (zwr D 49 3 ((top : Int) - 1)) else fX10_operate_228 F 0 (zwr D 49 3 ((top : Int) - 1)))) := by
      unfold fX10_operate_73
      rw [h1, if_pos (by omega)]
      dsimp only [zlet]
      rw [zwr_eq, if_pos (by omega), hD1, hD1, show ((top : Int) - 1 - 1).toNat = top - 2 by omega, show ((top : Int) - 1).toNat = top - 1 by omega, hx, hy, if_pos (by omega)]
      rfl
    by_cases h5' : op = 5
    · rw [if_pos h5', if_pos (by omega), i1, h2, hy, if_neg (h5 h5'), e]
    · rw [if_neg h5', e]
  have bs : ∀ z : Int, (z = 0 ∨ z = 1) → fX10_operate F op D = fX10_operate_228 F z (zwr D 49 3 ((top : Int) - 1)) → ∃ D', fX10_operate F op D = some (1, D') ∧ hSt D' (top - 1) (zset st (top - 2) z) ∧ zfr [49, 51] D D' := by
    intro z hz e
    rw [e, fin, if_neg (by omega), if_neg (by omega)]
    exact ⟨_, rfl, hs z, fr z⟩
  unfold kBin2
  by_cases o2 : op = 2
  · rw [if_pos o2]; exact bnd (x + y) op (e73 (x + y) (fun Dx _ => by rw [if_pos o2, if_pos (by omega)]) (by omega)) rfl
  rw [if_neg o2]
  by_cases o3 : op = 3
  · rw [if_pos o3]; exact bnd (x - y) op (e73 (x - y) (fun Dx _ => by rw [if_neg o2, if_pos o3, if_pos (by omega)]) (by omega)) rfl
  rw [if_neg o3]
  by_cases o4 : op = 4
  · have hxy : -9223372036854775808 ≤ x * y ∧ x * y ≤ 9223372036854775807 := by
      have h1 : x * y ≤ 1000000000 * 1000000000 := by
        by_cases hy0 : 0 ≤ y
        · exact Int.le_trans (Int.mul_le_mul_of_nonneg_right b2.2 hy0) (Int.mul_le_mul_of_nonneg_left b1.2 (by omega))
        · have : x * y = (-x) * (-y) := by rw [Int.neg_mul_neg]
          rw [this]
          exact Int.le_trans (Int.mul_le_mul_of_nonneg_right (by omega : -x ≤ 1000000000) (by omega)) (Int.mul_le_mul_of_nonneg_left (by omega) (by omega))
      have h2 : -(x * y) ≤ 1000000000 * 1000000000 := by
        by_cases hy0 : 0 ≤ y
        · have : -(x * y) = (-x) * y := by rw [Int.neg_mul]
          rw [this]
          exact Int.le_trans (Int.mul_le_mul_of_nonneg_right (by omega : -x ≤ 1000000000) hy0) (Int.mul_le_mul_of_nonneg_left b1.2 (by omega))
        · have : -(x * y) = x * (-y) := by rw [Int.mul_neg]
          rw [this]
          exact Int.le_trans (Int.mul_le_mul_of_nonneg_right b2.2 (by omega)) (Int.mul_le_mul_of_nonneg_left (by omega) (by omega))
      omega
    rw [if_pos o4]; exact bnd (x * y) op (e73 (x * y) (fun Dx _ => by rw [if_neg o2, if_neg o3, if_pos o4, if_pos hxy]) (by omega)) rfl
  rw [if_neg o4]
  by_cases o5 : op = 5
  · rw [if_pos o5]
    by_cases y0 : y = 0
    · rw [if_pos y0]
      refine ⟨D, ?_, zfr.rfl' _ D⟩
      unfold fX10_operate
      rw [if_neg hop, if_neg (by omega), if_pos o5, if_pos (by omega), i1, h2, hy, if_pos y0]
    · rw [if_neg y0]
      exact bnd (Int.tdiv x y) op (e73 (Int.tdiv x y) (fun Dx _ => by rw [if_neg o2, if_neg o3, if_neg o4, if_pos o5, if_pos (by omega)]) (fun _ => y0)) rfl
  rw [if_neg o5]
  by_cases o6 : op = 6
  · rw [if_pos o6]
    by_cases c : x < y
    · rw [if_pos c]; exact bs 1 (by omega) (e73 1 (fun Dx _ => by rw [if_neg o2, if_neg o3, if_neg o4, if_neg o5, if_pos o6, if_pos c]) (by omega))
    · rw [if_neg c]; exact bs 0 (by omega) (e73 0 (fun Dx _ => by rw [if_neg o2, if_neg o3, if_neg o4, if_neg o5, if_pos o6, if_neg c]) (by omega))
  rw [if_neg o6]
  by_cases o7 : op = 7
  · rw [if_pos o7]
    by_cases c : y < x
    · rw [if_pos c]; exact bs 1 (by omega) (e73 1 (fun Dx _ => by rw [if_neg o2, if_neg o3, if_neg o4, if_neg o5, if_neg o6, if_pos o7, if_pos c]) (by omega))
    · rw [if_neg c]; exact bs 0 (by omega) (e73 0 (fun Dx _ => by rw [if_neg o2, if_neg o3, if_neg o4, if_neg o5, if_neg o6, if_pos o7, if_neg c]) (by omega))
  rw [if_neg o7]
  by_cases c : x = y
  · rw [if_pos c]; exact bs 1 (by omega) (e73 1 (fun Dx _ => by rw [if_neg o2, if_neg o3, if_neg o4, if_neg o5, if_neg o6, if_neg o7, if_pos c]) (by omega))
  · rw [if_neg c]; exact bs 0 (by omega) (e73 0 (fun Dx _ => by rw [if_neg o2, if_neg o3, if_neg o4, if_neg o5, if_neg o6, if_neg o7, if_neg c]) (by omega))
end TK
