/-! ===== the reference's telling of a text ===== -/
/-- the memory while a text is told: where one is, whether it is broken -/
def eS (D : zDa) (u i : Nat) (b : Int) : zDa := zwr (zwr D 91 18 (400 * (u : Int) + (i : Int))) 91 20 b
theorem eS_18 {D : zDa} {u i : Nat} {b : Int} : eS D u i b 91 18 = 400 * (u : Int) + i := by unfold eS; rw [zwr_off (by omega), zwr_eq]
theorem eS_20 {D : zDa} {u i : Nat} {b : Int} : eS D u i b 91 20 = b := zwr_eq
theorem eS_f {D : zDa} {u i : Nat} {b : Int} {k : Nat} (h : k ≠ 18) (h2 : k ≠ 20) : eS D u i b 91 k = D 91 k := by unfold eS; rw [zwr_off (by omega), zwr_off (by omega)]
theorem eS_r {D : zDa} {u i : Nat} {b : Int} {a : Nat} (h : a ≠ 91) : eS D u i b a = D a := by unfold eS; rw [zwr_row h, zwr_row h]
theorem eS_go {D : zDa} {u i j : Nat} {b x : Int} (h : x = 400 * (u : Int) + j) : zwr (eS D u i b) 91 18 x = eS D u j b := by
  subst h
  funext a k
  unfold eS zwr
  by_cases ha : a = 91
  · by_cases h1 : k = 18
    · simp [ha, h1]
    · by_cases h2 : k = 20
      · simp [ha, h2]
      · simp [ha, h1, h2]
  · simp [ha]
theorem eS_br {D : zDa} {u i : Nat} {b x : Int} : zwr (eS D u i b) 91 20 x = eS D u i x := by
  funext a k
  unfold eS zwr
  by_cases ha : a = 91
  · by_cases h2 : k = 20
    · simp [ha, h2]
    · simp [ha, h2]
  · simp [ha]
def evr (live b : Int) (o : Option Int) : Int × Int := if live = 1 ∧ b = 0 then (match o with | some x => (x, 0) | none => (0, 1)) else (0, b)
/-- the ground on which a text is told -/
def eG (D : zDa) (K A : Nat → Int) (u sz : Nat) : Prop :=
  D 93 = K ∧ (∀ k, k < 7 → D 102 k = A k) ∧ D 91 19 = 400 * (u : Int) + sz ∧ u < 6 ∧ sz ≤ 400 ∧ K (395 + u) = (sz : Int) ∧ ∀ k, -1000000000 ≤ A k ∧ A k ≤ 1000000000
def kBd (s : kSum) (A : Nat → Int) : Prop := ∀ x, s A = some x → -1000000000 ≤ x ∧ x ≤ 1000000000
section EV
variable {F : zFs} {D : zDa} {K A : Nat → Int} {u sz : Nat}
theorem eCode (hG : eG D K A u sz) (i : Nat) (b : Int) : fX12_codeAt F (400 * (u : Int) + i) (eS D u i b) = some (kCode K u i, eS D u i b) := by
  obtain ⟨hK, _, h19, hu, hs, hz, _⟩ := hG
  unfold fX12_codeAt kCode
  rw [eS_f (by omega) (by omega), h19, hz]
  by_cases h : (i : Int) < (sz : Int)
  · rw [if_pos (by omega), if_pos (by omega), if_pos h, eS_r (by omega), hK, show (401 + (400 * (u : Int) + i)).toNat = 401 + 400 * u + i by omega]
  · rw [if_neg (by omega), if_neg h]
theorem eCode_lt (hG : eG D K A u sz) {i : Nat} (h : kCode K u i ≠ 0) : i < sz := by
  obtain ⟨_, _, _, _, _, hz, _⟩ := hG
  unfold kCode at h
  rw [hz] at h
  by_cases hh : (i : Int) < (sz : Int)
  · omega
  · rw [if_neg hh] at h; exact absurd rfl h
theorem eSign (v : Int) (h : 0 ≤ v ∧ v ≤ 1000) (D' : zDa) : fX12_sign F v D' = some (100 + v, D') := by
  unfold fX12_sign; rw [if_pos (by omega)]
theorem ePass (hG : eG D K A u sz) (i : Nat) (b x : Int) (hx : x ≠ 0) : fX12_passes0 F x (eS D u i b) = some (if kCode K u i = x then 1 else 0, eS D u (if kCode K u i = x then i + 1 else i) b) := by
  unfold fX12_passes0
  rw [eS_18, eCode hG]
  show (if kCode K u i = x then fX12_passes0_17 F 1 (eS D u i b) else fX12_passes0_17 F 0 (eS D u i b)) = _
  by_cases h : kCode K u i = x
  · have hlt := eCode_lt hG (i := i) (by rw [h]; exact hx)
    have := hG.2.2.2.1
    have := hG.2.2.2.2.1
    rw [if_pos h, if_pos h, if_pos h]
    unfold fX12_passes0_17
    rw [if_neg (by omega), eS_18, if_pos (by omega)]
    show (if ((1 : Int) = 0 ∨ (1 : Int) = 1) then some ((1 : Int), zwr (eS D u i b) 91 18 (400 * (u : Int) + i + 1)) else none) = _
    rw [if_pos (by omega), eS_go (j := i + 1) (by omega)]
  · rw [if_neg h, if_neg h, if_neg h]
    rfl
theorem evr_s (x : Int) : evr 1 0 (some x) = (x, 0) := by unfold evr; rw [if_pos (by omega)]
theorem evr_n : evr 1 0 none = (0, 1) := by unfold evr; rw [if_pos (by omega)]
theorem eBnd1 (i : Nat) (v : Int) : fX12_bounded F v 1 (eS D u i 0) = some ((evr 1 0 (kBnd v)).1, eS D u i (evr 1 0 (kBnd v)).2) := by
  have e1 : fX12_bounded_25 F v (eS D u i 0) = some (v, eS D u i 0) := by
    unfold fX12_bounded_25; rw [eS_20, if_pos rfl]
  have e2 : fX12_bounded_20 F v (eS D u i 0) = some (0, eS D u i 1) := by
    unfold fX12_bounded_20
    show fX12_bounded_25 F v (zwr (eS D u i 0) 91 20 1) = _
    rw [eS_br]
    unfold fX12_bounded_25; rw [eS_20, if_neg (by omega)]
  have e0 : fX12_bounded F v 1 (eS D u i 0) = if 1000000000 < v then fX12_bounded_20 F v (eS D u i 0) else if v < (-1000000000) then fX12_bounded_20 F v (eS D u i 0) else fX12_bounded_25 F v (eS D u i 0) := by
    unfold fX12_bounded; exact if_neg (by omega)
  rw [e0]
  by_cases h1 : 1000000000 < v
  · have hk : kBnd v = none := by unfold kBnd; rw [if_neg (by omega)]
    rw [if_pos h1, e2, hk, evr_n]
  · by_cases h2 : v < -1000000000
    · have hk : kBnd v = none := by unfold kBnd; rw [if_neg (by omega)]
      rw [if_neg h1, if_pos h2, e2, hk, evr_n]
    · have hk : kBnd v = some v := by unfold kBnd; rw [if_pos (by omega)]
      rw [if_neg h1, if_neg h2, e1, hk, evr_s]
theorem eBnd2 (i : Nat) (v live : Int) : fX12_bounded F v live (eS D u i 1) = some (0, eS D u i 1) := by
  have e1 : fX12_bounded_25 F v (eS D u i 1) = some (0, eS D u i 1) := by
    unfold fX12_bounded_25; rw [eS_20, if_neg (by omega)]
  have e2 : fX12_bounded_20 F v (eS D u i 1) = some (0, eS D u i 1) := by
    unfold fX12_bounded_20
    show fX12_bounded_25 F v (zwr (eS D u i 1) 91 20 1) = _
    rw [eS_br, e1]
  unfold fX12_bounded
  split
  · exact e1
  · split
    · exact e2
    · split
      · exact e2
      · exact e1
theorem eBnd3 (i : Nat) : fX12_bounded F 0 0 (eS D u i 0) = some (0, eS D u i 0) := by
  unfold fX12_bounded fX12_bounded_25; rw [if_pos rfl, eS_20, if_pos rfl]
/-- an operand: a parser whose answer the reference tells by tag t with fuel m -/
def eOk (F : zFs) (D : zDa) (A : Nat → Int) (u sz : Nat) (t m : Nat) (p : kP kSum) : Prop :=
  ∀ i l s j l', p i l = .inr (s, j, l') → i < j ∧ j ≤ sz ∧ kBd s A ∧ ∀ N, m ≤ N → ∀ live b : Int, (live = 0 ∨ live = 1) → (b = 0 ∨ b = 1) →
    R4 F N t live 0 (eS D u i b) = some ((evr live b (s A)).1, eS D u j (evr live b (s A)).2)
theorem R4_0 (N : Nat) (a b : Int) (D : zDa) : R4 F (N + 1) 0 a b D = bX12_sumOf F (R4 F N) a D := rfl
theorem R4_1 (N : Nat) (a b : Int) (D : zDa) : R4 F (N + 1) 1 a b D = bX12_termOf F (R4 F N) a D := rfl
theorem R4_2 (N : Nat) (a b : Int) (D : zDa) : R4 F (N + 1) 2 a b D = bX12_partOf F (R4 F N) a D := rfl
theorem evr_b {live b : Int} {o : Option Int} (hb : b = 0 ∨ b = 1) : (evr live b o).2 = 0 ∨ (evr live b o).2 = 1 := by
  unfold evr
  split
  · cases o <;> simp
  · exact hb
/-- an operation behind two values -/
theorem eOp {op : Int} {v s : kSum} {live b : Int} {i : Nat} (hl : live = 0 ∨ live = 1) (hb : b = 0 ∨ b = 1) (ho : op ≠ 147)
    (hx : ∀ x y, v A = some x → s A = some y → kOp op x y = kBnd (if op = 143 then x + y else if op = 145 then x - y else x * y)) :
    fX12_bounded F (if op = 143 then (evr live b (v A)).1 + (evr live (evr live b (v A)).2 (s A)).1 else if op = 145 then (evr live b (v A)).1 - (evr live (evr live b (v A)).2 (s A)).1 else (evr live b (v A)).1 * (evr live (evr live b (v A)).2 (s A)).1) live (eS D u i (evr live (evr live b (v A)).2 (s A)).2) =
      some ((evr live b (kBin op v s A)).1, eS D u i (evr live b (kBin op v s A)).2) := by
  by_cases hm : live = 1 ∧ b = 0
  · obtain ⟨rfl, rfl⟩ := hm
    unfold kBin
    cases hv : v A with
    | none =>
      simp only [evr, Option.bind_none, and_self, ite_true]
      simp only [show ¬ ((1 : Int) = 0) from by omega, and_false, ite_false]
      exact eBnd2 _ _ _
    | some x =>
      cases hs : s A with
      | none =>
        simp only [evr, Option.bind_some, Option.bind_none, and_self, ite_true]
        exact eBnd2 _ _ _
      | some y =>
        simp only [Option.bind_some]
        rw [hx x y hv hs]
        simp only [evr, and_self, ite_true]
        have := eBnd1 (F := F) (D := D) (u := u) i (if op = 143 then x + y else if op = 145 then x - y else x * y)
        simp only [evr, and_self, ite_true] at this
        exact this
  · simp only [evr, hm, ite_false]
    simp only [Int.add_zero, Int.sub_zero, Int.mul_zero, ite_self]
    rcases hb with rfl | rfl
    · have : live = 0 := by omega
      subst this
      exact eBnd3 _
    · exact eBnd2 _ _ _
theorem kBnd_in {v x : Int} (h : kBnd v = some x) : -1000000000 ≤ x ∧ x ≤ 1000000000 := by
  unfold kBnd at h
  split at h
  · cases h; assumption
  · cases h
theorem kBin_bd {op : Int} {v s : kSum} : kBd (kBin op v s) A := by
  intro x h
  unfold kBin at h
  cases hv : v A with
  | none => rw [hv] at h; cases h
  | some a =>
    cases hs : s A with
    | none => rw [hv, hs] at h; cases h
    | some b =>
      rw [hv, hs] at h
      simp only [Option.bind_some, kOp] at h
      split at h
      · exact kBnd_in h
      · split at h
        · exact kBnd_in h
        · split at h
          · exact kBnd_in h
          · split at h
            · cases h
            · exact kBnd_in h
theorem evr_in {live b : Int} {o : Option Int} (h : ∀ x, o = some x → -1000000000 ≤ x ∧ x ≤ 1000000000) : -1000000000 ≤ (evr live b o).1 ∧ (evr live b o).1 ≤ 1000000000 := by
  unfold evr
  split
  · cases o with
    | none => simp
    | some x => exact h x rfl
  · simp
/-- a step of the sum's loop -/
theorem eSumStep (hG : eG D K A u sz) {rec : Nat → Int → Int → zDa → Option (Int × zDa)} {k : Int → zDa → Option (Int × zDa)} {v s : kSum} {live b : Int} {i j : Nat} (hl : live = 0 ∨ live = 1) (hb : b = 0 ∨ b = 1)
    (hc : kCode K u i = 143 ∨ kCode K u i = 145) (hv : kBd v A) (hs : kBd s A)
    (hr : rec 1 live 0 (eS D u (i + 1) (evr live b (v A)).2) = some ((evr live (evr live b (v A)).2 (s A)).1, eS D u j (evr live (evr live b (v A)).2 (s A)).2)) :
    fX12_sumOf_6 F rec live k (evr live b (v A)).1 (eS D u i (evr live b (v A)).2) = k (evr live b (kBin (kCode K u i) v s A)).1 (eS D u j (evr live b (kBin (kCode K u i) v s A)).2) := by
  have hlt := eCode_lt hG (i := i) (by omega)
  have hu := hG.2.2.2.1
  have hsz := hG.2.2.2.2.1
  have i1 := evr_in (live := live) (b := b) hv
  have i2 := evr_in (live := live) (b := (evr live b (v A)).2) hs
  have hop := eOp (F := F) (D := D) (A := A) (u := u) (op := kCode K u i) (v := v) (s := s) (i := j) hl hb (by omega) (fun x y _ _ => by
    unfold kOp
    rcases hc with hc | hc
    · rw [hc, if_pos rfl, if_pos rfl]
    · rw [hc, if_neg (by omega), if_pos rfl, if_neg (by omega), if_pos rfl])
  generalize hx : (evr live b (v A)).1 = x at *
  generalize hb1 : (evr live b (v A)).2 = b1 at *
  generalize hy : (evr live b1 (s A)).1 = y at *
  generalize hb2 : (evr live b1 (s A)).2 = b2 at *
  have e59 : ∀ s0 : Int, fX12_sumOf_59 F rec k live x s0 (eS D u i b1) = if s0 = 0 then fX12_sumOf_95 F rec k live (x - y) (eS D u j b2) else fX12_sumOf_95 F rec k live (x + y) (eS D u j b2) := by
    intro s0
    unfold fX12_sumOf_59
    rw [eS_18, if_pos (by omega)]
    show (rec 1 live 0 (zwr (eS D u i b1) 91 18 (400 * (u : Int) + i + 1))).bind _ = _
    rw [eS_go (j := i + 1) (by omega), hr]
    show (if s0 = 0 then (if (-9223372036854775808 ≤ x - y ∧ x - y ≤ 9223372036854775807) then fX12_sumOf_95 F rec k live (x - y) (eS D u j b2) else none) else (if (-9223372036854775808 ≤ x + y ∧ x + y ≤ 9223372036854775807) then fX12_sumOf_95 F rec k live (x + y) (eS D u j b2) else none)) = _
    rw [if_pos (c := -9223372036854775808 ≤ x - y ∧ x - y ≤ 9223372036854775807) (by omega), if_pos (c := -9223372036854775808 ≤ x + y ∧ x + y ≤ 9223372036854775807) (by omega)]
  have e38 : fX12_sumOf_38 F rec k live x (eS D u i b1) = if kCode K u i = 143 then fX12_sumOf_59 F rec k live x 1 (eS D u i b1) else fX12_sumOf_59 F rec k live x 0 (eS D u i b1) := by
    simp only [fX12_sumOf_38, eS_18, eCode hG, eSign 43 (by omega), Option.bind_some, Int.reduceAdd]
  have e6 : fX12_sumOf_6 F rec live k x (eS D u i b1) = fX12_sumOf_38 F rec k live x (eS D u i b1) := by
    simp only [fX12_sumOf_6, eS_18, eCode hG, eSign 43 (by omega), eSign 45 (by omega), Option.bind_some, Int.reduceAdd]
    rcases hc with hc | hc
    · rw [if_pos hc]
    · rw [if_neg (by omega), if_pos hc]
  rw [e6, e38]
  rcases hc with hc | hc
  · rw [if_pos hc, e59, if_neg (by omega)]
    rw [if_pos hc] at hop
    unfold fX12_sumOf_95
    rw [hop]; rfl
  · rw [if_neg (by omega), e59, if_pos rfl]
    rw [if_neg (by omega), if_pos hc] at hop
    unfold fX12_sumOf_95
    rw [hop]; rfl
theorem eSumEnd (hG : eG D K A u sz) {rec : Nat → Int → Int → zDa → Option (Int × zDa)} {k : Int → zDa → Option (Int × zDa)} {live x b : Int} {i : Nat} (hc : ¬ (kCode K u i = 143 ∨ kCode K u i = 145)) :
    fX12_sumOf_6 F rec live k x (eS D u i b) = some (x, eS D u i b) := by
  simp only [fX12_sumOf_6, eS_18, eCode hG, eSign 43 (by omega), eSign 45 (by omega), Option.bind_some, Int.reduceAdd]
  rw [if_neg (fun h => hc (Or.inl h)), if_neg (fun h => hc (Or.inr h))]
end EV
