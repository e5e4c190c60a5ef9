/-! ===== images ===== -/
def sF (F : zFs) (s : Nat) : Prop := (F s).1 = 10 ∧ (F s).2.2 0 = ((s + 1 : Nat) : Int) ∧ (F s).2.2 1 = ((s + 2 : Nat) : Int) ∧ (F s).2.2 2 = ((s + 3 : Nat) : Int) ∧ (F s).2.2 3 = ((s + 4 : Nat) : Int) ∧ (F s).2.2 4 = ((s + 5 : Nat) : Int) ∧ (F s).2.2 6 = ((s + 6 : Nat) : Int) ∧ (F s).2.2 7 = ((s + 7 : Nat) : Int) ∧ (F s).2.2 10 = ((s + 8 : Nat) : Int) ∧ (F s).2.2 11 = ((s + 9 : Nat) : Int) ∧ (F s).2.2 13 = ((s + 10 : Nat) : Int) ∧ (F s).2.2 14 = ((s + 11 : Nat) : Int) ∧ (F (s + 1)).1 = 20 ∧ (F (s + 2)).1 = 20 ∧ (F (s + 3)).1 = 20 ∧ (F (s + 4)).1 = 20 ∧ (F (s + 5)).1 = 20 ∧ (F (s + 6)).1 = 20 ∧ (F (s + 7)).1 = 25 ∧ (F (s + 8)).1 = 20 ∧ (F (s + 9)).1 = 20 ∧ (F (s + 10)).1 = 20 ∧ (F (s + 11)).1 = 20 ∧ (F (s + 1)).2.1 = 20 ∧ (F (s + 2)).2.1 = 20 ∧ (F (s + 3)).2.1 = 20 ∧ (F (s + 4)).2.1 = 20 ∧ (F (s + 5)).2.1 = 20 ∧ (F (s + 6)).2.1 = 7 ∧ (F (s + 7)).2.1 = 6 ∧ (F (s + 8)).2.1 = 120 ∧ (F (s + 9)).2.1 = 120 ∧ (F (s + 10)).2.1 = 3 ∧ (F (s + 11)).2.1 = 40
theorem sF_1 {F : zFs} (h : zG F) : sF F 1 := ⟨gk_1 h, gf_1_0 h, gf_1_1 h, gf_1_2 h, gf_1_3 h, gf_1_4 h, gf_1_6 h, gf_1_7 h, gf_1_10 h, gf_1_11 h, gf_1_13 h, gf_1_14 h, gk_2 h, gk_3 h, gk_4 h, gk_5 h, gk_6 h, gk_7 h, gk_8 h, gk_9 h, gk_10 h, gk_11 h, gk_12 h, gl_2 h, gl_3 h, gl_4 h, gl_5 h, gl_6 h, gl_7 h, gl_8 h, gl_9 h, gl_10 h, gl_11 h, gl_12 h⟩
theorem sF_14 {F : zFs} (h : zG F) : sF F 14 := ⟨gk_14 h, gf_14_0 h, gf_14_1 h, gf_14_2 h, gf_14_3 h, gf_14_4 h, gf_14_6 h, gf_14_7 h, gf_14_10 h, gf_14_11 h, gf_14_13 h, gf_14_14 h, gk_15 h, gk_16 h, gk_17 h, gk_18 h, gk_19 h, gk_20 h, gk_21 h, gk_22 h, gk_23 h, gk_24 h, gk_25 h, gl_15 h, gl_16 h, gl_17 h, gl_18 h, gl_19 h, gl_20 h, gl_21 h, gl_22 h, gl_23 h, gl_24 h, gl_25 h⟩
theorem sF_26 {F : zFs} (h : zG F) : sF F 26 := ⟨gk_26 h, gf_26_0 h, gf_26_1 h, gf_26_2 h, gf_26_3 h, gf_26_4 h, gf_26_6 h, gf_26_7 h, gf_26_10 h, gf_26_11 h, gf_26_13 h, gf_26_14 h, gk_27 h, gk_28 h, gk_29 h, gk_30 h, gk_31 h, gk_32 h, gk_33 h, gk_34 h, gk_35 h, gk_36 h, gk_37 h, gl_27 h, gl_28 h, gl_29 h, gl_30 h, gl_31 h, gl_32 h, gl_33 h, gl_34 h, gl_35 h, gl_36 h, gl_37 h⟩
section CI
variable {F : zFs} {D D1 : zDa} {Z : Nat → Prop} {K K' : Nat → Int} {im : Nat → Option (Nat → Int)} {tp : Nat → Int} {tl : Int} {ms : Nat → Int} {c : Nat}
theorem cp7 {a b : Nat} {D D1 D2 D3 D4 D5 D6 D7 : zDa} (hd : a + 11 < b ∨ b + 11 < a) (h1 : D1 = zrow D (a + 1) (va_cpy (D (b + 1)) (D (a + 1)) 0 0 20)) (h2 : D2 = zrow D1 (a + 2) (va_cpy (D1 (b + 2)) (D1 (a + 2)) 0 0 20)) (h3 : D3 = zrow D2 (a + 3) (va_cpy (D2 (b + 3)) (D2 (a + 3)) 0 0 20)) (h4 : D4 = zrow D3 (a + 4) (va_cpy (D3 (b + 4)) (D3 (a + 4)) 0 0 20)) (h5 : D5 = zrow D4 (a + 5) (va_cpy (D4 (b + 5)) (D4 (a + 5)) 0 0 20)) (h6 : D6 = zwr D5 a 5 (D5 b 5)) (h7 : D7 = zrow D6 (a + 6) (va_cpy (D6 (b + 6)) (D6 (a + 6)) 0 0 7)) :
    (∀ x, (x < a ∨ a + 6 < x) → D7 x = D x) ∧ (∀ k, D7 a k = if k = 5 then D b 5 else D a k) ∧ (∀ j, j < 20 → D7 (a + 1) j = D (b + 1) j) ∧ (∀ j, j < 20 → D7 (a + 2) j = D (b + 2) j) ∧ (∀ j, j < 20 → D7 (a + 3) j = D (b + 3) j) ∧ (∀ j, j < 20 → D7 (a + 4) j = D (b + 4) j) ∧ (∀ j, j < 20 → D7 (a + 5) j = D (b + 5) j) ∧ (∀ j, j < 7 → D7 (a + 6) j = D (b + 6) j) := by
  have o1 : ∀ x, x ≠ a + 1 → D1 x = D x := fun x hx => by rw [h1]; exact zrow_row hx
  have o2 : ∀ x, x ≠ a + 2 → D2 x = D1 x := fun x hx => by rw [h2]; exact zrow_row hx
  have o3 : ∀ x, x ≠ a + 3 → D3 x = D2 x := fun x hx => by rw [h3]; exact zrow_row hx
  have o4 : ∀ x, x ≠ a + 4 → D4 x = D3 x := fun x hx => by rw [h4]; exact zrow_row hx
  have o5 : ∀ x, x ≠ a + 5 → D5 x = D4 x := fun x hx => by rw [h5]; exact zrow_row hx
  have o6 : ∀ x, x ≠ a → D6 x = D5 x := fun x hx => by rw [h6]; exact zwr_row hx
  have o7 : ∀ x, x ≠ a + 6 → D7 x = D6 x := fun x hx => by rw [h7]; exact zrow_row hx
  refine ⟨fun x hx => ?_, fun k => ?_, fun j hj => ?_, fun j hj => ?_, fun j hj => ?_, fun j hj => ?_, fun j hj => ?_, fun j hj => ?_⟩
  · rw [o7 x (by omega), o6 x (by omega), o5 x (by omega), o4 x (by omega), o3 x (by omega), o2 x (by omega), o1 x (by omega)]
  · rw [o7 a (by omega), h6, zwr_at, o5 a (by omega), o4 a (by omega), o3 a (by omega), o2 a (by omega), o1 a (by omega), o5 b (by omega), o4 b (by omega), o3 b (by omega), o2 b (by omega), o1 b (by omega)]
  · rw [o7 _ (by omega), o6 _ (by omega), o5 _ (by omega), o4 _ (by omega), o3 _ (by omega), o2 _ (by omega), h1, zrow_eq]
    unfold va_cpy
    rw [if_pos (by omega), show 0 + (j - 0) = j by omega]
  · rw [o7 _ (by omega), o6 _ (by omega), o5 _ (by omega), o4 _ (by omega), o3 _ (by omega), h2, zrow_eq]
    unfold va_cpy
    rw [if_pos (by omega), o1 (b + 2) (by omega), show 0 + (j - 0) = j by omega]
  · rw [o7 _ (by omega), o6 _ (by omega), o5 _ (by omega), o4 _ (by omega), h3, zrow_eq]
    unfold va_cpy
    rw [if_pos (by omega), o2 (b + 3) (by omega), o1 (b + 3) (by omega), show 0 + (j - 0) = j by omega]
  · rw [o7 _ (by omega), o6 _ (by omega), o5 _ (by omega), h4, zrow_eq]
    unfold va_cpy
    rw [if_pos (by omega), o3 (b + 4) (by omega), o2 (b + 4) (by omega), o1 (b + 4) (by omega), show 0 + (j - 0) = j by omega]
  · rw [o7 _ (by omega), o6 _ (by omega), h5, zrow_eq]
    unfold va_cpy
    rw [if_pos (by omega), o4 (b + 5) (by omega), o3 (b + 5) (by omega), o2 (b + 5) (by omega), o1 (b + 5) (by omega), show 0 + (j - 0) = j by omega]
  · rw [h7, zrow_eq]
    unfold va_cpy
    rw [if_pos (by omega), o6 (b + 6) (by omega), o5 (b + 6) (by omega), o4 (b + 6) (by omega), o3 (b + 6) (by omega), o2 (b + 6) (by omega), o1 (b + 6) (by omega), show 0 + (j - 0) = j by omega]
theorem cp16 {a b : Nat} {D E1 E2 E3 E4 E5 E6 E7 E8 : zDa} (hd : a + 11 < b ∨ b + 11 < a) (h1 : E1 = zwr D a 8 (D b 8)) (h2 : E2 = zwr E1 a 9 (E1 b 9)) (h3 : E3 = zrow E2 (a + 8) (va_cpy (E2 (b + 8)) (E2 (a + 8)) 0 0 120)) (h4 : E4 = zrow E3 (a + 9) (va_cpy (E3 (b + 9)) (E3 (a + 9)) 0 0 120)) (h5 : E5 = zwr E4 a 12 (E4 b 12)) (h6 : E6 = zrow E5 (a + 10) (va_cpy (E5 (b + 10)) (E5 (a + 10)) 0 0 3)) (h7 : E7 = zrow E6 (a + 11) (va_cpy (E6 (b + 11)) (E6 (a + 11)) 0 0 40)) (h8 : E8 = zwr E7 a 15 (E7 b 15)) :
    (∀ x, (x < a ∨ a + 11 < x) → E8 x = D x) ∧ (∀ k, E8 a k = if k = 15 then D b 15 else if k = 12 then D b 12 else if k = 9 then D b 9 else if k = 8 then D b 8 else D a k) ∧ (∀ r, 1 ≤ r → r ≤ 7 → E8 (a + r) = D (a + r)) ∧ (∀ j, j < 120 → E8 (a + 8) j = D (b + 8) j) ∧ (∀ j, j < 120 → E8 (a + 9) j = D (b + 9) j) ∧ (∀ j, j < 3 → E8 (a + 10) j = D (b + 10) j) ∧ (∀ j, j < 40 → E8 (a + 11) j = D (b + 11) j) := by
  have o1 : ∀ x, x ≠ a → E1 x = D x := fun x hx => by rw [h1]; exact zwr_row hx
  have o2 : ∀ x, x ≠ a → E2 x = E1 x := fun x hx => by rw [h2]; exact zwr_row hx
  have o3 : ∀ x, x ≠ a + 8 → E3 x = E2 x := fun x hx => by rw [h3]; exact zrow_row hx
  have o4 : ∀ x, x ≠ a + 9 → E4 x = E3 x := fun x hx => by rw [h4]; exact zrow_row hx
  have o5 : ∀ x, x ≠ a → E5 x = E4 x := fun x hx => by rw [h5]; exact zwr_row hx
  have o6 : ∀ x, x ≠ a + 10 → E6 x = E5 x := fun x hx => by rw [h6]; exact zrow_row hx
  have o7 : ∀ x, x ≠ a + 11 → E7 x = E6 x := fun x hx => by rw [h7]; exact zrow_row hx
  have o8 : ∀ x, x ≠ a → E8 x = E7 x := fun x hx => by rw [h8]; exact zwr_row hx
  refine ⟨fun x hx => ?_, fun k => ?_, fun r r1 r7 => ?_, fun j hj => ?_, fun j hj => ?_, fun j hj => ?_, fun j hj => ?_⟩
  · rw [o8 x (by omega), o7 x (by omega), o6 x (by omega), o5 x (by omega), o4 x (by omega), o3 x (by omega), o2 x (by omega), o1 x (by omega)]
  · have eb7 : E7 b = D b := by rw [o7 b (by omega), o6 b (by omega), o5 b (by omega), o4 b (by omega), o3 b (by omega), o2 b (by omega), o1 b (by omega)]
    have eb4 : E4 b = D b := by rw [o4 b (by omega), o3 b (by omega), o2 b (by omega), o1 b (by omega)]
    have eb1 : E1 b = D b := by rw [o1 b (by omega)]
    rw [h8, zwr_at, eb7, o7 a (by omega), o6 a (by omega), h5, zwr_at, eb4, o4 a (by omega), o3 a (by omega), h2, zwr_at, eb1, h1, zwr_at]
  · rw [o8 _ (by omega), o7 _ (by omega), o6 _ (by omega), o5 _ (by omega), o4 _ (by omega), o3 _ (by omega), o2 _ (by omega), o1 _ (by omega)]
  · rw [o8 _ (by omega), o7 _ (by omega), o6 _ (by omega), o5 _ (by omega), o4 _ (by omega), h3, zrow_eq]
    unfold va_cpy
    rw [if_pos (by omega), o2 (b + 8) (by omega), o1 (b + 8) (by omega), show 0 + (j - 0) = j by omega]
  · rw [o8 _ (by omega), o7 _ (by omega), o6 _ (by omega), o5 _ (by omega), h4, zrow_eq]
    unfold va_cpy
    rw [if_pos (by omega), o3 (b + 9) (by omega), o2 (b + 9) (by omega), o1 (b + 9) (by omega), show 0 + (j - 0) = j by omega]
  · rw [o8 _ (by omega), o7 _ (by omega), h6, zrow_eq]
    unfold va_cpy
    rw [if_pos (by omega), o5 (b + 10) (by omega), o4 (b + 10) (by omega), o3 (b + 10) (by omega), o2 (b + 10) (by omega), o1 (b + 10) (by omega), show 0 + (j - 0) = j by omega]
  · rw [o8 _ (by omega), h7, zrow_eq]
    unfold va_cpy
    rw [if_pos (by omega), o6 (b + 11) (by omega), o5 (b + 11) (by omega), o4 (b + 11) (by omega), o3 (b + 11) (by omega), o2 (b + 11) (by omega), o1 (b + 11) (by omega), show 0 + (j - 0) = j by omega]
/-- what a copied State is -/
def cpy (D D' : zDa) (a b : Nat) : Prop :=
  (∀ x, (x < a ∨ a + 11 < x) → D' x = D x) ∧ (D' a 5 = D b 5 ∧ D' a 8 = D b 8 ∧ D' a 9 = D b 9 ∧ D' a 12 = D b 12 ∧ D' a 15 = D b 15) ∧
  (∀ j, j < 20 → D' (a + 1) j = D (b + 1) j) ∧ (∀ j, j < 20 → D' (a + 2) j = D (b + 2) j) ∧ (∀ j, j < 20 → D' (a + 3) j = D (b + 3) j) ∧ (∀ j, j < 20 → D' (a + 4) j = D (b + 4) j) ∧ (∀ j, j < 20 → D' (a + 5) j = D (b + 5) j) ∧ (∀ j, j < 7 → D' (a + 6) j = D (b + 6) j) ∧ (∀ j, j < 6 → D' (a + 7) j = D (b + 7) j) ∧ (∀ j, j < 120 → D' (a + 8) j = D (b + 8) j) ∧ (∀ j, j < 120 → D' (a + 9) j = D (b + 9) j) ∧ (∀ j, j < 3 → D' (a + 10) j = D (b + 10) j) ∧ (∀ j, j < 40 → D' (a + 11) j = D (b + 11) j) ∧ (D' a 16 = D a 16 + 1 ∧ D' a 17 = D a 17 + 1)
theorem pX9_copyFrom {a b : Nat} (ha : sF F a) (hb : sF F b) (hd : a + 11 < b ∨ b + 11 < a) (hp : ∀ t, t < 6 → D (b + 7) t < 0 ∨ (F (D (b + 7) t).toNat).1 = 4) (hv : (0 ≤ D a 16 ∧ D a 16 ≤ 1000) ∧ (0 ≤ D a 17 ∧ D a 17 ≤ 1000)) :
    qS (fX9_copyFrom F a b D) (fun D' => cpy D D' a b) := by
  obtain ⟨k0, p0, p1, p2, p3, p4, p6, p7, p10, p11, p13, p14, x1, x2, x3, x4, x5, x6, x7, x8, x9, x10, x11, l1, l2, l3, l4, l5, l6, l7, l8, l9, l10, l11⟩ := ha
  obtain ⟨m0, q0, q1, q2, q3, q4, q6, q7, q10, q11, q13, q14, y1, y2, y3, y4, y5, y6, y7, y8, y9, y10, y11, n1, n2, n3, n4, n5, n6, n7, n8, n9, n10, n11⟩ := hb
  have tn : ∀ n : Nat, ((n : Int)).toNat = n := fun n => by omega
  unfold fX9_copyFrom
  simp only [p0, q0, p1, q1, p2, q2, p3, q3, p4, q4, p6, q6, p7, q7, p10, q10, p11, q11, p13, q13, p14, q14, tn]
  refine qS_chk ⟨m0, k0, Int.natCast_nonneg _, Int.natCast_nonneg _, y1, x1, by decide, by decide, by decide, by rw [n1]; decide, by rw [l1]; decide⟩ (qS_let (fun D1 h1 => qS_chk ⟨Int.natCast_nonneg _, Int.natCast_nonneg _, y2, x2, by decide, by decide, by decide, by rw [n2]; decide, by rw [l2]; decide⟩ (qS_let (fun D2 h2 => qS_chk ⟨Int.natCast_nonneg _, Int.natCast_nonneg _, y3, x3, by decide, by decide, by decide, by rw [n3]; decide, by rw [l3]; decide⟩ (qS_let (fun D3 h3 => qS_chk ⟨Int.natCast_nonneg _, Int.natCast_nonneg _, y4, x4, by decide, by decide, by decide, by rw [n4]; decide, by rw [l4]; decide⟩ (qS_let (fun D4 h4 => qS_chk ⟨Int.natCast_nonneg _, Int.natCast_nonneg _, y5, x5, by decide, by decide, by decide, by rw [n5]; decide, by rw [l5]; decide⟩ (qS_let (fun D5 h5 => qS_let (fun D6 h6 => qS_chk ⟨Int.natCast_nonneg _, Int.natCast_nonneg _, y6, x6, by decide, by decide, by decide, by rw [n6]; decide, by rw [l6]; decide⟩ (qS_let (fun D7 h7 => ?_)))))))))))))
  have f7 := cp7 hd h1 h2 h3 h4 h5 h6 h7
  clear h1 h2 h3 h4 h5 h6 h7
  obtain ⟨r7, c7, t1, t2, t3, t4, t5, t6⟩ := f7
  refine qloop1 (fun v D1 => ∃ i : Nat, v = (i : Int) ∧ i ≤ 6 ∧ (∀ x, x ≠ a + 7 → D1 x = D7 x) ∧ ∀ t, D1 (a + 7) t = if t < i then D (b + 7) t else D7 (a + 7) t) (fun v _ => (6 - v).toNat) ?_ ⟨0, by omega, by omega, fun _ _ => rfl, fun t => by rw [if_neg (by omega)]⟩ (zfu_gt (by omega))
  intro k v D1 ⟨i, ev, hi, gr, g7⟩ ih
  subst ev
  unfold fX9_copyFrom_100
  simp only [p0, q0, p1, q1, p2, q2, p3, q3, p4, q4, p6, q6, p7, q7, p10, q10, p11, q11, p13, q13, p14, q14, tn]
  have hb7 : D1 (b + 7) = D (b + 7) := by rw [gr _ (by omega), r7 _ (by omega)]
  refine qS_ite (fun hv6 => ?_) (fun hv6 => ?_)
  · rw [hb7]
    refine qS_chk ⟨k0, m0, Int.natCast_nonneg _, y7, ⟨by omega, by rw [n7]; exact hv6⟩, Int.natCast_nonneg _, x7, ⟨by omega, by rw [l7]; exact hv6⟩, hp i (by omega)⟩ (qS_leti (qS_chk (by omega) (ih _ _ ⟨i + 1, by omega, by omega, fun x hx => by rw [zwr_row hx]; exact gr x hx, fun t => ?_⟩ (by omega))))
    rw [zwr_at]
    by_cases ht : t = i
    · rw [if_pos ht, if_pos (by omega), ht]
    · rw [if_neg ht, g7]
      by_cases h2 : t < i
      · rw [if_pos h2, if_pos (by omega)]
      · rw [if_neg h2, if_neg (by omega)]
  · have hi6 : i = 6 := by omega
    subst hi6
    refine qS_chk ⟨m0, k0⟩ (qS_let (fun E1 h1 => qS_let (fun E2 h2 => qS_chk ⟨Int.natCast_nonneg _, Int.natCast_nonneg _, y8, x8, by decide, by decide, by decide, by rw [n8]; decide, by rw [l8]; decide⟩ (qS_let (fun E3 h3 => qS_chk ⟨Int.natCast_nonneg _, Int.natCast_nonneg _, y9, x9, by decide, by decide, by decide, by rw [n9]; decide, by rw [l9]; decide⟩ (qS_let (fun E4 h4 => qS_let (fun E5 h5 => qS_chk ⟨Int.natCast_nonneg _, Int.natCast_nonneg _, y10, x10, by decide, by decide, by decide, by rw [n10]; decide, by rw [l10]; decide⟩ (qS_let (fun E6 h6 => qS_chk ⟨Int.natCast_nonneg _, Int.natCast_nonneg _, y11, x11, by decide, by decide, by decide, by rw [n11]; decide, by rw [l11]; decide⟩ (qS_let (fun E7 h7 => qS_let (fun D16 h8 => ?_)))))))))))))
    have f16 := cp16 hd h1 h2 h3 h4 h5 h6 h7 h8
    clear h1 h2 h3 h4 h5 h6 h7 h8 p0 q0 p1 q1 p2 q2 p3 q3 p4 q4 p6 q6 p7 q7 p10 q10 p11 q11 p13 q13 p14 q14 x1 l1 y1 n1 x2 l2 y2 n2 x3 l3 y3 n3 x4 l4 y4 n4 x5 l5 y5 n5 x6 l6 y6 n6 x7 l7 y7 n7 x8 l8 y8 n8 x9 l9 y9 n9 x10 l10 y10 n10 x11 l11 y11 n11 m0 hp ih
    obtain ⟨r16, c16, s16, w8, w9, w10, w11⟩ := f16
    have v16 : D16 a 16 = D a 16 := by rw [c16, if_neg (by omega), if_neg (by omega), if_neg (by omega), if_neg (by omega), gr a (by omega), c7, if_neg (by omega)]
    have v17 : D16 a 17 = D a 17 := by rw [c16, if_neg (by omega), if_neg (by omega), if_neg (by omega), if_neg (by omega), gr a (by omega), c7, if_neg (by omega)]
    have hpc : fX9_pricesChanged F a D16 = some (zwr (zwr D16 a 16 (D a 16 + 1)) a 17 (D a 17 + 1)) := by
      unfold fX9_pricesChanged
      rw [if_pos ⟨k0, by omega⟩]
      dsimp only [zlet]
      rw [zwr_off (by omega), if_pos (by omega), v16, v17]
    refine qS_step hpc (qS_ret ?_)
    have db : D1 b = D b := by rw [gr b (by omega), r7 b (by omega)]
    have dbr : ∀ r, 1 ≤ r → r ≤ 11 → D1 (b + r) = D (b + r) := fun r r1 r2 => by rw [gr _ (by omega), r7 _ (by omega)]
    refine ⟨fun x hx => ?_, ⟨?_, ?_, ?_, ?_, ?_⟩, fun j hj => ?_, fun j hj => ?_, fun j hj => ?_, fun j hj => ?_, fun j hj => ?_, fun j hj => ?_, fun j hj => ?_, fun j hj => ?_, fun j hj => ?_, fun j hj => ?_, fun j hj => ?_, ?_, ?_⟩
    · rw [zwr_row (by omega), zwr_row (by omega), r16 x hx, gr x (by omega), r7 x (by omega)]
    · rw [zwr_off (by omega), zwr_off (by omega), c16, if_neg (by omega), if_neg (by omega), if_neg (by omega), if_neg (by omega), gr a (by omega), c7, if_pos rfl]
    · rw [zwr_off (by omega), zwr_off (by omega), c16, if_neg (by omega), if_neg (by omega), if_neg (by omega), if_pos rfl, db]
    · rw [zwr_off (by omega), zwr_off (by omega), c16, if_neg (by omega), if_neg (by omega), if_pos rfl, db]
    · rw [zwr_off (by omega), zwr_off (by omega), c16, if_neg (by omega), if_pos rfl, db]
    · rw [zwr_off (by omega), zwr_off (by omega), c16, if_pos rfl, db]
    · rw [zwr_row (by omega), zwr_row (by omega), s16 1 (by omega) (by omega), gr _ (by omega)]; exact t1 j hj
    · rw [zwr_row (by omega), zwr_row (by omega), s16 2 (by omega) (by omega), gr _ (by omega)]; exact t2 j hj
    · rw [zwr_row (by omega), zwr_row (by omega), s16 3 (by omega) (by omega), gr _ (by omega)]; exact t3 j hj
    · rw [zwr_row (by omega), zwr_row (by omega), s16 4 (by omega) (by omega), gr _ (by omega)]; exact t4 j hj
    · rw [zwr_row (by omega), zwr_row (by omega), s16 5 (by omega) (by omega), gr _ (by omega)]; exact t5 j hj
    · rw [zwr_row (by omega), zwr_row (by omega), s16 6 (by omega) (by omega), gr _ (by omega)]; exact t6 j hj
    · rw [zwr_row (by omega), zwr_row (by omega), s16 7 (by omega) (by omega), g7, if_pos (by omega)]
    · rw [zwr_row (by omega), zwr_row (by omega), w8 j hj, dbr 8 (by omega) (by omega)]
    · rw [zwr_row (by omega), zwr_row (by omega), w9 j hj, dbr 9 (by omega) (by omega)]
    · rw [zwr_row (by omega), zwr_row (by omega), w10 j hj, dbr 10 (by omega) (by omega)]
    · rw [zwr_row (by omega), zwr_row (by omega), w11 j hj, dbr 11 (by omega) (by omega)]
    · rw [zwr_off (by omega), zwr_eq]
    · rw [zwr_eq]
theorem cpy.st {a b : Nat} {D' : zDa} (h : cpy D D' a b) (hs : qSt F D Z b K) (hZ : ∀ x, Z x → 126 ≤ x) (ha : a + 11 < 126) : qSt F D' Z a K := by
  obtain ⟨hr, ⟨c5, c8, c9, c12, c15⟩, t1, t2, t3, t4, t5, t6, t7, t8, t9, t10, t11, _⟩ := h
  obtain ⟨hk, e5, e2, e3, ⟨e4, e4'⟩, e6, ⟨e7, e7'⟩, e8, e9, e10, e11⟩ := hs
  have hk1 := hk.1
  have hk4 := hk.2.2.2.1.1
  have hk6 := hk.2.2.2.2.2.1.1
  have hk7 := hk.2.2.2.2.2.2
  refine ⟨hk, by rw [c5]; exact e5, ?_, ?_, ⟨by rw [c12]; exact e4, ?_⟩, ?_, ⟨by rw [c15]; exact e7, ?_⟩, by rw [c8]; exact e8, by rw [c9]; exact e9, ?_, ?_⟩
  · intro q hq
    rw [t1 q (by omega), t2 q (by omega), t3 q (by omega), t4 q (by omega), t5 q (by omega)]; exact e2 q hq
  · intro k hk; rw [t6 k hk]; exact e3 k hk
  · intro i hi; rw [t8 i (by omega), t9 i (by omega)]; exact e4' i hi
  · intro f hf; rw [t10 f hf]; exact e6 f hf
  · intro y hy; rw [t11 y (by omega)]; exact e7' y hy
  · intro t ht; rw [t7 t ht]; exact e10 t ht
  · intro t ht
    rw [t7 t (by omega)]
    obtain ⟨x1, x2, x3⟩ := e11 t ht
    exact ⟨x1, x2.fr (fun _ _ => rfl) (fun x hx => hr x (by have := hZ x hx; omega)) (fun _ h => h), x3⟩
def imSet (im : Nat → Option (Nat → Int)) (k : Nat) (K : Nat → Int) : Nat → Option (Nat → Int) := fun j => if j = k then some K else im j
def oImage (K : Nat → Int) (im : Nat → Option (Nat → Int)) (k : Int) : Int × (Nat → Option (Nat → Int)) := if 0 ≤ k ∧ k ≤ 1 then (0, imSet im k.toNat K) else (-1, im)
theorem pc_image (h : cA F D Z K im tp tl ms c) (hc : c < 1000) (k : Int) : qS (fX11_image F k D) (fun r => r.1 = (oImage K im k).1 ∧ cA F r.2 Z K (oImage K im k).2 tp tl (msu ms (oImage K im k).1) (c + 1) ∧ fC D r.2 ∧ r.2 1 = D 1) := by
  unfold fX11_image fX11_image_9
  have bad : ¬ (0 ≤ k ∧ k ≤ 1) → qS ((fX11_refuse F (-1) D).bind (fun (r, D') => some (r, D'))) (fun r => r.1 = (oImage K im k).1 ∧ cA F r.2 Z K (oImage K im k).2 tp tl (msu ms (oImage K im k).1) (c + 1) ∧ fC D r.2 ∧ r.2 1 = D 1) := by
    intro hb
    obtain ⟨D', e1, c1, c2, c3⟩ := pX11_refuse h (-1) (by omega) hc
    unfold oImage; rw [if_neg hb]
    exact qS_step e1 (qS_ret ⟨rfl, c1, c2, c3⟩)
  refine qS_ite (fun h1 => bad (by omega)) (fun h1 => qS_ite (fun h2 => ?_) (fun h2 => bad (by omega)))
  obtain ⟨n, rfl⟩ : ∃ n : Nat, k = (n : Int) := ⟨k.toNat, by omega⟩
  have hG := h.good
  have hi := h.2.1 n (by omega)
  have en : ((n : Int)).toNat = n := by omega
  have e13 : (D 13 n).toNat = 14 + 12 * n := by omega
  have hsF : sF F (14 + 12 * n) := by
    have : n = 0 ∨ n = 1 := by omega
    rcases this with rfl | rfl
    · exact sF_14 hG
    · exact sF_26 hG
  rw [en, e13]
  have hmem : 14 + 12 * n ∈ ([1, 14, 26] : List Nat) := by
    have : n = 0 ∨ n = 1 := by omega
    rcases this with rfl | rfl <;> simp
  have hver := h.2.2.2.2.1 (14 + 12 * n) hmem
  refine qS_chk ⟨by omega, by omega, hsF.1⟩ ?_
  refine qS_call (pX9_copyFrom (D := D) hsF (sF_1 hG) (by omega) (fun t ht => (h.st.2.2.2.2.2.2.2.2.2.1 t ht).imp id And.left) (by omega)) (fun D1 hcp => qS_leti (qS_step (r := (0, zwr (zwr D1 38 n 1) 0 9 0)) rfl (qS_ret ?_)))
  dsimp only
  have hst := hcp.st h.st h.2.2.2.2.2.2.2 (by omega)
  obtain ⟨q1, q2, q3, q4, q5, q6, q7, q8⟩ := h
  have gr : ∀ x, (x < 14 + 12 * n ∨ 14 + 12 * n + 11 < x) → x ≠ 38 → x ≠ 0 → zwr (zwr D1 38 n 1) 0 9 0 x = D x := fun x hx h38 h0 => by rw [zwr_row h0, zwr_row h38, hcp.1 x hx]
  have gi : ∀ x, 14 + 12 * n ≤ x → x ≤ 14 + 12 * n + 11 → zwr (zwr D1 38 n 1) 0 9 0 x = D1 x := fun x h1 h2 => by rw [zwr_row (by omega), zwr_row (by omega)]
  have g0 : ∀ j, j ≠ 9 → zwr (zwr D1 38 n 1) 0 9 0 0 j = D 0 j := fun j hj => by rw [zwr_off (by omega), zwr_row (by omega), hcp.1 0 (by omega)]
  have g38 : ∀ j, zwr (zwr D1 38 n 1) 0 9 0 38 j = if j = n then 1 else D 38 j := fun j => by rw [zwr_row (by omega), zwr_at, hcp.1 38 (by omega)]
  have g9 : zwr (zwr D1 38 n 1) 0 9 0 0 9 = 0 := zwr_eq
  generalize zwr (zwr D1 38 n 1) 0 9 0 = D2 at *
  unfold oImage
  rw [if_pos (by omega), en]
  dsimp only
  refine ⟨rfl, ⟨q1.rows q8 (fun a ha => gr a (by omega) (by omega) (by omega)) (fun a ha hb => gr a (by omega) (by omega) (by omega)), ?_, ?_, ?_, ?_, by omega, q7, q8⟩, fun a ha => gr a (by omega) (by omega) (by omega), gr 1 (by omega) (by omega) (by omega)⟩
  · intro j hj
    rw [gr 13 (by omega) (by omega) (by omega), g38]
    refine ⟨(q2 j hj).1, ?_⟩
    unfold imSet
    by_cases e : j = n
    · subst e
      rw [if_pos rfl, if_pos rfl]
      exact Or.inr ⟨rfl, K, rfl, hst.rows q8 (fun a ha => (gr a (by omega) (by omega) (by omega)).trans (hcp.1 a (by omega)).symm) (fun a h1 h2 => gi a h1 h2)⟩
    · rw [if_neg e, if_neg e]
      rcases (q2 j hj).2 with hx | ⟨hx, Kk, ek, hq⟩
      · exact Or.inl hx
      · exact Or.inr ⟨hx, Kk, ek, hq.rows q8 (fun a ha => gr a (by omega) (by omega) (by omega)) (fun a h1 h2 => gr a (by omega) (by omega) (by omega))⟩
  · rw [g0 4 (by omega), gr 39 (by omega) (by omega) (by omega)]; exact q3
  · rw [g9, g0 5 (by omega), g0 6 (by omega), gr 40 (by omega) (by omega) (by omega), gr 41 (by omega) (by omega) (by omega)]
    refine ⟨rfl, by rw [msu_0 (by omega)]; exact q4.2.1, by rw [msu_0 (by omega)]; exact q4.2.2.1, by rw [msu_0 (by omega)]; exact q4.2.2.2.1, by rw [msu_0 (by omega)]; exact q4.2.2.2.2.1, by rw [msu_0 (by omega)]; exact q4.2.2.2.2.2.1, ?_⟩
    intro k k1 k6
    have := q4.2.2.2.2.2.2 k k1 k6
    rw [msu_0 k1]; omega
  · intro s hs
    have hs0 := q5 s hs
    simp only [List.mem_cons, List.not_mem_nil, or_false] at hs
    by_cases e : s = 14 + 12 * n
    · subst e
      have h16 := hcp.2.2.2.2.2.2.2.2.2.2.2.2.2
      rw [gi _ (by omega) (by omega), h16.1, h16.2]; omega
    · rw [gr s (by omega) (by omega) (by omega)]; omega
def oBack (K : Nat → Int) (im : Nat → Option (Nat → Int)) (k : Int) : Int × (Nat → Int) := if 0 ≤ k ∧ k ≤ 1 then (match im k.toNat with | none => (-2, K) | some Kk => (0, Kk)) else (-1, K)
theorem pc_back (h : cA F D Z K im tp tl ms c) (hc : c < 1000) (k : Int) : qS (fX11_back F k D) (fun r => r.1 = (oBack K im k).1 ∧ cA F r.2 Z (oBack K im k).2 im tp tl (msu ms (oBack K im k).1) (c + 1) ∧ fC D r.2 ∧ vI D r.2 K (oBack K im k).2) := by
  unfold fX11_back fX11_back_9
  have hG := h.good
  have bad : ∀ e : Int, (e = -1 ∨ e = -2) → oBack K im k = (e, K) → qS ((fX11_refuse F e D).bind (fun (r, D') => some (r, D'))) (fun r => r.1 = (oBack K im k).1 ∧ cA F r.2 Z (oBack K im k).2 im tp tl (msu ms (oBack K im k).1) (c + 1) ∧ fC D r.2 ∧ vI D r.2 K (oBack K im k).2) := by
    intro e he ho
    obtain ⟨D', e1, c1, c2, c3⟩ := pX11_refuse h e (by omega) hc
    rw [ho]
    exact qS_step e1 (qS_ret ⟨rfl, c1, c2, vI.same c3⟩)
  refine qS_ite (fun h1 => bad (-1) (by omega) (by unfold oBack; rw [if_neg (by omega)])) (fun h1 => qS_ite (fun h2 => ?_) (fun h2 => bad (-1) (by omega) (by unfold oBack; rw [if_neg (by omega)])))
  obtain ⟨n, rfl⟩ : ∃ n : Nat, k = (n : Int) := ⟨k.toNat, by omega⟩
  have hi := h.2.1 n (by omega)
  have en : ((n : Int)).toNat = n := by omega
  have e13 : (D 13 n).toNat = 14 + 12 * n := by omega
  rw [en, e13]
  refine qS_chk (by omega) ?_
  rcases hi.2 with ⟨h38, him⟩ | ⟨h38, Kk, him, hq⟩
  · exact qS_pos h38 (bad (-2) (by omega) (by unfold oBack; rw [if_pos (by omega), en, him]))
  · refine qS_neg (by omega) (qS_chk (by omega) ?_)
    have hsF : sF F (14 + 12 * n) := by
      have : n = 0 ∨ n = 1 := by omega
      rcases this with rfl | rfl
      · exact sF_14 hG
      · exact sF_26 hG
    have hv := h.ver
    refine qS_call (pX9_copyFrom (D := D) (sF_1 hG) hsF (by omega) (fun t ht => (hq.2.2.2.2.2.2.2.2.2.1 t ht).imp id And.left) (by omega)) (fun D1 hcp => qS_step (r := (0, zwr D1 0 9 0)) rfl (qS_ret ?_))
    dsimp only
    have h16 := hcp.2.2.2.2.2.2.2.2.2.2.2.2.2
    have hst := hcp.st hq h.2.2.2.2.2.2.2 (by omega)
    have ho : oBack K im (n : Int) = (0, Kk) := by unfold oBack; rw [if_pos (by omega), en, him]
    rw [ho]
    refine ⟨rfl, cA.now h hc hst (fun a ha => hcp.1 a (by omega)) (by omega), fun a ha => ?_, ?_⟩
    · rw [zwr_row (by omega)]; exact hcp.1 a (by omega)
    · show vI D (zwr D1 0 9 0) K Kk
      unfold vI
      rw [zwr_row (by omega), h16.1, h16.2]
      exact ⟨Or.inr (by omega), Or.inr (by omega)⟩
theorem pr_image (h : rA D K im tp tl ms c) (hc : c < 1000) (k : Int) : qS (fX12_image F k D) (fun r => r.1 = (oImage K im k).1 ∧ rA r.2 K (oImage K im k).2 tp tl (msu ms (oImage K im k).1) (c + 1) ∧ fR D r.2 ∧ (D 91 1 ≤ r.2 91 1)) := by
  have hK := h.1.1
  have hver := h.2.2.2.2.1
  unfold fX12_image
  refine qS_step (pX12_lies _ _ _) ?_
  dsimp only
  by_cases hk : 0 ≤ k ∧ k ≤ 1
  · rw [if_pos hk]
    refine qS_neg (by omega) ?_
    obtain ⟨n, rfl⟩ : ∃ n : Nat, k = (n : Int) := ⟨k.toNat, by omega⟩
    have en : ((n : Int)).toNat = n := by omega
    unfold oImage
    rw [if_pos hk, en]
    dsimp only
    refine qloop1 (fun v D1 => ∃ i : Nat, v = (i : Int) ∧ i ≤ 5201 ∧ (∀ x, x ≠ 94 → D1 x = D x) ∧ ∀ t, D1 94 t = if 5201 * n ≤ t ∧ t < 5201 * n + i then K (t - 5201 * n) else D 94 t) (fun v _ => (5201 - v).toNat) ?_ ⟨0, by omega, by omega, fun _ _ => rfl, fun t => by rw [if_neg (by omega)]⟩ (zfu_gt (by omega))
    intro kk v D1 ⟨i, ev, hi, gr, g94⟩ ih
    subst ev
    unfold fX12_image_17
    refine qS_ite (fun hlt => ?_) (fun hlt => ?_)
    · refine qS_chk (by omega) (qS_leti (qS_chk (by omega) (ih _ _ ⟨i + 1, by omega, by omega, fun x hx => by rw [zwr_row hx]; exact gr x hx, fun t => ?_⟩ (by omega))))
      rw [zwr_at, show (5201 * (n : Int) + (i : Int)).toNat = 5201 * n + i by omega, show ((i : Int)).toNat = i by omega, gr 93 (by omega), hK]
      by_cases ht : t = 5201 * n + i
      · subst ht; rw [if_pos rfl, if_pos (by omega)]; congr 1; omega
      · rw [if_neg ht, g94]
        by_cases h2 : 5201 * n ≤ t ∧ t < 5201 * n + i
        · rw [if_pos h2, if_pos (by omega)]
        · rw [if_neg h2, if_neg (by omega)]
    · have : i = 5201 := by omega
      subst this
      rw [en]
      have e91 : zwr D1 95 n 1 91 = D 91 := by rw [zwr_row (by omega), gr 91 (by omega)]
      refine qS_chk (by omega) (qS_leti (qS_step (pX12_good (by rw [e91]; omega)) (qS_ret ?_)))
      dsimp only
      rw [e91]
      obtain ⟨h1, h2, h3, ⟨m0, m1, m2, m3, m4, m5, m6⟩, h5, h6⟩ := h
      have grr : ∀ x, x ≠ 91 → x ≠ 94 → x ≠ 95 → zwr (zwr (zwr D1 95 n 1) 91 0 0) 91 1 (D 91 1 + 1) x = D x := fun x a1 a2 a3 => by rw [zwr_row a1, zwr_row a1, zwr_row a3, gr x a2]
      have g91 : ∀ j, j ≠ 0 → j ≠ 1 → zwr (zwr (zwr D1 95 n 1) 91 0 0) 91 1 (D 91 1 + 1) 91 j = D 91 j := fun j a1 a2 => by rw [zwr_off (by omega), zwr_off (by omega), e91]
      have g910 : zwr (zwr (zwr D1 95 n 1) 91 0 0) 91 1 (D 91 1 + 1) 91 0 = 0 := by rw [zwr_off (by omega), zwr_eq]
      have g911 : zwr (zwr (zwr D1 95 n 1) 91 0 0) 91 1 (D 91 1 + 1) 91 1 = D 91 1 + 1 := zwr_eq
      have g95 : ∀ j, zwr (zwr (zwr D1 95 n 1) 91 0 0) 91 1 (D 91 1 + 1) 95 j = if j = n then 1 else D 95 j := fun j => by rw [zwr_row (by omega), zwr_row (by omega), zwr_at, gr 95 (by omega)]
      have g94' : ∀ j, zwr (zwr (zwr D1 95 n 1) 91 0 0) 91 1 (D 91 1 + 1) 94 j = if 5201 * n ≤ j ∧ j < 5201 * n + 5201 then K (j - 5201 * n) else D 94 j := fun j => by rw [zwr_row (by omega), zwr_row (by omega), zwr_row (by omega), g94]
      generalize zwr (zwr (zwr D1 95 n 1) 91 0 0) 91 1 (D 91 1 + 1) = D2 at *
      refine ⟨rfl, ⟨by rw [grr 93 (by omega) (by omega) (by omega)]; exact h1, ?_, ?_, ?_, by omega, by omega⟩, ?_, by omega⟩
      · intro j hj
        rw [g95]
        unfold imSet
        by_cases e : j = n
        · subst e
          rw [if_pos rfl, if_pos rfl]
          refine Or.inr ⟨rfl, K, rfl, h1.2.1, h1.2.2, fun i hi => ?_⟩
          rw [g94', if_pos (by omega)]; congr 1; omega
        · rw [if_neg e, if_neg e]
          rcases h2 j hj with hx | ⟨hx, Kk, ek, k1, k2, k3⟩
          · exact Or.inl hx
          · refine Or.inr ⟨hx, Kk, ek, k1, k2, fun i hi => ?_⟩
            rw [g94', if_neg (by omega)]; exact k3 i hi
      · rw [g91 9 (by omega) (by omega), grr 97 (by omega) (by omega) (by omega)]; exact h3
      · rw [g910, g91 10 (by omega) (by omega), g91 59 (by omega) (by omega), g91 64 (by omega) (by omega), g91 65 (by omega) (by omega), g91 66 (by omega) (by omega), grr 92 (by omega) (by omega) (by omega)]
        refine ⟨rfl, by rw [msu_0 (by omega)]; exact m1, by rw [msu_0 (by omega)]; exact m2, by rw [msu_0 (by omega)]; exact m3, by rw [msu_0 (by omega), msu_0 (by omega), msu_0 (by omega)]; exact m4, by rw [msu_0 (by omega), msu_0 (by omega), msu_0 (by omega)]; exact m5, ?_⟩
        intro k k1 k6
        have := m6 k k1 k6
        rw [msu_0 k1]; omega
      · exact ⟨fun x x1 x2 => grr x x1 (fun e => x2 (by rw [e]; decide)) (fun e => x2 (by rw [e]; decide)), fun k hk => g91 k (fun e => hk (by rw [e]; decide)) (fun e => hk (by rw [e]; decide))⟩
  · rw [if_neg hk]
    obtain ⟨D', e1, c1, c2, c3⟩ := pX12_refuses (F := F) h (-1) (by omega) hc
    unfold oImage; rw [if_neg hk]
    exact qS_pos rfl (qS_step e1 (qS_ret ⟨rfl, c1, c2, by dsimp only; omega⟩))
theorem pr_back (h : rA D K im tp tl ms c) (hc : c < 1000) (k : Int) : qS (fX12_back F k D) (fun r => r.1 = (oBack K im k).1 ∧ rA r.2 (oBack K im k).2 im tp tl (msu ms (oBack K im k).1) (c + 1) ∧ fR D r.2 ∧ (((oBack K im k).2 = K ∧ r.2 91 1 = D 91 1) ∨ D 91 1 < r.2 91 1)) := by
  have hK := h.1.1
  have hver := h.2.2.2.2.1
  unfold fX12_back
  refine qS_step (pX12_lies _ _ _) ?_
  dsimp only
  have bad : ∀ e : Int, (e = -1 ∨ e = -2) → oBack K im k = (e, K) → qS ((fX12_refuses F e D).bind (fun x => some (x.1, x.2))) (fun r => r.1 = (oBack K im k).1 ∧ rA r.2 (oBack K im k).2 im tp tl (msu ms (oBack K im k).1) (c + 1) ∧ fR D r.2 ∧ (((oBack K im k).2 = K ∧ r.2 91 1 = D 91 1) ∨ D 91 1 < r.2 91 1)) := by
    intro e he ho
    obtain ⟨D', e1, c1, c2, c3⟩ := pX12_refuses (F := F) h e (by omega) hc
    rw [ho]
    exact qS_step e1 (qS_ret ⟨rfl, c1, c2, Or.inl ⟨rfl, c3⟩⟩)
  by_cases hk : 0 ≤ k ∧ k ≤ 1
  · rw [if_pos hk]
    refine qS_neg (by omega) (qS_chk (by omega) ?_)
    obtain ⟨n, rfl⟩ : ∃ n : Nat, k = (n : Int) := ⟨k.toNat, by omega⟩
    have en : ((n : Int)).toNat = n := by omega
    rw [en]
    rcases h.2.1 n (by omega) with ⟨h95, him⟩ | ⟨h95, Kk, him, hkk, hk0, hq⟩
    · exact qS_pos h95 (bad (-2) (by omega) (by unfold oBack; rw [if_pos (by omega), en, him]))
    · refine qS_neg (by omega) ?_
      have ho : oBack K im (n : Int) = (0, Kk) := by unfold oBack; rw [if_pos (by omega), en, him]
      rw [ho]
      refine qloop1 (fun v D1 => ∃ i : Nat, v = (i : Int) ∧ i ≤ 5201 ∧ (∀ x, x ≠ 93 → D1 x = D x) ∧ ∀ t, D1 93 t = if t < i then Kk t else K t) (fun v _ => (5201 - v).toNat) ?_ ⟨0, by omega, by omega, fun _ _ => rfl, fun t => by rw [if_neg (by omega), hK]⟩ (zfu_gt (by omega))
      intro kk v D1 ⟨i, ev, hi, gr, g93⟩ ih
      subst ev
      unfold fX12_back_33
      refine qS_ite (fun hlt => ?_) (fun hlt => ?_)
      · refine qS_chk (by omega) (qS_leti (qS_chk (by omega) (ih _ _ ⟨i + 1, by omega, by omega, fun x hx => by rw [zwr_row hx]; exact gr x hx, fun t => ?_⟩ (by omega))))
        rw [zwr_at, show (5201 * (n : Int) + (i : Int)).toNat = 5201 * n + i by omega, show ((i : Int)).toNat = i by omega, gr 94 (by omega), hq i (by omega)]
        by_cases ht : t = i
        · subst ht; rw [if_pos rfl, if_pos (by omega)]
        · rw [if_neg ht, g93]
          by_cases h2 : t < i
          · rw [if_pos h2, if_pos (by omega)]
          · rw [if_neg h2, if_neg (by omega)]
      · have : i = 5201 := by omega
        subst this
        have hrow : D1 93 = Kk := by
          funext t
          rw [g93]
          by_cases h2 : t < 5201
          · rw [if_pos h2]
          · rw [if_neg h2, h.1.2.2 t (by omega), hk0 t (by omega)]
        have := rP.good (F := F) h hc hrow hkk hk0 gr 0 (o := (0, 0, Kk)) rfl
        refine qS_mono this (fun r hr => ?_)
        exact hr
  · rw [if_neg hk]
    exact qS_pos rfl (bad (-1) (by omega) (by unfold oBack; rw [if_neg hk]))
end CI
