/-! ===== question, know, terms, use, lesson, friend, year ===== -/
def oQuestion (K : Nat → Int) (a b : Int) : Int × Int × (Nat → Int) :=
  if ¬ ((0 ≤ a ∧ a ≤ 4) ∧ (1 ≤ b ∧ b ≤ 99)) then (-1, -1, K) else if K 390 = 20 then (-5, -5, K)
  else (0, K 390, fun i => if i = 390 then K 390 + 1 else if i = 5 * (K 390).toNat then a else if i = 5 * (K 390).toNat + 1 then b else if 5 * (K 390).toNat ≤ i ∧ i < 5 * (K 390).toNat + 5 then 0 else K i)
section C2
variable {F : zFs} {D D1 : zDa} {Z : Nat → Prop} {K K' : Nat → Int} {im : Nat → Option (Nat → Int)} {tp : Nat → Int} {tl : Int} {ms : Nat → Int} {c : Nat}
theorem zpow_le {y : Int} {m n : Nat} (h : y < 2 ^ m) (hm : m ≤ n) : y < 2 ^ n := by
  have h1 : (2 : Nat) ^ m ≤ 2 ^ n := Nat.pow_le_pow_right (by omega) hm
  have h2 : ((2 ^ m : Nat) : Int) ≤ ((2 ^ n : Nat) : Int) := by omega
  rw [Int.natCast_pow, Int.natCast_pow] at h2
  exact Int.lt_of_lt_of_le h h2
theorem kOk.question (h : kOk K) {a b : Int} (ha : 0 ≤ a ∧ a ≤ 4) (hb : 1 ≤ b ∧ b ≤ 99) (hn : K 390 < 20) :
    kOk (fun i => if i = 390 then K 390 + 1 else if i = 5 * (K 390).toNat then a else if i = 5 * (K 390).toNat + 1 then b else if 5 * (K 390).toNat ≤ i ∧ i < 5 * (K 390).toNat + 5 then 0 else K i) := by
  obtain ⟨h1, h2, h3, ⟨h4, h4'⟩, h5, ⟨h6, h6'⟩, h7⟩ := h
  have hq : ((K 390).toNat : Int) = K 390 := by omega
  generalize hn' : (K 390).toNat = n at *
  refine ⟨by simp; omega, ?_, ?_, ⟨by simp (disch := omega) only [if_neg]; exact h4, ?_⟩, ?_, ⟨by simp (disch := omega) only [if_neg]; exact h6, ?_⟩, by simp (disch := omega) only [if_neg]; exact h7⟩
  · intro q hq'
    simp only [if_true] at hq'
    by_cases e : q = n
    · subst e
      simp (disch := omega) only [if_neg, if_pos]
      simp
      omega
    · have := h2 q (by omega)
      simp (disch := omega) only [if_neg]
      exact this
  · intro k hk
    simp (disch := omega) only [if_neg]
    exact h3 k hk
  · intro i hi
    simp (disch := omega) only [if_neg] at hi ⊢
    have := h4' i hi
    simp
    omega
  · intro f hf
    simp (disch := omega) only [if_neg]
    exact h5 f hf
  · intro y hy
    simp (disch := omega) only [if_neg] at hy
    have := h6' y hy
    simp (disch := omega) only [if_neg, if_pos]
    refine ⟨this.1, ?_⟩
    exact zpow_le this.2 (by omega)
/-- a slot's paper hangs on the rows from 395 on alone -/
theorem kCls_eq {t : Nat} (ek : ∀ i, 395 ≤ i → K' i = K i) : kCode K' t = kCode K t ∧ kVal K' t = kVal K t ∧ K' (395 + t) = K (395 + t) ∧ kCls K' t = kCls K t := by
  have e1 : kCode K' t = kCode K t := by unfold kCode; funext i; rw [ek _ (by omega), ek _ (by omega)]
  have e2 : kVal K' t = kVal K t := by unfold kVal; funext i; rw [ek _ (by omega)]
  have e3 := ek (395 + t) (by omega)
  exact ⟨e1, e2, e3, by unfold kCls; rw [e1, e2, e3]⟩
theorem kSlot {t : Nat} {p : Int} (ek : ∀ i, 395 ≤ i → K' i = K i) (h1 : 0 ≤ K (395 + t) ∧ K (395 + t) ≤ 400) (h2 : qPap F D Z p (kCls K t)) (h3 : ∃ cs, kRead (kCode K t) (kVal K t) (K (395 + t)).toNat = .inr cs) :
    (0 ≤ K' (395 + t) ∧ K' (395 + t) ≤ 400) ∧ qPap F D Z p (kCls K' t) ∧ ∃ cs, kRead (kCode K' t) (kVal K' t) (K' (395 + t)).toNat = .inr cs := by
  obtain ⟨e1, e2, e3, e4⟩ := kCls_eq (t := t) ek
  rw [e1, e2, e3, e4]; exact ⟨h1, h2, h3⟩
theorem pc_question (h : cA F D Z K im tp tl ms c) (hc : c < 1000) (a b : Int) : qS (fX11_question F a b D) (cP F D Z K im tp tl ms c (oQuestion K a b)) := by
  have hq := h.st
  have hv := h.ver
  obtain ⟨hk, e5, e2, e3, ⟨e4, e4'⟩, e6, ⟨e7, e7'⟩, e8, e9, e10, e11⟩ := hq
  have hk1 := hk.1
  unfold fX11_question fX11_question_20
  have bad : ¬ ((0 ≤ a ∧ a ≤ 4) ∧ (1 ≤ b ∧ b ≤ 99)) → qS ((fX11_refuse F (-1) D).bind (fun (r, D') => some (r, D'))) (cP F D Z K im tp tl ms c (oQuestion K a b)) := fun hb => cP.refuse h hc (-1) (by omega) (by unfold oQuestion; rw [if_pos hb])
  refine qS_ite (fun h1 => bad (by omega)) (fun h1 => ?_)
  refine qS_ite (fun h2 => ?_) (fun h2 => bad (by omega))
  refine qS_ite (fun h3 => bad (by omega)) (fun h3 => ?_)
  refine qS_ite (fun h4 => bad (by omega)) (fun h4 => ?_)
  refine qS_ite (fun h5 => ?_) (fun h5 => cP.refuse h hc (-5) (by omega) (by unfold oQuestion; rw [if_neg (by omega), if_pos (by omega)]))
  have hn : ((K 390).toNat : Int) = K 390 := by omega
  have hkk := hk.question (a := a) (b := b) (by omega) (by omega) (by omega)
  generalize hn' : (K 390).toNat = n at *
  have hz : ∃ D1, fX9_addQuestion F a b D = some (K 390, D1) ∧ (∀ j, D1 1 j = if j = 17 then D 1 17 + 1 else if j = 16 then D 1 16 + 1 else if j = 5 then K 390 + 1 else D 1 j) ∧
      (∀ a, a ≠ 1 → a ≠ 2 → a ≠ 3 → a ≠ 4 → a ≠ 5 → a ≠ 6 → D1 a = D a) ∧ (∀ j, D1 2 j = if j = n then a else D 2 j) ∧ (∀ j, D1 3 j = if j = n then b else D 3 j) ∧ (∀ j, D1 4 j = if j = n then 0 else D 4 j) ∧ (∀ j, D1 5 j = if j = n then 0 else D 5 j) ∧ (∀ j, D1 6 j = if j = n then 0 else D 6 j) := by
    simp only [fX9_addQuestion, zlet]
    rw [if_pos h5, if_pos (by omega), e5, hn', if_pos (by simp [zwr]; omega), pX9_pricesChanged h.good (by simp [zwr]; omega)]
    refine ⟨_, rfl, ?_, ?_, ?_, ?_, ?_, ?_, ?_⟩
    · intro j; simp [zwr, e5]
    · intro a n1 n2 n3 n4 n5 n6; funext j; simp [zwr, n1, n2, n3, n4, n5, n6]
    · intro j; simp [zwr]
    · intro j; simp [zwr]
    · intro j; simp [zwr]
    · intro j; simp [zwr]
    · intro j; simp [zwr]
  obtain ⟨D1, hD, g1, gr, g2, g3, g4, g5, g6⟩ := hz
  refine qS_step hD ?_
  refine cP.accept h hc (K' := fun i => if i = 390 then K 390 + 1 else if i = 5 * n then a else if i = 5 * n + 1 then b else if 5 * n ≤ i ∧ i < 5 * n + 5 then 0 else K i) ⟨hkk, ?_, ?_, ?_, ⟨?_, ?_⟩, ?_, ⟨?_, ?_⟩, ?_, ?_, ?_, ?_⟩ (fun a ha => gr a (by omega) (by omega) (by omega) (by omega) (by omega) (by omega)) ?_ ?_ _ ?_
  · rw [g1]; simp
  · intro q hq
    simp only [if_true] at hq
    rw [g2, g3, g4, g5, g6]
    by_cases e : q = n
    · subst e
      simp (disch := omega) only [if_neg, if_pos]
      simp
    · have := e2 q (by omega)
      simp (disch := omega) only [if_neg]
      exact this
  · intro k hk
    rw [gr _ (by omega) (by omega) (by omega) (by omega) (by omega) (by omega)]
    simp (disch := omega) only [if_neg]
    exact e3 k hk
  · rw [g1]; simp (disch := omega) only [if_neg]; exact e4
  · intro i hi
    have h120 := hk.2.2.2.1.1
    rw [gr _ (by omega) (by omega) (by omega) (by omega) (by omega) (by omega), gr _ (by omega) (by omega) (by omega) (by omega) (by omega) (by omega)]
    simp (disch := omega) only [if_neg] at hi
    simp (disch := omega) only [if_neg]
    exact e4' i hi
  · intro f hf
    rw [gr _ (by omega) (by omega) (by omega) (by omega) (by omega) (by omega)]
    simp (disch := omega) only [if_neg]
    exact e6 f hf
  · rw [g1]; simp (disch := omega) only [if_neg]; exact e7
  · intro y hy
    have h40 := hk.2.2.2.2.2.1.1
    rw [gr _ (by omega) (by omega) (by omega) (by omega) (by omega) (by omega)]
    simp (disch := omega) only [if_neg] at hy
    simp (disch := omega) only [if_neg]
    exact e7' y hy
  · rw [g1]; simp (disch := omega) only [if_neg]; exact e8
  · rw [g1]; simp (disch := omega) only [if_neg]; exact e9
  · rw [gr _ (by omega) (by omega) (by omega) (by omega) (by omega) (by omega)]; exact e10
  · intro t ht
    have h6 := hk.2.2.2.2.2.2.1
    simp (disch := omega) only [if_neg] at ht
    obtain ⟨x1, x2, cs, x3⟩ := e11 t ht
    have ek : ∀ i, 395 ≤ i → (if i = 390 then K 390 + 1 else if i = 5 * n then a else if i = 5 * n + 1 then b else if 5 * n ≤ i ∧ i < 5 * n + 5 then 0 else K i) = K i := fun i hi => by simp (disch := omega) only [if_neg]
    rw [gr _ (by omega) (by omega) (by omega) (by omega) (by omega) (by omega)]
    exact kSlot ek x1 (x2.fr (fun _ _ => rfl) (fun a ha => gr a (by have := h.2.2.2.2.2.2.2 a ha; omega) (by have := h.2.2.2.2.2.2.2 a ha; omega) (by have := h.2.2.2.2.2.2.2 a ha; omega) (by have := h.2.2.2.2.2.2.2 a ha; omega) (by have := h.2.2.2.2.2.2.2 a ha; omega) (by have := h.2.2.2.2.2.2.2 a ha; omega)) (fun _ h => h)) ⟨cs, x3⟩
  · rw [g1, g1]; simp; omega
  · unfold vI; rw [g1, g1]; simp
    exact ⟨Or.inr (by omega), Or.inr (by omega)⟩
  · unfold oQuestion; rw [if_neg (by omega), if_neg (by omega), hn']
theorem pr_question_loop {v1 v2 : Int} {n : Nat} (hn : n < 20) {P : Int × zDa → Prop} (K0 : Nat → Int) (h : rA D K im tp tl ms c)
    (hP : ∀ D1 : zDa, (∀ a, a ≠ 93 → D1 a = D a) → (∀ j, D1 93 j = if 5 * n ≤ j ∧ j < 5 * n + 5 then 0 else K j) → qS (fX12_question_46 F v1 v2 (n : Int) (fun _ _ => none) 5 D1) P) :
    qS (zfix (fun _ _ => none) (fX12_question_46 F v1 v2 (n : Int)) zfu 0 D) P := by
  refine qloop1 (fun i D1 => (0 ≤ i ∧ i ≤ 5) ∧ (∀ a, a ≠ 93 → D1 a = D a) ∧ ∀ j, D1 93 j = if 5 * n ≤ j ∧ (j : Int) < 5 * n + i then 0 else K j) (fun i _ => (5 - i).toNat) ?_ ⟨by omega, fun _ _ => rfl, fun j => by rw [if_neg (by omega), h.1.1]⟩ (zfu_gt (by omega))
  intro k i D1 ⟨hi, hr, hd⟩ ih
  by_cases h5 : i < 5
  · unfold fX12_question_46
    refine qS_pos h5 (qS_chk (by omega) ?_)
    simp only [zlet]
    refine qS_chk (by omega) (ih _ _ ⟨by omega, fun a ha => by rw [zwr_row ha]; exact hr a ha, fun j => ?_⟩ (by omega))
    rw [zwr_at]
    have e : ((0 + 5 * (n : Int)) + i).toNat = 5 * n + i.toNat := by omega
    rw [e, hd]
    by_cases hj : j = 5 * n + i.toNat
    · rw [if_pos hj, if_pos (by omega)]
    · rw [if_neg hj]
      by_cases hj2 : 5 * n ≤ j ∧ (j : Int) < 5 * n + i
      · rw [if_pos hj2, if_pos (by omega)]
      · rw [if_neg hj2, if_neg (by omega)]
  · have hz := hP D1 hr (fun j => by
      rw [hd]
      by_cases hj2 : 5 * n ≤ j ∧ (j : Int) < 5 * n + i
      · rw [if_pos hj2, if_pos (by omega)]
      · rw [if_neg hj2, if_neg (by omega)])
    have e5 : i = 5 := by omega
    subst e5
    unfold fX12_question_46 at hz ⊢
    rw [if_neg (by omega)] at hz ⊢
    exact hz
theorem pr_question (h : rA D K im tp tl ms c) (hc : c < 1000) (a b : Int) : qS (fX12_question F a b D) (rP D K im tp tl ms c (oQuestion K a b)) := by
  have hk := h.1.2.1
  have hK := h.1.1
  have hk1 := hk.1
  unfold fX12_question fX12_question_19
  refine qS_step (pX12_lies _ _ _) ?_
  dsimp only
  refine qS_ite (fun h1 => rP.refuse h hc (-1) (by omega) (by unfold oQuestion; rw [if_pos (fun h => by rw [if_pos (by omega)] at h1; omega)])) (fun h1 => ?_)
  refine qS_step (pX12_lies _ _ _) ?_
  dsimp only
  refine qS_ite (fun h2 => rP.refuse h hc (-1) (by omega) (by unfold oQuestion; rw [if_pos (fun h => by rw [if_pos (by omega)] at h2; omega)])) (fun h2 => ?_)
  have ha : 0 ≤ a ∧ a ≤ 4 := by
    by_cases hx : 0 ≤ a ∧ a ≤ 4
    · exact hx
    · rw [if_neg hx] at h1; omega
  have hb : 1 ≤ b ∧ b ≤ 99 := by
    by_cases hx : 1 ≤ b ∧ b ≤ 99
    · exact hx
    · rw [if_neg hx] at h2; omega
  refine qS_step (r := (K 390, D)) (by unfold fX12_questions; rw [hK]) ?_
  dsimp only
  refine qS_ite (fun h3 => rP.refuse h hc (-5) (by omega) (by unfold oQuestion; rw [if_neg (by omega), if_pos h3])) (fun h3 => ?_)
  obtain ⟨n, hn⟩ : ∃ n : Nat, K 390 = (n : Int) := ⟨(K 390).toNat, by omega⟩
  rw [hn]
  refine pr_question_loop (by omega) K h (fun D1 hr hd => ?_)
  have hkk := hk.question ha hb (by omega)
  unfold fX12_question_46
  rw [if_neg (by omega)]
  refine qS_chk (by omega) ?_
  have e1 : (0 + 5 * (n : Int)).toNat = 5 * n := by omega
  have e2 : ((0 + 5 * (n : Int)) + 1).toNat = 5 * n + 1 := by omega
  have e3 : (K 390).toNat = n := by omega
  have e4 : zwr (zwr D1 93 (5 * n) a) 93 (5 * n + 1) b 93 390 = (n : Int) := by
    rw [zwr_off (by omega), zwr_off (by omega), hd, if_neg (by omega)]; exact hn
  rw [e1, e2]
  refine qS_leti (qS_chk (by omega) (qS_leti (qS_chk (by rw [e4]; omega) (qS_leti ?_))))
  rw [e4]
  rw [e3] at hkk
  refine rP.good h hc ?_ hkk ?_ ?_ _ ?_
  · funext i
    rw [zwr_at, zwr_at, zwr_at, hd]
    by_cases i1 : i = 390
    · rw [if_pos i1, if_pos i1, hn]
    · rw [if_neg i1, if_neg i1]
      by_cases i2 : i = 5 * n + 1
      · rw [if_pos i2, if_neg (by omega), if_pos i2]
      · rw [if_neg i2, if_neg i2]
  · intro i hi
    have := h.1.2.2 i hi
    show (if i = 390 then K 390 + 1 else if i = 5 * n then a else if i = 5 * n + 1 then b else if 5 * n ≤ i ∧ i < 5 * n + 5 then 0 else K i) = 0
    rw [if_neg (by omega), if_neg (by omega), if_neg (by omega), if_neg (by omega)]
    exact this
  · intro a ha
    rw [zwr_row ha, zwr_row ha, zwr_row ha]; exact hr a ha
  · unfold oQuestion; rw [if_neg (by omega), if_neg h3, e3, hn]
/-- all of a State but its papers -/
theorem qSt.mk1 (h : qSt F D Z 1 K) (hk : kOk K') (hZ : ∀ a, Z a → D1 a = D a) (h8 : D1 8 = D 8) (ek : ∀ i, 395 ≤ i → K' i = K i) (k3 : K' 393 = K 393)
    (a1 : D1 1 5 = K' 390) (a2 : ∀ q : Nat, (q : Int) < K' 390 → D1 2 q = K' (5 * q) ∧ D1 3 q = K' (5 * q + 1) ∧ D1 4 q = K' (5 * q + 2) ∧ D1 5 q = K' (5 * q + 3) ∧ D1 6 q = K' (5 * q + 4))
    (a3 : ∀ k : Nat, k < 7 → D1 7 k = K' (100 + k)) (a4 : D1 1 12 = K' 391) (a5 : ∀ i : Nat, (i : Int) < K' 391 → D1 9 i = K' (107 + 2 * i) ∧ D1 10 i = K' (108 + 2 * i))
    (a6 : ∀ f : Nat, f < 3 → D1 11 f = K' (347 + f)) (a7 : D1 1 15 = K' 392) (a8 : ∀ y : Nat, (y : Int) < K' 392 → D1 12 y = K' (350 + y)) (a9 : D1 1 8 = D 1 8) (a10 : D1 1 9 = K' 394) : qSt F D1 Z 1 K' := by
  obtain ⟨_, e5, e2, e3, ⟨e4, e4'⟩, e6, ⟨e7, e7'⟩, e8, e9, e10, e11⟩ := h
  refine ⟨hk, a1, a2, a3, ⟨a4, a5⟩, a6, ⟨a7, a8⟩, by rw [a9, k3]; exact e8, a10, by rw [h8]; exact e10, ?_⟩
  intro t ht
  rw [k3] at ht
  obtain ⟨x1, x2, x3⟩ := e11 t ht
  rw [h8]
  exact kSlot ek x1 (x2.fr (fun _ _ => rfl) hZ (fun _ h => h)) x3
end C2
