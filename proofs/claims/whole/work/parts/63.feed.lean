/-! ===== feed ===== -/
def kPick (a b c d e : Int) (k : Nat) : Int := if k = 0 then a else if k = 1 then b else if k = 2 then c else if k = 3 then d else e
def tpFeed (tp : Nat → Int) (t : Nat) (a b c d e : Int) : Nat → Int := fun i => if t ≤ i ∧ i < t + 20 then zbyte (kPick a b c d e ((i - t) / 4)) (24 - 8 * ((i - t) % 4)) else tp i
def oFeed (tl : Int) : Int := if 380 < tl then -1 else tl + 20
def tlFeed (tl : Int) : Int := if 380 < tl then tl else tl + 20
def tpFd (tp : Nat → Int) (tl : Int) (a b c d e : Int) : Nat → Int := if 380 < tl then tp else tpFeed tp tl.toNat a b c d e
section C9
variable {F : zFs} {D D1 : zDa} {Z : Nat → Prop} {K K' : Nat → Int} {im : Nat → Option (Nat → Int)} {tp : Nat → Int} {tl : Int} {ms : Nat → Int} {c : Nat}
theorem pX11_putBytes {x : Int} (hx : -2147483648 ≤ x ∧ x ≤ 2147483647) {t : Nat} (ht : D 0 4 = (t : Int)) (h4 : t + 4 ≤ 400) :
    qS (fX11_putBytes F x D) (fun D' => D' 0 4 = ((t + 4 : Nat) : Int) ∧ (∀ k, k ≠ 4 → D' 0 k = D 0 k) ∧ (∀ a, a ≠ 0 → a ≠ 39 → D' a = D a) ∧ ∀ j, D' 39 j = if t ≤ j ∧ j < t + 4 then zbyte x (24 - 8 * (j - t)) else D 39 j) := by
  unfold fX11_putBytes
  refine qloop1 (fun v D1 => ∃ i : Nat, v = 24 - 8 * (i : Int) ∧ i ≤ 4 ∧ D1 0 4 = ((t + i : Nat) : Int) ∧ (∀ k, k ≠ 4 → D1 0 k = D 0 k) ∧ (∀ a, a ≠ 0 → a ≠ 39 → D1 a = D a) ∧ ∀ j, D1 39 j = if t ≤ j ∧ j < t + i then zbyte x (24 - 8 * (j - t)) else D 39 j) (fun v _ => (v + 8).toNat) ?_ ⟨0, by omega, by omega, ht, fun _ _ => rfl, fun _ _ _ => rfl, fun j => by rw [if_neg (by omega)]⟩ (zfu_gt (by omega))
  intro k v D1 ⟨i, ev, hi, h0, g0, gr, g39⟩ ih
  unfold fX11_putBytes_3
  refine qS_ite (fun hv => qS_ret ?_) (fun hv => ?_)
  · have : i = 4 := by omega
    subst this
    exact ⟨h0, g0, gr, g39⟩
  · refine qS_pos (by omega) (qS_chk (by omega) (qS_leti ?_))
    have e1 : (D1 0 4).toNat = t + i := by omega
    rw [e1]
    have hb : zand (zushr x v) 255 = zbyte x (24 - 8 * i) := by
      have := zbyte_u (x := x) (s := 24 - 8 * i) hx (by omega)
      rw [show ((24 - 8 * i : Nat) : Int) = v by omega] at this
      exact this
    rw [hb]
    refine qS_chk (by rw [zwr_row (by omega)]; omega) (qS_leti (qS_chk (by omega) (ih _ _ ⟨i + 1, by omega, by omega, ?_, ?_, ?_, ?_⟩ (by omega))))
    · rw [zwr_eq, zwr_row (by omega)]; omega
    · intro k hk; rw [zwr_off (by omega), zwr_row (by omega)]; exact g0 k hk
    · intro a a0 a39; rw [zwr_row a0, zwr_row a39]; exact gr a a0 a39
    · intro j
      rw [zwr_row (by omega), zwr_at]
      by_cases hj : j = t + i
      · subst hj
        rw [if_pos rfl, if_pos (by omega), show t + i - t = i by omega]
      · rw [if_neg hj, g39]
        by_cases hj2 : t ≤ j ∧ j < t + i
        · rw [if_pos hj2, if_pos (by omega)]
        · rw [if_neg hj2, if_neg (by omega)]
theorem pc_feed (h : cA F D Z K im tp tl ms c) (hc : c < 1000) (a b d e f : Int) (ra : ∀ x ∈ [a, b, d, e, f], -2147483648 ≤ x ∧ x ≤ 2147483647) :
    qS (fX11_feed F a b d e f D) (fun r => r.1 = oFeed tl ∧ cA F r.2 Z K im (tpFd tp tl a b d e f) (tlFeed tl) ms (c + 1) ∧ fC D r.2 ∧ r.2 1 = D 1) := by
  have e4 := h.2.2.1.1
  have ht := h.2.2.1.2
  unfold fX11_feed oFeed tpFd tlFeed
  rw [e4.1]
  refine qS_ite (fun h1 => qS_ret ?_) (fun h1 => ?_)
  · rw [if_pos h1, if_pos h1, if_pos h1]; exact ⟨rfl, h.weak hc, fun _ _ => rfl, rfl⟩
  · rw [if_neg h1, if_neg h1, if_neg h1]
    obtain ⟨t, et⟩ : ∃ t : Nat, tl = (t : Int) := ⟨tl.toNat, by omega⟩
    refine qS_call (pX11_putBytes (F := F) (ra a (by simp)) (t := t) (by omega) (by omega)) (fun D1 ⟨a1, b1, c1, d1⟩ => ?_)
    refine qS_call (pX11_putBytes (F := F) (ra b (by simp)) a1 (by omega)) (fun D2 ⟨a2, b2, c2, d2⟩ => ?_)
    refine qS_call (pX11_putBytes (F := F) (ra d (by simp)) a2 (by omega)) (fun D3 ⟨a3, b3, c3, d3⟩ => ?_)
    refine qS_call (pX11_putBytes (F := F) (ra e (by simp)) a3 (by omega)) (fun D4 ⟨a4, b4, c4, d4⟩ => ?_)
    refine qS_call (pX11_putBytes (F := F) (ra f (by simp)) a4 (by omega)) (fun D5 ⟨a5, b5, c5, d5⟩ => qS_ret ?_)
    dsimp only
    have gr : ∀ x, x ≠ 0 → x ≠ 39 → D5 x = D x := fun x x0 x39 => by rw [c5 x x0 x39, c4 x x0 x39, c3 x x0 x39, c2 x x0 x39, c1 x x0 x39]
    have g0 : ∀ k, k ≠ 4 → D5 0 k = D 0 k := fun k hk => by rw [b5 k hk, b4 k hk, b3 k hk, b2 k hk, b1 k hk]
    have g39 : ∀ j : Nat, (j : Int) < tl + 20 → D5 39 j = tpFeed tp t a b d e f j := by
      intro j hj
      unfold tpFeed
      by_cases hx : t ≤ j
      · obtain ⟨m, rfl⟩ : ∃ m, j = t + m := ⟨j - t, by omega⟩
        rw [if_pos (by omega), show t + m - t = m by omega, d5]
        by_cases h16 : 16 ≤ m
        · rw [if_pos (by omega), show m / 4 = 4 by omega, show kPick a b d e f 4 = f from rfl]
          congr 1; omega
        · rw [if_neg (by omega), d4]
          by_cases h12 : 12 ≤ m
          · rw [if_pos (by omega), show m / 4 = 3 by omega, show kPick a b d e f 3 = e from rfl]
            congr 1; omega
          · rw [if_neg (by omega), d3]
            by_cases h8 : 8 ≤ m
            · rw [if_pos (by omega), show m / 4 = 2 by omega, show kPick a b d e f 2 = d from rfl]
              congr 1; omega
            · rw [if_neg (by omega), d2]
              by_cases h4 : 4 ≤ m
              · rw [if_pos (by omega), show m / 4 = 1 by omega, show kPick a b d e f 1 = b from rfl]
                congr 1; omega
              · rw [if_neg (by omega), d1, if_pos (by omega), show m / 4 = 0 by omega, show kPick a b d e f 0 = a from rfl]
                congr 1; omega
      · rw [if_neg (by omega), d5, if_neg (by omega), d4, if_neg (by omega), d3, if_neg (by omega), d2, if_neg (by omega), d1, if_neg (by omega)]
        exact (ht j (by omega)).1
    obtain ⟨q1, q2, q3, q4, q5, q6, q7, q8⟩ := h
    have et' : tl.toNat = t := by omega
    refine ⟨by omega, ⟨q1.rows q8 (fun a ha => gr a (by omega) (by omega)) (fun a ha hb => gr a (by omega) (by omega)), cA.images q2 q8 (fun a ha => gr a (by omega) (by omega)) (fun a ha hb => gr a (by omega) (by omega)), ⟨by omega, ?_⟩, ?_, ?_, by omega, q7, q8⟩, fun a ha => gr a (by omega) (by omega), gr 1 (by omega) (by omega)⟩
    · intro i hi
      rw [g39 i hi, et']
      refine ⟨rfl, ?_⟩
      unfold tpFeed
      split
      · exact zbyte_in _ _
      · exact (ht i (by omega)).2
    · rw [g0 9 (by omega), g0 5 (by omega), g0 6 (by omega), gr 40 (by omega) (by omega), gr 41 (by omega) (by omega)]
      exact ⟨q4.1, q4.2.1, q4.2.2.1, q4.2.2.2.1, q4.2.2.2.2.1, q4.2.2.2.2.2.1, fun k a b => by have := q4.2.2.2.2.2.2 k a b; omega⟩
    · intro s hs
      have := q5 s hs
      simp only [List.mem_cons, List.not_mem_nil, or_false] at hs
      rw [gr s (by omega) (by omega)]; omega
theorem pr_feed (h : rA D K im tp tl ms c) (hc : c < 1000) (a b d e f : Int) (ra : ∀ x ∈ [a, b, d, e, f], -2147483648 ≤ x ∧ x ≤ 2147483647) :
    qS (fX12_feed F a b d e f D) (fun r => r.1 = oFeed tl ∧ rA r.2 K im (tpFd tp tl a b d e f) (tlFeed tl) ms (c + 1) ∧ fR D r.2 ∧ r.2 91 1 = D 91 1) := by
  have e4 := h.2.2.1.1
  have ht := h.2.2.1.2
  unfold fX12_feed oFeed tpFd tlFeed
  refine qS_chk (by omega) (qS_ite (fun h1 => qS_ret ?_) (fun h1 => ?_))
  · rw [if_pos (by omega), if_pos (by omega), if_pos (by omega)]; exact ⟨rfl, h.weak hc, zfm.rfl' _ _ D, rfl⟩
  · rw [if_neg (by omega), if_neg (by omega), if_neg (by omega)]
    obtain ⟨t, et⟩ : ∃ t : Nat, tl = (t : Int) := ⟨tl.toNat, by omega⟩
    have et' : tl.toNat = t := by omega
    refine qS_leti (qS_leti (qS_leti (qS_leti (qS_leti ?_))))
    have p98 : ∀ k, k < 5 → zwr (zwr (zwr (zwr (zwr D 98 0 a) 98 1 b) 98 2 d) 98 3 e) 98 4 f 98 k = kPick a b d e f k := by
      intro k hk
      have : k = 0 ∨ k = 1 ∨ k = 2 ∨ k = 3 ∨ k = 4 := by omega
      rcases this with rfl | rfl | rfl | rfl | rfl <;> simp [zwr, kPick]
    have pr0 : ∀ x, x ≠ 98 → zwr (zwr (zwr (zwr (zwr D 98 0 a) 98 1 b) 98 2 d) 98 3 e) 98 4 f x = D x := fun x hx => by
      rw [zwr_row hx, zwr_row hx, zwr_row hx, zwr_row hx, zwr_row hx]
    generalize zwr (zwr (zwr (zwr (zwr D 98 0 a) 98 1 b) 98 2 d) 98 3 e) 98 4 f = D0 at *
    refine qloop1 (fun v D1 => ∃ i : Nat, v = (i : Int) ∧ i ≤ 20 ∧ (∀ x, x ≠ 97 → D1 x = D0 x) ∧ ∀ j, D1 97 j = if t ≤ j ∧ j < t + i then sgn8 (tpFeed tp t a b d e f j) else D0 97 j) (fun v _ => (20 - v).toNat) ?_ ⟨0, by omega, by omega, fun _ _ => rfl, fun j => by rw [if_neg (by omega)]⟩ (zfu_gt (by omega))
    intro k v D1 ⟨i, ev, hi, gr, g97⟩ ih
    subst ev
    have h91 : D1 91 = D 91 := by rw [gr 91 (by omega), pr0 91 (by omega)]
    unfold fX12_feed_55
    refine qS_ite (fun hv => ?_) (fun hv => ?_)
    · have ed : Int.tdiv (i : Int) 4 = ((i / 4 : Nat) : Int) := by rw [Int.tdiv_eq_ediv_of_nonneg (by omega)]; omega
      have em : Int.tmod (i : Int) 4 = ((i % 4 : Nat) : Int) := by rw [Int.tmod_eq_emod_of_nonneg (by omega)]; omega
      rw [ed, em, h91, show ((i / 4 : Nat) : Int).toNat = i / 4 by omega, gr 98 (by omega), p98 (i / 4) (by omega)]
      have hpk : -2147483648 ≤ kPick a b d e f (i / 4) ∧ kPick a b d e f (i / 4) ≤ 2147483647 := by
        unfold kPick
        have := ra a (by simp)
        have := ra b (by simp)
        have := ra d (by simp)
        have := ra e (by simp)
        have := ra f (by simp)
        split
        · assumption
        · split
          · assumption
          · split
            · assumption
            · split <;> assumption
      have hs := zbyte_s (x := kPick a b d e f (i / 4)) (s := 24 - 8 * (i % 4)) hpk (by omega)
      rw [show (24 : Int) - 8 * ((i % 4 : Nat) : Int) = ((24 - 8 * (i % 4) : Nat) : Int) by omega]
      refine qS_chk ⟨by omega, by omega, by omega, by omega, by omega, hs.2⟩ (qS_leti (qS_chk (by omega) (ih _ _ ⟨i + 1, by omega, by omega, ?_, ?_⟩ (by omega))))
      · intro x hx; rw [zwr_row hx]; exact gr x hx
      · intro j
        rw [zwr_at, show (D 91 9 + (i : Int)).toNat = t + i by omega, hs.1]
        by_cases hj : j = t + i
        · subst hj
          rw [if_pos rfl, if_pos (by omega)]
          unfold tpFeed
          rw [if_pos (by omega), show t + i - t = i by omega]
        · rw [if_neg hj, g97]
          by_cases hj2 : t ≤ j ∧ j < t + i
          · rw [if_pos hj2, if_pos (by omega)]
          · rw [if_neg hj2, if_neg (by omega)]
    · have : i = 20 := by omega
      subst this
      rw [h91]
      refine qS_chk (by omega) (qS_leti (qS_ret ?_))
      dsimp only
      rw [zwr_eq]
      obtain ⟨h1', h2, h3, ⟨m0, m1, m2, m3, m4, m5, m6⟩, h5, h6⟩ := h
      have g91 : ∀ k, k ≠ 9 → zwr D1 91 9 (D 91 9 + 20) 91 k = D 91 k := fun k hk => by rw [zwr_off (by omega), h91]
      have grr : ∀ x, x ≠ 97 → x ≠ 98 → x ≠ 91 → zwr D1 91 9 (D 91 9 + 20) x = D x := fun x a1 a2 a3 => by rw [zwr_row a3, gr x a1, pr0 x a2]
      refine ⟨by omega, ⟨?_, ?_, ⟨by rw [zwr_eq]; omega, ?_⟩, ?_, ?_, by omega⟩, ?_, g91 1 (by omega)⟩
      · rw [grr 93 (by omega) (by omega) (by omega)]; exact h1'
      · rw [grr 95 (by omega) (by omega) (by omega), grr 94 (by omega) (by omega) (by omega)]; exact h2
      · intro i hi
        rw [zwr_row (by omega), g97, et']
        have hin : 0 ≤ tpFeed tp t a b d e f i ∧ tpFeed tp t a b d e f i ≤ 255 := by
          unfold tpFeed
          split
          · exact zbyte_in _ _
          · exact (ht i (by omega)).2
        refine ⟨?_, hin⟩
        by_cases hx : t ≤ i ∧ i < t + 20
        · rw [if_pos hx]
        · rw [if_neg hx, pr0 97 (by omega)]
          unfold tpFeed; rw [if_neg hx]
          exact (ht i (by omega)).1
      · rw [g91 0 (by omega), g91 10 (by omega), g91 59 (by omega), g91 64 (by omega), g91 65 (by omega), g91 66 (by omega), grr 92 (by omega) (by omega) (by omega)]
        exact ⟨m0, m1, m2, m3, m4, m5, fun k a b => by have := m6 k a b; omega⟩
      · rw [g91 1 (by omega)]; omega
      · refine ⟨fun x x1 x2 => grr x (fun e => x2 (by rw [e]; decide)) (fun e => x2 (by rw [e]; decide)) x1, fun k hk => g91 k (fun e => hk (by rw [e]; decide))⟩
end C9
