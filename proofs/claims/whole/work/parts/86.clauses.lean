section CRD5
variable {F : zFs} {D D0 : zDa} {c w p : Nat → Int} {n i l z : Nat} {b : Int} {S : Nat → Int}
theorem cS_wr {a k : Nat} {v : Int} (ha : a ≠ 42 ∧ a ≠ 48) : zwr (cS D i l z b S) a k v = cS (zwr D a k v) i l z b S := by
  refine cS_ext (by rw [zwr_off (by omega), cS_3]) (by rw [zwr_off (by omega), cS_4]) (by rw [zwr_off (by omega), cS_9]) (by rw [zwr_off (by omega), cS_10]) (by rw [zwr_row (by omega), cS_48]) (fun k a1 a2 a3 a4 => by rw [zwr_off (by omega), zwr_off (by omega), cS_f ⟨a1, a2, a3, a4⟩]) (fun b h1 h2 => ?_)
  funext j
  by_cases hb : b = a
  · subst hb; rw [zwr_at, zwr_at, cS_r ⟨h1, h2⟩]
  · rw [zwr_row hb, zwr_row hb, cS_r ⟨h1, h2⟩]
theorem cS_w5 {v : Int} : zwr (cS D i l z b S) 42 5 v = cS (zwr D 42 5 v) i l z b S := by
  refine cS_ext (by rw [zwr_off (by omega), cS_3]) (by rw [zwr_off (by omega), cS_4]) (by rw [zwr_off (by omega), cS_9]) (by rw [zwr_off (by omega), cS_10]) (by rw [zwr_row (by omega), cS_48]) (fun k a1 a2 a3 a4 => ?_) (fun b h1 h2 => by rw [zwr_row h1, zwr_row h1, cS_r ⟨h1, h2⟩])
  rw [zwr_at, zwr_at, cS_f ⟨a1, a2, a3, a4⟩]
theorem cS_5 : cS D i l z b S 42 5 = D 42 5 := cS_f (by omega)
/-- rows that a clause may change -/
def cF (D D' : zDa) : Prop := (∀ a, a ≠ 42 → a ≠ 46 → a ≠ 47 → D' a = D a) ∧ ∀ k, k ≠ 5 → D' 42 k = D 42 k
theorem cF.rfl' (D : zDa) : cF D D := ⟨fun _ _ _ _ => rfl, fun _ _ => rfl⟩
theorem cF.trans {D D1 D2 : zDa} (h1 : cF D D1) (h2 : cF D1 D2) : cF D D2 := ⟨fun a x y z => (h2.1 a x y z).trans (h1.1 a x y z), fun k x => (h2.2 k x).trans (h1.2 k x)⟩
theorem cF.w46 {D D1 : zDa} (h : cF D D1) {k : Nat} {v : Int} : cF D (zwr D1 46 k v) := ⟨fun a x y z => by rw [zwr_row y]; exact h.1 a x y z, fun k x => by rw [zwr_off (by omega)]; exact h.2 k x⟩
theorem cF.w47 {D D1 : zDa} (h : cF D D1) {k : Nat} {v : Int} : cF D (zwr D1 47 k v) := ⟨fun a x y z => by rw [zwr_row z]; exact h.1 a x y z, fun k x => by rw [zwr_off (by omega)]; exact h.2 k x⟩
theorem cF.w5 {D D1 : zDa} (h : cF D D1) {v : Int} : cF D (zwr D1 42 5 v) := ⟨fun a x y z => by rw [zwr_row x]; exact h.1 a x y z, fun k x => by rw [zwr_off (by omega)]; exact h.2 k x⟩
theorem cG.fr {D D' : zDa} (h : cG D c w p n) (hf : cF D D') : cG D' c w p n := by
  unfold cG
  rw [hf.1 43 (by omega) (by omega) (by omega), hf.1 44 (by omega) (by omega) (by omega), hf.1 45 (by omega) (by omega) (by omega)]
  exact h
def cImp (S : Nat → Int) (s t : Nat) (f : kSum) : Prop := ∀ S' : Nat → Int, (∀ k, s ≤ k → k < t → S' k = S k) → kImp S' s t f
theorem cImp.eq {S S2 : Nat → Int} {s t : Nat} {f : kSum} (h : cImp S s t f) (he : ∀ k, s ≤ k → k < t → S2 k = S k) : cImp S2 s t f := fun S' hS => h S' (fun k h1 h2 => (hS k h1 h2).trans (he k h1 h2))
def cCl (D : zDa) (p : Nat → Int) (n m : Nat) (x : Nat ⊕ ((Int × kSum) × Nat × Nat)) (i z : Nat) (S : Nat → Int) (r : Int × zDa) : Prop := match x with
  | .inl e => e ≤ n ∧ ∃ D' i' l' z' S', cF D D' ∧ i' ≤ n ∧ r = (0, cS D' i' l' z' (p e) S')
  | .inr (f, j, l') => i < j ∧ j ≤ n ∧ l' ≤ 50 ∧ ∃ D' z' S', cF D D' ∧ z < z' ∧ z' + i ≤ z + j ∧ (∀ k, k < z → S' k = S k) ∧ cImp S' z z' f.2 ∧ D' 42 5 = (m : Int) + 1 ∧ D' 46 m = f.1 - 1 ∧ D' 47 m = (z : Int) ∧ D' 47 (m + 1) = (z' : Int) ∧ (∀ k, k < m → D' 46 k = D 46 k ∧ D' 47 k = D 47 k) ∧ r = (1, cS D' j l' z' (-1) S')
theorem cClause (hG : cG D c w p n) {m : Nat} (hm : D 42 5 = (m : Int)) (h12 : m < 12) (hi : i ≤ n) (hl : l ≤ 50) (hz : z ≤ i) : qS (fX6_clause F (cS D i l z (-1) S)) (cCl D p n m (kClause c w i l) i z S) := by
  have h4 := hG.1
  have k259 := cK_259 hG hi
  unfold fX6_clause kClause
  refine qS_pos (by rw [cS_5]; omega) (qS_chk (cS_in (by omega)) ?_)
  by_cases hc : 1 ≤ c i ∧ c i ≤ 3
  · have hin : i < n := cIn hG (by omega)
    have hv := (hG.2.1 i hin).2.1.1 hc
    rw [if_pos hc]
    refine qS_pos (by rw [cS_k (by omega)]; omega) (qS_chk (by rw [cS_5]; omega) (qS_leti ?_))
    rw [cS_k (by omega), hv, cS_5, hm, show ((m : Int)).toNat = m by omega, cS_wr (by omega)]
    have f1 : cF D (zwr D 46 m (c i - 1)) := (cF.rfl' D).w46
    have g1 : zwr D 46 m (c i - 1) 42 5 = (m : Int) := by rw [zwr_off (by omega)]; exact hm
    refine qS_chk (by rw [cS_5, g1]; omega) (qS_leti ?_)
    rw [cS_5, g1, cS_9, show ((m : Int)).toNat = m by omega, cS_wr (by omega)]
    refine qS_chk (cS_in1 (by omega)) (qS_leti ?_)
    rw [cS_n3]
    have f2 : cF D (zwr (zwr D 46 m (c i - 1)) 47 m (z : Int)) := f1.w47
    have g2 : zwr (zwr D 46 m (c i - 1)) 47 m (z : Int) 42 5 = (m : Int) := by rw [zwr_off (by omega)]; exact g1
    have g3 : zwr (zwr D 46 m (c i - 1)) 47 m (z : Int) 46 m = c i - 1 := by rw [zwr_off (by omega), zwr_eq]
    have g4 : zwr (zwr D 46 m (c i - 1)) 47 m (z : Int) 47 m = (z : Int) := zwr_eq
    have g5 : ∀ k, k < m → zwr (zwr D 46 m (c i - 1)) 47 m (z : Int) 46 k = D 46 k ∧ zwr (zwr D 46 m (c i - 1)) 47 m (z : Int) 47 k = D 47 k := fun k hk => ⟨by rw [zwr_off (by omega), zwr_off (by omega)], by rw [zwr_off (by omega), zwr_off (by omega)]⟩
    generalize zwr (zwr D 46 m (c i - 1)) 47 m (z : Int) = D2 at *
    have hG2 := hG.fr f2
    have fin : ∀ (j l' z' : Nat) (S' : Nat → Int) (f : kSum), i < j → j ≤ n → l' ≤ 50 → z < z' → z' + i ≤ z + j → (∀ k, k < z → S' k = S k) → cImp S' z z' f → qS (fX6_clause_122 F (cS D2 j l' z' (-1) S')) (cCl D p n m (.inr ((c i, f), j, l')) i z S) := by
      intro j l' z' S' f a1 a2 a3 a4 a5 a6 a7
      unfold fX6_clause_122
      refine qS_chk (by rw [cS_5]; omega) (qS_leti ?_)
      rw [cS_5, g2, cS_w5]
      have g6 : zwr D2 42 5 ((m : Int) + 1) 42 5 = (m : Int) + 1 := zwr_eq
      refine qS_chk (by rw [cS_5]; omega) (qS_leti ?_)
      rw [cS_5, g6, cS_9, show ((m : Int) + 1).toNat = m + 1 by omega, cS_wr (by omega)]
      refine qS_ret ⟨a1, a2, a3, _, z', S', (f2.w5).w47, a4, a5, a6, a7, ?_, ?_, ?_, ?_, ?_, rfl⟩
      · rw [zwr_off (by omega)]; exact g6
      · rw [zwr_off (by omega), zwr_off (by omega)]; exact g3
      · rw [zwr_off (by omega), zwr_off (by omega)]; exact g4
      · exact zwr_eq
      · intro k hk
        rw [zwr_off (by omega), zwr_off (by omega), zwr_off (by omega), zwr_off (by omega)]; exact g5 k hk
    have hs := cSumF (F := F) hG2 (d := 8) (by omega) (i := i + 1) (l := l) (z := z) (S := S) (by omega) hl (by omega)
    rw [show (8 - ((8 : Nat) : Int)) = 0 by omega] at hs
    refine qS_call hs ?_
    intro r hr
    cases hk : kSumD c w 8 (i + 1) l with
    | inl e =>
      rw [hk] at hr
      obtain ⟨he, i', l', z', S', hi', rfl⟩ := hr
      exact qS_pos rfl (qS_ret ⟨he, D2, i', l', z', S', f2, hi', rfl⟩)
    | inr s =>
      obtain ⟨s1, j, l1⟩ := s
      rw [hk] at hr
      obtain ⟨a1, a2, a3, a4, z', S', b1, b2, b3, b4, rfl⟩ := hr
      refine qS_neg (by intro h; cases h) ?_
      try dsimp only
      refine qS_chk (cS_in (by omega)) ?_
      have k261 := cK_word hG2 a2 (x := 261) (by omega)
      by_cases hif : c j = 4
      · have hjn : j < n := cIn hG (by omega)
        rw [if_pos hif]
        refine qS_pos (by rw [cS_k (by omega)]; omega) (qS_chk (cS_in1 (by omega)) (qS_leti ?_))
        rw [cS_n3]
        have ht := cTestD (F := F) hG2 8 (by omega) (j + 1) l1 z' S' (by omega) a4 (by omega) 40 (by omega)
        rw [show (8 - ((8 : Nat) : Int)) = 0 by omega] at ht
        refine qS_call ht ?_
        intro r hr
        cases hk2 : kTestD c w 8 (j + 1) l1 with
        | inl e =>
          rw [hk2] at hr
          obtain ⟨he, i', l', z', S', hi', rfl⟩ := hr
          exact qS_pos rfl (qS_ret ⟨he, D2, i', l', z', S', f2, hi', rfl⟩)
        | inr s =>
          obtain ⟨t1, j2, l2⟩ := s
          rw [hk2] at hr
          obtain ⟨d1, d2, d3, d4, z2, S2, e1, e2, e3, e4, rfl⟩ := hr
          refine qS_neg (by intro h; cases h) ?_
          refine fin j2 l2 z2 S2 _ (by omega) d2 d4 (by omega) (by omega) (fun k hk => by rw [e3 k (by omega), b3 k hk]) ?_
          intro S' hS'
          exact kImp_of (b4.eq (fun k k1 k2 => by rw [hS' k k1 (by omega), e3 k k2])) (e4.eq (fun k k1 k2 => hS' k (by omega) k2)) (by omega) (by omega)
      · rw [if_neg hif]
        refine qS_neg (by rw [cS_k (by omega)]; omega) (qS_step (cEmit (by omega) (by omega)) ?_)
        rw [zor16 (by omega) (by omega)]
        refine fin j l1 (z' + 1) _ s1 (by omega) a2 a4 (by omega) (by omega) (fun k hk => by rw [zset_off (by omega), b3 k hk]) ?_
        intro S2 hS2
        exact kImp_one (b4.eq (fun k k1 k2 => by rw [hS2 k k1 (by omega), zset_off (by omega)])) (by rw [hS2 z' (by omega) (by omega), zset_eq]; omega) (by omega) (by omega)
  · rw [if_neg hc]
    refine qS_neg (by rw [cS_k (by omega)]; omega) ?_
    unfold fX6_clause_24
    exact qS_step (cFail_t hG hi) (qS_chk (Or.inl rfl) (qS_ret ⟨hi, D, i, l, z, S, cF.rfl' D, hi, rfl⟩))
theorem cClause12 (hG : cG D c w p n) (hm : D 42 5 = 12) (hi : i ≤ n) : qS (fX6_clause F (cS D i l z (-1) S)) (fun r => r = (0, cS D i l z (p i) S)) := by
  unfold fX6_clause
  refine qS_neg (by rw [cS_5]; omega) ?_
  unfold fX6_clause_24
  exact qS_step (cFail_t hG hi) (qS_chk (Or.inl rfl) (qS_ret rfl))
/-- the clauses so far lie in the reader -/
def cInv (D : zDa) (S : Nat → Int) (z : Nat) (cs : List (Int × kSum)) : Prop := D 42 5 = (cs.length : Int) ∧ cs.length ≤ 12 ∧ D 47 cs.length = (z : Int) ∧ z ≤ 400 ∧ ∀ i (hi : i < cs.length), D 46 i = (cs[i]).1 - 1 ∧ (0 ≤ D 47 i ∧ D 47 i ≤ D 47 (i + 1) ∧ D 47 (i + 1) ≤ (z : Int)) ∧ cImp S (D 47 i).toNat (D 47 (i + 1)).toNat (cs[i]).2
theorem cInv.more {D D' : zDa} {S S' : Nat → Int} {z z' : Nat} {cs : List (Int × kSum)} {f : Int × kSum} (h : cInv D S z cs) (hl : cs.length < 12) (hz : z < z') (hz4 : z' ≤ 400) (hS : ∀ k, k < z → S' k = S k) (hf : cImp S' z z' f.2) (h5 : D' 42 5 = (cs.length : Int) + 1) (h6 : D' 46 cs.length = f.1 - 1) (h7 : D' 47 cs.length = (z : Int)) (h8 : D' 47 (cs.length + 1) = (z' : Int)) (ho : ∀ k, k < cs.length → D' 46 k = D 46 k ∧ D' 47 k = D 47 k) : cInv D' S' z' (cs ++ [f]) := by
  obtain ⟨q1, q2, q3, q4, q5⟩ := h
  refine ⟨by simp; exact h5, by simp; omega, by simp; exact h8, hz4, fun i hi => ?_⟩
  simp at hi
  by_cases hil : i < cs.length
  · obtain ⟨r1, r2, r3⟩ := q5 i hil
    have e1 : D' 47 (i + 1) = D 47 (i + 1) := by
      by_cases e : i + 1 = cs.length
      · rw [e, h7, q3]
      · exact (ho (i + 1) (by omega)).2
    rw [(ho i hil).1, (ho i hil).2, e1, List.getElem_append_left hil]
    exact ⟨r1, ⟨r2.1, r2.2.1, by omega⟩, r3.eq (fun k k1 k2 => hS k (by omega))⟩
  · have e : i = cs.length := by omega
    subst e
    rw [h6, h7, h8]
    simp
    exact ⟨by omega, hf⟩
end CRD5
