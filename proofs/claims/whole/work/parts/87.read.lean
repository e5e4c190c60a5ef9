section CRD6
variable {F : zFs} {D D0 : zDa} {c w p : Nat → Int} {n i l z n0 sl : Nat} {b : Int} {S : Nat → Int}
def kPre (cs : List (Int × kSum)) (x : Nat ⊕ List (Int × kSum)) : Nat ⊕ List (Int × kSum) := match x with
  | .inl e => .inl e
  | .inr r => .inr (cs ++ r)
/-- how the reading of a text ends -/
def cRd (F : zFs) (D0 : zDa) (p : Nat → Int) (n n0 sl : Nat) (Post : List (Int × kSum) → Int × zM → Prop) (x : Nat ⊕ List (Int × kSum)) (r : Int × zM) : Prop := match x with
  | .inl e => e ≤ n ∧ ∃ D' i' l' z' S', cF D0 D' ∧ r = (-1, (F, cS D' i' l' z' (p e) S', n0, sl))
  | .inr cs => Post cs r
theorem cRd_bad {Post : List (Int × kSum) → Int × zM → Prop} (hf : cF D0 D) {e i' l' z' : Nat} {S' : Nat → Int} (he : e ≤ n) : qS (fX6_read_120 0 F (cS D i' l' z' (p e) S') n0 sl) (cRd F D0 p n n0 sl Post (.inl e)) := by
  unfold fX6_read_120
  exact qS_pos rfl (qS_ret ⟨he, D, i', l', z', S', hf, rfl⟩)
theorem cRd50_bad {Post : List (Int × kSum) → Int × zM → Prop} (hf : cF D0 D) {e i' l' z' : Nat} {S' : Nat → Int} {v4 : Int} (he : e ≤ n) (k : Int → Int → zFs → zDa → Nat → Nat → Option (Int × zM)) : qS (fX6_read_50 k 0 v4 F (cS D i' l' z' (p e) S') n0 sl) (cRd F D0 p n n0 sl Post (.inl e)) := by
  have t : qS (fX6_read_96 0 F (cS D i' l' z' (p e) S') n0 sl) (cRd F D0 p n n0 sl Post (.inl e)) := by
    unfold fX6_read_96
    exact qS_pos rfl (cRd_bad hf he)
  unfold fX6_read_50
  exact qS_ite (fun _ => qS_pos rfl t) (fun _ => t)
theorem kPre_cons (cs : List (Int × kSum)) (f : Int × kSum) (x : Nat ⊕ (List (Int × kSum) × Nat)) : kPre cs (kFin n (match x with | .inl e => .inl e | .inr (r, k) => .inr (f :: r, k))) = kPre (cs ++ [f]) (kFin n x) := by
  cases x with
  | inl e => rfl
  | inr q =>
    obtain ⟨r, k⟩ := q
    unfold kFin
    dsimp only
    by_cases h : k = n
    · rw [if_pos h, if_pos h]
      unfold kPre
      simp
    · rw [if_neg h, if_neg h]
      rfl
theorem kPre_one (cs : List (Int × kSum)) (f : Int × kSum) (j : Nat) : kPre cs (kFin n (.inr ([f], j))) = kPre (cs ++ [f]) (kFin n (.inr ([], j))) := by
  unfold kFin
  dsimp only
  by_cases h : j = n
  · rw [if_pos h, if_pos h]; unfold kPre; simp
  · rw [if_neg h, if_neg h]; rfl
theorem cLoop {Post : List (Int × kSum) → Int × zM → Prop} (hG0 : cG D0 c w p n) (hPost : ∀ cs D' j l z S, cF D0 D' → cInv D' S z cs → 1 ≤ cs.length → qS (fX6_read_120 1 F (cS D' j l z (-1) S) n0 sl) (Post cs)) :
    ∀ (m j l z : Nat) (D : zDa) (S : Nat → Int) (cs : List (Int × kSum)), 13 ≤ cs.length + m → 1 ≤ cs.length → cInv D S z cs → cF D0 D → j ≤ n → l ≤ 50 → z ≤ j → ∀ M, m + 1 < M →
      qS (zfix (fun _ _ _ _ _ _ => none) fX6_read_50 M 1 ((cs.length : Int) - 1) F (cS D j l z (-1) S) n0 sl) (cRd F D0 p n n0 sl Post (kPre cs (kFin n (if c j = 159 then kText c w m cs.length (j + 1) l else .inr ([], j))))) := by
  intro m
  induction m with
  | zero => intro j l z D S cs h1 h2 h3; have := h3.2.1; omega
  | succ m ih =>
    intro j l z D S cs h1 h2 h3 h4 h5 h6 h7 M hM
    obtain ⟨M', rfl⟩ : ∃ M', M = M' + 1 + 1 := ⟨M - 2, by omega⟩
    have hG := hG0.fr h4
    have hn4 := hG.1
    have hcl := h3.2.1
    have k59 := cK_sign hG h5 (x := 59) (by omega)
    rw [zfix_succ]
    by_cases hc : c j = 159
    · have hjn : j < n := cIn hG (by omega)
      rw [if_pos hc]
      generalize hkk : zfix (fun _ _ _ _ _ _ => none) fX6_read_50 (M' + 1) = kk at *
      unfold fX6_read_50
      refine qS_pos (by omega) (qS_neg (by omega) (qS_chk (cS_in (by omega)) (qS_pos (by rw [cS_k (by omega)]; omega) (qS_chk (cS_in1 (by omega)) (qS_leti ?_)))))
      rw [cS_n3]
      unfold kText
      by_cases h12 : cs.length = 12
      · rw [if_pos h12]
        refine qS_call (cClause12 hG (by rw [h3.1, h12]; rfl) (by omega)) ?_
        intro r hr
        subst hr
        dsimp only
        refine qS_chk (by omega) ?_
        rw [← hkk, zfix_succ]
        exact cRd50_bad h4 (by omega) _
      · rw [if_neg h12]
        refine qS_call (cClause (w := w) hG h3.1 (by omega) (i := j + 1) (by omega) h6 (by omega)) ?_
        intro r hr
        cases hcl : kClause c w (j + 1) l with
        | inl e =>
          rw [hcl] at hr
          obtain ⟨he, D', i', l', z', S', f1, hi', rfl⟩ := hr
          dsimp only
          refine qS_chk (by omega) ?_
          rw [← hkk, zfix_succ]
          exact cRd50_bad (h4.trans f1) he _
        | inr s =>
          obtain ⟨s1, j1, l1⟩ := s
          rw [hcl] at hr
          obtain ⟨a1, a2, a3, D', z', S', f1, b1, b2, b3, b4, b5, b6, b7, b8, b9, rfl⟩ := hr
          dsimp only
          refine qS_chk (by omega) ?_
          have hinv := h3.more (f := s1) (by omega) b1 (by omega) b3 b4 b5 b6 b7 b8 b9
          have hi := ih j1 l1 z' D' S' (cs ++ [s1]) (by simp; omega) (by simp) hinv (h4.trans f1) a2 a3 (by omega) (M' + 1) (by omega)
          rw [hkk] at hi
          have e1 : ((cs ++ [s1]).length : Int) - 1 = (cs.length : Int) - 1 + 1 := by simp
          have e2 : (cs ++ [s1]).length = cs.length + 1 := by simp
          rw [e1, e2] at hi
          by_cases hc1 : c j1 = 159
          · rw [if_pos hc1] at hi ⊢
            rw [← kPre_cons] at hi
            exact hi
          · rw [if_neg hc1] at hi ⊢
            rw [kPre_one]
            exact hi
    · rw [if_neg hc]
      unfold fX6_read_50
      refine qS_pos (by omega) (qS_neg (by omega) (qS_chk (cS_in (by omega)) (qS_neg (by rw [cS_k (by omega)]; omega) ?_)))
      unfold fX6_read_96
      have k256 := cK_256 hG h5
      refine qS_neg (by omega) (qS_chk (cS_in (by omega)) ?_)
      unfold kFin
      dsimp only
      by_cases hjn : j = n
      · rw [if_pos hjn]
        unfold kPre
        dsimp only
        rw [List.append_nil]
        exact qS_pos (by rw [cS_k (by omega)]; omega) (hPost cs D j l z S h4 h3 h2)
      · rw [if_neg hjn]
        exact qS_neg (by rw [cS_k (by omega)]; omega) (qS_step (cFail_t hG h5) (cRd_bad h4 h5))
theorem cText {Post : List (Int × kSum) → Int × zM → Prop} (hG0 : cG D0 c w p n) (h5 : D0 42 5 = 0) (hPost : ∀ cs D' j l z S, cF D0 D' → cInv D' S z cs → 1 ≤ cs.length → qS (fX6_read_120 1 F (cS D' j l z (-1) S) n0 sl) (Post cs)) :
    qS ((fX6_clause F (cS D0 0 0 0 (-1) S)).bind (fun (r_12, D_13) => zfix (fun _ _ _ _ _ _ => none) fX6_read_50 zfu r_12 0 F D_13 n0 sl)) (cRd F D0 p n n0 sl Post (kRead c w n)) := by
  have hn4 := hG0.1
  rw [kRead_fin]
  unfold kText
  rw [if_neg (by omega)]
  refine qS_call (cClause (w := w) hG0 (m := 0) h5 (by omega) (i := 0) (l := 0) (z := 0) (by omega) (by omega) (by omega)) ?_
  intro r hr
  cases hcl : kClause c w 0 0 with
  | inl e =>
    rw [hcl] at hr
    obtain ⟨he, D', i', l', z', S', f1, hi', rfl⟩ := hr
    dsimp only
    rw [show zfu = 999999 + 1 from rfl, zfix_succ]
    exact cRd50_bad f1 he _
  | inr s =>
    obtain ⟨s1, j1, l1⟩ := s
    rw [hcl] at hr
    obtain ⟨a1, a2, a3, D', z', S', f1, b1, b2, b3, b4, b5, b6, b7, b8, b9, rfl⟩ := hr
    dsimp only
    have hinv : cInv D' S' z' [s1] := by
      refine ⟨b5, by simp, b8, by omega, fun i hi => ?_⟩
      have : i = 0 := by simp at hi; exact hi
      subst this
      rw [b6, b7, b8]
      exact ⟨rfl, by omega, b4⟩
    have hi := cLoop (w := w) hG0 hPost 12 j1 l1 z' D' S' [s1] (by simp) (by simp) hinv f1 a2 a3 (by omega) zfu (zfu_gt (by omega))
    have e1 : (([s1] : List (Int × kSum)).length : Int) - 1 = 0 := by simp
    have e2 : ([s1] : List (Int × kSum)).length = 0 + 1 := rfl
    rw [e1, e2] at hi
    have e3 : ∀ x : Nat ⊕ List (Int × kSum), kPre [] x = x := fun x => by cases x <;> rfl
    by_cases hc1 : c j1 = 159
    · rw [if_pos hc1] at hi ⊢
      rw [← e3 (kFin n _)]
      rw [← List.nil_append [s1], ← kPre_cons] at hi
      exact hi
    · rw [if_neg hc1] at hi ⊢
      rw [← e3 (kFin n _), kPre_one]
      exact hi
theorem pCopy {F : zFs} {D : zDa} {a n0 sl v : Nat} (hk : (F a).1 = 20) (hl : v ≤ (F a).2.1) (hv : v ≤ 1000) (hn : n0 < 900000) (ha : a ≠ n0) :
    ∃ D1, fJ7_copyOf_59c91 a (v : Int) F D n0 sl = some ((n0 : Int), (znew F n0 (20, v, fun _ => 0), D1, n0 + 1, sl + v)) ∧ (∀ k, k < v → D1 n0 k = D a k) ∧ ∀ b, b ≠ n0 → D1 b = D b := by
  unfold fJ7_copyOf_59c91
  rw [if_pos ⟨hk, hn, by omega⟩]
  by_cases e : (v : Int) = ((F a).2.1 : Int)
  · have e' : (F a).2.1 = v := by omega
    refine ⟨zrow D n0 (D a), ?_, fun k hk => by rw [zrow_eq], fun b hb => zrow_row hb⟩
    rw [if_pos e, e']
  · refine ⟨zrow (zrow D n0 (fun _ => 0)) n0 (va_cpy (D a) (fun _ => 0) 0 0 v), ?_, fun k hk => ?_, fun b hb => by rw [zrow_row hb, zrow_row hb]⟩
    · rw [if_neg e]
      have em : fJ9_min_7cf53 F ((F a).2.1 : Int) (v : Int) D = some ((v : Int), D) := by
        unfold fJ9_min_7cf53
        rw [if_pos (by omega)]
      rw [em, Option.bind_some]
      dsimp only
      rw [if_pos ⟨by omega, by omega, by omega, ha⟩]
      rfl
    · rw [zrow_eq]
      unfold va_cpy
      rw [if_pos (by omega)]
      congr 1; omega
end CRD6
