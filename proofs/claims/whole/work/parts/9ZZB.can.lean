/-! ===== the class: can so many be learned, by sets ===== -/
def cSo (D : zDa) (S : Nat) (p : Nat → Int) (c : Nat → Nat) : Prop :=
  S ≤ 12 ∧ D 78 4 = (S : Int) ∧ (∀ q, q < S → D 80 q = p q) ∧ (∀ q, 2 ≤ p q ∧ p q ≤ 40) ∧ (∀ i, i < S → D 81 i = (c i : Int) ∧ c i < S) ∧ (∀ a b, a < b → b < S → p (c a) ≤ p (c b)) ∧ List.Perm (sLn c 0 S) (sLn (fun x => x) 0 S)
def cLf (D : zDa) (h : Nat → Int) : Prop := ∀ f, f < 3 → D 82 f = h f ∧ 0 ≤ h f ∧ h f ≤ 99
def cRr (F : zFs) (D : zDa) (n rr : Nat) : Prop := D 78 9 = (rr : Int) ∧ (rr = 84 ∨ 126 ≤ rr) ∧ rr < n ∧ (F rr).1 = 20 ∧ ∃ e, e ≤ 12 ∧ (F rr).2.1 = 2 ^ e
theorem pow12 {m : Nat} (h : m ≤ 12) : 1 ≤ 2 ^ m ∧ 2 ^ m ≤ 4096 := ⟨Nat.one_le_two_pow, Nat.pow_le_pow_right (n := 2) (i := m) (j := 12) (by omega) h⟩
section CN
variable {F : zFs} {D : zDa} {n sl rr : Nat} {h : Nat → Int}
theorem rRk_in {pk : Nat → Int} {m : Nat} {s : Nat} {r : Int} (hl : ∀ f, f < 3 → 0 ≤ h f ∧ h f ≤ 99) (k : rRk pk m h s r) : ∃ x : Nat, r = (x : Int) ∧ (x < 300 ∨ x = 1000) := by
  rcases k with ⟨k, _⟩ | ⟨f, u, h1, h2, h3, h4, _⟩
  · exact ⟨1000, k, Or.inr rfl⟩
  · have := hl f h1
    exact ⟨r.toNat, by omega, by omega⟩
theorem kWf_in {left : Nat → Int} {r p : Int} (hl : ∀ f, f < 3 → 0 ≤ left f ∧ left f ≤ 99) (hp : 0 < p) (hr : 0 ≤ r) : 0 ≤ kWf left r p ∧ kWf left r p ≤ 1000 := by
  unfold kWf
  by_cases c : 300 ≤ r
  · rw [if_pos c]; omega
  · rw [if_neg c]
    rcases kWl_or (left := left) (p := p) (3 - (r / 100).toNat) (r / 100).toNat (r % 100) (by omega) with e | ⟨g, g1, g2, g3, g4⟩
    · omega
    · have := hl g g2
      rw [g4]
      split at g3 <;> rename_i e <;> simp only [e, if_true, if_false] <;> omega
theorem cL_123 {pk : Nat → Int} {many : Nat} (hm : many ≤ 12) (hh : cLf D h) (h9 : D 78 9 = (rr : Int)) (hr : rr = 84 ∨ 126 ≤ rr) (hF : (F rr).1 = 20) (hl : 2 ^ many ≤ (F rr).2.1) (hpk : ∀ i, i < many → D 83 i = pk i ∧ 2 ≤ pk i ∧ pk i ≤ 40) :
    qS (fX7_canLearn_123 (many : Int) F D n sl) (fun x => ∃ a D', x = (a, (F, D', n, sl)) ∧ ((a = 1 ∧ Pv pk many (2 ^ many - 1) h) ∨ (a = 0 ∧ ¬ Pv pk many (2 ^ many - 1) h)) ∧ zfr [rr] D D') := by
  have p12 := pow12 hm
  have hl9 : ∀ f, f < 3 → 0 ≤ h f ∧ h f ≤ 99 := fun f hf => (hh f hf).2
  have hp0 : ∀ i, i < many → 0 < pk i := fun i hi => by have := (hpk i hi).2; omega
  have esh := zone_shl (k := many) (by omega)
  have n78 : (78 : Nat) ≠ rr := by omega
  have n82 : (82 : Nat) ≠ rr := by omega
  have n83 : (83 : Nat) ≠ rr := by omega
  unfold fX7_canLearn_123
  rw [h9, show ((rr : Int)).toNat = rr by omega]
  refine qS_chk ⟨by omega, hF, by omega⟩ (qS_leti ?_)
  refine qloopM1 (fun v D1 => ∃ s : Nat, v = (s : Int) ∧ 1 ≤ s ∧ s ≤ 2 ^ many ∧ (∀ x, x < s → rRk pk many h x (D1 rr x)) ∧ zfr [rr] D D1) (fun v _ => (((2 ^ many : Nat) : Int) - v).toNat) ?_ ⟨1, rfl, Nat.le_refl _, p12.1, fun x hx => ?_, (zfr.rfl' _ _).wr (by simp)⟩ (zfu_gt (by omega))
  · intro k133 v D1 ⟨s, ev, hs1, hs2, r1, f1⟩ ih
    subst ev
    have g : ∀ a, a ≠ rr → D1 a = D a := fun a ha => f1 a (by simpa using ha)
    have e9 : D1 78 9 = (rr : Int) := by rw [g 78 n78]; exact h9
    unfold fX7_canLearn_133
    rw [esh]
    refine qS_ite (fun hlt => ?_) (fun hlt => ?_)
    · have hs : s < 2 ^ many := by omega
      have h82 : ∀ f, f < 3 → D1 82 f = h f := fun f hf => by rw [g 82 n82]; exact (hh f hf).1
      refine qloopM2 (fun v6 v7 D2 => ∃ i : Nat, v7 = (i : Int) ∧ i ≤ many ∧ (0 ≤ v6 ∧ v6 ≤ 1000) ∧ (v6 = 1000 ∨ ∃ j, j < i ∧ s.testBit j = true ∧ v6 = kWf h (D1 rr (s ^^^ 2 ^ j)) (pk j)) ∧ (∀ j, j < i → s.testBit j = true → v6 ≤ kWf h (D1 rr (s ^^^ 2 ^ j)) (pk j)) ∧ D2 = D1) (fun _ v7 _ => (100 - v7).toNat) ?_ ⟨0, rfl, by omega, by omega, Or.inl rfl, fun j hj => absurd hj (by omega), rfl⟩ (zfu_gt (by omega))
      intro k149 v6 v7 D2 ⟨i, e7, hi, h6, hx, hy, eD⟩ ih2
      subst e7 eD
      unfold fX7_canLearn_149
      refine qS_ite (fun c1 => ?_) (fun c1 => ?_)
      · have bit := zbit_ushr (a := s) (k := i) (by omega) (by omega)
        rw [bit]
        have nx : ∀ w : Int, (0 ≤ w ∧ w ≤ 1000) → (w = 1000 ∨ ∃ j, j < i + 1 ∧ s.testBit j = true ∧ w = kWf h (D2 rr (s ^^^ 2 ^ j)) (pk j)) → (∀ j, j < i + 1 → s.testBit j = true → w ≤ kWf h (D2 rr (s ^^^ 2 ^ j)) (pk j)) → qS (fX7_canLearn_196 k133 k149 (many : Int) (s : Int) w (i : Int) F D2 n sl) (fun x => ∃ a D', x = (a, (F, D', n, sl)) ∧ ((a = 1 ∧ Pv pk many (2 ^ many - 1) h) ∨ (a = 0 ∧ ¬ Pv pk many (2 ^ many - 1) h)) ∧ zfr [rr] D D') := by
          intro w w1 w2 w3
          unfold fX7_canLearn_196
          exact qS_chk (by omega) (ih2 _ _ _ ⟨i + 1, by omega, by omega, w1, w2, w3, rfl⟩ (by omega))
        by_cases hb : s.testBit i = true
        · rw [if_pos hb]
          refine qS_pos rfl ?_
          have lt := bitx_lt hb
          have ex : zxor (s : Int) (zshl 1 (i : Int)) = ((s ^^^ 2 ^ i : Nat) : Int) := by
            have pi : 2 ^ i ≤ 4096 := Nat.pow_le_pow_right (n := 2) (i := i) (j := 12) (by omega) (by omega)
            rw [zone_shl (by omega), zxor_nat (by omega) (by omega)]
          rw [ex, e9, show ((rr : Int)).toNat = rr by omega, show (((s ^^^ 2 ^ i : Nat) : Int)).toNat = s ^^^ 2 ^ i by omega, show ((i : Int)).toNat = i by omega]
          have pki := hpk i (by omega)
          have e83 : D2 83 i = pk i := by rw [g 83 n83]; exact pki.1
          obtain ⟨x, hx1, hx2⟩ := rRk_in hl9 (r1 (s ^^^ 2 ^ i) lt)
          refine qS_chk ⟨by omega, hF, by omega, by omega⟩ ?_
          rw [hx1, e83]
          refine qS_call (pX7_withOneMore (F := F) (left := h) h82 hl9 hx2 (by omega)) (fun y hy2 => ?_)
          subst hy2
          dsimp only
          rw [pMinI]
          have wi := kWf_in (left := h) (r := (x : Int)) (p := pk i) hl9 (by omega) (by omega)
          refine qS_step rfl (nx _ (by omega) ?_ (fun j hj hbj => ?_))
          · rcases Int.le_total v6 (kWf h (x : Int) (pk i)) with c | c
            · rw [Int.min_eq_left c]
              rcases hx with hx | ⟨j, j1, j2, j3⟩
              · exact Or.inl hx
              · exact Or.inr ⟨j, by omega, j2, j3⟩
            · rw [Int.min_eq_right c]
              exact Or.inr ⟨i, by omega, hb, by rw [hx1]⟩
          · by_cases ej : j = i
            · rw [ej, hx1]; omega
            · have := hy j (by omega) hbj
              omega
        · rw [if_neg hb]
          refine qS_neg (by omega) (nx v6 h6 ?_ (fun j hj hbj => ?_))
          · rcases hx with hx | ⟨j, j1, j2, j3⟩
            · exact Or.inl hx
            · exact Or.inr ⟨j, by omega, j2, j3⟩
          · by_cases ej : j = i
            · rw [ej] at hbj; exact absurd hbj hb
            · exact hy j (by omega) hbj
      · have : i = many := by omega
        subst this
        rw [e9, show ((rr : Int)).toNat = rr by omega, show ((s : Int)).toNat = s by omega]
        refine qS_chk ⟨by omega, hF, by omega⟩ (qS_leti (qS_chk (by omega) (ih _ _ ⟨s + 1, by clear hx hy; omega, by clear hx hy; omega, by clear hx hy; omega, fun x hx2 => ?_, f1.wr (by simp)⟩ (by clear hx hy; omega))))
        rw [zwr_at]
        by_cases e : x = s
        · rw [if_pos e, e]
          obtain ⟨b, hb⟩ := Nat.exists_testBit_of_ne_zero (x := s) (by omega)
          have hbi : b < i := by
            rcases Nat.lt_or_ge b i with c | c
            · exact c
            · have := bOut hs c
              rw [this] at hb
              exact absurd hb (by simp)
          exact rRk_step (R := fun j => D2 rr (s ^^^ 2 ^ j)) hp0 hl9 ⟨b, hbi, hb⟩ (fun j hj hbj => r1 _ (bitx_lt hbj)) hx hy
        · rw [if_neg e]; exact r1 x (by omega)
    · have es : s = 2 ^ many := by omega
      subst es
      have last := rRk_end hl9 (r1 (2 ^ many - 1) (by omega))
      rw [e9, show ((rr : Int)).toNat = rr by omega, show (((2 ^ many : Nat) : Int) - 1).toNat = 2 ^ many - 1 by omega]
      refine qS_chk ⟨by omega, by omega, hF, by omega⟩ ?_
      refine qS_ite (fun c => qS_ret ⟨1, D1, rfl, Or.inl ⟨rfl, last.1 c⟩, f1⟩) (fun c => qS_ret ⟨0, D1, rfl, Or.inr ⟨rfl, fun pv => c (last.2 pv)⟩, f1⟩)
  · have : x = 0 := by omega
    rw [this, zwr_eq]
    exact rRk_0 pk many h hp0 hl9
theorem pX7_canLearn {S : Nat} {p : Nat → Int} {c : Nat → Nat} (hS : cSo D S p c) (hh : cLf D h) (hw : cRr F D n rr) {fm many : Nat} (hfm : fm ≤ S) (hm : many ≤ 12) (hn : 126 ≤ n) (hn9 : n < 900000) :
    qS (fX7_canLearn (fm : Int) (many : Int) F D n sl) (fun x => ∃ a F' D' n' sl' rr', x = (a, (F', D', n', sl')) ∧ cGrow F n sl rr F' n' sl' rr' ∧ cRr F' D' n' rr' ∧ ((a = 1 ∧ many ≤ kMx p (S - fm) fm h) ∨ (a = 0 ∧ ¬ many ≤ kMx p (S - fm) fm h)) ∧ (∀ k, k ≠ 9 → D' 78 k = D 78 k) ∧ zfr [78, 83, rr, n] D D') := by
  obtain ⟨s1, s2, s3, s4, s5, s6, s7⟩ := hS
  have hl9 : ∀ f, f < 3 → 0 ≤ h f ∧ h f ≤ 99 := fun f hf => (hh f hf).2
  have lE : lS (eLi p c fm 0 S) := lS_eLi (fun a b _ h2 h3 => s6 a b h2 (by omega))
  have pE := eLi_perm (p := p) (from' := fm) s7
  have nnE : ∀ a ∈ eLi p c fm 0 S, 0 ≤ a := fun a ha => by
    obtain ⟨j, _, _, j3⟩ := mem_eLi ha
    have := s4 (c j); omega
  have nnL : ∀ a ∈ pL p fm (S - fm), 0 ≤ a := fun a ha => nnE a (pE.symm.subset ha)
  have spec : many ≤ kMx p (S - fm) fm h ↔ Fe (eLi p c fm 0 S) h many := by
    rw [kMx_Fe]
    exact ⟨fun e => Fe_perm pE.symm nnL h many e, fun e => Fe_perm pE nnE h many e⟩
  unfold fX7_canLearn
  refine qloopM3 (fun v3 v4 v5 D1 => ∃ t i : Nat, v3 = (t : Int) ∧ v5 = (i : Int) ∧ t ≤ many ∧ t ≤ i ∧ i ≤ S ∧ v4 = zsum t (fun j => D1 83 j) ∧ (0 ≤ v4 ∧ v4 ≤ 40 * (t : Int)) ∧ (∀ j, j < t → 2 ≤ D1 83 j ∧ D1 83 j ≤ 40) ∧ eLi p c fm 0 S = pL (D1 83) 0 t ++ eLi p c fm i (S - i) ∧ zfr [83] D D1) (fun _ _ v5 _ => (100 - v5).toNat) ?_ ⟨0, 0, rfl, rfl, by omega, by omega, by omega, rfl, by omega, fun j hj => absurd hj (by omega), rfl, zfr.rfl' _ _⟩ (zfu_gt (by omega))
  intro k8 v3 v4 v5 D1 ⟨t, i, e3, e5, ht, hti, hi, e4, b4, pb, eE, f1⟩ ih
  subst e3 e5
  have n1 : D1 78 4 = (S : Int) := by rw [f1 78 (by decide)]; exact s2
  -- behind the loop
  have fin : (t = many ∨ (t < many ∧ i = S)) → qS (fX7_canLearn_71 (many : Int) (t : Int) v4 F D1 n sl) (fun x => ∃ a F' D' n' sl' rr', x = (a, (F', D', n', sl')) ∧ cGrow F n sl rr F' n' sl' rr' ∧ cRr F' D' n' rr' ∧ ((a = 1 ∧ many ≤ kMx p (S - fm) fm h) ∨ (a = 0 ∧ ¬ many ≤ kMx p (S - fm) fm h)) ∧ (∀ k, k ≠ 9 → D' 78 k = D 78 k) ∧ zfr [78, 83, rr, n] D D') := by
    intro hend
    have hw1 : cRr F D1 n rr := ⟨by rw [f1 78 (by decide)]; exact hw.1, hw.2⟩
    have out0 : ¬ many ≤ kMx p (S - fm) fm h → ∃ a F' D' n' sl' rr', ((0 : Int), (F, D1, n, sl)) = (a, (F', D', n', sl')) ∧ cGrow F n sl rr F' n' sl' rr' ∧ cRr F' D' n' rr' ∧ ((a = 1 ∧ many ≤ kMx p (S - fm) fm h) ∨ (a = 0 ∧ ¬ many ≤ kMx p (S - fm) fm h)) ∧ (∀ k, k ≠ 9 → D' 78 k = D 78 k) ∧ zfr [78, 83, rr, n] D D' := fun hno =>
      ⟨0, F, D1, n, sl, rr, rfl, Or.inl ⟨rfl, rfl, rfl, rfl⟩, hw1, Or.inr ⟨rfl, hno⟩, fun k _ => by rw [f1 78 (by decide)], f1.mono (by simp)⟩
    unfold fX7_canLearn_71
    rcases hend with rfl | ⟨hlt, rfl⟩
    · refine qS_neg (by omega) ?_
      have h82 : ∀ f, f < 3 → D1 82 f = h f := fun f hf => by rw [f1 82 (by decide)]; exact (hh f hf).1
      rw [h82 0 (by omega), h82 1 (by omega), h82 2 (by omega)]
      have l0 := hl9 0 (by omega)
      have l1 := hl9 1 (by omega)
      have l2 := hl9 2 (by omega)
      refine qS_chk (by omega) ?_
      -- what is packed, and nothing behind it
      have ePk : pL (fun j => if j < t then D1 83 j else 0) 0 t = pL (D1 83) 0 t := pL_cg (fun j _ h2 => by rw [if_pos (by omega)])
      have nnP : ∀ j, 0 ≤ (fun j => if j < t then D1 83 j else 0) j := fun j => by
        dsimp only
        split
        · rename_i g; have := pb j g; omega
        · omega
      have key : t ≤ kMx p (S - fm) fm h ↔ Pv (fun j => if j < t then D1 83 j else 0) t (2 ^ t - 1) h := by
        rw [spec, ← Fa_Pv _ nnP t h (fun f hf => (hl9 f hf).1), ePk, eE]
        have tk : (pL (D1 83) 0 t ++ eLi p c fm i (S - i)).take t = pL (D1 83) 0 t := by
          have := List.take_left (l₁ := pL (D1 83) 0 t) (l₂ := eLi p c fm i (S - i))
          rw [pL_len] at this
          exact this
        constructor
        · intro e
          have := Fe_sorted _ h t (by rw [← eE]; exact lE) e
          rw [tk] at this; exact this
        · intro e
          refine Fa_Fe _ h t ?_ (by rw [tk]; exact e)
          rw [List.length_append, pL_len]; omega
      refine qS_ite (fun c1 => qS_ret (out0 (fun hle => ?_))) (fun c1 => ?_)
      · have sm := Pv_sum (key.1 hle)
        have e : zsum t (fun j => if j < t then D1 83 j else 0) = zsum t (fun j => D1 83 j) := zsum_congr (fun j hj => by rw [if_pos hj])
        rw [e, ← e4] at sm
        omega
      · have p12 := pow12 hm
        have esh := zone_shl (k := t) (by omega)
        rw [hw1.1, esh, show ((rr : Int)).toNat = rr by omega]
        have hr := hw.2.1
        refine qS_chk ⟨by omega, hw.2.2.2.1⟩ ?_
        obtain ⟨e, he, hlen⟩ := hw.2.2.2.2
        refine qS_ite (fun c2 => ?_) (fun c2 => ?_)
        · refine qS_chk ⟨by omega, hn9⟩ (qS_leti ?_)
          rw [show (((2 ^ t : Nat) : Int)).toNat = 2 ^ t by omega]
          have g : ∀ a, a ≠ 78 → a ≠ n → (zwr (zrow D1 n (fun _ => 0)) 78 9 ((n : Nat) : Int)) a = D1 a := fun a h1 h2 => by rw [zwr_row h1, zrow_row h2]
          have g78 : ∀ k, k ≠ 9 → (zwr (zrow D1 n (fun _ => 0)) 78 9 ((n : Nat) : Int)) 78 k = D1 78 k := fun k hk => by rw [zwr_off (Or.inr hk), zrow_row (by omega)]
          have g9 : (zwr (zrow D1 n (fun _ => 0)) 78 9 ((n : Nat) : Int)) 78 9 = (n : Int) := zwr_eq
          have f2 : zfr [78, 83, rr, n] D (zwr (zrow D1 n (fun _ => 0)) 78 9 ((n : Nat) : Int)) := ((f1.mono (by simp)).row (by simp)).wr (by simp)
          generalize zwr (zrow D1 n (fun _ => 0)) 78 9 ((n : Nat) : Int) = D2 at *
          refine qS_mono (cL_123 (h := h) (F := znew F n (20, 2 ^ t, fun _ => 0)) (n := n + 1) (sl := sl + 2 ^ t) (rr := n) (pk := fun j => if j < t then D1 83 j else 0) hm (fun f hf => by rw [g 82 (by omega) (by omega), h82 f hf]; exact ⟨rfl, hl9 f hf⟩) g9 (Or.inr hn) (by rw [znew_self]) (by rw [znew_self]; exact Nat.le_refl _) (fun j hj => by
            rw [g 83 (by omega) (by omega)]
            rw [if_pos hj]; exact ⟨rfl, pb j hj⟩)) (fun x ⟨a, D3, ex, ha, f3⟩ => ?_)
          have dbl : 2 * (F rr).2.1 ≤ 2 ^ t := by
            rw [hlen] at c2 ⊢
            have : e < t := by
              rcases Nat.lt_or_ge e t with q | q
              · exact q
              · have := Nat.pow_le_pow_right (n := 2) (by omega) q
                omega
            have := Nat.pow_le_pow_right (n := 2) (by omega) (show e + 1 ≤ t from this)
            rw [Nat.pow_succ] at this
            omega
          refine ⟨a, _, D3, n + 1, sl + 2 ^ t, n, ex, Or.inr ⟨rfl, rfl, 2 ^ t, rfl, rfl, dbl, by omega⟩, ⟨by rw [f3 78 (by simp; omega)]; exact g9, Or.inr hn, by omega, by rw [znew_self], t, hm, by rw [znew_self]⟩, ?_, fun k hk => ?_, f2.trans (f3.mono (by simp))⟩
          · rcases ha with ⟨ha, hb⟩ | ⟨ha, hb⟩
            · exact Or.inl ⟨ha, key.2 hb⟩
            · exact Or.inr ⟨ha, fun q => hb (key.1 q)⟩
          · rw [f3 78 (by simp; omega), g78 k hk, f1 78 (by decide)]
        · refine qS_mono (cL_123 (h := h) (F := F) (n := n) (sl := sl) (rr := rr) (pk := fun j => if j < t then D1 83 j else 0) hm (fun f hf => by rw [h82 f hf]; exact ⟨rfl, hl9 f hf⟩) hw1.1 hr hw.2.2.2.1 (by omega) (fun j hj => by
            rw [if_pos hj]; exact ⟨rfl, pb j hj⟩)) (fun x ⟨a, D3, ex, ha, f3⟩ => ?_)
          refine ⟨a, F, D3, n, sl, rr, ex, Or.inl ⟨rfl, rfl, rfl, rfl⟩, ⟨by rw [f3 78 (by simp; omega)]; exact hw1.1, hw.2⟩, ?_, fun k hk => ?_, (f1.mono (by simp)).trans (f3.mono (by simp))⟩
          · rcases ha with ⟨ha, hb⟩ | ⟨ha, hb⟩
            · exact Or.inl ⟨ha, key.2 hb⟩
            · exact Or.inr ⟨ha, fun q => hb (key.1 q)⟩
          · rw [f3 78 (by simp; omega), f1 78 (by decide)]
    · refine qS_pos (by omega) (qS_ret (out0 (fun hle => ?_)))
      have := Fe_len _ _ _ (spec.1 hle)
      rw [eE, Nat.sub_self, List.length_append, pL_len] at this
      have z : (eLi p c fm i 0).length = 0 := rfl
      omega
  unfold fX7_canLearn_8
  rw [n1]
  refine qS_ite (fun c1 => ?_) (fun c1 => fin ?_)
  · refine qS_ite (fun c2 => qS_chk (by omega) ?_) (fun c2 => fin (Or.inl (by omega)))
    have ci := s5 i (by omega)
    rw [show ((i : Int)).toNat = i by omega]
    have e81 : D1 81 i = (c i : Int) := by rw [f1 81 (by decide)]; exact ci.1
    have es := eLi_s p c fm i (S - (i + 1))
    rw [show S - (i + 1) + 1 = S - i by omega] at es
    rw [e81]
    refine qS_ite (fun c3 => ?_) (fun c3 => ?_)
    · unfold fX7_canLearn_65
      rw [if_neg (by omega)] at es
      refine qS_chk (by omega) (ih _ _ _ _ ⟨t, i + 1, rfl, by omega, ht, by omega, by omega, e4, b4, pb, by rw [eE, es], f1⟩ (by omega))
    · rw [if_pos (by omega)] at es
      have pc := s4 (c i)
      refine qS_chk (by omega) (qS_leti ?_)
      have e80 : D1 80 ((c i : Int)).toNat = p (c i) := by rw [show ((c i : Int)).toNat = c i by omega, f1 80 (by decide)]; exact s3 (c i) ci.2
      rw [e80, show ((t : Int)).toNat = t by omega, zwr_eq]
      refine qS_chk (by omega) (qS_leti (qS_chk (by omega) ?_))
      unfold fX7_canLearn_65
      have old : ∀ j, j < t → (zwr D1 83 t (p (c i))) 83 j = D1 83 j := fun j hj => zwr_off (Or.inr (by omega))
      refine qS_chk (by omega) (ih _ _ _ _ ⟨t + 1, i + 1, by omega, by omega, by omega, by omega, by omega, ?_, by omega, fun j hj => ?_, ?_, f1.wr (by decide)⟩ (by omega))
      · rw [zsum_s, zwr_eq, e4]
        congr 1
        exact (zsum_congr (fun j hj => old j hj)).symm
      · by_cases e : j = t
        · rw [e, zwr_eq]; exact pc
        · rw [old j (by omega)]; exact pb j (by omega)
      · rw [eE, es, pL_app, Nat.zero_add, zwr_eq, pL_cg (pk := D1 83) (fun j _ h2 => old j (by omega)), List.append_assoc]
        rfl
  · rcases Nat.lt_or_ge t many with q | q
    · exact Or.inr ⟨q, by omega⟩
    · exact Or.inl (by omega)
end CN
