theorem zG_of {F F' : zFs} (h : zG F) (he : ∀ b, b < 126 → F' b = F b) : zG F' := by
  refine ⟨fun q hq => ?_, fun q hq => ?_⟩
  · rw [he _ (zgT_lt q hq)]; exact h.1 q hq
  · rw [he _ (zgR_lt q hq)]; exact h.2 q hq
theorem zfin4 (F : zFs) (a : Nat) (v x y t : Int) : ((zfin (zfin (zfin (zfin F a 0 v) a 1 x) a 2 y) a 3 t) a).1 = (F a).1 ∧ ((zfin (zfin (zfin (zfin F a 0 v) a 1 x) a 2 y) a 3 t) a).2.2 0 = v ∧ ((zfin (zfin (zfin (zfin F a 0 v) a 1 x) a 2 y) a 3 t) a).2.2 1 = x ∧ ((zfin (zfin (zfin (zfin F a 0 v) a 1 x) a 2 y) a 3 t) a).2.2 2 = y ∧ ((zfin (zfin (zfin (zfin F a 0 v) a 1 x) a 2 y) a 3 t) a).2.2 3 = t ∧ ∀ b, b ≠ a → (zfin (zfin (zfin (zfin F a 0 v) a 1 x) a 2 y) a 3 t) b = F b := by
  refine ⟨?_, ?_, ?_, ?_, ?_, fun b hb => ?_⟩ <;> simp [zfin, zset]
  simp [hb]
/-- a paper made -/
def pPost (F : zFs) (D0 : zDa) (n0 sl : Nat) (cs : List (Int × kSum)) (r : Int × zM) : Prop :=
  ∃ F' D' sl', r = ((n0 : Int), (F', D', n0 + 4, sl')) ∧ sl ≤ sl' ∧ sl' ≤ sl + 500 ∧ (∀ a, a < n0 → F' a = F a) ∧ (∀ a, a < n0 → a ≠ 42 → a ≠ 46 → a ≠ 47 → a ≠ 48 → D' a = D0 a) ∧ D' 42 10 = -1 ∧ qPap F' D' (fun a => n0 ≤ a ∧ a < n0 + 4) (n0 : Int) cs
theorem cPaper {F : zFs} {D0 D : zDa} {n0 sl j l z : Nat} {S : Nat → Int} {cs : List (Int × kSum)} (hG : zG F) (hn : 126 ≤ n0) (hn9 : n0 + 10 < 900000) (hf : cF D0 D) (hI : cInv D S z cs) (h1 : 1 ≤ cs.length) :
    qS (fX6_read_120 1 F (cS D j l z (-1) S) n0 sl) (pPost F D0 n0 sl cs) := by
  obtain ⟨i1, i2, i3, i4, i5⟩ := hI
  unfold fX6_read_120
  refine qS_neg (by omega) (qS_chk (by omega) ?_)
  have e5 : (zrow (cS D j l z (-1) S) n0 (zdf 3)) 42 5 = ((cs.length : Nat) : Int) := by rw [zrow_row (by omega), cS_5]; exact i1
  rw [e5]
  generalize hF1 : znew F n0 (4, 0, zdf 3) = F1
  have f1 : ∀ b, b ≠ n0 → F1 b = F b := fun b hb => by rw [← hF1]; exact znew_ne hb
  have f1n : (F1 n0).1 = 4 := by rw [← hF1]; simp [znew]
  have G1 : zG F1 := zG_of hG (fun b hb => f1 b (by omega))
  obtain ⟨D2, c1, c2, c3⟩ := pCopy (F := F1) (D := zrow (cS D j l z (-1) S) n0 (zdf 3)) (a := 46) (n0 := n0 + 1) (sl := sl + 4) (v := cs.length) (gk_46 G1) (by rw [gl_46 G1]; exact i2) (by omega) (by omega) (by omega)
  refine qS_step c1 ?_
  dsimp only
  generalize hF2 : znew F1 (n0 + 1) (20, cs.length, fun _ => 0) = F2
  have f2 : ∀ b, b ≠ n0 + 1 → F2 b = F1 b := fun b hb => by rw [← hF2]; exact znew_ne hb
  have f2n : (F2 (n0 + 1)).1 = 20 ∧ (F2 (n0 + 1)).2.1 = cs.length := by rw [← hF2]; simp [znew]
  have G2 : zG F2 := zG_of G1 (fun b hb => f2 b (by omega))
  have d2 : ∀ b, b < n0 → D2 b = cS D j l z (-1) S b := fun b hb => by rw [c3 b (by omega), zrow_row (by omega)]
  have e25 : D2 42 5 = (cs.length : Int) := by rw [d2 42 (by omega), cS_5]; exact i1
  refine qS_chk ⟨G2, by omega⟩ (qS_chk (by omega) ?_)
  rw [e25, show ((cs.length : Int) + 1) = ((cs.length + 1 : Nat) : Int) by omega]
  obtain ⟨D3, x1, x2, x3⟩ := pCopy (F := F2) (D := D2) (a := 47) (n0 := n0 + 1 + 1) (sl := sl + 4 + cs.length) (v := cs.length + 1) (gk_47 G2) (by rw [gl_47 G2]; omega) (by omega) (by omega) (by omega)
  refine qS_step x1 ?_
  dsimp only
  generalize hF3 : znew F2 (n0 + 1 + 1) (20, cs.length + 1, fun _ => 0) = F3
  have f3 : ∀ b, b ≠ n0 + 1 + 1 → F3 b = F2 b := fun b hb => by rw [← hF3]; exact znew_ne hb
  have f3n : (F3 (n0 + 1 + 1)).1 = 20 ∧ (F3 (n0 + 1 + 1)).2.1 = cs.length + 1 := by rw [← hF3]; simp [znew]
  have G3 : zG F3 := zG_of G2 (fun b hb => f3 b (by omega))
  refine qS_chk ⟨G3, by omega⟩ ?_
  have e39 : D3 42 9 = ((z : Nat) : Int) := by rw [x3 42 (by omega), d2 42 (by omega), cS_9]
  rw [e39]
  obtain ⟨D4, y1, y2, y3⟩ := pCopy (F := F3) (D := D3) (a := 48) (n0 := n0 + 1 + 1 + 1) (sl := sl + 4 + cs.length + (cs.length + 1)) (v := z) (gk_48 G3) (by rw [gl_48 G3]; omega) (by omega) (by omega) (by omega)
  refine qS_step y1 ?_
  dsimp only
  generalize hF4 : znew F3 (n0 + 1 + 1 + 1) (20, z, fun _ => 0) = F4
  have f4 : ∀ b, b ≠ n0 + 1 + 1 + 1 → F4 b = F3 b := fun b hb => by rw [← hF4]; exact znew_ne hb
  have f4n : (F4 (n0 + 1 + 1 + 1)).1 = 20 ∧ (F4 (n0 + 1 + 1 + 1)).2.1 = z := by rw [← hF4]; simp [znew]
  have G4 : zG F4 := zG_of G3 (fun b hb => f4 b (by omega))
  refine qS_chk ⟨G4, by omega⟩ (qS_chk (by omega) ?_)
  have k4 : (F4 n0).1 = 4 := by rw [f4 n0 (by omega), f3 n0 (by omega), f2 n0 (by omega)]; exact f1n
  unfold fX3_init
  rw [if_pos k4, show (((n0 + 1 : Nat) : Int)).toNat = n0 + 1 by omega, show (((n0 + 1 + 1 : Nat) : Int)).toNat = n0 + 2 by omega, show (((n0 + 1 + 1 + 1 : Nat) : Int)).toNat = n0 + 3 by omega]
  refine qS_step rfl ?_
  dsimp only
  obtain ⟨z1, z2, z3, z4, z5, z6⟩ := zfin4 F4 n0 (cs.length : Int) ((n0 + 1 : Nat) : Int) ((n0 + 2 : Nat) : Int) ((n0 + 3 : Nat) : Int)
  generalize zfin (zfin (zfin (zfin F4 n0 0 (cs.length : Int)) n0 1 ((n0 + 1 : Nat) : Int)) n0 2 ((n0 + 2 : Nat) : Int)) n0 3 ((n0 + 3 : Nat) : Int) = F5 at *
  have G5 : zG F5 := zG_of G4 (fun b hb => z6 b (by omega))
  refine qS_chk ⟨G5, by omega⟩ (qS_ret ⟨F5, D4, _, rfl, by omega, by omega, ?_, ?_, ?_, ?_⟩)
  · intro a ha
    rw [z6 a (by omega), f4 a (by omega), f3 a (by omega), f2 a (by omega), f1 a (by omega)]
  · intro a ha q1 q2 q3 q4
    rw [y3 a (by omega), x3 a (by omega), d2 a ha, cS_r ⟨q1, q4⟩]
    exact hf.1 a q1 q2 q3
  · rw [y3 42 (by omega), x3 42 (by omega), d2 42 (by omega), cS_10]
  · have en : ((n0 : Int)).toNat = n0 := by omega
    unfold qPap
    rw [en]
    have hd46 : ∀ k, k < cs.length → D4 (n0 + 1) k = D 46 k := fun k hk => by
      rw [y3 (n0 + 1) (by omega), x3 (n0 + 1) (by omega), c2 k hk, zrow_row (by omega), cS_r (by omega)]
    have hd47 : ∀ k, k ≤ cs.length → D4 (n0 + 2) k = D 47 k := fun k hk => by
      rw [y3 (n0 + 2) (by omega), x2 k (by omega), d2 47 (by omega), cS_r (by omega)]
    have hd48 : ∀ k, k < z → D4 (n0 + 3) k = S k := fun k hk => by
      rw [y2 k hk, x3 48 (by omega), d2 48 (by omega), cS_48]
    have l3 : (F5 (n0 + 3)).2.1 = z := by rw [z6 (n0 + 3) (by omega)]; exact f4n.2
    refine ⟨by omega, by omega, by rw [z1]; exact k4, z2, i2, n0 + 1, n0 + 2, n0 + 3, z3, z4, z5, by omega, by omega, by omega, ?_, ?_, ?_, ?_⟩
    · rw [z6 (n0 + 1) (by omega), f4 (n0 + 1) (by omega), f3 (n0 + 1) (by omega)]; exact f2n
    · rw [z6 (n0 + 2) (by omega), f4 (n0 + 2) (by omega)]; exact f3n
    · refine ⟨by rw [z6 (n0 + 3) (by omega)]; exact f4n.1, by omega⟩
    · intro i hi
      obtain ⟨r1, r2, r3⟩ := i5 i hi
      rw [hd46 i hi, hd47 i (by omega), hd47 (i + 1) (by omega), l3]
      refine ⟨r1, r2, r3 _ (fun k k1 k2 => hd48 k (by omega))⟩
theorem tFind_in (ws : List (List Int)) (B : List Int) (k : Int) (hk : 1 ≤ k) : 0 ≤ tFind ws B k ∧ tFind ws B k < k + ws.length := by
  induction ws generalizing k with
  | nil => simp [tFind]; omega
  | cons w r ih =>
    unfold tFind
    by_cases h : w = B
    · rw [if_pos h]; simp; omega
    · rw [if_neg h]
      have := ih (k + 1) (by omega)
      simp only [List.length_cons]
      omega
