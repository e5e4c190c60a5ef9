/-! ===== the class: can so many be learned ===== -/
theorem qloopM3 {β : Type} {step : (Int → Int → Int → zFs → zDa → Nat → Nat → Option β) → Int → Int → Int → zFs → zDa → Nat → Nat → Option β} {F : zFs} {n sl : Nat} (I : Int → Int → Int → zDa → Prop) (m : Int → Int → Int → zDa → Nat) {P : β → Prop}
    (hs : ∀ (k : Int → Int → Int → zFs → zDa → Nat → Nat → Option β) (v0 v1 v2 : Int) (D : zDa), I v0 v1 v2 D → (∀ (u0 u1 u2 : Int) (D' : zDa), I u0 u1 u2 D' → m u0 u1 u2 D' < m v0 v1 v2 D → qS (k u0 u1 u2 F D' n sl) P) → qS (step k v0 v1 v2 F D n sl) P)
    {N : Nat} {v0 v1 v2 : Int} {D : zDa} (hI : I v0 v1 v2 D) (hm : m v0 v1 v2 D < N) : qS (zfix (fun _ _ _ _ _ _ _ => none) step N v0 v1 v2 F D n sl) P := by
  have h := zfix_ind (bot := fun (_ : Int) (_ : Int) (_ : Int) (_ : zFs) (_ : zDa) (_ : Nat) (_ : Nat) => (none : Option β)) (step := step) (fun j k => ∀ (v0 v1 v2 : Int) (D : zDa), I v0 v1 v2 D → m v0 v1 v2 D < j → qS (k v0 v1 v2 F D n sl) P)
    (fun _ _ _ _ _ h => absurd h (Nat.not_lt_zero _))
    (fun j k ih v0 v1 v2 D hI hm => hs k v0 v1 v2 D hI (fun u0 u1 u2 D' hI' hlt => ih u0 u1 u2 D' hI' (by omega)))
  exact h N v0 v1 v2 D hI hm
section WM
variable {F : zFs} {D : zDa} {left : Nat → Int}
theorem pX7_withOneMore {r : Nat} {p : Int} (h82 : ∀ f, f < 3 → D 82 f = left f) (hl : ∀ f, f < 3 → 0 ≤ left f ∧ left f ≤ 99) (hr : r < 300 ∨ r = 1000) (hp : 0 < p ∧ p ≤ 100) :
    qS (fX7_withOneMore F (r : Int) p D) (fun x => x = (kWf left (r : Int) p, D)) := by
  unfold fX7_withOneMore
  refine qS_leti (qS_leti ?_)
  have ed : Int.tdiv (r : Int) 100 = ((r / 100 : Nat) : Int) := rfl
  have em : Int.tmod (r : Int) 100 = ((r % 100 : Nat) : Int) := rfl
  rw [ed, em]
  have e1 : ((r : Int) / 100).toNat = r / 100 := by omega
  have e2 : (r : Int) % 100 = ((r % 100 : Nat) : Int) := by omega
  refine qloop2 (fun v3 v4 D1 => ∃ f : Nat, v3 = (f : Int) ∧ (0 ≤ v4 ∧ v4 ≤ 99) ∧ f ≤ 20 ∧ ((3 ≤ f ∧ kWf left (r : Int) p = 1000) ∨ (f < 3 ∧ kWl left p f v4 (3 - f) = kWf left (r : Int) p)) ∧ D1 = D) (fun v3 _ _ => (100 - v3).toNat) ?_ ⟨r / 100, rfl, by omega, by omega, ?_, rfl⟩ (zfu_gt (by omega))
  · intro k v3 v4 D1 ⟨f, e3, h4, hf, hc, eD⟩ ih
    subst e3 eD
    unfold fX7_withOneMore_11
    have g38 : 3 ≤ f → kWf left (r : Int) p = 1000 → qS (fX7_withOneMore_38 F p (f : Int) v4 D1) (fun x => x = (kWf left (r : Int) p, D1)) := by
      intro h1 h2
      unfold fX7_withOneMore_38
      rw [h2]
      exact qS_neg (by omega) (qS_ret rfl)
    rcases hc with ⟨h1, h2⟩ | ⟨h1, h2⟩
    · exact qS_neg (by omega) (g38 h1 h2)
    · have lf := hl f h1
      refine qS_pos (by omega) (qS_chk (by omega) ?_)
      rw [show ((f : Int)).toNat = f by omega, h82 f h1]
      obtain ⟨m, em⟩ : ∃ m, 3 - f = m + 1 := ⟨3 - f - 1, by omega⟩
      rw [em] at h2
      have es : kWl left p f v4 (m + 1) = if left f < v4 + p then kWl left p (f + 1) 0 m else 100 * (f : Int) + v4 + p := rfl
      rw [es] at h2
      refine qS_ite (fun c => qS_chk (by omega) (ih _ _ _ ⟨f + 1, by omega, by omega, by omega, ?_, rfl⟩ (by omega))) (fun c => ?_)
      · rw [if_pos c] at h2
        by_cases e : f + 1 < 3
        · exact Or.inr ⟨e, by rw [show 3 - (f + 1) = m by omega]; exact h2⟩
        · have : m = 0 := by omega
          subst this
          exact Or.inl ⟨by omega, h2.symm⟩
      · rw [if_neg c] at h2
        unfold fX7_withOneMore_38
        refine qS_pos (by omega) (qS_chk (by omega) (qS_ret ?_))
        rw [← h2]
        congr 1
        omega
  · unfold kWf
    by_cases c : (300 : Int) ≤ (r : Int)
    · exact Or.inl ⟨by omega, by rw [if_pos c]⟩
    · refine Or.inr ⟨by omega, ?_⟩
      rw [if_neg c, e1, e2]
end WM
/-! lists of questions by places -/
def sLn (c : Nat → Nat) (i m : Nat) : List Nat := match m with
  | 0 => []
  | m + 1 => c i :: sLn c (i + 1) m
def eLi (p : Nat → Int) (c : Nat → Nat) (from' i m : Nat) : List Int := ((sLn c i m).filter (fun x => decide (from' ≤ x))).map p
theorem eLi_s (p : Nat → Int) (c : Nat → Nat) (from' i m : Nat) : eLi p c from' i (m + 1) = if from' ≤ c i then p (c i) :: eLi p c from' (i + 1) m else eLi p c from' (i + 1) m := by
  unfold eLi
  show ((c i :: sLn c (i + 1) m).filter _).map p = _
  rw [List.filter_cons]
  by_cases e : from' ≤ c i
  · rw [if_pos (decide_eq_true e), if_pos e, List.map_cons]
  · rw [if_neg (fun x => e (of_decide_eq_true x)), if_neg e]
theorem mem_eLi {p : Nat → Int} {c : Nat → Nat} {from' : Nat} : ∀ {m i : Nat} {b : Int}, b ∈ eLi p c from' i m → ∃ j, i ≤ j ∧ j < i + m ∧ b = p (c j)
  | 0, i, b, h => by unfold eLi at h; simp [sLn] at h
  | m + 1, i, b, h => by
    rw [eLi_s] at h
    by_cases e : from' ≤ c i
    · rw [if_pos e] at h
      rcases List.mem_cons.1 h with h | h
      · exact ⟨i, Nat.le_refl _, by omega, h⟩
      · obtain ⟨j, j1, j2, j3⟩ := mem_eLi h
        exact ⟨j, by omega, by omega, j3⟩
    · rw [if_neg e] at h
      obtain ⟨j, j1, j2, j3⟩ := mem_eLi h
      exact ⟨j, by omega, by omega, j3⟩
theorem lS_eLi {p : Nat → Int} {c : Nat → Nat} {from' : Nat} : ∀ {m i : Nat}, (∀ a b, i ≤ a → a < b → b < i + m → p (c a) ≤ p (c b)) → lS (eLi p c from' i m)
  | 0, i, _ => by unfold eLi; exact trivial
  | m + 1, i, h => by
    rw [eLi_s]
    have ih := lS_eLi (p := p) (c := c) (from' := from') (m := m) (i := i + 1) (fun a b h1 h2 h3 => h a b (by omega) h2 (by omega))
    by_cases e : from' ≤ c i
    · rw [if_pos e]
      refine ⟨fun b hb => ?_, ih⟩
      obtain ⟨j, j1, j2, j3⟩ := mem_eLi hb
      rw [j3]; exact h i j (Nat.le_refl _) (by omega) (by omega)
    · rw [if_neg e]; exact ih
theorem eLi_id (p : Nat → Int) (from' : Nat) : ∀ m i, eLi p (fun x => x) from' i m = pL p (max from' i) (i + m - max from' i)
  | 0, i => by
    rw [show i + 0 - max from' i = 0 by omega]; rfl
  | m + 1, i => by
    rw [eLi_s, eLi_id p from' m (i + 1)]
    by_cases e : from' ≤ i
    · rw [if_pos e, show max from' i = i by omega, show max from' (i + 1) = i + 1 by omega, show i + (m + 1) - i = m + 1 by omega, show i + 1 + m - (i + 1) = m by omega]
      rfl
    · rw [if_neg e, show max from' i = from' by omega, show max from' (i + 1) = from' by omega, show i + 1 + m - from' = i + (m + 1) - from' by omega]
theorem eLi_perm {p : Nat → Int} {c : Nat → Nat} {from' S : Nat} (h : List.Perm (sLn c 0 S) (sLn (fun x => x) 0 S)) : List.Perm (eLi p c from' 0 S) (pL p from' (S - from')) := by
  have e := eLi_id p from' S 0
  rw [show max from' 0 = from' by omega, Nat.zero_add] at e
  rw [← e]
  exact (h.filter _).map p
theorem pL_app (pk : Nat → Int) : ∀ t i, pL pk i (t + 1) = pL pk i t ++ [pk (i + t)]
  | 0, i => rfl
  | t + 1, i => by
    show pk i :: pL pk (i + 1) (t + 1) = (pk i :: pL pk (i + 1) t) ++ [pk (i + (t + 1))]
    rw [pL_app pk t (i + 1), List.cons_append, show i + 1 + t = i + (t + 1) by omega]
theorem pL_cg {pk pk' : Nat → Int} : ∀ {m i : Nat}, (∀ j, i ≤ j → j < i + m → pk' j = pk j) → pL pk' i m = pL pk i m
  | 0, _, _ => rfl
  | m + 1, i, h => by
    show pk' i :: pL pk' (i + 1) m = pk i :: pL pk (i + 1) m
    rw [h i (Nat.le_refl _) (by omega), pL_cg (fun j h1 h2 => h j (by omega) (by omega))]
theorem pL_len (pk : Nat → Int) : ∀ m i, (pL pk i m).length = m
  | 0, _ => rfl
  | m + 1, i => by show (pL pk (i + 1) m).length + 1 = m + 1; rw [pL_len pk m (i + 1)]
/-- who takes all takes no more than all have -/
theorem Pv_sum {pk : Nat → Int} {n : Nat} {h : Nat → Int} (pv : Pv pk n (2 ^ n - 1) h) : zsum n pk ≤ h 0 + h 1 + h 2 := by
  obtain ⟨v, g1, g2⟩ := pv
  have hb : ∀ i, i < n → (2 ^ n - 1).testBit i = true := fun i hi => by rw [Nat.testBit_two_pow_sub_one]; exact decide_eq_true hi
  have e : zsum n pk = zsum n (fun i => ((if (2 ^ n - 1).testBit i = true ∧ v i = 0 then pk i else 0) + (if (2 ^ n - 1).testBit i = true ∧ v i = 1 then pk i else 0)) + (if (2 ^ n - 1).testBit i = true ∧ v i = 2 then pk i else 0)) := zsum_congr (fun i hi => by
    have b := hb i hi
    have vi := g1 i hi b
    rcases (by omega : v i = 0 ∨ v i = 1 ∨ v i = 2) with c | c | c
    · rw [if_pos ⟨b, c⟩, if_neg (fun x => by omega), if_neg (fun x => by omega)]; omega
    · rw [if_neg (fun x => by omega), if_pos ⟨b, c⟩, if_neg (fun x => by omega)]; omega
    · rw [if_neg (fun x => by omega), if_neg (fun x => by omega), if_pos ⟨b, c⟩]; omega)
  have key : ∀ A B C : Nat → Int, zsum n (fun i => (A i + B i) + C i) = zsum n A + zsum n B + zsum n C := fun A B C => by rw [zsum_add n (fun i => A i + B i) C, zsum_add]
  have e2 := key (fun i => if (2 ^ n - 1).testBit i = true ∧ v i = 0 then pk i else 0) (fun i => if (2 ^ n - 1).testBit i = true ∧ v i = 1 then pk i else 0) (fun i => if (2 ^ n - 1).testBit i = true ∧ v i = 2 then pk i else 0)
  rw [e, e2]
  have a := g2 0 (by omega)
  have b := g2 1 (by omega)
  have c := g2 2 (by omega)
  omega
theorem bitx_lt {s i : Nat} (h : s.testBit i = true) : s ^^^ 2 ^ i < s := by
  have e : s &&& 2 ^ i = 2 ^ i := by
    refine Nat.eq_of_testBit_eq (fun j => ?_)
    rw [Nat.testBit_and, Nat.testBit_two_pow]
    by_cases c : i = j
    · rw [← c, h]; rfl
    · rw [decide_eq_false c, Bool.and_false]
  have l := zdiff_le s (2 ^ i)
  unfold zdiff at l
  rw [e] at l
  have ne : s ^^^ 2 ^ i ≠ s := fun c => by
    have b := bitx h i
    rw [c, h, decide_eq_false (fun x => x rfl)] at b
    simp at b
  omega
