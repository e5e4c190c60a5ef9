/-! ===== how far sets of questions reach ===== -/
theorem zsum_upd {n i : Nat} {g g' : Nat → Int} (hi : i < n) (h : ∀ j, j < n → j ≠ i → g j = g' j) : zsum n g = zsum n g' + (g i - g' i) := by
  induction n with
  | zero => omega
  | succ n ih =>
    rw [zsum_s, zsum_s]
    by_cases e : i = n
    · subst e
      rw [zsum_congr (fun j hj => h j (by omega) (by omega))]
      omega
    · rw [ih (by omega) (fun j hj hne => h j (by omega) hne), h n (by omega) (by omega)]
      omega
theorem bitx {s i : Nat} (h : s.testBit i = true) (j : Nat) : (s ^^^ 2 ^ i).testBit j = (s.testBit j && decide (j ≠ i)) := by
  rw [Nat.testBit_xor, Nat.testBit_two_pow]
  by_cases e : j = i
  · subst e
    rw [h, decide_eq_true rfl, decide_eq_false (fun x => x rfl)]
    rfl
  · rw [decide_eq_false (fun x => e x.symm), decide_eq_true e]
    cases s.testBit j <;> rfl
def ldS (pk : Nat → Int) (n s : Nat) (v : Nat → Nat) (f : Nat) : Int := zsum n (fun i => if s.testBit i = true ∧ v i = f then pk i else 0)
theorem ldS_rem {pk : Nat → Int} {n s i : Nat} {v v' : Nat → Nat} (hi : i < n) (hs : s.testBit i = true) (hv : ∀ j, j ≠ i → v' j = v j) (f : Nat) : ldS pk n s v f = ldS pk n (s ^^^ 2 ^ i) v' f + (if v i = f then pk i else 0) := by
  unfold ldS
  rw [zsum_upd (g := fun i => if s.testBit i = true ∧ v i = f then pk i else 0) (g' := fun j => if (s ^^^ 2 ^ i).testBit j = true ∧ v' j = f then pk j else 0) hi (fun j _ hne => ?_)]
  · show _ + ((if s.testBit i = true ∧ v i = f then pk i else 0) - (if (s ^^^ 2 ^ i).testBit i = true ∧ v' i = f then pk i else 0)) = _
    rw [bitx hs i, hs, decide_eq_false (fun x => x rfl)]
    have e1 : (if (true && false) = true ∧ v' i = f then pk i else 0) = 0 := if_neg (fun x => by simp at x)
    rw [e1]
    by_cases c : v i = f
    · rw [if_pos ⟨rfl, c⟩, if_pos c]; omega
    · rw [if_neg (fun x => c x.2), if_neg c]; omega
  · show (if s.testBit j = true ∧ v j = f then pk j else 0) = (if (s ^^^ 2 ^ i).testBit j = true ∧ v' j = f then pk j else 0)
    rw [bitx hs j, decide_eq_true hne, Bool.and_true, hv j hne]
theorem ldS_nn {pk : Nat → Int} {n s : Nat} {v : Nat → Nat} (hp : ∀ i, i < n → 0 < pk i) (f : Nat) : 0 ≤ ldS pk n s v f := zsum_nn (fun i hi => by
  have := hp i hi
  split <;> omega)
/-- friends ahead of f may be full, f has u hours used -/
def kCp (left : Nat → Int) (f : Nat) (u : Int) : Nat → Int := fun j => if j < f then left j else if j = f then u else 0
theorem kCp_lt {left : Nat → Int} {f j : Nat} {u : Int} (h : j < f) : kCp left f u j = left j := by unfold kCp; rw [if_pos h]
theorem kCp_eq {left : Nat → Int} {f : Nat} {u : Int} : kCp left f u f = u := by unfold kCp; rw [if_neg (by omega), if_pos rfl]
theorem kCp_gt {left : Nat → Int} {f j : Nat} {u : Int} (h : f < j) : kCp left f u j = 0 := by unfold kCp; rw [if_neg (by omega), if_neg (by omega)]
def rRk (pk : Nat → Int) (n : Nat) (left : Nat → Int) (s : Nat) (r : Int) : Prop :=
  (r = 1000 ∧ ∀ f u, f < 3 → u ≤ left f → ¬ Pv pk n s (kCp left f u)) ∨
  (∃ (f : Nat) (u : Int), f < 3 ∧ 0 ≤ u ∧ u ≤ left f ∧ r = 100 * (f : Int) + u ∧ Pv pk n s (kCp left f u) ∧ ∀ (f' : Nat) (u' : Int), f' < 3 → u' ≤ left f' → Pv pk n s (kCp left f' u') → 100 * (f : Int) + u ≤ 100 * (f' : Int) + u')
def kWl (left : Nat → Int) (p : Int) (f : Nat) (u : Int) (m : Nat) : Int := match m with
  | 0 => 1000
  | m + 1 => if left f < u + p then kWl left p (f + 1) 0 m else 100 * (f : Int) + u + p
def kWf (left : Nat → Int) (r p : Int) : Int := if 300 ≤ r then 1000 else kWl left p (r / 100).toNat (r % 100) (3 - (r / 100).toNat)
theorem kWl_or {left : Nat → Int} {p : Int} : ∀ m f u, f + m = 3 → kWl left p f u m = 1000 ∨ ∃ g : Nat, f ≤ g ∧ g < 3 ∧ (if g = f then u else 0) + p ≤ left g ∧ kWl left p f u m = 100 * (g : Int) + (if g = f then u else 0) + p
  | 0, _, _, _ => Or.inl rfl
  | m + 1, f, u, h => by
    show (if left f < u + p then kWl left p (f + 1) 0 m else 100 * (f : Int) + u + p) = 1000 ∨ ∃ g : Nat, f ≤ g ∧ g < 3 ∧ (if g = f then u else 0) + p ≤ left g ∧ (if left f < u + p then kWl left p (f + 1) 0 m else 100 * (f : Int) + u + p) = 100 * (g : Int) + (if g = f then u else 0) + p
    by_cases c : left f < u + p
    · rw [if_pos c]
      rcases kWl_or (left := left) (p := p) m (f + 1) 0 (by omega) with e | ⟨g, g1, g2, g3, g4⟩
      · exact Or.inl e
      · refine Or.inr ⟨g, by omega, g2, ?_, ?_⟩
        · rw [if_neg (by omega)]
          rw [ite_self] at g3; exact g3
        · rw [if_neg (by omega), g4, ite_self]
    · rw [if_neg c]
      exact Or.inr ⟨f, Nat.le_refl _, by omega, by rw [if_pos rfl]; omega, by rw [if_pos rfl]⟩
theorem kWl_le {left : Nat → Int} {p : Int} (hl : ∀ f, f < 3 → 0 ≤ left f ∧ left f ≤ 99) (hp : 0 < p) : ∀ m f u, f + m = 3 → 0 ≤ u → ∀ g : Nat, f ≤ g → g < 3 → (if g = f then u else 0) + p ≤ left g → kWl left p f u m ≤ 100 * (g : Int) + (if g = f then u else 0) + p
  | 0, f, u, h, _, g, g1, g2, _ => by omega
  | m + 1, f, u, h, hu, g, g1, g2, g3 => by
    show (if left f < u + p then kWl left p (f + 1) 0 m else 100 * (f : Int) + u + p) ≤ 100 * (g : Int) + (if g = f then u else 0) + p
    by_cases c : left f < u + p
    · rw [if_pos c]
      have hne : g ≠ f := fun e => by rw [if_pos e, e] at g3; omega
      have ih := kWl_le hl hp m (f + 1) 0 (by omega) (by omega) g (by omega) g2
      rw [ite_self] at ih
      rw [if_neg hne] at g3 ⊢
      exact ih g3
    · rw [if_neg c]
      by_cases e : g = f
      · rw [if_pos e, e]; exact Int.le_refl _
      · rw [if_neg e] at g3 ⊢
        have := hl f (by omega)
        omega
theorem rRk_0 (pk : Nat → Int) (n : Nat) (left : Nat → Int) (hp : ∀ i, i < n → 0 < pk i) (hl : ∀ f, f < 3 → 0 ≤ left f ∧ left f ≤ 99) : rRk pk n left 0 0 := by
  have e : ∀ f, zsum n (fun i => if (0 : Nat).testBit i = true ∧ (fun _ => 0 : Nat → Nat) i = f then pk i else 0) = 0 := fun f => zsum_0 (fun i _ => if_neg (fun x => by simp at x))
  refine Or.inr ⟨0, 0, by omega, by omega, (hl 0 (by omega)).1, by omega, ⟨fun _ => 0, fun i _ h => by simp at h, fun f hf => ?_⟩, fun f' u' hf' hu' ⟨v, _, g2⟩ => ?_⟩
  · rw [e f]
    by_cases c : f = 0
    · rw [c, kCp_eq]; omega
    · rw [kCp_gt (by omega)]; omega
  · have := g2 f' hf'
    rw [kCp_eq] at this
    have nn := ldS_nn (pk := pk) (n := n) (s := 0) (v := v) hp f'
    unfold ldS at nn
    omega
theorem rRk_step {pk : Nat → Int} {n : Nat} {left : Nat → Int} {s : Nat} (hp : ∀ i, i < n → 0 < pk i) (hl : ∀ f, f < 3 → 0 ≤ left f ∧ left f ≤ 99) (hs : ∃ i, i < n ∧ s.testBit i = true) {r : Int} {R : Nat → Int}
    (hR : ∀ i, i < n → s.testBit i = true → rRk pk n left (s ^^^ 2 ^ i) (R i)) (hr1 : r = 1000 ∨ ∃ i, i < n ∧ s.testBit i = true ∧ r = kWf left (R i) (pk i)) (hr2 : ∀ i, i < n → s.testBit i = true → r ≤ kWf left (R i) (pk i)) : rRk pk n left s r := by
  have rin : ∀ {f : Nat} {u : Int}, f < 3 → 0 ≤ u → u ≤ left f → ((100 * (f : Int) + u) / 100).toNat = f ∧ (100 * (f : Int) + u) % 100 = u ∧ 100 * (f : Int) + u < 300 := fun {f u} h1 h2 h3 => by
    have := hl f h1
    omega
  -- the least is not above any way
  have mn : ∀ f', f' < 3 → ∀ u', u' ≤ left f' → Pv pk n s (kCp left f' u') → ∃ i, i < n ∧ s.testBit i = true ∧ kWf left (R i) (pk i) ≤ 100 * (f' : Int) + u' := by
    intro f'
    induction f' with
    | zero =>
      intro hf u' hu ⟨v, g1, g2⟩
      obtain ⟨i, i1, i2⟩ := hs
      have vi := g1 i i1 i2
      have l0 : ∀ g, g < 3 → ldS pk n s v g ≤ kCp left 0 u' g := g2
      have pp := hp i i1
      have rem := ldS_rem (pk := pk) (v' := v) i1 i2 (fun _ _ => rfl) (v i)
      rw [if_pos rfl] at rem
      have nn := ldS_nn (s := s ^^^ 2 ^ i) (v := v) hp (v i)
      have l1 := l0 (v i) vi
      by_cases e : v i = 0
      · rw [e] at rem l1 nn
        rw [kCp_eq] at l1
        have pv : Pv pk n (s ^^^ 2 ^ i) (kCp left 0 (u' - pk i)) := by
          refine ⟨v, fun j hj hb => g1 j hj ?_, fun g hg => ?_⟩
          · rw [bitx i2] at hb
            exact (Bool.and_eq_true _ _ ▸ hb).1
          · have rg := ldS_rem (pk := pk) (v' := v) i1 i2 (fun _ _ => rfl) g
            have lg := l0 g hg
            show ldS pk n (s ^^^ 2 ^ i) v g ≤ _
            by_cases eg : g = 0
            · rw [eg, kCp_eq]
              omega
            · rw [kCp_gt (by omega)] at lg ⊢
              rw [if_neg (by omega)] at rg
              omega
        refine ⟨i, i1, i2, ?_⟩
        rcases hR i i1 i2 with ⟨_, h2⟩ | ⟨f, u, h1, h2, h3, h4, h5, h6⟩
        · exact absurd pv (h2 0 (u' - pk i) (by omega) (by omega))
        · have q := h6 0 (u' - pk i) (by omega) (by omega) pv
          have ri := rin h1 h2 h3
          rw [h4]
          unfold kWf
          rw [if_neg (by omega), ri.1, ri.2.1]
          have hl0 := hl 0 (by omega)
          have ef : f = 0 := by omega
          subst ef
          have := kWl_le hl pp (3 - 0) 0 u rfl h2 0 (Nat.le_refl _) (by omega) (by rw [if_pos rfl]; omega)
          rw [if_pos rfl] at this
          omega
      · rw [kCp_gt (by omega)] at l1
        omega
    | succ f' ih =>
      intro hf u' hu ⟨v, g1, g2⟩
      have l0 : ∀ g, g < 3 → ldS pk n s v g ≤ kCp left (f' + 1) u' g := g2
      have lf := l0 (f' + 1) hf
      rw [kCp_eq] at lf
      have nf := ldS_nn (s := s) (v := v) hp (f' + 1)
      have hlf := hl f' (by omega)
      by_cases ex : ∃ i, i < n ∧ s.testBit i = true ∧ v i = f' + 1
      · obtain ⟨i, i1, i2, vi⟩ := ex
        have pp := hp i i1
        have rem := ldS_rem (pk := pk) (v' := v) i1 i2 (fun _ _ => rfl) (f' + 1)
        rw [if_pos vi] at rem
        have nn := ldS_nn (s := s ^^^ 2 ^ i) (v := v) hp (f' + 1)
        have pv : Pv pk n (s ^^^ 2 ^ i) (kCp left (f' + 1) (u' - pk i)) := by
          refine ⟨v, fun j hj hb => g1 j hj ?_, fun g hg => ?_⟩
          · rw [bitx i2] at hb
            exact (Bool.and_eq_true _ _ ▸ hb).1
          · have rg := ldS_rem (pk := pk) (v' := v) i1 i2 (fun _ _ => rfl) g
            have lg := l0 g hg
            show ldS pk n (s ^^^ 2 ^ i) v g ≤ _
            rcases Nat.lt_trichotomy g (f' + 1) with eg | eg | eg
            · rw [kCp_lt eg] at lg ⊢
              rw [if_neg (by omega)] at rg
              omega
            · rw [eg, kCp_eq]; omega
            · rw [kCp_gt eg] at lg ⊢
              rw [if_neg (by omega)] at rg
              omega
        refine ⟨i, i1, i2, ?_⟩
        rcases hR i i1 i2 with ⟨_, h2⟩ | ⟨f, u, h1, h2, h3, h4, h5, h6⟩
        · exact absurd pv (h2 (f' + 1) (u' - pk i) hf (by omega))
        · have q := h6 (f' + 1) (u' - pk i) hf (by omega) pv
          have ri := rin h1 h2 h3
          have hlg := hl (f' + 1) hf
          rw [h4]
          unfold kWf
          rw [if_neg (by omega), ri.1, ri.2.1]
          have le : f ≤ f' + 1 := by omega
          by_cases ef : f' + 1 = f
          · have := kWl_le hl pp (3 - f) f u (by omega) h2 (f' + 1) (by omega) hf (by rw [if_pos ef]; omega)
            rw [if_pos ef] at this
            omega
          · have := kWl_le hl pp (3 - f) f u (by omega) h2 (f' + 1) (by omega) hf (by rw [if_neg ef]; omega)
            rw [if_neg ef] at this
            omega
      · have no : ldS pk n s v (f' + 1) = 0 := zsum_0 (fun i hi => if_neg (fun x => ex ⟨i, hi, x.1, x.2⟩))
        have pv : Pv pk n s (kCp left f' (left f')) := by
          refine ⟨v, g1, fun g hg => ?_⟩
          have lg := l0 g hg
          show ldS pk n s v g ≤ _
          rcases Nat.lt_trichotomy g f' with eg | eg | eg
          · rw [kCp_lt (by omega)] at lg; rw [kCp_lt eg]; exact lg
          · rw [eg] at lg ⊢; rw [kCp_lt (by omega)] at lg; rw [kCp_eq]; exact lg
          · rw [kCp_gt eg]
            by_cases e1 : g = f' + 1
            · rw [e1, no]; exact Int.le_refl _
            · rw [kCp_gt (by omega)] at lg; exact lg
        obtain ⟨i, i1, i2, i3⟩ := ih (by omega) (left f') (Int.le_refl _) pv
        exact ⟨i, i1, i2, by omega⟩
  rcases hr1 with e | ⟨i, i1, i2, e⟩
  · refine Or.inl ⟨e, fun f u hf hu pv => ?_⟩
    obtain ⟨i, i1, i2, i3⟩ := mn f hf u hu pv
    have := hr2 i i1 i2
    have := hl f hf
    omega
  · have pp := hp i i1
    have ach : kWf left (R i) (pk i) = 1000 ∨ ∃ (f : Nat) (u : Int), f < 3 ∧ 0 ≤ u ∧ u ≤ left f ∧ kWf left (R i) (pk i) = 100 * (f : Int) + u ∧ Pv pk n s (kCp left f u) := by
      rcases hR i i1 i2 with ⟨h1, _⟩ | ⟨f, u, h1, h2, h3, h4, ⟨v, g1, g2⟩, _⟩
      · exact Or.inl (by unfold kWf; rw [if_pos (by omega)])
      · have ri := rin h1 h2 h3
        have ew : kWf left (R i) (pk i) = kWl left (pk i) f u (3 - f) := by
          rw [h4]; unfold kWf; rw [if_neg (by omega), ri.1, ri.2.1]
        rcases kWl_or (left := left) (p := pk i) (3 - f) f u (by omega) with k | ⟨g, k1, k2, k3, k4⟩
        · exact Or.inl (by rw [ew]; exact k)
        · refine Or.inr ⟨g, (if g = f then u else 0) + pk i, k2, by split <;> omega, k3, by rw [ew, k4]; omega, dUp v i g, fun j hj hb => ?_, fun x hx => ?_⟩
          · by_cases ej : j = i
            · rw [ej, dUp_eq]; exact k2
            · rw [dUp_ne ej]
              exact g1 j hj (by rw [bitx i2, hb, decide_eq_true ej]; rfl)
          · have rem := ldS_rem (pk := pk) (v := dUp v i g) (v' := v) i1 i2 (fun j hj => (dUp_ne hj).symm) x
            rw [dUp_eq] at rem
            have lx : ldS pk n (s ^^^ 2 ^ i) v x ≤ kCp left f u x := g2 x hx
            show ldS pk n s (dUp v i g) x ≤ _
            rw [rem]
            have hlx := hl x hx
            rcases Nat.lt_trichotomy x g with eg | eg | eg
            · rw [if_neg (by omega), kCp_lt eg]
              rcases Nat.lt_trichotomy x f with ef | ef | ef
              · rw [kCp_lt ef] at lx; omega
              · rw [ef, kCp_eq] at lx; rw [ef]; omega
              · rw [kCp_gt ef] at lx; omega
            · rw [if_pos eg.symm, eg, kCp_eq]
              rw [eg] at lx
              by_cases ef : g = f
              · rw [if_pos ef]; rw [ef, kCp_eq] at lx; rw [ef]; omega
              · rw [if_neg ef]; rw [kCp_gt (by omega)] at lx; omega
            · rw [if_neg (by omega), kCp_gt eg]
              rw [kCp_gt (by omega)] at lx; omega
    rcases ach with a | ⟨f, u, a1, a2, a3, a4, a5⟩
    · refine Or.inl ⟨by rw [e]; exact a, fun f u hf hu pv => ?_⟩
      obtain ⟨j, j1, j2, j3⟩ := mn f hf u hu pv
      have := hr2 j j1 j2
      have := hl f hf
      omega
    · refine Or.inr ⟨f, u, a1, a2, a3, by rw [e]; exact a4, a5, fun f' u' hf' hu' pv => ?_⟩
      obtain ⟨j, j1, j2, j3⟩ := mn f' hf' u' hu' pv
      have := hr2 j j1 j2
      omega
/-- all can be dealt iff it reaches -/
theorem rRk_end {pk : Nat → Int} {n : Nat} {left : Nat → Int} {s : Nat} {r : Int} (hl : ∀ f, f < 3 → 0 ≤ left f ∧ left f ≤ 99) (h : rRk pk n left s r) : r < 1000 ↔ Pv pk n s left := by
  constructor
  · intro hr
    rcases h with ⟨h1, _⟩ | ⟨f, u, h1, h2, h3, _, ⟨v, g1, g2⟩, _⟩
    · omega
    · refine ⟨v, g1, fun g hg => Int.le_trans (g2 g hg) ?_⟩
      have := hl g hg
      rcases Nat.lt_trichotomy g f with e | e | e
      · rw [kCp_lt e]; exact Int.le_refl _
      · rw [e, kCp_eq]; exact h3
      · rw [kCp_gt e]; omega
  · rintro ⟨v, g1, g2⟩
    have pv : Pv pk n s (kCp left 2 (left 2)) := ⟨v, g1, fun g hg => by
      have := g2 g hg
      by_cases e : g = 2
      · rw [e, kCp_eq]; rw [e] at this; exact this
      · rw [kCp_lt (by omega)]; exact this⟩
    rcases h with ⟨_, h2⟩ | ⟨f, u, h1, h2, h3, h4, _, _⟩
    · exact absurd pv (h2 2 (left 2) (by omega) (Int.le_refl _))
    · have := hl f h1
      omega
