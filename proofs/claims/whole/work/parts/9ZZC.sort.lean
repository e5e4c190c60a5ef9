/-! ===== sharing: sorting in, the most, the first friend ===== -/
theorem qloopV1 {β : Type} {step : (Int → zFs → zDa → Nat → Nat → Option β) → Int → zFs → zDa → Nat → Nat → Option β} (I : Int → zFs → zDa → Nat → Nat → Prop) (m : Int → Nat) {P : β → Prop}
    (hs : ∀ (k : Int → zFs → zDa → Nat → Nat → Option β) (v0 : Int) (F : zFs) (D : zDa) (n sl : Nat), I v0 F D n sl → (∀ (u0 : Int) (F' : zFs) (D' : zDa) (n' sl' : Nat), I u0 F' D' n' sl' → m u0 < m v0 → qS (k u0 F' D' n' sl') P) → qS (step k v0 F D n sl) P)
    {N : Nat} {v0 : Int} {F : zFs} {D : zDa} {n sl : Nat} (hI : I v0 F D n sl) (hm : m v0 < N) : qS (zfix (fun _ _ _ _ _ => none) step N v0 F D n sl) P := by
  have h := zfix_ind (bot := fun (_ : Int) (_ : zFs) (_ : zDa) (_ : Nat) (_ : Nat) => (none : Option β)) (step := step) (fun j k => ∀ (v0 : Int) (F : zFs) (D : zDa) (n sl : Nat), I v0 F D n sl → m v0 < j → qS (k v0 F D n sl) P)
    (fun _ _ _ _ _ _ h => absurd h (Nat.not_lt_zero _))
    (fun j k ih v0 F D n sl hI hm => hs k v0 F D n sl hI (fun u0 F' D' n' sl' hI' hlt => ih u0 F' D' n' sl' hI' (by omega)))
  exact h N v0 F D n sl hI hm
theorem qloopV2 {β : Type} {step : (Int → Int → zFs → zDa → Nat → Nat → Option β) → Int → Int → zFs → zDa → Nat → Nat → Option β} (I : Int → Int → zFs → zDa → Nat → Nat → Prop) (m : Int → Int → Nat) {P : β → Prop}
    (hs : ∀ (k : Int → Int → zFs → zDa → Nat → Nat → Option β) (v0 v1 : Int) (F : zFs) (D : zDa) (n sl : Nat), I v0 v1 F D n sl → (∀ (u0 u1 : Int) (F' : zFs) (D' : zDa) (n' sl' : Nat), I u0 u1 F' D' n' sl' → m u0 u1 < m v0 v1 → qS (k u0 u1 F' D' n' sl') P) → qS (step k v0 v1 F D n sl) P)
    {N : Nat} {v0 v1 : Int} {F : zFs} {D : zDa} {n sl : Nat} (hI : I v0 v1 F D n sl) (hm : m v0 v1 < N) : qS (zfix (fun _ _ _ _ _ _ => none) step N v0 v1 F D n sl) P := by
  have h := zfix_ind (bot := fun (_ : Int) (_ : Int) (_ : zFs) (_ : zDa) (_ : Nat) (_ : Nat) => (none : Option β)) (step := step) (fun j k => ∀ (v0 v1 : Int) (F : zFs) (D : zDa) (n sl : Nat), I v0 v1 F D n sl → m v0 v1 < j → qS (k v0 v1 F D n sl) P)
    (fun _ _ _ _ _ _ _ h => absurd h (Nat.not_lt_zero _))
    (fun j k ih v0 v1 F D n sl hI hm => hs k v0 v1 F D n sl hI (fun u0 u1 F' D' n' sl' hI' hlt => ih u0 u1 F' D' n' sl' hI' (by omega)))
  exact h N v0 v1 F D n sl hI hm
theorem sLn_cg {c c' : Nat → Nat} : ∀ {m i : Nat}, (∀ j, i ≤ j → j < i + m → c' j = c j) → sLn c' i m = sLn c i m
  | 0, _, _ => rfl
  | m + 1, i, h => by
    show c' i :: sLn c' (i + 1) m = c i :: sLn c (i + 1) m
    rw [h i (Nat.le_refl _) (by omega), sLn_cg (fun j h1 h2 => h j (by omega) (by omega))]
theorem sLn_sh {c c' : Nat → Nat} : ∀ {m i : Nat}, (∀ j, i ≤ j → j < i + m → c' (j + 1) = c j) → sLn c' (i + 1) m = sLn c i m
  | 0, _, _ => rfl
  | m + 1, i, h => by
    show c' (i + 1) :: sLn c' (i + 1 + 1) m = c i :: sLn c (i + 1) m
    rw [h i (Nat.le_refl _) (by omega), sLn_sh (fun j h1 h2 => h j (by omega) (by omega))]
theorem sLn_app (c : Nat → Nat) : ∀ m i, sLn c i (m + 1) = sLn c i m ++ [c (i + m)]
  | 0, i => rfl
  | m + 1, i => by
    show c i :: sLn c (i + 1) (m + 1) = (c i :: sLn c (i + 1) m) ++ [c (i + (m + 1))]
    rw [sLn_app c m (i + 1), List.cons_append, show i + 1 + m = i + (m + 1) by omega]
theorem sLn_ins {c c' : Nat → Nat} {at' x : Nat} : ∀ {m i : Nat}, i ≤ at' → at' ≤ i + m → (∀ j, i ≤ j → j < at' → c' j = c j) → c' at' = x → (∀ j, at' ≤ j → j < i + m → c' (j + 1) = c j) → List.Perm (sLn c' i (m + 1)) (x :: sLn c i m)
  | 0, i, h1, h2, h3, h4, h5 => by
    have : at' = i := by omega
    subst this
    show List.Perm (c' at' :: []) (x :: [])
    rw [h4]
  | m + 1, i, h1, h2, h3, h4, h5 => by
    by_cases e : i = at'
    · subst e
      show List.Perm (c' i :: sLn c' (i + 1) (m + 1)) (x :: sLn c i (m + 1))
      rw [h4, sLn_sh (fun j g1 g2 => h5 j g1 g2)]
    · have ih := sLn_ins (c := c) (c' := c') (at' := at') (x := x) (m := m) (i := i + 1) (by omega) (by omega) (fun j g1 g2 => h3 j (by omega) g2) h4 (fun j g1 g2 => h5 j g1 (by omega))
      show List.Perm (c' i :: sLn c' (i + 1) (m + 1)) (x :: c i :: sLn c (i + 1) m)
      rw [h3 i (Nat.le_refl _) (by omega)]
      exact (ih.cons _).trans (List.Perm.swap _ _ _)
/-- the first q, sorted in -/
def cSrt (D : zDa) (q : Nat) (p : Nat → Int) (c : Nat → Nat) : Prop :=
  (∀ i, i < q → D 81 i = (c i : Int) ∧ c i < q) ∧ (∀ a b, a < b → b < q → p (c a) ≤ p (c b)) ∧ List.Perm (sLn c 0 q) (sLn (fun x => x) 0 q)
section SI
variable {F : zFs} {D : zDa}
theorem pX7_sortIn {q : Nat} {p : Nat → Int} {c : Nat → Nat} (hq : q < 12) (h80 : ∀ x, x ≤ q → D 80 x = p x) (h : cSrt D q p c) : qS (fX7_sortIn F (q : Int) D) (fun D' => (∃ c', cSrt D' (q + 1) p c') ∧ zfr [81] D D') := by
  obtain ⟨s1, s2, s3⟩ := h
  unfold fX7_sortIn
  refine qloop1 (fun v D1 => ∃ a : Nat, v = (a : Int) ∧ a ≤ q ∧ (∀ j, j < a → D1 81 j = (c j : Int)) ∧ (∀ j, a ≤ j → j < q → D1 81 (j + 1) = (c j : Int) ∧ p q < p (c j)) ∧ zfr [81] D D1) (fun v _ => v.toNat) ?_ ⟨q, rfl, Nat.le_refl _, fun j hj => (s1 j hj).1, fun j h1 h2 => absurd h2 (by omega), zfr.rfl' _ _⟩ (zfu_gt (by omega))
  intro k2 v D1 ⟨a, ev, ha, lo, hi, f1⟩ ih
  subst ev
  have e80 : ∀ x, x ≤ q → D1 80 x = p x := fun x hx => by rw [f1 80 (by decide)]; exact h80 x hx
  have fin : (a = 0 ∨ p (c (a - 1)) ≤ p q) → qS (fX7_sortIn_48 F (q : Int) (a : Int) D1) (fun D' => (∃ c', cSrt D' (q + 1) p c') ∧ zfr [81] D D') := by
    intro hend
    unfold fX7_sortIn_48
    refine qS_chk (by omega) (qS_leti (qS_ret ⟨⟨fun j => if j < a then c j else if j = a then q else c (j - 1), fun i hi' => ?_, fun x y hxy hy => ?_, ?_⟩, f1.wr (by decide)⟩))
    · rw [show ((a : Int)).toNat = a by omega, zwr_at]
      dsimp only
      by_cases e1 : i < a
      · rw [if_neg (by omega), if_pos e1]
        exact ⟨lo i e1, by have := (s1 i (by omega)).2; omega⟩
      · by_cases e2 : i = a
        · rw [if_pos e2, if_neg e1, if_pos e2]; exact ⟨rfl, by omega⟩
        · rw [if_neg e2, if_neg e1, if_neg e2]
          have := (hi (i - 1) (by omega) (by omega)).1
          rw [show i - 1 + 1 = i by omega] at this
          exact ⟨this, by have := (s1 (i - 1) (by omega)).2; omega⟩
    · dsimp only
      by_cases x1 : x < a
      · rw [if_pos x1]
        by_cases y1 : y < a
        · rw [if_pos y1]; exact s2 x y hxy (by omega)
        · rw [if_neg y1]
          by_cases y2 : y = a
          · rw [if_pos y2]
            rcases hend with e | e
            · omega
            · by_cases ex : x = a - 1
              · rw [ex]; exact e
              · exact Int.le_trans (s2 x (a - 1) (by omega) (by omega)) e
          · rw [if_neg y2]; exact s2 x (y - 1) (by omega) (by omega)
      · rw [if_neg x1]
        by_cases x2 : x = a
        · rw [if_pos x2, if_neg (by omega), if_neg (by omega)]
          exact Int.le_of_lt (hi (y - 1) (by omega) (by omega)).2
        · rw [if_neg x2, if_neg (by omega), if_neg (by omega)]
          exact s2 (x - 1) (y - 1) (by omega) (by omega)
    · have ins := sLn_ins (c := c) (c' := fun j => if j < a then c j else if j = a then q else c (j - 1)) (at' := a) (x := q) (m := q) (i := 0) (by omega) (by omega) (fun j _ h2 => by rw [if_pos h2]) (by rw [if_neg (by omega), if_pos rfl]) (fun j h1 h2 => by rw [if_neg (by omega), if_neg (by omega)]; congr 1)
      refine ins.trans ?_
      rw [sLn_app, Nat.zero_add]
      exact (s3.cons q).trans (List.perm_append_singleton q _).symm
  unfold fX7_sortIn_2
  refine qS_ite (fun c1 => ?_) (fun c1 => fin (Or.inl (by omega)))
  have la := lo (a - 1) (by omega)
  have ca := (s1 (a - 1) (by omega)).2
  rw [show ((a : Int) - 1).toNat = a - 1 by omega, la, show ((q : Int)).toNat = q by omega, show ((c (a - 1) : Int)).toNat = c (a - 1) by omega, e80 q (Nat.le_refl _), e80 (c (a - 1)) (by omega)]
  refine qS_chk (by omega) ?_
  refine qS_ite (fun c2 => qS_chk (by omega) (qS_leti (qS_chk (by omega) (ih _ _ ⟨a - 1, by omega, by omega, fun j hj => ?_, fun j h1 h2 => ?_, f1.wr (by decide)⟩ (by omega))))) (fun c2 => fin (Or.inr (by omega)))
  · rw [zwr_off (Or.inr (by omega))]; exact lo j (by omega)
  · rw [show ((a : Int)).toNat = a by omega, zwr_at]
    by_cases e : j = a - 1
    · rw [if_pos (by omega), e]; exact ⟨rfl, c2⟩
    · rw [if_neg (by omega)]; exact hi j (by omega) h2
end SI
