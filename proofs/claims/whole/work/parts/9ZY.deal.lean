/-! ===== dealing questions to friends ===== -/
def kH (h : Nat → Int) (f : Nat) (a : Int) : Nat → Int := fun j => if j = f then h j - a else h j
theorem kH_eq {h : Nat → Int} {f : Nat} {a : Int} : kH h f a f = h f - a := by unfold kH; rw [if_pos rfl]
theorem kH_ne {h : Nat → Int} {f j : Nat} {a : Int} (e : j ≠ f) : kH h f a j = h j := by unfold kH; rw [if_neg e]
theorem kH_comm (h : Nat → Int) (f g : Nat) (a b : Int) : kH (kH h f a) g b = kH (kH h g b) f a := by
  funext j
  unfold kH
  by_cases e1 : j = g
  · by_cases e2 : j = f
    · rw [if_pos e1, if_pos e2, if_pos e2, if_pos e1]; omega
    · rw [if_pos e1, if_neg e2, if_neg e2, if_pos e1]
  · by_cases e2 : j = f
    · rw [if_neg e1, if_pos e2, if_pos e2, if_neg e1]
    · rw [if_neg e1, if_neg e2, if_neg e2, if_neg e1]
/-- k of a list can be dealt; all of it can -/
def Fe (l : List Int) (h : Nat → Int) (k : Nat) : Prop := match l with
  | [] => k = 0
  | a :: l => (∃ f, f < 3 ∧ a ≤ h f ∧ 0 < k ∧ Fe l (kH h f a) (k - 1)) ∨ Fe l h k
def Fa (l : List Int) (h : Nat → Int) : Prop := match l with
  | [] => True
  | a :: l => ∃ f, f < 3 ∧ a ≤ h f ∧ Fa l (kH h f a)
theorem Fe_0 : ∀ (l : List Int) (h : Nat → Int), Fe l h 0
  | [], _ => rfl
  | _ :: l, h => Or.inr (Fe_0 l h)
theorem Fe_len : ∀ (l : List Int) (h : Nat → Int) (k : Nat), Fe l h k → k ≤ l.length
  | [], _, k, e => by have : k = 0 := e; rw [this]; exact Nat.zero_le _
  | a :: l, h, k, e => by
    rw [List.length_cons]
    rcases e with ⟨f, _, _, h3, h4⟩ | e
    · have := Fe_len l _ _ h4; omega
    · have := Fe_len l _ _ e; omega
theorem Fe_swap {a b : Int} {l : List Int} {h : Nat → Int} {k : Nat} (ha : 0 ≤ a) (hb : 0 ≤ b) (e : Fe (a :: b :: l) h k) : Fe (b :: a :: l) h k := by
  rcases e with ⟨f, f1, f2, f3, ⟨g, g1, g2, g3, g4⟩ | g4⟩ | ⟨g, g1, g2, g3, g4⟩ | g4
  · refine Or.inl ⟨g, g1, ?_, f3, Or.inl ⟨f, f1, ?_, g3, ?_⟩⟩
    · by_cases e : g = f
      · rw [e, kH_eq] at g2; rw [e]; omega
      · rw [kH_ne e] at g2; exact g2
    · by_cases e : f = g
      · rw [e, kH_eq]; rw [e, kH_eq] at g2; omega
      · rw [kH_ne e]; exact f2
    · rw [kH_comm]; exact g4
  · exact Or.inr (Or.inl ⟨f, f1, f2, f3, g4⟩)
  · exact Or.inl ⟨g, g1, g2, g3, Or.inr g4⟩
  · exact Or.inr (Or.inr g4)
theorem Fe_perm {l l' : List Int} (p : List.Perm l l') : (∀ a ∈ l, 0 ≤ a) → ∀ h k, Fe l h k → Fe l' h k := by
  induction p with
  | nil => intro _ h k e; exact e
  | cons a p ih =>
    intro hp h k e
    have hp' := fun x hx => hp x (List.mem_cons_of_mem _ hx)
    rcases e with ⟨f, f1, f2, f3, f4⟩ | e
    · exact Or.inl ⟨f, f1, f2, f3, ih hp' _ _ f4⟩
    · exact Or.inr (ih hp' _ _ e)
  | swap a b l =>
    intro hp h k e
    exact Fe_swap (hp b (List.mem_cons_self ..)) (hp a (List.mem_cons_of_mem _ (List.mem_cons_self ..))) e
  | trans p1 p2 i1 i2 =>
    intro hp h k e
    exact i2 (fun x hx => hp x (p1.symm.subset hx)) h k (i1 hp h k e)
theorem Fa_up : ∀ (l : List Int) (h h' : Nat → Int), (∀ f, f < 3 → h f ≤ h' f) → Fa l h → Fa l h'
  | [], _, _, _, _ => trivial
  | a :: l, h, h', u, ⟨f, f1, f2, f3⟩ => ⟨f, f1, by have := u f f1; omega, Fa_up l _ _ (fun g hg => by
      by_cases e : g = f
      · rw [e, kH_eq, kH_eq]; have := u f f1; omega
      · rw [kH_ne e, kH_ne e]; exact u g hg) f3⟩
/-- one list lies below another, place by place -/
def lB (l m : List Int) : Prop := match l, m with
  | [], [] => True
  | a :: l, b :: m => a ≤ b ∧ lB l m
  | _, _ => False
theorem lB_Fa : ∀ (l m : List Int) (h : Nat → Int), lB l m → Fa m h → Fa l h
  | [], [], _, _, _ => trivial
  | a :: l, b :: m, h, ⟨b1, b2⟩, ⟨f, f1, f2, f3⟩ => ⟨f, f1, by omega, lB_Fa l m _ b2 (Fa_up m _ _ (fun g hg => by
      by_cases e : g = f
      · rw [e, kH_eq, kH_eq]; omega
      · rw [kH_ne e, kH_ne e]; exact Int.le_refl _) f3)⟩
  | [], _ :: _, _, b, _ => absurd b (fun x => x)
  | _ :: _, [], _, b, _ => absurd b (fun x => x)
def lS (l : List Int) : Prop := match l with
  | [] => True
  | a :: l => (∀ b ∈ l, a ≤ b) ∧ lS l
theorem lS_take : ∀ (l : List Int) (a : Int) (k : Nat), lS (a :: l) → k ≤ l.length → lB ((a :: l).take k) (l.take k)
  | _, _, 0, _, _ => trivial
  | [], _, k + 1, _, hk => absurd hk (by simp)
  | b :: l, a, k + 1, hs, hk => by
    rw [List.take_succ_cons, List.take_succ_cons]
    refine ⟨hs.1 b (List.mem_cons_self ..), ?_⟩
    exact lS_take l b k hs.2 (by rw [List.length_cons] at hk; omega)
theorem Fe_sorted : ∀ (l : List Int) (h : Nat → Int) (k : Nat), lS l → Fe l h k → Fa (l.take k) h
  | [], _, k, _, e => by rw [List.take_nil]; exact trivial
  | a :: l, h, 0, _, _ => trivial
  | a :: l, h, k + 1, hs, e => by
    rcases e with ⟨f, f1, f2, f3, f4⟩ | e
    · rw [List.take_succ_cons]
      exact ⟨f, f1, f2, Fe_sorted l _ _ hs.2 f4⟩
    · exact lB_Fa _ _ _ (lS_take l a (k + 1) hs (Fe_len l h (k + 1) e)) (Fe_sorted l h (k + 1) hs.2 e)
theorem Fa_Fe : ∀ (l : List Int) (h : Nat → Int) (k : Nat), k ≤ l.length → Fa (l.take k) h → Fe l h k
  | l, h, 0, _, _ => Fe_0 l h
  | [], _, k + 1, hk, _ => absurd hk (by simp)
  | a :: l, h, k + 1, hk, e => by
    rw [List.take_succ_cons] at e
    obtain ⟨f, f1, f2, f3⟩ := e
    exact Or.inl ⟨f, f1, f2, by omega, Fa_Fe l _ _ (by rw [List.length_cons] at hk; omega) f3⟩
/-! the most that can be dealt, from a question on -/
def kMx (p : Nat → Int) (m q : Nat) (h : Nat → Int) : Nat := match m with
  | 0 => 0
  | m + 1 => max (max (max (if p q ≤ h 0 then 1 + kMx p m (q + 1) (kH h 0 (p q)) else 0) (if p q ≤ h 1 then 1 + kMx p m (q + 1) (kH h 1 (p q)) else 0)) (if p q ≤ h 2 then 1 + kMx p m (q + 1) (kH h 2 (p q)) else 0)) (kMx p m (q + 1) h)
def kOq (p : Nat → Int) (m q : Nat) (h : Nat → Int) (f : Nat) : Nat := if p q ≤ h f then 1 + kMx p m (q + 1) (kH h f (p q)) else 0
theorem kMx_s (p : Nat → Int) (m q : Nat) (h : Nat → Int) : kMx p (m + 1) q h = max (max (max (kOq p m q h 0) (kOq p m q h 1)) (kOq p m q h 2)) (kMx p m (q + 1) h) := rfl
theorem kOq_le (p : Nat → Int) (m q : Nat) (h : Nat → Int) {f : Nat} (hf : f < 3) : kOq p m q h f ≤ kMx p (m + 1) q h := by
  rw [kMx_s]
  rcases (by omega : f = 0 ∨ f = 1 ∨ f = 2) with rfl | rfl | rfl <;> omega
theorem kMx_le (p : Nat → Int) : ∀ m q h, kMx p m q h ≤ m
  | 0, _, _ => Nat.le_refl _
  | m + 1, q, h => by
    rw [kMx_s]
    have a0 : ∀ f, kOq p m q h f ≤ m + 1 := fun f => by
      unfold kOq
      split
      · have := kMx_le p m (q + 1) (kH h f (p q)); omega
      · omega
    have := a0 0
    have := a0 1
    have := a0 2
    have := kMx_le p m (q + 1) h
    omega
def pL (p : Nat → Int) (q m : Nat) : List Int := match m with
  | 0 => []
  | m + 1 => p q :: pL p (q + 1) m
theorem kMx_Fe (p : Nat → Int) : ∀ m q h k, k ≤ kMx p m q h ↔ Fe (pL p q m) h k
  | 0, q, h, k => ⟨fun e => by have : k = 0 := Nat.le_zero.1 e; exact this, fun e => by have : k = 0 := e; rw [this]; exact Nat.zero_le _⟩
  | m + 1, q, h, k => by
    have ih := kMx_Fe p m (q + 1)
    show k ≤ kMx p (m + 1) q h ↔ (∃ f, f < 3 ∧ p q ≤ h f ∧ 0 < k ∧ Fe (pL p (q + 1) m) (kH h f (p q)) (k - 1)) ∨ Fe (pL p (q + 1) m) h k
    constructor
    · intro e
      rcases Nat.eq_zero_or_pos k with k0 | k0
      · rw [k0]; exact Or.inr (Fe_0 _ _)
      · have op : ∀ f, f < 3 → k ≤ kOq p m q h f → (∃ f, f < 3 ∧ p q ≤ h f ∧ 0 < k ∧ Fe (pL p (q + 1) m) (kH h f (p q)) (k - 1)) := fun f hf g => by
          unfold kOq at g
          by_cases c : p q ≤ h f
          · rw [if_pos c] at g
            exact ⟨f, hf, c, k0, (ih _ _).1 (by omega)⟩
          · rw [if_neg c] at g; omega
        rw [kMx_s] at e
        rcases (by omega : k ≤ kOq p m q h 0 ∨ k ≤ kOq p m q h 1 ∨ k ≤ kOq p m q h 2 ∨ k ≤ kMx p m (q + 1) h) with g | g | g | g
        · exact Or.inl (op 0 (by omega) g)
        · exact Or.inl (op 1 (by omega) g)
        · exact Or.inl (op 2 (by omega) g)
        · exact Or.inr ((ih _ _).1 g)
    · rintro (⟨f, f1, f2, f3, f4⟩ | e)
      · have g := (ih _ _).2 f4
        have := kOq_le p m q h f1
        unfold kOq at this
        rw [if_pos f2] at this
        omega
      · have g := (ih _ _).2 e
        rw [kMx_s]; omega
/-! by numbers of places: who takes which -/
def Pv (pk : Nat → Int) (n s : Nat) (h : Nat → Int) : Prop := ∃ v : Nat → Nat, (∀ i, i < n → s.testBit i = true → v i < 3) ∧ ∀ f, f < 3 → zsum n (fun i => if s.testBit i = true ∧ v i = f then pk i else 0) ≤ h f
theorem Fa_v (pk : Nat → Int) (hp : ∀ i, 0 ≤ pk i) : ∀ m i h, (∀ f, f < 3 → 0 ≤ h f) → (Fa (pL pk i m) h ↔ ∃ v : Nat → Nat, (∀ j, j < m → v (i + j) < 3) ∧ ∀ f, f < 3 → zsum m (fun j => if v (i + j) = f then pk (i + j) else 0) ≤ h f) := by
  intro m
  induction m with
  | zero =>
    intro i h hh
    exact ⟨fun _ => ⟨fun _ => 0, fun j hj => absurd hj (by omega), fun f hf => hh f hf⟩, fun _ => trivial⟩
  | succ m ih =>
    intro i h hh
    constructor
    · rintro ⟨f0, f1, f2, f3⟩
      obtain ⟨v', g1, g2⟩ := (ih (i + 1) _ (fun f hf => by
        by_cases e : f = f0
        · rw [e, kH_eq]; omega
        · rw [kH_ne e]; exact hh f hf)).1 f3
      refine ⟨dUp v' i f0, fun j hj => ?_, fun f hf => ?_⟩
      · by_cases e : j = 0
        · rw [e, Nat.add_zero, dUp_eq]; exact f1
        · rw [dUp_ne (by omega)]
          have := g1 (j - 1) (by omega)
          rw [show i + 1 + (j - 1) = i + j by omega] at this
          exact this
      · rw [zsum_first]
        have e1 : zsum m (fun k => if dUp v' i f0 (i + (k + 1)) = f then pk (i + (k + 1)) else 0) = zsum m (fun j => if v' (i + 1 + j) = f then pk (i + 1 + j) else 0) := zsum_congr (fun k _ => by
          rw [dUp_ne (by omega), show i + (k + 1) = i + 1 + k by omega])
        rw [e1, Nat.add_zero, dUp_eq]
        have b := g2 f hf
        by_cases e : f0 = f
        · rw [if_pos e]
          rw [← e, kH_eq] at b
          rw [← e]; omega
        · rw [if_neg e]
          rw [kH_ne (fun x => e x.symm)] at b
          omega
    · rintro ⟨v, g1, g2⟩
      have f1 := g1 0 (by omega)
      rw [Nat.add_zero] at f1
      have key : ∀ f, f < 3 → (if v i = f then pk i else 0) + zsum m (fun j => if v (i + 1 + j) = f then pk (i + 1 + j) else 0) ≤ h f := fun f hf => by
        have b := g2 f hf
        rw [zsum_first] at b
        have e1 : zsum m (fun k => if v (i + (k + 1)) = f then pk (i + (k + 1)) else 0) = zsum m (fun j => if v (i + 1 + j) = f then pk (i + 1 + j) else 0) := zsum_congr (fun k _ => by rw [show i + (k + 1) = i + 1 + k by omega])
        rw [e1, Nat.add_zero] at b
        exact b
      have nn : ∀ f, 0 ≤ zsum m (fun j => if v (i + 1 + j) = f then pk (i + 1 + j) else 0) := fun f => zsum_nn (fun k _ => by
        split
        · exact hp _
        · omega)
      have k0 := key (v i) f1
      rw [if_pos rfl] at k0
      have n0 := nn (v i)
      refine ⟨v i, f1, by omega, (ih (i + 1) _ (fun f hf => ?_)).2 ⟨v, fun j hj => ?_, fun f hf => ?_⟩⟩
      · by_cases e : f = v i
        · rw [e, kH_eq]; omega
        · rw [kH_ne e]; exact hh f hf
      · have := g1 (j + 1) (by omega)
        rw [show i + (j + 1) = i + 1 + j by omega] at this
        exact this
      · by_cases e : f = v i
        · rw [e, kH_eq]; omega
        · rw [kH_ne e]
          have := key f hf
          rw [if_neg (fun x => e x.symm)] at this
          omega
theorem Fa_Pv (pk : Nat → Int) (hp : ∀ i, 0 ≤ pk i) (m : Nat) (h : Nat → Int) (hh : ∀ f, f < 3 → 0 ≤ h f) : Fa (pL pk 0 m) h ↔ Pv pk m (2 ^ m - 1) h := by
  rw [Fa_v pk hp m 0 h hh]
  have hb : ∀ i, i < m → (2 ^ m - 1).testBit i = true := fun i hi => by rw [Nat.testBit_two_pow_sub_one]; exact decide_eq_true hi
  constructor
  · rintro ⟨v, g1, g2⟩
    refine ⟨v, fun i hi _ => by have := g1 i hi; rw [Nat.zero_add] at this; exact this, fun f hf => ?_⟩
    have := g2 f hf
    have e : zsum m (fun i => if (2 ^ m - 1).testBit i = true ∧ v i = f then pk i else 0) = zsum m (fun j => if v (0 + j) = f then pk (0 + j) else 0) := zsum_congr (fun k hk => by
      rw [Nat.zero_add]
      by_cases c : v k = f
      · rw [if_pos ⟨hb k hk, c⟩, if_pos c]
      · rw [if_neg (fun x => c x.2), if_neg c])
    rw [e]; exact this
  · rintro ⟨v, g1, g2⟩
    refine ⟨v, fun i hi => by rw [Nat.zero_add]; exact g1 i hi (hb i hi), fun f hf => ?_⟩
    have := g2 f hf
    have e : zsum m (fun i => if (2 ^ m - 1).testBit i = true ∧ v i = f then pk i else 0) = zsum m (fun j => if v (0 + j) = f then pk (0 + j) else 0) := zsum_congr (fun k hk => by
      rw [Nat.zero_add]
      by_cases c : v k = f
      · rw [if_pos ⟨hb k hk, c⟩, if_pos c]
      · rw [if_neg (fun x => c x.2), if_neg c])
    rw [← e]; exact this
