/-! ===== the class's papers: steps for a stack ===== -/
def kBin2 (op x y : Int) : Option Int :=
  if op = 2 then kBnd (x + y) else if op = 3 then kBnd (x - y) else if op = 4 then kBnd (x * y) else if op = 5 then (if y = 0 then none else kBnd (Int.tdiv x y))
  else if op = 6 then some (if x < y then 1 else 0) else if op = 7 then some (if y < x then 1 else 0) else some (if x = y then 1 else 0)
/-- runs steps up to t: whether they hold, and what lies at the bottom; nothing: it isn't safe -/
def kRun (S A : Nat → Int) (t : Nat) (m : Nat) (at' top : Nat) (st : Nat → Int) : Option (Bool × Int) := match m with
  | 0 => none
  | m + 1 =>
    if at' = t then some (decide (top = 2 ∧ st 1 = 1), st 0)
    else if t < at' ∨ S at' < 0 ∨ 2147483647 < S at' then none
    else if S at' % 16 = 0 then (if top < 52 then kRun S A t m (at' + 1) (top + 1) (zset st top (S at' / 16)) else none)
    else if S at' % 16 = 1 then (if top < 52 ∧ S at' / 16 < 7 then kRun S A t m (at' + 1) (top + 1) (zset st top (A (S at' / 16).toNat)) else none)
    else if S at' % 16 = 10 then (if 0 < top ∧ top ≤ 52 then (if st (top - 1) = 0 then kRun S A t m (S at' / 16).toNat top st else kRun S A t m (at' + 1) (top - 1) st) else none)
    else if S at' % 16 = 11 then (if 0 < top ∧ top ≤ 52 then (if st (top - 1) = 1 then kRun S A t m (S at' / 16).toNat top st else kRun S A t m (at' + 1) (top - 1) st) else none)
    else if S at' % 16 = 9 then (if 0 < top ∧ top ≤ 52 ∧ 0 ≤ st (top - 1) ∧ st (top - 1) ≤ 1 then kRun S A t m (at' + 1) top (zset st (top - 1) (1 - st (top - 1))) else none)
    else if 1 < top ∧ top ≤ 52 ∧ (-1000000000 ≤ st (top - 1) ∧ st (top - 1) ≤ 1000000000) ∧ (-1000000000 ≤ st (top - 2) ∧ st (top - 2) ≤ 1000000000) then
      (match kBin2 (S at' % 16) (st (top - 2)) (st (top - 1)) with
       | none => some (false, 0)
       | some z => kRun S A t m (at' + 1) (top - 1) (zset st (top - 2) z))
    else none
def kImp (S : Nat → Int) (s t : Nat) (f : kSum) : Prop :=
  ∀ A : Nat → Int, (∀ k, -1000000000 ≤ A k ∧ A k ≤ 1000000000) → ∀ st : Nat → Int, ∃ m b v, m ≤ 412 ∧ kRun S A t m s 0 st = some (b, v) ∧ f A = if b then some v else none
def qPap (F : zFs) (D : zDa) (Z : Nat → Prop) (p : Int) (cs : List (Int × kSum)) : Prop :=
  0 ≤ p ∧ Z p.toNat ∧ (F p.toNat).1 = 4 ∧ (F p.toNat).2.2 0 = (cs.length : Int) ∧ cs.length ≤ 12 ∧ ∃ h b s : Nat,
    (F p.toNat).2.2 1 = (h : Int) ∧ (F p.toNat).2.2 2 = (b : Int) ∧ (F p.toNat).2.2 3 = (s : Int) ∧ Z h ∧ Z b ∧ Z s ∧
    ((F h).1 = 20 ∧ (F h).2.1 = cs.length) ∧ ((F b).1 = 20 ∧ (F b).2.1 = cs.length + 1) ∧ ((F s).1 = 20 ∧ (F s).2.1 ≤ 412) ∧
    ∀ i (hi : i < cs.length), D h i = (cs[i]).1 - 1 ∧ (0 ≤ D b i ∧ D b i ≤ D b (i + 1) ∧ D b (i + 1) ≤ ((F s).2.1 : Int)) ∧ kImp (D s) (D b i).toNat (D b (i + 1)).toNat (cs[i]).2
/-! ===== a State of the class holds the row K ===== -/
def qSt (F : zFs) (D : zDa) (Z : Nat → Prop) (s : Nat) (K : Nat → Int) : Prop :=
  kOk K ∧ D s 5 = K 390 ∧
  (∀ q : Nat, (q : Int) < K 390 → D (s + 1) q = K (5 * q) ∧ D (s + 2) q = K (5 * q + 1) ∧ D (s + 3) q = K (5 * q + 2) ∧ D (s + 4) q = K (5 * q + 3) ∧ D (s + 5) q = K (5 * q + 4)) ∧
  (∀ k : Nat, k < 7 → D (s + 6) k = K (100 + k)) ∧
  (D s 12 = K 391 ∧ ∀ i : Nat, (i : Int) < K 391 → D (s + 8) i = K (107 + 2 * i) ∧ D (s + 9) i = K (108 + 2 * i)) ∧
  (∀ f : Nat, f < 3 → D (s + 10) f = K (347 + f)) ∧
  (D s 15 = K 392 ∧ ∀ y : Nat, (y : Int) < K 392 → D (s + 11) y = K (350 + y)) ∧
  (D s 8 = K 393 ∧ D s 9 = K 394 ∧ (∀ t : Nat, t < 6 → D (s + 7) t < 0 ∨ ((F (D (s + 7) t).toNat).1 = 4 ∧ Z (D (s + 7) t).toNat)) ∧
    ∀ t : Nat, (t : Int) < K 393 → (0 ≤ K (395 + t) ∧ K (395 + t) ≤ 400) ∧ qPap F D Z (D (s + 7) t) (kCls K t) ∧ ∃ cs, kRead (kCode K t) (kVal K t) (K (395 + t)).toNat = .inr cs)
theorem qPap.fr {F F' : zFs} {D D' : zDa} {Z Z' : Nat → Prop} {p : Int} {cs : List (Int × kSum)} (h : qPap F D Z p cs) (hF : ∀ a, Z a → F' a = F a) (hD : ∀ a, Z a → D' a = D a) (hZ : ∀ a, Z a → Z' a) : qPap F' D' Z' p cs := by
  obtain ⟨h0, hp, h1, h2, h3, x, b, s, e1, e2, e3, z1, z2, z3, k1, k2, k3, hi⟩ := h
  refine ⟨h0, hZ _ hp, by rw [hF _ hp]; exact h1, by rw [hF _ hp]; exact h2, h3, x, b, s, by rw [hF _ hp]; exact e1, by rw [hF _ hp]; exact e2, by rw [hF _ hp]; exact e3, hZ _ z1, hZ _ z2, hZ _ z3, by rw [hF _ z1]; exact k1, by rw [hF _ z2]; exact k2, by rw [hF _ z3]; exact k3, ?_⟩
  intro i hl
  rw [hD _ z1, hD _ z2, hD _ z3, hF _ z3]
  exact hi i hl
/-- the State's rows and the frozen rows alone count -/
theorem qSt.fr {F F' : zFs} {D D' : zDa} {Z Z' : Nat → Prop} {s : Nat} {K : Nat → Int} (h : qSt F D Z s K) (hF : ∀ a, Z a → F' a = F a) (hD : ∀ a, Z a → D' a = D a) (hZ : ∀ a, Z a → Z' a) (hS : ∀ a, s ≤ a → a ≤ s + 11 → D' a = D a) : qSt F' D' Z' s K := by
  obtain ⟨hk, h1, h2, h3, ⟨h4, h5⟩, h6, ⟨h7, h8⟩, h9, h10, h11, h12⟩ := h
  have r0 := hS s (by omega) (by omega)
  have r1 := hS (s + 1) (by omega) (by omega)
  have r2 := hS (s + 2) (by omega) (by omega)
  have r3 := hS (s + 3) (by omega) (by omega)
  have r4 := hS (s + 4) (by omega) (by omega)
  have r5 := hS (s + 5) (by omega) (by omega)
  have r6 := hS (s + 6) (by omega) (by omega)
  have r7 := hS (s + 7) (by omega) (by omega)
  have r8 := hS (s + 8) (by omega) (by omega)
  have r9 := hS (s + 9) (by omega) (by omega)
  have r10 := hS (s + 10) (by omega) (by omega)
  have r11 := hS (s + 11) (by omega) (by omega)
  unfold qSt
  rw [r0, r1, r2, r3, r4, r5, r6, r7, r8, r9, r10, r11]
  refine ⟨hk, h1, h2, h3, ⟨h4, h5⟩, h6, ⟨h7, h8⟩, h9, h10, ?_, ?_⟩
  · intro t ht
    rcases h11 t ht with h | ⟨h, hz⟩
    · exact Or.inl h
    · exact Or.inr ⟨by rw [hF _ hz]; exact h, hZ _ hz⟩
  · intro t ht
    obtain ⟨a1, a2, a3⟩ := h12 t ht
    exact ⟨a1, a2.fr hF hD hZ, a3⟩
