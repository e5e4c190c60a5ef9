/-! ===== what a text means: denotations out of the reference's tokens ===== -/
abbrev kSum : Type := (Nat → Int) → Option Int
abbrev kTst : Type := (Nat → Int) → Option Bool
/-- from a token and a number of parts: the token that can't go on, or what it means, the next token, the parts -/
abbrev kP (α : Type) : Type := Nat → Nat → Nat ⊕ (α × Nat × Nat)
def kBnd (z : Int) : Option Int := if -1000000000 ≤ z ∧ z ≤ 1000000000 then some z else none
def kOp (op : Int) (x y : Int) : Option Int :=
  if op = 143 then kBnd (x + y) else if op = 145 then kBnd (x - y) else if op = 142 then kBnd (x * y) else if y = 0 then none else kBnd (Int.tdiv x y)
def kBin (op : Int) (a b : kSum) : kSum := fun A => (a A).bind (fun x => (b A).bind (fun y => kOp op x y))
def kCmp (op : Int) (a b : kSum) : kTst := fun A => (a A).bind (fun x => (b A).bind (fun y => some (if op = 160 then decide (x < y) else if op = 162 then decide (y < x) else decide (x = y))))
def kAnd (a b : kTst) : kTst := fun A => (a A).bind (fun x => if x then b A else some false)
def kOr (a b : kTst) : kTst := fun A => (a A).bind (fun x => if x then some true else b A)
def kNot (n : Nat) (a : kTst) : kTst := fun A => (a A).map (fun x => if n % 2 = 1 then !x else x)
section KP
variable (c w : Nat → Int)
def kPart (deeper : Option (kP kSum)) : kP kSum := fun i l =>
  if c i = 191 then
    match deeper with
    | none => .inl i
    | some p => match p (i + 1) l with
      | .inl e => .inl e
      | .inr (s, j, l') => if c j = 193 then .inr (s, j + 1, l') else .inl j
  else if c i = 50 ∧ 0 ≤ w i ∧ w i ≤ 1000 then (if l = 50 then .inl i else .inr (fun _ => some (w i), i + 1, l + 1))
  else if 8 ≤ c i ∧ c i ≤ 14 then (if l = 50 then .inl i else .inr (fun A => some (A (c i - 8).toNat), i + 1, l + 1))
  else .inl i
/-- an operand behind each of two signs, as often as there are such -/
def kChain (o1 o2 : Int) (p : kP kSum) (n : Nat) (v : kSum) : kP kSum := match n with
  | 0 => fun i l => .inr (v, i, l)
  | n + 1 => fun i l =>
    if c i = o1 ∨ c i = o2 then
      match p (i + 1) l with
      | .inl e => .inl e
      | .inr (s, j, l') => kChain o1 o2 p n (kBin (c i) v s) j l'
    else .inr (v, i, l)
def kTerm (part : kP kSum) : kP kSum := fun i l => match part i l with
  | .inl e => .inl e
  | .inr (s, j, l') => kChain c 142 147 part 500 s j l'
def kSumP (part : kP kSum) : kP kSum := fun i l => match kTerm c part i l with
  | .inl e => .inl e
  | .inr (s, j, l') => kChain c 143 145 (kTerm c part) 500 s j l'
def kSumD (d : Nat) : kP kSum := match d with
  | 0 => kSumP c (kPart c w none)
  | d + 1 => kSumP c (kPart c w (some (kSumD d)))
def kNots (n i : Nat) : Nat := match n with
  | 0 => 0
  | n + 1 => if c i = 7 then kNots n (i + 1) + 1 else 0
def kPos (sum : kP kSum) (deeper : Option (kP kTst)) : kP kTst := fun i l =>
  if c i = 140 then
    match deeper with
    | none => .inl i
    | some p => match p (i + 1) l with
      | .inl e => .inl e
      | .inr (t, j, l') => if c j = 141 then .inr (t, j + 1, l') else .inl j
  else match sum i l with
    | .inl e => .inl e
    | .inr (a, j, l') =>
      if c j = 160 ∨ c j = 162 ∨ c j = 161 then
        match sum (j + 1) l' with
        | .inl e => .inl e
        | .inr (b, k, l2) => .inr (kCmp (c j) a b, k, l2)
      else .inl j
def kPlain (sum : kP kSum) (deeper : Option (kP kTst)) : kP kTst := fun i l =>
  match kPos c sum deeper (i + kNots c 500 i) l with
  | .inl e => .inl e
  | .inr (t, j, l') => .inr (kNot (kNots c 500 i) t, j, l')
def kTChain (o : Int) (f : kTst → kTst → kTst) (p : kP kTst) (n : Nat) (v : kTst) : kP kTst := match n with
  | 0 => fun i l => .inr (v, i, l)
  | n + 1 => fun i l =>
    if c i = o then
      match p (i + 1) l with
      | .inl e => .inl e
      | .inr (s, j, l') => kTChain o f p n (f v s) j l'
    else .inr (v, i, l)
def kBoth (plain : kP kTst) : kP kTst := fun i l => match plain i l with
  | .inl e => .inl e
  | .inr (s, j, l') => kTChain c 6 kAnd plain 500 s j l'
def kTestP (plain : kP kTst) : kP kTst := fun i l => match kBoth c plain i l with
  | .inl e => .inl e
  | .inr (s, j, l') => kTChain c 5 kOr (kBoth c plain) 500 s j l'
def kTestD (d : Nat) : kP kTst := match d with
  | 0 => kTestP c (kPlain c (kSumD c w 0) none)
  | d + 1 => kTestP c (kPlain c (kSumD c w (d + 1)) (some (kTestD d)))
/-- a clause: its head and what it tells where it holds -/
def kClause : kP (Int × kSum) := fun i l =>
  if 1 ≤ c i ∧ c i ≤ 3 then
    match kSumD c w 8 (i + 1) l with
    | .inl e => .inl e
    | .inr (s, j, l') =>
      if c j = 4 then
        match kTestD c w 8 (j + 1) l' with
        | .inl e => .inl e
        | .inr (t, k, l2) => .inr ((c i, fun A => (s A).bind (fun x => (t A).bind (fun b => if b then some x else none))), k, l2)
      else .inr ((c i, s), j, l')
  else .inl i
/-- the clauses behind n others; n of them at most 12 -/
def kText (m : Nat) (n : Nat) (i l : Nat) : Nat ⊕ (List (Int × kSum) × Nat) := match m with
  | 0 => .inl i
  | m + 1 =>
    if n = 12 then .inl i else
    match kClause c w i l with
    | .inl e => .inl e
    | .inr (cl, j, l') =>
      if c j = 159 then
        match kText m (n + 1) (j + 1) l' with
        | .inl e => .inl e
        | .inr (r, k) => .inr (cl :: r, k)
      else .inr ([cl], j)
/-- a whole text of so many tokens: the fault's token, or the clauses -/
def kRead (size : Nat) : Nat ⊕ List (Int × kSum) := match kText c w 13 0 0 0 with
  | .inl e => .inl e
  | .inr (r, k) => if k = size then .inr r else .inl k
end KP
/-! ===== the state: the reference's row of what it keeps ===== -/
def kCode (K : Nat → Int) (t : Nat) : Nat → Int := fun i => if (i : Int) < K (395 + t) then K (401 + 400 * t + i) else 0
def kVal (K : Nat → Int) (t : Nat) : Nat → Int := fun i => K (2801 + 400 * t + i)
def kCls (K : Nat → Int) (t : Nat) : List (Int × kSum) := match kRead (kCode K t) (kVal K t) (K (395 + t)).toNat with
  | .inl _ => []
  | .inr r => r
def kClamp (low high z : Int) : Int := if z < low then low else if high < z then high else z
/-- what the last clause with that head that holds tells -/
def kLast (head low high : Int) (A : Nat → Int) (v : Int) (cs : List (Int × kSum)) : Int := match cs with
  | [] => v
  | q :: r => kLast head low high A (if q.1 = head then (match q.2 A with | some z => kClamp low high z | none => v) else v) r
def kTold (K : Nat → Int) (head low high without : Int) (A : Nat → Int) : Int :=
  if K 394 = -1 then without else kLast head low high A without (kCls K (K 394).toNat)
def kAsk (K : Nat → Int) (q : Nat) (level helped day : Int) : Nat → Int := fun k =>
  if k = 0 then K (5 * q) else if k = 1 then K (5 * q + 1) else if k = 2 then level else if k = 3 then helped else if k = 4 then K (5 * q + 3) else if k = 5 then day else if k = 6 then (q : Int) else 0
def kTakes (K : Nat → Int) (q : Nat) (level helped day : Int) : Int := kTold K 1 1 20 4 (kAsk K q level helped day)
def kKeeps (K : Nat → Int) (q : Nat) (level : Int) : Int := kTold K 2 1 30 10 (kAsk K q level 0 0)
def kChance (K : Nat → Int) (level : Int) : Int := kTold K 3 0 100 (50 * level) (fun k => if k = 2 then level else 0)
theorem kClamp_in {low high z : Int} (h : low ≤ high) : low ≤ kClamp low high z ∧ kClamp low high z ≤ high := by
  unfold kClamp; split
  · omega
  · split <;> omega
theorem kLast_in {head low high : Int} {A : Nat → Int} (h : low ≤ high) (cs : List (Int × kSum)) : ∀ v, low ≤ v ∧ v ≤ high → low ≤ kLast head low high A v cs ∧ kLast head low high A v cs ≤ high := by
  induction cs with
  | nil => intro v hv; exact hv
  | cons q r ih =>
    intro v hv
    refine ih _ ?_
    split
    · split
      · exact kClamp_in h
      · exact hv
    · exact hv
theorem kTold_in {K : Nat → Int} {head low high without : Int} {A : Nat → Int} (h : low ≤ without ∧ without ≤ high) : low ≤ kTold K head low high without A ∧ kTold K head low high without A ≤ high := by
  unfold kTold; split
  · exact h
  · exact kLast_in (by omega) _ _ h
theorem kTakes_in (K : Nat → Int) (q : Nat) (l h d : Int) : 1 ≤ kTakes K q l h d ∧ kTakes K q l h d ≤ 20 := kTold_in (by omega)
theorem kKeeps_in (K : Nat → Int) (q : Nat) (l : Int) : 1 ≤ kKeeps K q l ∧ kKeeps K q l ≤ 30 := kTold_in (by omega)
theorem kChance_in {K : Nat → Int} {l : Int} (h : 0 ≤ l ∧ l ≤ 2) : 0 ≤ kChance K l ∧ kChance K l ≤ 100 := kTold_in (by omega)
theorem kTold_congr {K K' : Nat → Int} (h : ∀ i, 393 ≤ i → K' i = K i) (head low high without : Int) (A : Nat → Int) : kTold K' head low high without A = kTold K head low high without A := by
  unfold kTold kCls kCode kVal
  simp only [h 394 (by omega)]
  have e1 : (fun i : Nat => if (i : Int) < K' (395 + (K 394).toNat) then K' (401 + 400 * (K 394).toNat + i) else 0) = (fun i : Nat => if (i : Int) < K (395 + (K 394).toNat) then K (401 + 400 * (K 394).toNat + i) else 0) := by
    funext i; rw [h _ (by omega), h _ (by omega)]
  have e2 : (fun i : Nat => K' (2801 + 400 * (K 394).toNat + i)) = (fun i : Nat => K (2801 + 400 * (K 394).toNat + i)) := by
    funext i; rw [h _ (by omega)]
  rw [e1, e2, h (395 + (K 394).toNat) (by omega)]
/-- the state's own bounds -/
def kOk (K : Nat → Int) : Prop :=
  (0 ≤ K 390 ∧ K 390 ≤ 20) ∧
  (∀ q : Nat, (q : Int) < K 390 → (0 ≤ K (5 * q) ∧ K (5 * q) ≤ 4) ∧ (1 ≤ K (5 * q + 1) ∧ K (5 * q + 1) ≤ 99) ∧ (0 ≤ K (5 * q + 2) ∧ K (5 * q + 2) ≤ 2) ∧ (0 ≤ K (5 * q + 3) ∧ K (5 * q + 3) ≤ 1) ∧ (0 ≤ K (5 * q + 4) ∧ K (5 * q + 4) ≤ 1)) ∧
  (∀ k : Nat, k < 7 → zTLf k ≤ K (100 + k) ∧ K (100 + k) ≤ zTMf k) ∧
  ((0 ≤ K 391 ∧ K 391 ≤ 120) ∧ ∀ i : Nat, (i : Int) < K 391 → (0 ≤ K (107 + 2 * i) ∧ K (107 + 2 * i) ≤ 19) ∧ (0 ≤ K (108 + 2 * i) ∧ K (108 + 2 * i) < K 390)) ∧
  (∀ f : Nat, f < 3 → 0 ≤ K (347 + f) ∧ K (347 + f) ≤ 99) ∧
  ((0 ≤ K 392 ∧ K 392 ≤ 40) ∧ ∀ y : Nat, (y : Int) < K 392 → 0 ≤ K (350 + y) ∧ K (350 + y) < 2 ^ (K 390).toNat) ∧
  ((0 ≤ K 393 ∧ K 393 ≤ 6) ∧ (-1 ≤ K 394 ∧ K 394 < K 393))
