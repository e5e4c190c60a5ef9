/-! ===== the reference reads a text ===== -/
theorem zlet_b {α β : Type} (e : α) (g : α → β) : zlet e g = g e := rfl
def rS (D : zDa) (i l : Nat) (b : Int) : zDa := zwr (zwr (zwr D 91 15 (i : Int)) 91 16 (l : Int)) 91 17 b
theorem rS_15 {D : zDa} {i l : Nat} {b : Int} : rS D i l b 91 15 = (i : Int) := by unfold rS; rw [zwr_off (by omega), zwr_off (by omega), zwr_eq]
theorem rS_16 {D : zDa} {i l : Nat} {b : Int} : rS D i l b 91 16 = (l : Int) := by unfold rS; rw [zwr_off (by omega), zwr_eq]
theorem rS_17 {D : zDa} {i l : Nat} {b : Int} : rS D i l b 91 17 = b := zwr_eq
theorem rS_f {D : zDa} {i l : Nat} {b : Int} {k : Nat} (h : k ≠ 15) (h2 : k ≠ 16) (h3 : k ≠ 17) : rS D i l b 91 k = D 91 k := by unfold rS; rw [zwr_off (by omega), zwr_off (by omega), zwr_off (by omega)]
theorem rS_r {D : zDa} {i l : Nat} {b : Int} {a : Nat} (h : a ≠ 91) : rS D i l b a = D a := by unfold rS; rw [zwr_row h, zwr_row h, zwr_row h]
theorem rS_w15 {D : zDa} {i l j : Nat} {b x : Int} (h : x = (j : Int)) : zwr (rS D i l b) 91 15 x = rS D j l b := by
  subst h
  funext a k
  unfold rS zwr
  by_cases ha : a = 91
  · by_cases h1 : k = 15
    · simp [ha, h1]
    · by_cases h2 : k = 16
      · simp [ha, h2]
      · by_cases h3 : k = 17
        · simp [ha, h3]
        · simp [ha, h1, h2, h3]
  · simp [ha]
theorem rS_w16 {D : zDa} {i l m : Nat} {b x : Int} (h : x = (m : Int)) : zwr (rS D i l b) 91 16 x = rS D i m b := by
  subst h
  funext a k
  unfold rS zwr
  by_cases ha : a = 91
  · by_cases h2 : k = 16
    · simp [ha, h2]
    · by_cases h3 : k = 17
      · simp [ha, h3]
      · simp [ha, h2, h3]
  · simp [ha]
theorem rS_w17 {D : zDa} {i l : Nat} {b x : Int} : zwr (rS D i l b) 91 17 x = rS D i l x := by
  funext a k
  unfold rS zwr
  by_cases ha : a = 91
  · by_cases h3 : k = 17
    · simp [ha, h3]
    · simp [ha, h3]
  · simp [ha]
/-- tokens as the reference has them -/
def rG (D : zDa) (c w p : Nat → Int) (n : Nat) : Prop := (∀ i, i ≤ n → D 99 i = c i ∧ D 100 i = w i ∧ D 101 i = p i) ∧ n ≤ 400 ∧ (∀ i, n ≤ i → c i = 0) ∧ (∀ i, 0 ≤ p i) ∧ ∀ i, 0 ≤ w i
section RD
variable {F : zFs} {D : zDa} {c w p : Nat → Int} {n : Nat}
theorem rFine_t {i l : Nat} : fX12_fine F (rS D i l (-1)) = some (1, rS D i l (-1)) := by unfold fX12_fine; rw [rS_17, if_pos rfl]
theorem rFine_f {i l : Nat} {b : Int} (hb : 0 ≤ b) : fX12_fine F (rS D i l b) = some (0, rS D i l b) := by unfold fX12_fine; rw [rS_17, if_neg (by omega)]
theorem rFault_f {i l : Nat} {b : Int} (hb : 0 ≤ b) : fX12_faults F (rS D i l b) = some (rS D i l b) := by
  unfold fX12_faults; rw [rFine_f hb, Option.bind_some]; dsimp only; rw [if_pos rfl]
theorem rFault_t (hG : rG D c w p n) {i l : Nat} (hi : i ≤ n) : fX12_faults F (rS D i l (-1)) = some (rS D i l (p i)) := by
  have h4 := hG.2.1
  unfold fX12_faults
  rw [rFine_t, Option.bind_some]
  dsimp only
  rw [if_neg (by omega), rS_15, if_pos (by omega), show ((i : Int)).toNat = i by omega, rS_r (by omega), (hG.1 i hi).2.2]
  dsimp only [zlet]
  rw [rS_w17]
theorem rTk_f {i l : Nat} {b x : Int} (hb : 0 ≤ b) : fX12_takes0 F x (rS D i l b) = some (0, rS D i l b) := by
  unfold fX12_takes0
  rw [rFine_f hb, Option.bind_some]
  dsimp only
  rw [if_pos rfl]
  rfl
theorem rTk_y (hG : rG D c w p n) {i l : Nat} {x : Int} (hi : i ≤ n) (h : c i = x) : fX12_takes0 F x (rS D i l (-1)) = some (1, rS D (i + 1) l (-1)) := by
  have h4 := hG.2.1
  unfold fX12_takes0
  rw [rFine_t, Option.bind_some]
  dsimp only
  rw [if_neg (by omega), rS_15, if_pos (by omega), show ((i : Int)).toNat = i by omega, rS_r (by omega), (hG.1 i hi).1, if_pos h]
  unfold fX12_takes0_25
  rw [if_neg (by omega), rS_15, if_pos (by omega)]
  dsimp only [zlet]
  rw [if_pos (by omega), rS_w15 (j := i + 1) (by omega)]
theorem rTk_n (hG : rG D c w p n) {i l : Nat} {x : Int} (hi : i ≤ n) (h : ¬ c i = x) : fX12_takes0 F x (rS D i l (-1)) = some (0, rS D i l (-1)) := by
  have h4 := hG.2.1
  unfold fX12_takes0
  rw [rFine_t, Option.bind_some]
  dsimp only
  rw [if_neg (by omega), rS_15, if_pos (by omega), show ((i : Int)).toNat = i by omega, rS_r (by omega), (hG.1 i hi).1, if_neg h]
  rfl
theorem rMust_f {i l : Nat} {b x : Int} (hb : 0 ≤ b) : fX12_must F x (rS D i l b) = some (rS D i l b) := by
  unfold fX12_must
  rw [rTk_f hb, Option.bind_some]
  dsimp only
  rw [if_pos rfl, rFault_f hb]; rfl
theorem rMust_y (hG : rG D c w p n) {i l : Nat} {x : Int} (hi : i ≤ n) (h : c i = x) : fX12_must F x (rS D i l (-1)) = some (rS D (i + 1) l (-1)) := by
  unfold fX12_must
  rw [rTk_y hG hi h, Option.bind_some]
  dsimp only
  rw [if_neg (by omega)]
theorem rMust_n (hG : rG D c w p n) {i l : Nat} {x : Int} (hi : i ≤ n) (h : ¬ c i = x) : fX12_must F x (rS D i l (-1)) = some (rS D i l (p i)) := by
  unfold fX12_must
  rw [rTk_n hG hi h, Option.bind_some]
  dsimp only
  rw [if_pos rfl, rFault_t hG hi]; rfl
/-- how a reading ends -/
def rOut {α : Type} (D : zDa) (p : Nat → Int) (n : Nat) (x : Nat ⊕ (α × Nat × Nat)) (i : Nat) (y : Option zDa) : Prop := match x with
  | .inr (_, j, l') => i < j ∧ j ≤ n ∧ l' ≤ 50 ∧ y = some (rS D j l' (-1))
  | .inl e => e ≤ n ∧ ∃ i' l', y = some (rS D i' l' (p e))
def rOk (F : zFs) (D : zDa) (p : Nat → Int) (n : Nat) (t m : Nat) (deep : Int) (q : kP kSum) : Prop :=
  (∀ i l, i ≤ n → l ≤ 50 → ∀ N, m ≤ N → rOut D p n (q i l) i (R2 F N t deep 0 (rS D i l (-1)))) ∧ ∀ i l b, 0 ≤ b → ∀ N, m ≤ N → R2 F N t deep 0 (rS D i l b) = some (rS D i l b)
theorem R2_0 (N : Nat) (a b : Int) (D : zDa) : R2 F (N + 1) 0 a b D = bX12_readSum F (R2 F N) a D := rfl
theorem R2_1 (N : Nat) (a b : Int) (D : zDa) : R2 F (N + 1) 1 a b D = bX12_readTerm F (R2 F N) a D := rfl
theorem R2_2 (N : Nat) (a b : Int) (D : zDa) : R2 F (N + 1) 2 a b D = bX12_readPart F (R2 F N) a D := rfl
/-- a chain's loop, by its step -/
theorem rChain (hG : rG D c w p n) {o1 o2 : Int} (ho : o1 ≠ 0 ∧ o2 ≠ 0) {q : kP kSum} {t m : Nat} {deep : Int} (hq : rOk F D p n t m deep q) {N : Nat} (hN : m ≤ N) {f : (zDa → Option zDa) → zDa → Option zDa}
    (hst : ∀ (k : zDa → Option zDa) (i l : Nat), i ≤ n → (c i = o1 ∨ c i = o2) → f k (rS D i l (-1)) = (R2 F N t deep 0 (rS D (i + 1) l (-1))).bind (fun D' => k D'))
    (hen : ∀ (k : zDa → Option zDa) (i l : Nat), i ≤ n → ¬ (c i = o1 ∨ c i = o2) → f k (rS D i l (-1)) = some (rS D i l (-1)))
    (hbd : ∀ (k : zDa → Option zDa) (i l : Nat) (b : Int), 0 ≤ b → f k (rS D i l b) = some (rS D i l b)) :
    ∀ (m' : Nat) (v : kSum) (i0 i l : Nat), n < i + m' → i0 < i → i ≤ n → l ≤ 50 → ∀ M, m' < M → rOut D p n (kChain c o1 o2 q m' v i l) i0 (zfix (fun _ => none) f M (rS D i l (-1))) := by
  intro m'
  induction m' with
  | zero => intro v i0 i l h1 h2 h3; omega
  | succ m' ih =>
    intro v i0 i l h1 h0 h2 hl M hM
    obtain ⟨M', rfl⟩ : ∃ M', M = M' + 1 := ⟨M - 1, by omega⟩
    rw [zfix_succ]
    unfold kChain
    by_cases hc : c i = o1 ∨ c i = o2
    · rw [if_pos hc, hst _ i l h2 hc]
      have hin : i < n := by
        by_cases e : i < n
        · exact e
        · have := hG.2.2.1 i (by omega); omega
      have hr := hq.1 (i + 1) l (by omega) hl N hN
      cases hqi : q (i + 1) l with
      | inl e =>
        rw [hqi] at hr
        obtain ⟨he, i', l', e1⟩ := hr
        rw [e1, Option.bind_some]
        obtain ⟨M'', rfl⟩ : ∃ M'', M' = M'' + 1 := ⟨M' - 1, by omega⟩
        rw [zfix_succ, hbd _ _ _ _ (hG.2.2.2.1 e)]
        exact ⟨he, i', l', rfl⟩
      | inr s =>
        obtain ⟨s1, j, l1⟩ := s
        rw [hqi] at hr
        obtain ⟨a1, a2, a3, a4⟩ := hr
        rw [a4, Option.bind_some]
        exact ih (kBin (c i) v s1) i0 j l1 (by omega) (by omega) a2 a3 M' (by omega)
    · rw [if_neg hc, hen _ i l h2 hc]
      exact ⟨h0, h2, hl, rfl⟩
theorem rTerm (hG : rG D c w p n) {q : kP kSum} {m : Nat} {deep : Int} (hq : rOk F D p n 2 m deep q) : rOk F D p n 1 (m + 1) deep (kTerm c q) := by
  have hbd : ∀ (N : Nat), m ≤ N → ∀ (k : zDa → Option zDa) (i l : Nat) (b : Int), 0 ≤ b → fX12_readTerm_5 F (R2 F N) deep k (rS D i l b) = some (rS D i l b) := by
    intro N hN k i l b hb
    simp only [fX12_readTerm_5, eSign 42 (by omega), eSign 47 (by omega), Option.bind_some, rTk_f hb]
    rfl
  refine ⟨fun i l hi hl N hN => ?_, fun i l b hb N hN => ?_⟩
  · obtain ⟨N', rfl⟩ : ∃ N', N = N' + 1 := ⟨N - 1, by omega⟩
    rw [R2_1]
    unfold bX12_readTerm kTerm
    have hr := hq.1 i l hi hl N' (by omega)
    cases hqi : q i l with
    | inl e =>
      rw [hqi] at hr
      obtain ⟨he, i', l', e1⟩ := hr
      rw [e1, Option.bind_some, show zfu = 999999 + 1 from rfl, zfix_succ, hbd N' (by omega) _ _ _ _ (hG.2.2.2.1 e)]
      exact ⟨he, i', l', rfl⟩
    | inr s =>
      obtain ⟨s1, j, l1⟩ := s
      rw [hqi] at hr
      obtain ⟨a1, a2, a3, a4⟩ := hr
      rw [a4, Option.bind_some]
      refine rChain hG (o1 := 142) (o2 := 147) (by omega) hq (N := N') (by omega) (fun k i l hi hc => ?_) (fun k i l hi hc => ?_) (hbd N' (by omega)) 500 s1 i j l1 (by have := hG.2.1; omega) a1 a2 a3 zfu (zfu_gt (by omega))
      · rcases hc with hc | hc
        · simp only [fX12_readTerm_5, fX12_readTerm_29, eSign 42 (by omega), Option.bind_some, Int.reduceAdd, rTk_y hG hi hc]
          rfl
        · have hn : ¬ c i = 142 := by omega
          simp only [fX12_readTerm_5, fX12_readTerm_29, eSign 42 (by omega), eSign 47 (by omega), Option.bind_some, Int.reduceAdd, rTk_n hG hi hn, rTk_y hG hi hc]
          rfl
      · have h1 : ¬ c i = 142 := fun h => hc (Or.inl h)
        have h2 : ¬ c i = 147 := fun h => hc (Or.inr h)
        simp only [fX12_readTerm_5, eSign 42 (by omega), eSign 47 (by omega), Option.bind_some, Int.reduceAdd, rTk_n hG hi h1, rTk_n hG hi h2]
        rfl
  · obtain ⟨N', rfl⟩ : ∃ N', N = N' + 1 := ⟨N - 1, by omega⟩
    rw [R2_1]
    unfold bX12_readTerm
    rw [hq.2 i l b hb N' (by omega), Option.bind_some, show zfu = 999999 + 1 from rfl, zfix_succ, hbd N' (by omega) _ _ _ _ hb]
theorem rSum (hG : rG D c w p n) {q : kP kSum} {m : Nat} {deep : Int} (hq0 : rOk F D p n 2 m deep q) : rOk F D p n 0 (m + 2) deep (kSumP c q) := by
  have hq := rTerm hG hq0
  have hbd : ∀ (N : Nat), m + 1 ≤ N → ∀ (k : zDa → Option zDa) (i l : Nat) (b : Int), 0 ≤ b → fX12_readSum_5 F (R2 F N) deep k (rS D i l b) = some (rS D i l b) := by
    intro N hN k i l b hb
    simp only [fX12_readSum_5, eSign 43 (by omega), eSign 45 (by omega), Option.bind_some, rTk_f hb]
    rfl
  refine ⟨fun i l hi hl N hN => ?_, fun i l b hb N hN => ?_⟩
  · obtain ⟨N', rfl⟩ : ∃ N', N = N' + 1 := ⟨N - 1, by omega⟩
    rw [R2_0]
    unfold bX12_readSum kSumP
    have hr := hq.1 i l hi hl N' (by omega)
    cases hqi : kTerm c q i l with
    | inl e =>
      rw [hqi] at hr
      obtain ⟨he, i', l', e1⟩ := hr
      rw [e1, Option.bind_some, show zfu = 999999 + 1 from rfl, zfix_succ, hbd N' (by omega) _ _ _ _ (hG.2.2.2.1 e)]
      exact ⟨he, i', l', rfl⟩
    | inr s =>
      obtain ⟨s1, j, l1⟩ := s
      rw [hqi] at hr
      obtain ⟨a1, a2, a3, a4⟩ := hr
      rw [a4, Option.bind_some]
      refine rChain hG (o1 := 143) (o2 := 145) (by omega) hq (N := N') (by omega) (fun k i l hi hc => ?_) (fun k i l hi hc => ?_) (hbd N' (by omega)) 500 s1 i j l1 (by have := hG.2.1; omega) a1 a2 a3 zfu (zfu_gt (by omega))
      · rcases hc with hc | hc
        · simp only [fX12_readSum_5, fX12_readSum_29, eSign 43 (by omega), Option.bind_some, Int.reduceAdd, rTk_y hG hi hc]
          rfl
        · have hn : ¬ c i = 143 := by omega
          simp only [fX12_readSum_5, fX12_readSum_29, eSign 43 (by omega), eSign 45 (by omega), Option.bind_some, Int.reduceAdd, rTk_n hG hi hn, rTk_y hG hi hc]
          rfl
      · have h1 : ¬ c i = 143 := fun h => hc (Or.inl h)
        have h2 : ¬ c i = 145 := fun h => hc (Or.inr h)
        simp only [fX12_readSum_5, eSign 43 (by omega), eSign 45 (by omega), Option.bind_some, Int.reduceAdd, rTk_n hG hi h1, rTk_n hG hi h2]
        rfl
  · obtain ⟨N', rfl⟩ : ∃ N', N = N' + 1 := ⟨N - 1, by omega⟩
    rw [R2_0]
    unfold bX12_readSum
    rw [hq.2 i l b hb N' (by omega), Option.bind_some, show zfu = 999999 + 1 from rfl, zfix_succ, hbd N' (by omega) _ _ _ _ hb]
theorem rLeaf13f (hG : rG D c w p n) {i : Nat} {b : Int} (hb : 0 ≤ b) {l : Nat} (hl : l ≤ 100) : fX12_leaf_13 F (rS D i l b) = some (rS D i (l + 1) b) := by
  unfold fX12_leaf_13
  rw [rS_16, if_pos (by omega), zlet_b, rS_w16 (m := l + 1) (by omega), rFine_f hb, Option.bind_some]
  exact if_pos rfl
theorem rLeaf13t (hG : rG D c w p n) {i : Nat} (hi : i < n) {l : Nat} (hl : l ≤ 100) : fX12_leaf_13 F (rS D i l (-1)) = some (rS D (i + 1) (l + 1) (-1)) := by
  have h4 := hG.2.1
  unfold fX12_leaf_13
  rw [rS_16, if_pos (by omega), zlet_b, rS_w16 (m := l + 1) (by omega), rFine_t, Option.bind_some]
  refine (if_neg (by omega)).trans ?_
  refine (if_pos (by rw [rS_15]; omega)).trans ?_
  rw [zlet_b, rS_15, rS_w15 (j := i + 1) (by omega)]
theorem rLeaf (hG : rG D c w p n) {i l : Nat} (hi : i < n) (hl : l ≤ 50) : fX12_leaf F (rS D i l (-1)) = some (if l = 50 then rS D i 51 (p i) else rS D (i + 1) (l + 1) (-1)) := by
  unfold fX12_leaf
  rw [rS_16]
  by_cases h50 : l = 50
  · rw [if_pos (by omega), if_pos h50, rFault_t hG (by omega), Option.bind_some, rLeaf13f hG (hG.2.2.2.1 i) (by omega), h50]
  · rw [if_neg (by omega), if_neg h50, rLeaf13t hG hi (by omega)]
theorem rPart (hG : rG D c w p n) {d : Nat} (hd : d ≤ 8) {dp : Option (kP kSum)} (hdp : dp = none ↔ d = 0) {m : Nat} (hq : ∀ q, dp = some q → rOk F D p n 0 m (8 - (d : Int) + 1) q) : rOk F D p n 2 (m + 1) (8 - (d : Int)) (kPart c w dp) := by
  have h4 := hG.2.1
  refine ⟨fun i l hi hl N hN => ?_, fun i l b hb N hN => ?_⟩
  · obtain ⟨N', rfl⟩ : ∃ N', N = N' + 1 := ⟨N - 1, by omega⟩
    have body : R2 F (N' + 1) 2 (8 - (d : Int)) 0 (rS D i l (-1)) = if c i = 191 then (if 8 - (d : Int) = 8 then (fX12_faults F (rS D i l (-1))).bind (fun D_7 => fX12_readPart_37 F (R2 F N') (8 - (d : Int)) D_7) else fX12_readPart_37 F (R2 F N') (8 - (d : Int)) (rS D i l (-1))) else if c i = 50 then (if 1000 < w i then fX12_readPart_95 F (R2 F N') (c i) (rS D i l (-1)) else fX12_readPart_107 F (R2 F N') (rS D i l (-1))) else fX12_readPart_95 F (R2 F N') (c i) (rS D i l (-1)) := by
      rw [R2_2]
      unfold bX12_readPart
      rw [rFine_t, Option.bind_some]
      simp only [rS_15, eSign 91 (by omega), Option.bind_some, zlet, rS_r (show (99 : Nat) ≠ 91 by omega), rS_r (show (100 : Nat) ≠ 91 by omega), Int.reduceAdd, Int.toNat_natCast, (hG.1 i hi).1, (hG.1 i hi).2.1]
      have hi1 : (0 : Int) ≤ (i : Int) := by omega
      have hi2 : (i : Int) < 401 := by omega
      rw [if_neg (by omega)]
      simp only [hi1, hi2, and_self, if_true]
    rw [body]
    have flt : rOut (α := kSum) D p n (.inl i) i (some (rS D i l (p i))) := ⟨hi, i, l, rfl⟩
    have h114 : fX12_readPart_114 F (R2 F N') (rS D i l (-1)) = some (rS D i l (p i)) := by unfold fX12_readPart_114; rw [rFault_t hG hi]; rfl
    unfold kPart
    by_cases hc : c i = 191
    · rw [if_pos hc, if_pos hc]
      have hin : i < n := by
        by_cases e : i < n
        · exact e
        · have := hG.2.2.1 i (by omega); omega
      cases hdp' : dp with
      | none =>
        have hd0 := hdp.mp hdp'
        rw [if_pos (by omega), rFault_t hG hi, Option.bind_some]
        unfold fX12_readPart_37
        rw [rFine_f (hG.2.2.2.1 i), Option.bind_some]
        dsimp only
        rw [if_pos rfl]
        exact flt
      | some q =>
        have hd0 : ¬ d = 0 := fun h => by rw [hdp.mpr h] at hdp'; cases hdp'
        rw [if_neg (by omega)]
        unfold fX12_readPart_37
        rw [rFine_t, Option.bind_some]
        dsimp only
        rw [if_neg (by omega), rS_15, if_pos (by omega)]
        dsimp only [zlet]
        rw [if_pos (by omega), rS_w15 (j := i + 1) (by omega)]
        have hr := (hq q hdp').1 (i + 1) l (by omega) hl N' (by omega)
        cases hqi : q (i + 1) l with
        | inl e =>
          rw [hqi] at hr
          obtain ⟨he, i', l', e1⟩ := hr
          rw [e1, Option.bind_some, eSign 93 (by omega), Option.bind_some]
          dsimp only
          rw [rMust_f (hG.2.2.2.1 e)]
          exact ⟨he, i', l', rfl⟩
        | inr s =>
          obtain ⟨s1, j, l1⟩ := s
          rw [hqi] at hr
          obtain ⟨a1, a2, a3, a4⟩ := hr
          rw [a4, Option.bind_some, eSign 93 (by omega), Option.bind_some]
          dsimp only
          by_cases h193 : c j = 193
          · rw [if_pos h193, rMust_y hG a2 (by omega)]
            have hjn : j < n := by
              by_cases e : j < n
              · exact e
              · have := hG.2.2.1 j (by omega); omega
            exact ⟨by omega, by omega, a3, rfl⟩
          · rw [if_neg h193, rMust_n hG a2 (by omega)]
            exact ⟨a2, j, l1, rfl⟩
    · rw [if_neg hc, if_neg hc]
      have leafr : i < n → ∀ s : kSum, rOut D p n (if l = 50 then (.inl i : Nat ⊕ (kSum × Nat × Nat)) else .inr (s, i + 1, l + 1)) i (fX12_readPart_107 F (R2 F N') (rS D i l (-1))) := by
        intro hin s
        unfold fX12_readPart_107
        rw [rLeaf hG hin hl, Option.bind_some]
        by_cases h50 : l = 50
        · rw [if_pos h50, if_pos h50]; exact ⟨hi, i, 51, rfl⟩
        · rw [if_neg h50, if_neg h50]; exact ⟨by omega, by omega, by omega, rfl⟩
      by_cases h50 : c i = 50
      · have hin : i < n := by
          by_cases e : i < n
          · exact e
          · have := hG.2.2.1 i (by omega); omega
        rw [if_pos h50]
        by_cases hw : 1000 < w i
        · rw [if_pos hw, if_neg (by omega), if_neg (by omega)]
          unfold fX12_readPart_95
          rw [if_neg (by omega), if_pos (by omega), h114]
          exact flt
        · rw [if_neg hw, if_pos ⟨h50, hG.2.2.2.2 i, by omega⟩]
          exact leafr hin _
      · rw [if_neg h50, if_neg (by omega)]
        unfold fX12_readPart_95
        by_cases h8 : 8 ≤ c i ∧ c i ≤ 14
        · have hin : i < n := by
            by_cases e : i < n
            · exact e
            · have := hG.2.2.1 i (by omega); omega
          rw [if_pos h8, if_neg (c := c i < 8) (by omega), if_neg (c := 14 < c i) (by omega)]
          exact leafr hin _
        · rw [if_neg h8]
          by_cases h9 : c i < 8
          · rw [if_pos h9, h114]; exact flt
          · rw [if_neg h9, if_pos (by omega), h114]; exact flt
  · obtain ⟨N', rfl⟩ : ∃ N', N = N' + 1 := ⟨N - 1, by omega⟩
    rw [R2_2]
    unfold bX12_readPart
    rw [rFine_f hb, Option.bind_some]
    dsimp only
    rw [if_pos rfl]
theorem rSumD (hG : rG D c w p n) (d : Nat) (hd : d ≤ 8) : rOk F D p n 0 (3 * d + 3) (8 - (d : Int)) (kSumD c w d) := by
  induction d with
  | zero =>
    unfold kSumD
    exact rSum hG (rPart (m := 0) hG (by omega) (by simp) (fun q h => by cases h))
  | succ d ih =>
    unfold kSumD
    have := rSum hG (rPart (F := F) (m := 3 * d + 3) (d := d + 1) hG hd (dp := some (kSumD c w d)) (by simp) (fun q h => by
      cases h
      have := ih (by omega)
      rw [show (8 - ((d + 1 : Nat) : Int) + 1) = 8 - (d : Int) by omega]
      exact this))
    exact ⟨fun i l hi hl N hN => this.1 i l hi hl N (by omega), fun i l b hb N hN => this.2 i l b hb N (by omega)⟩
end RD
