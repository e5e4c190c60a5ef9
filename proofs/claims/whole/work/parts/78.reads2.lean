section RD2
variable {F : zFs} {D : zDa} {c w p : Nat → Int} {n : Nat}
def rTk (F : zFs) (D : zDa) (p : Nat → Int) (n : Nat) (t m : Nat) (deep : Int) (q : kP kTst) : Prop :=
  (∀ i l, i ≤ n → l ≤ 50 → ∀ N, m ≤ N → rOut D p n (q i l) i (R3 F N t deep 0 (rS D i l (-1)))) ∧ ∀ i l b, 0 ≤ b → ∀ N, m ≤ N → R3 F N t deep 0 (rS D i l b) = some (rS D i l b)
theorem R3_0 (N : Nat) (a b : Int) (D : zDa) : R3 F (N + 1) 0 a b D = bX12_readTest F (R3 F N) a D := rfl
theorem R3_1 (N : Nat) (a b : Int) (D : zDa) : R3 F (N + 1) 1 a b D = bX12_readBoth F (R3 F N) a D := rfl
theorem R3_2 (N : Nat) (a b : Int) (D : zDa) : R3 F (N + 1) 2 a b D = bX12_readPlain F (R3 F N) a D := by
  have h : R3 F (N + 1) = (fun (rec : Nat → Int → Int → zDa → Option zDa) (t : Nat) (a b : Int) (D : zDa) => if t = 0 then bX12_readTest F rec a D else if t = 1 then bX12_readBoth F rec a D else bX12_readPlain F rec a D) (R3 F N) := rfl
  rw [h]
  exact (if_neg (by omega)).trans (if_neg (by omega))
theorem rIn (hG : rG D c w p n) {i : Nat} (h : c i ≠ 0) : i < n := by
  by_cases e : i < n
  · exact e
  · exact absurd (hG.2.2.1 i (by omega)) h
theorem rTChain (hG : rG D c w p n) {o : Int} (ho : o ≠ 0) {g : kTst → kTst → kTst} {q : kP kTst} {t m : Nat} {deep : Int} (hq : rTk F D p n t m deep q) {N : Nat} (hN : m ≤ N) {f : (zDa → Option zDa) → zDa → Option zDa}
    (hst : ∀ (k : zDa → Option zDa) (i l : Nat), i ≤ n → c i = o → f k (rS D i l (-1)) = (R3 F N t deep 0 (rS D (i + 1) l (-1))).bind (fun D' => k D'))
    (hen : ∀ (k : zDa → Option zDa) (i l : Nat), i ≤ n → ¬ c i = o → f k (rS D i l (-1)) = some (rS D i l (-1)))
    (hbd : ∀ (k : zDa → Option zDa) (i l : Nat) (b : Int), 0 ≤ b → f k (rS D i l b) = some (rS D i l b)) :
    ∀ (m' : Nat) (v : kTst) (i0 i l : Nat), n < i + m' → i0 < i → i ≤ n → l ≤ 50 → ∀ M, m' < M → rOut D p n (kTChain c o g q m' v i l) i0 (zfix (fun _ => none) f M (rS D i l (-1))) := by
  intro m'
  induction m' with
  | zero => intro v i0 i l h1 h2 h3; omega
  | succ m' ih =>
    intro v i0 i l h1 h0 h2 hl M hM
    obtain ⟨M', rfl⟩ : ∃ M', M = M' + 1 := ⟨M - 1, by omega⟩
    rw [zfix_succ]
    unfold kTChain
    by_cases hc : c i = o
    · rw [if_pos hc, hst _ i l h2 hc]
      have hin : i < n := rIn hG (by omega)
      have hr := hq.1 (i + 1) l (by omega) hl N hN
      cases hqi : q (i + 1) l with
      | inl e =>
        rw [hqi] at hr
        obtain ⟨he, i', l', e1⟩ := hr
        rw [e1, Option.bind_some]
        obtain ⟨M'', rfl⟩ : ∃ M'', M' = M'' + 1 := ⟨M' - 1, by omega⟩
        rw [zfix_succ, hbd _ _ _ _ (hG.2.2.2.1 e)]
        exact ⟨he, i', l', rfl⟩
      | inr s =>
        obtain ⟨s1, j, l1⟩ := s
        rw [hqi] at hr
        obtain ⟨a1, a2, a3, a4⟩ := hr
        rw [a4, Option.bind_some]
        exact ih (g v s1) i0 j l1 (by omega) (by omega) a2 a3 M' (by omega)
    · rw [if_neg hc, hen _ i l h2 hc]
      exact ⟨h0, h2, hl, rfl⟩
theorem rBoth (hG : rG D c w p n) {q : kP kTst} {m : Nat} {deep : Int} (hq : rTk F D p n 2 m deep q) : rTk F D p n 1 (m + 1) deep (kBoth c q) := by
  have hbd : ∀ (N : Nat), m ≤ N → ∀ (k : zDa → Option zDa) (i l : Nat) (b : Int), 0 ≤ b → fX12_readBoth_5 F (R3 F N) deep k (rS D i l b) = some (rS D i l b) := by
    intro N hN k i l b hb
    unfold fX12_readBoth_5
    rw [rTk_f hb, Option.bind_some]
    exact if_pos rfl
  refine ⟨fun i l hi hl N hN => ?_, fun i l b hb N hN => ?_⟩
  · obtain ⟨N', rfl⟩ : ∃ N', N = N' + 1 := ⟨N - 1, by omega⟩
    rw [R3_1]
    unfold bX12_readBoth kBoth
    have hr := hq.1 i l hi hl N' (by omega)
    cases hqi : q i l with
    | inl e =>
      rw [hqi] at hr
      obtain ⟨he, i', l', e1⟩ := hr
      rw [e1, Option.bind_some, show zfu = 999999 + 1 from rfl, zfix_succ, hbd N' (by omega) _ _ _ _ (hG.2.2.2.1 e)]
      exact ⟨he, i', l', rfl⟩
    | inr s =>
      obtain ⟨s1, j, l1⟩ := s
      rw [hqi] at hr
      obtain ⟨a1, a2, a3, a4⟩ := hr
      rw [a4, Option.bind_some]
      refine rTChain hG (o := 6) (by omega) hq (N := N') (by omega) (fun k i l hi hc => ?_) (fun k i l hi hc => ?_) (hbd N' (by omega)) 500 s1 i j l1 (by have := hG.2.1; omega) a1 a2 a3 zfu (zfu_gt (by omega))
      · unfold fX12_readBoth_5
        rw [rTk_y hG hi hc, Option.bind_some]
        exact if_neg (by omega)
      · unfold fX12_readBoth_5
        rw [rTk_n hG hi hc, Option.bind_some]
        exact if_pos rfl
  · obtain ⟨N', rfl⟩ : ∃ N', N = N' + 1 := ⟨N - 1, by omega⟩
    rw [R3_1]
    unfold bX12_readBoth
    rw [hq.2 i l b hb N' (by omega), Option.bind_some, show zfu = 999999 + 1 from rfl, zfix_succ, hbd N' (by omega) _ _ _ _ hb]
theorem rTest (hG : rG D c w p n) {q : kP kTst} {m : Nat} {deep : Int} (hq0 : rTk F D p n 2 m deep q) : rTk F D p n 0 (m + 2) deep (kTestP c q) := by
  have hq := rBoth hG hq0
  have hbd : ∀ (N : Nat), m + 1 ≤ N → ∀ (k : zDa → Option zDa) (i l : Nat) (b : Int), 0 ≤ b → fX12_readTest_5 F (R3 F N) deep k (rS D i l b) = some (rS D i l b) := by
    intro N hN k i l b hb
    unfold fX12_readTest_5
    rw [rTk_f hb, Option.bind_some]
    exact if_pos rfl
  refine ⟨fun i l hi hl N hN => ?_, fun i l b hb N hN => ?_⟩
  · obtain ⟨N', rfl⟩ : ∃ N', N = N' + 1 := ⟨N - 1, by omega⟩
    rw [R3_0]
    unfold bX12_readTest kTestP
    have hr := hq.1 i l hi hl N' (by omega)
    cases hqi : kBoth c q i l with
    | inl e =>
      rw [hqi] at hr
      obtain ⟨he, i', l', e1⟩ := hr
      rw [e1, Option.bind_some, show zfu = 999999 + 1 from rfl, zfix_succ, hbd N' (by omega) _ _ _ _ (hG.2.2.2.1 e)]
      exact ⟨he, i', l', rfl⟩
    | inr s =>
      obtain ⟨s1, j, l1⟩ := s
      rw [hqi] at hr
      obtain ⟨a1, a2, a3, a4⟩ := hr
      rw [a4, Option.bind_some]
      refine rTChain hG (o := 5) (by omega) hq (N := N') (by omega) (fun k i l hi hc => ?_) (fun k i l hi hc => ?_) (hbd N' (by omega)) 500 s1 i j l1 (by have := hG.2.1; omega) a1 a2 a3 zfu (zfu_gt (by omega))
      · unfold fX12_readTest_5
        rw [rTk_y hG hi hc, Option.bind_some]
        exact if_neg (by omega)
      · unfold fX12_readTest_5
        rw [rTk_n hG hi hc, Option.bind_some]
        exact if_pos rfl
  · obtain ⟨N', rfl⟩ : ∃ N', N = N' + 1 := ⟨N - 1, by omega⟩
    rw [R3_0]
    unfold bX12_readTest
    rw [hq.2 i l b hb N' (by omega), Option.bind_some, show zfu = 999999 + 1 from rfl, zfix_succ, hbd N' (by omega) _ _ _ _ hb]
theorem rN_y (hG : rG D c w p n) {rec : Nat → Int → Int → zDa → Option zDa} {deep : Int} {l i : Nat} (hi : i ≤ n) (h : c i = 7) (k : Int → zDa → Option zDa) : fX12_readPlain_2 F rec deep k 1 (rS D i l (-1)) = k 1 (rS D (i + 1) l (-1)) := by
  unfold fX12_readPlain_2
  rw [if_neg (by omega), rTk_y hG hi h, Option.bind_some]
theorem rN_n (hG : rG D c w p n) {rec : Nat → Int → Int → zDa → Option zDa} {deep : Int} {l i : Nat} (hi : i ≤ n) (h : ¬ c i = 7) (k : Int → zDa → Option zDa) : fX12_readPlain_2 F rec deep k 1 (rS D i l (-1)) = k 0 (rS D i l (-1)) := by
  unfold fX12_readPlain_2
  rw [if_neg (by omega), rTk_n hG hi h, Option.bind_some]
theorem rN_f {rec : Nat → Int → Int → zDa → Option zDa} {deep : Int} {l i : Nat} {b : Int} (hb : 0 ≤ b) (k : Int → zDa → Option zDa) : fX12_readPlain_2 F rec deep k 1 (rS D i l b) = k 0 (rS D i l b) := by
  unfold fX12_readPlain_2
  rw [if_neg (by omega), rTk_f hb, Option.bind_some]
theorem rNots (hG : rG D c w p n) {rec : Nat → Int → Int → zDa → Option zDa} {deep : Int} {l : Nat} : ∀ (m i M : Nat), n < i + m → i ≤ n → m + 1 < M → i + kNots c m i ≤ n ∧ ∃ k, zfix (fun _ _ => none) (fX12_readPlain_2 F rec deep) M 1 (rS D i l (-1)) = fX12_readPlain_2 F rec deep k 0 (rS D (i + kNots c m i) l (-1)) := by
  intro m
  induction m with
  | zero => intro i M h1 h2; omega
  | succ m ih =>
    intro i M h1 h2 hM
    obtain ⟨M', rfl⟩ : ∃ M', M = M' + 1 + 1 := ⟨M - 2, by omega⟩
    unfold kNots
    by_cases h : c i = 7
    · have hin : i < n := rIn hG (by omega)
      rw [if_pos h]
      obtain ⟨a1, k, a2⟩ := ih (i + 1) (M' + 1) (by omega) (by omega) (by omega)
      refine ⟨by omega, k, ?_⟩
      rw [zfix_succ, rN_y hG h2 h, a2, show i + 1 + kNots c m (i + 1) = i + (kNots c m (i + 1) + 1) by omega]
    · rw [if_neg h]
      refine ⟨by omega, zfix (fun _ _ => none) (fX12_readPlain_2 F rec deep) M', ?_⟩
      rw [zfix_succ, rN_n hG h2 h, zfix_succ]
      rfl
theorem rSumF (hG : rG D c w p n) {d : Nat} (hd : d ≤ 8) {i l : Nat} (hi : i ≤ n) (hl : l ≤ 50) : rOut D p n (kSumD c w d i l) i (fX12_readSum F (8 - (d : Int)) (rS D i l (-1))) := (rSumD (F := F) hG d hd).1 i l hi hl 40 (by omega)
theorem rSumB (hG : rG D c w p n) {d : Nat} (hd : d ≤ 8) {i l : Nat} {b : Int} (hb : 0 ≤ b) : fX12_readSum F (8 - (d : Int)) (rS D i l b) = some (rS D i l b) := (rSumD (F := F) hG d hd).2 i l b hb 40 (by omega)
theorem rPlain (hG : rG D c w p n) {d : Nat} (hd : d ≤ 8) {dp : Option (kP kTst)} (hdp : dp = none ↔ d = 0) {m : Nat} (hq : ∀ q, dp = some q → rTk F D p n 0 m (8 - (d : Int) + 1) q) : rTk F D p n 2 (m + 1) (8 - (d : Int)) (kPlain c (kSumD c w d) dp) := by
  have h4 := hG.2.1
  refine ⟨fun i l hi hl N hN => ?_, fun i l b hb N hN => ?_⟩
  · obtain ⟨N', rfl⟩ : ∃ N', N = N' + 1 := ⟨N - 1, by omega⟩
    rw [R3_2]
    unfold bX12_readPlain kPlain
    obtain ⟨hle, k, e⟩ := rNots (F := F) hG (rec := R3 F N') (deep := 8 - (d : Int)) (l := l) 500 i zfu (by omega) hi (zfu_gt (by omega))
    rw [e]
    -- the positive one
    have pos : ∀ x, x ≤ n → rOut D p n (kPos c (kSumD c w d) dp x l) x (fX12_readPlain_2 F (R3 F N') (8 - (d : Int)) k 0 (rS D x l (-1))) := by
      intro x hx
      have body : fX12_readPlain_2 F (R3 F N') (8 - (d : Int)) k 0 (rS D x l (-1)) = if c x = 140 then (if 8 - (d : Int) = 8 then (fX12_faults F (rS D x l (-1))).bind (fun D_7 => fX12_readPlain_53 F (R3 F N') (8 - (d : Int)) D_7) else fX12_readPlain_53 F (R3 F N') (8 - (d : Int)) (rS D x l (-1))) else (fX12_readSum F (8 - (d : Int)) (rS D x l (-1))).bind (fun D_18 => (fX12_takes0 F 160 D_18).bind (fun (r_21, D_22) => if r_21 = 0 then (fX12_takes0 F 162 D_22).bind (fun (r_25, D_26) => if r_25 = 0 then (fX12_must F 161 D_26).bind (fun D_30 => fX12_readPlain_128 F (R3 F N') (8 - (d : Int)) D_30) else fX12_readPlain_128 F (R3 F N') (8 - (d : Int)) D_26) else fX12_readPlain_128 F (R3 F N') (8 - (d : Int)) D_22)) := by
        unfold fX12_readPlain_2
        rw [if_pos rfl, rFine_t, Option.bind_some]
        have hi1 : (0 : Int) ≤ (x : Int) := by omega
        have hi2 : (x : Int) < 401 := by omega
        simp only [rS_15, eSign 40 (by omega), eSign 60 (by omega), eSign 62 (by omega), eSign 61 (by omega), Option.bind_some, zlet_b, rS_r (show (99 : Nat) ≠ 91 by omega), Int.reduceAdd, Int.toNat_natCast, (hG.1 x hx).1]
        rw [if_neg (by omega)]
        simp only [hi1, hi2, and_self, if_true]
      rw [body]
      unfold kPos
      by_cases hc : c x = 140
      · rw [if_pos hc, if_pos hc]
        have hin : x < n := rIn hG (by omega)
        cases hdp' : dp with
        | none =>
          have hd0 := hdp.mp hdp'
          rw [if_pos (by omega), rFault_t hG hx, Option.bind_some]
          unfold fX12_readPlain_53
          rw [rFine_f (hG.2.2.2.1 x), Option.bind_some]
          exact ⟨hx, x, l, if_pos rfl⟩
        | some q =>
          have hd0 : ¬ d = 0 := fun h => by rw [hdp.mpr h] at hdp'; cases hdp'
          rw [if_neg (by omega)]
          have h53 : fX12_readPlain_53 F (R3 F N') (8 - (d : Int)) (rS D x l (-1)) = (R3 F N' 0 (8 - (d : Int) + 1) 0 (rS D (x + 1) l (-1))).bind (fun D_12 => (fX12_must F 141 D_12).bind (fun D_16 => some D_16)) := by
            unfold fX12_readPlain_53
            rw [rFine_t, Option.bind_some]
            refine (if_neg (by omega)).trans ?_
            refine (if_pos (by rw [rS_15]; omega)).trans ?_
            rw [zlet_b, rS_15, rS_w15 (j := x + 1) (by omega), if_pos (by omega)]
            congr 1
          rw [h53]
          have hr := (hq q hdp').1 (x + 1) l (by omega) hl N' (by omega)
          cases hqi : q (x + 1) l with
          | inl e =>
            rw [hqi] at hr
            obtain ⟨he, i', l', e1⟩ := hr
            rw [e1, Option.bind_some, rMust_f (hG.2.2.2.1 e)]
            dsimp only
            rw [hqi]
            exact ⟨he, i', l', rfl⟩
          | inr s =>
            obtain ⟨s1, j, l1⟩ := s
            rw [hqi] at hr
            obtain ⟨a1, a2, a3, a4⟩ := hr
            rw [a4, Option.bind_some]
            dsimp only
            rw [hqi]
            dsimp only
            by_cases h193 : c j = 141
            · rw [if_pos h193, rMust_y hG a2 h193]
              have hjn : j < n := rIn hG (by omega)
              exact ⟨by omega, by omega, a3, rfl⟩
            · rw [if_neg h193, rMust_n hG a2 h193]
              exact ⟨a2, j, l1, rfl⟩
      · rw [if_neg hc, if_neg hc]
        have hr := rSumF (F := F) hG hd hx hl
        cases hs : kSumD c w d x l with
        | inl e =>
          rw [hs] at hr
          obtain ⟨he, i', l', e1⟩ := hr
          have hpe := hG.2.2.2.1 e
          rw [e1, Option.bind_some, rTk_f hpe, Option.bind_some]
          dsimp only
          rw [if_pos rfl, rTk_f hpe, Option.bind_some]
          dsimp only
          rw [if_pos rfl, rMust_f hpe, Option.bind_some]
          unfold fX12_readPlain_128
          rw [rSumB hG hd hpe]
          exact ⟨he, i', l', rfl⟩
        | inr s =>
          obtain ⟨s1, j, l1⟩ := s
          rw [hs] at hr
          obtain ⟨a1, a2, a3, a4⟩ := hr
          rw [a4, Option.bind_some]
          dsimp only
          have second : j + 1 ≤ n → rOut D p n (match kSumD c w d (j + 1) l1 with | .inl e => (.inl e : Nat ⊕ (kTst × Nat × Nat)) | .inr (b, k, l2) => .inr (kCmp (c j) s1 b, k, l2)) x (fX12_readPlain_128 F (R3 F N') (8 - (d : Int)) (rS D (j + 1) l1 (-1))) := by
            intro hj
            unfold fX12_readPlain_128
            have hr2 := rSumF (F := F) hG hd hj a3
            cases hs2 : kSumD c w d (j + 1) l1 with
            | inl e =>
              rw [hs2] at hr2
              obtain ⟨he, i', l', e1⟩ := hr2
              rw [e1]
              exact ⟨he, i', l', rfl⟩
            | inr s =>
              obtain ⟨s2, j2, l2⟩ := s
              rw [hs2] at hr2
              obtain ⟨b1, b2, b3, b4⟩ := hr2
              rw [b4]
              exact ⟨by omega, b2, b3, rfl⟩
          by_cases h160 : c j = 160
          · have hjn : j < n := rIn hG (by omega)
            rw [if_pos (Or.inl h160), rTk_y hG a2 h160, Option.bind_some]
            dsimp only
            rw [if_neg (by omega)]
            exact second (by omega)
          · rw [rTk_n hG a2 h160, Option.bind_some]
            dsimp only
            rw [if_pos (c := (0 : Int) = 0) rfl]
            by_cases h162 : c j = 162
            · have hjn : j < n := rIn hG (by omega)
              rw [if_pos (Or.inr (Or.inl h162)), rTk_y hG a2 h162, Option.bind_some]
              dsimp only
              rw [if_neg (by omega)]
              exact second (by omega)
            · rw [rTk_n hG a2 h162, Option.bind_some]
              dsimp only
              rw [if_pos (c := (0 : Int) = 0) rfl]
              by_cases h161 : c j = 161
              · have hjn : j < n := rIn hG (by omega)
                rw [if_pos (Or.inr (Or.inr h161)), rMust_y hG a2 h161, Option.bind_some]
                exact second (by omega)
              · rw [if_neg (by omega), rMust_n hG a2 h161, Option.bind_some]
                unfold fX12_readPlain_128
                rw [rSumB hG hd (hG.2.2.2.1 j)]
                exact ⟨a2, j, l1, rfl⟩
    have hp := pos _ hle
    generalize kNots c 500 i = nn at *
    cases hk : kPos c (kSumD c w d) dp (i + nn) l with
    | inl e =>
      rw [hk] at hp
      exact hp
    | inr s =>
      obtain ⟨s1, j, l1⟩ := s
      rw [hk] at hp
      obtain ⟨a1, a2, a3, a4⟩ := hp
      exact ⟨by omega, a2, a3, a4⟩
  · obtain ⟨N', rfl⟩ : ∃ N', N = N' + 1 := ⟨N - 1, by omega⟩
    rw [R3_2]
    unfold bX12_readPlain
    rw [show zfu = 999998 + 1 + 1 from rfl, zfix_succ]
    rw [rN_f hb, zfix_succ]
    unfold fX12_readPlain_2
    rw [if_pos rfl, rFine_f hb, Option.bind_some]
    exact if_pos rfl
theorem rTestD (hG : rG D c w p n) (d : Nat) (hd : d ≤ 8) : rTk F D p n 0 (4 * d + 4) (8 - (d : Int)) (kTestD c w d) := by
  induction d with
  | zero =>
    unfold kTestD
    have := rTest hG (rPlain (F := F) (m := 0) (d := 0) hG (by omega) (dp := none) (by simp) (fun q h => by cases h))
    exact ⟨fun i l hi hl N hN => this.1 i l hi hl N (by omega), fun i l b hb N hN => this.2 i l b hb N (by omega)⟩
  | succ d ih =>
    unfold kTestD
    have := rTest hG (rPlain (F := F) (m := 4 * d + 4) (d := d + 1) hG hd (dp := some (kTestD c w d)) (by simp) (fun q h => by
      cases h
      have := ih (by omega)
      rw [show (8 - ((d + 1 : Nat) : Int) + 1) = 8 - (d : Int) by omega]
      exact this))
    exact ⟨fun i l hi hl N hN => this.1 i l hi hl N (by omega), fun i l b hb N hN => this.2 i l b hb N (by omega)⟩
theorem rClause (hG : rG D c w p n) {i l : Nat} (hi : i ≤ n) (hl : l ≤ 50) : rOut D p n (kClause c w i l) i (fX12_readClause F (rS D i l (-1))) := by
  have tail : i < n → (1 ≤ c i ∧ c i ≤ 3) → rOut D p n (kClause c w i l) i (fX12_readClause_21 F (rS D (i + 1) l (-1))) := by
    intro hin hc
    unfold kClause fX12_readClause_21
    rw [if_pos hc]
    have hr := rSumF (F := F) hG (d := 8) (by omega) (i := i + 1) (l := l) (by omega) hl
    rw [show (8 - ((8 : Nat) : Int)) = 0 by omega] at hr
    cases hs : kSumD c w 8 (i + 1) l with
    | inl e =>
      rw [hs] at hr
      obtain ⟨he, i', l', e1⟩ := hr
      rw [e1, Option.bind_some, rTk_f (hG.2.2.2.1 e), Option.bind_some]
      exact ⟨he, i', l', if_pos rfl⟩
    | inr s =>
      obtain ⟨s1, j, l1⟩ := s
      rw [hs] at hr
      obtain ⟨a1, a2, a3, a4⟩ := hr
      rw [a4, Option.bind_some]
      dsimp only
      by_cases h4 : c j = 4
      · have hjn : j < n := rIn hG (by omega)
        rw [if_pos h4, rTk_y hG a2 h4, Option.bind_some]
        dsimp only
        rw [if_neg (by omega)]
        have hr2 := (rTestD (F := F) hG 8 (by omega)).1 (j + 1) l1 (by omega) a3 40 (by omega)
        rw [show (8 - ((8 : Nat) : Int)) = 0 by omega] at hr2
        have hr2' : rOut D p n (kTestD c w 8 (j + 1) l1) (j + 1) (fX12_readTest F 0 (rS D (j + 1) l1 (-1))) := hr2
        cases hs2 : kTestD c w 8 (j + 1) l1 with
        | inl e =>
          rw [hs2] at hr2'
          obtain ⟨he, i', l', e1⟩ := hr2'
          rw [e1]
          exact ⟨he, i', l', rfl⟩
        | inr s =>
          obtain ⟨t1, j2, l2⟩ := s
          rw [hs2] at hr2'
          obtain ⟨b1, b2, b3, b4⟩ := hr2'
          rw [b4]
          exact ⟨by omega, b2, b3, rfl⟩
      · rw [if_neg h4, rTk_n hG a2 h4, Option.bind_some]
        exact ⟨by omega, a2, a3, if_pos rfl⟩
  unfold fX12_readClause
  by_cases h1 : c i = 1
  · rw [rTk_y hG hi h1, Option.bind_some]
    dsimp only
    rw [if_neg (by omega)]
    exact tail (rIn hG (by omega)) (by omega)
  · rw [rTk_n hG hi h1, Option.bind_some]
    dsimp only
    rw [if_pos rfl]
    by_cases h2 : c i = 2
    · rw [rTk_y hG hi h2, Option.bind_some]
      dsimp only
      rw [if_neg (by omega)]
      exact tail (rIn hG (by omega)) (by omega)
    · rw [rTk_n hG hi h2, Option.bind_some]
      dsimp only
      rw [if_pos rfl]
      by_cases h3 : c i = 3
      · rw [rMust_y hG hi h3, Option.bind_some]
        exact tail (rIn hG (by omega)) (by omega)
      · rw [rMust_n hG hi h3, Option.bind_some]
        unfold fX12_readClause_21 kClause
        have hpi := hG.2.2.2.1 i
        have hb := rSumB (F := F) hG (d := 8) (by omega) (i := i) (l := l) hpi
        rw [show (8 - ((8 : Nat) : Int)) = 0 by omega] at hb
        rw [hb, Option.bind_some, rTk_f hpi, Option.bind_some, if_neg (by omega)]
        exact ⟨hi, i, l, if_pos rfl⟩
end RD2
