def tPost (live b : Int) (o : Option Bool) (v b' : Int) : Prop :=
  (v = 0 ∨ v = 1) ∧ (b' = 0 ∨ b' = 1) ∧ if live = 1 ∧ b = 0 then (match o with | some x => v = (if x then 1 else 0) ∧ b' = 0 | none => b' = 1) else b' = b
def tOk (F : zFs) (D : zDa) (A : Nat → Int) (u sz : Nat) (t m : Nat) (p : kP kTst) : Prop :=
  ∀ i l s j l', p i l = .inr (s, j, l') → i < j ∧ j ≤ sz ∧ ∀ N, m ≤ N → ∀ live b : Int, (live = 0 ∨ live = 1) → (b = 0 ∨ b = 1) →
    ∃ v b', R5 F N t live 0 (eS D u i b) = some (v, eS D u j b') ∧ tPost live b (s A) v b'
section EV3
variable {F : zFs} {D : zDa} {K A : Nat → Int} {u sz : Nat}
theorem R5_0 (N : Nat) (a b : Int) (D : zDa) : R5 F (N + 1) 0 a b D = bX12_testOf F (R5 F N) a D := rfl
theorem R5_1 (N : Nat) (a b : Int) (D : zDa) : R5 F (N + 1) 1 a b D = bX12_bothOf F (R5 F N) a D := rfl
theorem R5_2 (N : Nat) (a b : Int) (D : zDa) : R5 F (N + 1) 2 a b D = bX12_plainOf F (R5 F N) a D := by
  have h : R5 F (N + 1) = (fun (rec : Nat → Int → Int → zDa → Option (Int × zDa)) (t : Nat) (a b : Int) (D : zDa) => if t = 0 then bX12_testOf F rec a D else if t = 1 then bX12_bothOf F rec a D else if t = 2 then bX12_plainOf F rec a D else bX12_positiveOf F rec a D) (R5 F N) := rfl
  rw [h]
  exact (if_neg (by omega)).trans ((if_neg (by omega)).trans (if_pos rfl))
theorem R5_3 (N : Nat) (a b : Int) (D : zDa) : R5 F (N + 1) 3 a b D = bX12_positiveOf F (R5 F N) a D := rfl
theorem ePassT (hG : eG D K A u sz) {i : Nat} {b x : Int} (hx : x ≠ 0) (h : kCode K u i = x) : fX12_passes0 F x (eS D u i b) = some (1, eS D u (i + 1) b) := by rw [ePass hG i b _ hx, if_pos h, if_pos h]
theorem ePassF (hG : eG D K A u sz) {i : Nat} {b x : Int} (hx : x ≠ 0) (h : ¬ kCode K u i = x) : fX12_passes0 F x (eS D u i b) = some (0, eS D u i b) := by rw [ePass hG i b _ hx, if_neg h, if_neg h]
theorem eSumF (hG : eG D K A u sz) {d : Nat} (hd : d ≤ 8) {i l j l' : Nat} {s : kSum} (h : kSumD (kCode K u) (kVal K u) d i l = .inr (s, j, l')) : i < j ∧ j ≤ sz ∧ kBd s A ∧ ∀ live b : Int, (live = 0 ∨ live = 1) → (b = 0 ∨ b = 1) → fX12_sumOf F live (eS D u i b) = some ((evr live b (s A)).1, eS D u j (evr live b (s A)).2) := by
  obtain ⟨a, b, c, e⟩ := eSumD (F := F) hG d i l s j l' h
  exact ⟨a, b, c, fun live b hl hb => e 40 (by omega) live b hl hb⟩
theorem ePosBody {rec : Nat → Int → Int → zDa → Option (Int × zDa)} {live x y cc : Int} {D0 D1 D2 : zDa} (h0 : fX12_passes0 F 140 D0 = some (0, D0)) (h1 : fX12_sumOf F live D0 = some (x, D1)) (h2 : fX12_codeAt F (D1 91 18) D1 = some (cc, D1)) (h3 : -2147483648 ≤ D1 91 18 + 1 ∧ D1 91 18 + 1 ≤ 2147483647) (h4 : fX12_sumOf F live (zwr D1 91 18 (D1 91 18 + 1)) = some (y, D2)) :
    bX12_positiveOf F rec live D0 = if live = 0 then some (0, D2) else if D2 91 20 = 0 then (if cc = 160 then (if x < y then some (1, D2) else some (0, D2)) else if cc = 162 then (if y < x then some (1, D2) else some (0, D2)) else (if x = y then some (1, D2) else some (0, D2))) else some (0, D2) := by
  unfold bX12_positiveOf
  rw [eSign 40 (by omega), Option.bind_some]
  dsimp only
  rw [show (100 : Int) + 40 = 140 from rfl, h0, Option.bind_some]
  dsimp only
  rw [if_pos rfl, h1, Option.bind_some]
  dsimp only
  rw [h2, Option.bind_some]
  dsimp only
  rw [if_pos h3]
  dsimp only [zlet]
  rw [h4, Option.bind_some]
  dsimp only
  by_cases hl : live = 0
  · rw [if_pos hl, if_pos hl]
  · rw [if_neg hl, if_neg hl]
    by_cases hb : D2 91 20 = 0
    · rw [if_pos hb, if_pos hb, eSign 60 (by omega), Option.bind_some]
      dsimp only
      by_cases c1 : cc = 160
      · rw [if_pos c1, if_pos (by omega)]
      · rw [if_neg c1, if_neg (by omega), eSign 62 (by omega), Option.bind_some]
        dsimp only
        by_cases c2 : cc = 162
        · rw [if_pos c2, if_pos (by omega)]
        · rw [if_neg c2, if_neg (by omega)]
    · rw [if_neg hb, if_neg hb]
theorem ePosBody2 {rec : Nat → Int → Int → zDa → Option (Int × zDa)} {live v : Int} {D0 D1 D2 : zDa} (h0 : fX12_passes0 F 140 D0 = some (1, D1)) (h1 : rec 0 live 0 D1 = some (v, D2)) (h3 : -2147483648 ≤ D2 91 18 + 1 ∧ D2 91 18 + 1 ≤ 2147483647) (hv : v = 0 ∨ v = 1) :
    bX12_positiveOf F rec live D0 = some (v, zwr D2 91 18 (D2 91 18 + 1)) := by
  unfold bX12_positiveOf
  rw [eSign 40 (by omega), Option.bind_some]
  dsimp only
  rw [show (100 : Int) + 40 = 140 from rfl, h0, Option.bind_some]
  dsimp only
  rw [if_neg (by omega), h1, Option.bind_some]
  dsimp only
  rw [if_pos h3]
  dsimp only [zlet]
  rw [if_pos hv]
theorem ePos (hG : eG D K A u sz) {d : Nat} (hd : d ≤ 8) {dp : Option (kP kTst)} {m : Nat} (hp : ∀ p, dp = some p → tOk F D A u sz 0 m p) : tOk F D A u sz 3 (m + 1) (kPos (kCode K u) (kSumD (kCode K u) (kVal K u) d) dp) := by
  intro i l s j l' hk
  have hu := hG.2.2.2.1
  have hsz := hG.2.2.2.2.1
  unfold kPos at hk
  by_cases hc : kCode K u i = 140
  · rw [if_pos hc] at hk
    cases hdp : dp with
    | none => rw [hdp] at hk; cases hk
    | some p =>
      rw [hdp] at hk
      dsimp only at hk
      cases hpi : p (i + 1) l with
      | inl e => rw [hpi] at hk; cases hk
      | inr q =>
        obtain ⟨s1, j1, l1⟩ := q
        rw [hpi] at hk
        dsimp only at hk
        by_cases hc2 : kCode K u j1 = 141
        · rw [if_pos hc2] at hk
          cases hk
          have hlt2 := eCode_lt hG (i := j1) (by omega)
          obtain ⟨g1, g2, g4⟩ := hp p hdp (i + 1) l s j1 l' hpi
          refine ⟨by omega, by omega, ?_⟩
          intro N hN live b hl hb
          obtain ⟨N', rfl⟩ : ∃ N', N = N' + 1 := ⟨N - 1, by omega⟩
          obtain ⟨v, b', e, hpost⟩ := g4 N' (by omega) live b hl hb
          refine ⟨v, b', ?_, hpost⟩
          rw [R5_3, ePosBody2 (D0 := eS D u i b) (D1 := eS D u (i + 1) b) (D2 := eS D u j1 b') (ePassT hG (by omega) hc) e (by rw [eS_18]; omega) hpost.1, eS_18, eS_go (j := j1 + 1) (by omega)]
        · rw [if_neg hc2] at hk; cases hk
  · rw [if_neg hc] at hk
    cases h1 : kSumD (kCode K u) (kVal K u) d i l with
    | inl e => rw [h1] at hk; cases hk
    | inr q =>
      obtain ⟨s1, j1, l1⟩ := q
      rw [h1] at hk
      dsimp only at hk
      by_cases hcc : kCode K u j1 = 160 ∨ kCode K u j1 = 162 ∨ kCode K u j1 = 161
      · rw [if_pos hcc] at hk
        cases h2 : kSumD (kCode K u) (kVal K u) d (j1 + 1) l1 with
        | inl e => rw [h2] at hk; cases hk
        | inr q =>
          obtain ⟨s2, j2, l2⟩ := q
          rw [h2] at hk
          cases hk
          obtain ⟨a1, a2, a3, a4⟩ := eSumF (F := F) hG hd h1
          obtain ⟨c1, c2, c3, c4⟩ := eSumF (F := F) hG hd h2
          have hlt2 := eCode_lt hG (i := j1) (by omega)
          refine ⟨by omega, by omega, ?_⟩
          intro N hN live b hl hb
          obtain ⟨N', rfl⟩ : ∃ N', N = N' + 1 := ⟨N - 1, by omega⟩
          have hps : fX12_passes0 F 140 (eS D u i b) = some (0, eS D u i b) := ePassF hG (by omega) hc
          have hb1 := evr_b (live := live) (o := s1 A) hb
          have hb2 := evr_b (live := live) (o := s2 A) hb1
          have hgo : zwr (eS D u j1 (evr live b (s1 A)).2) 91 18 (400 * (u : Int) + j1 + 1) = eS D u (j1 + 1) (evr live b (s1 A)).2 := eS_go (by omega)
          have hbody : R5 F (N' + 1) 3 live 0 (eS D u i b) = if live = 0 then some (0, eS D u j (evr live (evr live b (s1 A)).2 (s2 A)).2) else if (evr live (evr live b (s1 A)).2 (s2 A)).2 = 0 then (if kCode K u j1 = 160 then (if (evr live b (s1 A)).1 < (evr live (evr live b (s1 A)).2 (s2 A)).1 then some (1, eS D u j (evr live (evr live b (s1 A)).2 (s2 A)).2) else some (0, eS D u j (evr live (evr live b (s1 A)).2 (s2 A)).2)) else if kCode K u j1 = 162 then (if (evr live (evr live b (s1 A)).2 (s2 A)).1 < (evr live b (s1 A)).1 then some (1, eS D u j (evr live (evr live b (s1 A)).2 (s2 A)).2) else some (0, eS D u j (evr live (evr live b (s1 A)).2 (s2 A)).2)) else (if (evr live b (s1 A)).1 = (evr live (evr live b (s1 A)).2 (s2 A)).1 then some (1, eS D u j (evr live (evr live b (s1 A)).2 (s2 A)).2) else some (0, eS D u j (evr live (evr live b (s1 A)).2 (s2 A)).2))) else some (0, eS D u j (evr live (evr live b (s1 A)).2 (s2 A)).2) := by
            rw [R5_3, ePosBody (D0 := eS D u i b) (D1 := eS D u j1 (evr live b (s1 A)).2) (D2 := eS D u j (evr live (evr live b (s1 A)).2 (s2 A)).2) hps (a4 live b hl hb) (by rw [eS_18]; exact eCode hG _ _) (by rw [eS_18]; omega) (by rw [eS_18, hgo]; exact c4 live _ hl hb1), eS_20]
          rw [hbody]
          by_cases hm : live = 1 ∧ b = 0
          · obtain ⟨rfl, rfl⟩ := hm
            rw [if_neg (by omega)]
            unfold tPost kCmp
            cases hva : s1 A with
            | none =>
              have h01 : evr 1 1 (s2 A) = (0, 1) := by unfold evr; rw [if_neg (by omega)]
              rw [evr_n]
              dsimp only
              rw [h01]
              dsimp only
              rw [if_neg (by omega)]
              exact ⟨0, 1, rfl, by omega, by omega, by rw [if_pos (by omega)]; rfl⟩
            | some x =>
              rw [evr_s]
              dsimp only
              cases hsa : s2 A with
              | none =>
                rw [evr_n]
                dsimp only
                rw [if_neg (by omega)]
                exact ⟨0, 1, rfl, by omega, by omega, by rw [if_pos (by omega)]; rfl⟩
              | some y =>
                rw [evr_s]
                dsimp only
                rw [if_pos rfl]
                simp only [Option.bind_some]
                refine ⟨if (if kCode K u j1 = 160 then decide (x < y) else if kCode K u j1 = 162 then decide (y < x) else decide (x = y)) = true then 1 else 0, 0, ?_, ?_, by omega, ?_⟩
                · by_cases k1 : kCode K u j1 = 160
                  · rw [if_pos k1, if_pos k1]
                    by_cases hx : x < y
                    · simp [hx]
                    · simp [hx]
                  · rw [if_neg k1, if_neg k1]
                    by_cases k2 : kCode K u j1 = 162
                    · rw [if_pos k2, if_pos k2]
                      by_cases hx : y < x
                      · simp [hx]
                      · simp [hx]
                    · rw [if_neg k2, if_neg k2]
                      by_cases hx : x = y
                      · simp [hx]
                      · simp [hx]
                · generalize (if kCode K u j1 = 160 then decide (x < y) else if kCode K u j1 = 162 then decide (y < x) else decide (x = y)) = B
                  cases B <;> simp
                · simp
          · have h1 : ∀ o, evr live b o = (0, b) := fun o => by unfold evr; rw [if_neg hm]
            rw [h1, h1]
            dsimp only
            have hpost : tPost live b (kCmp (kCode K u j1) s1 s2 A) 0 b := ⟨by omega, hb, by rw [if_neg hm]⟩
            rcases hl with rfl | rfl
            · rw [if_pos rfl]; exact ⟨0, b, rfl, hpost⟩
            · rw [if_neg (by omega), if_neg (by omega)]; exact ⟨0, b, rfl, hpost⟩
      · rw [if_neg hcc] at hk; cases hk
theorem kNots_le {c : Nat → Int} {S : Nat} (hc : ∀ i, c i = 7 → i < S) (n i : Nat) (hi : i ≤ S) : i + kNots c n i ≤ S := by
  induction n generalizing i with
  | zero => simp [kNots]; exact hi
  | succ n ih =>
    unfold kNots
    by_cases h : c i = 7
    · rw [if_pos h]
      have := hc i h
      have := ih (i + 1) (by omega)
      omega
    · rw [if_neg h]; omega
theorem ePlainLoop (hG : eG D K A u sz) {rec : Nat → Int → Int → zDa → Option (Int × zDa)} {live b : Int} :
    ∀ (n i M : Nat) (f : Int), sz < i + n → i ≤ sz → n < M → (f = 0 ∨ f = 1) →
      zfix (fun _ _ => none) (fX12_plainOf_2 F rec live) M f (eS D u i b) = (rec 3 live 0 (eS D u (i + kNots (kCode K u) n i) b)).bind (fun (r, D') => if r = (if kNots (kCode K u) n i % 2 = 1 then 1 - f else f) then some ((0 : Int), D') else some (1, D')) := by
  intro n
  induction n with
  | zero => intro i M f h1 h2; omega
  | succ n ih =>
    intro i M f h1 h2 hM hf
    obtain ⟨M', rfl⟩ : ∃ M', M = M' + 1 := ⟨M - 1, by omega⟩
    rw [zfix_succ]
    unfold kNots
    by_cases h : kCode K u i = 7
    · have hlt := eCode_lt hG (i := i) (by omega)
      have hp : fX12_passes0 F 7 (eS D u i b) = some (1, eS D u (i + 1) b) := ePassT hG (by omega) h
      rw [if_pos h]
      have e : fX12_plainOf_2 F rec live (zfix (fun _ _ => none) (fX12_plainOf_2 F rec live) M') f (eS D u i b) = zfix (fun _ _ => none) (fX12_plainOf_2 F rec live) M' (1 - f) (eS D u (i + 1) b) := by
        conv => lhs; unfold fX12_plainOf_2 fX12_plainOf_20
        rw [hp, Option.bind_some]
        dsimp only
        rw [if_neg (by omega)]
        rcases hf with rfl | rfl
        · rw [if_pos rfl]; rfl
        · rw [if_neg (by omega)]; rfl
      rw [e, ih (i + 1) M' (1 - f) (by omega) (by omega) (by omega) (by omega), show i + (kNots (kCode K u) n (i + 1) + 1) = i + 1 + kNots (kCode K u) n (i + 1) by omega]
      congr 1
      funext x
      obtain ⟨r, D'⟩ := x
      dsimp only
      have e2 : (if kNots (kCode K u) n (i + 1) % 2 = 1 then 1 - (1 - f) else 1 - f) = (if (kNots (kCode K u) n (i + 1) + 1) % 2 = 1 then 1 - f else f) := by
        by_cases hm : kNots (kCode K u) n (i + 1) % 2 = 1
        · rw [if_pos hm, if_neg (by omega)]; omega
        · rw [if_neg hm, if_pos (by omega)]
      rw [e2]
    · have hp : fX12_passes0 F 7 (eS D u i b) = some (0, eS D u i b) := ePassF hG (by omega) h
      rw [if_neg h]
      conv => lhs; unfold fX12_plainOf_2
      rw [hp, Option.bind_some]
      dsimp only
      rw [if_pos rfl]
      rfl
theorem ePlain (hG : eG D K A u sz) {sum : kP kSum} {dp : Option (kP kTst)} {m : Nat} (hp : tOk F D A u sz 3 m (kPos (kCode K u) sum dp)) : tOk F D A u sz 2 (m + 1) (kPlain (kCode K u) sum dp) := by
  intro i l s j l' hk
  have hsz := hG.2.2.2.2.1
  unfold kPlain at hk
  cases h1 : kPos (kCode K u) sum dp (i + kNots (kCode K u) 500 i) l with
  | inl e => rw [h1] at hk; cases hk
  | inr q =>
    obtain ⟨s1, j1, l1⟩ := q
    rw [h1] at hk
    cases hk
    obtain ⟨g1, g2, g4⟩ := hp _ l s1 j l' h1
    refine ⟨by omega, g2, ?_⟩
    intro N hN live b hl hb
    obtain ⟨N', rfl⟩ : ∃ N', N = N' + 1 := ⟨N - 1, by omega⟩
    obtain ⟨v, b', e, h01, hb', hpost⟩ := g4 N' (by omega) live b hl hb
    rw [R5_2]
    unfold bX12_plainOf
    rw [ePlainLoop hG 500 i zfu 0 (by omega) (by omega) (zfu_gt (by omega)) (by omega), e, Option.bind_some]
    dsimp only
    generalize kNots (kCode K u) 500 i = n at *
    refine ⟨if v = (if n % 2 = 1 then 1 - 0 else 0) then 0 else 1, b', ?_, ?_, hb', ?_⟩
    · by_cases hx : v = (if n % 2 = 1 then 1 - 0 else 0)
      · rw [if_pos hx, if_pos hx]
      · rw [if_neg hx, if_neg hx]
    · split <;> omega
    · by_cases hm : live = 1 ∧ b = 0
      · rw [if_pos hm] at hpost ⊢
        unfold kNot
        cases hs : s1 A with
        | none => rw [hs] at hpost; exact hpost
        | some x =>
          rw [hs] at hpost
          obtain ⟨hv, hb0⟩ := hpost
          refine ⟨?_, hb0⟩
          rw [hv]
          dsimp only [Option.map]
          by_cases hn : n % 2 = 1
          · simp only [hn, ite_true]
            cases x <;> simp
          · simp only [hn, ite_false]
            cases x <;> simp
      · rw [if_neg hm] at hpost ⊢
        exact hpost
/-- both loops of tests: which operand is asked is told by w -/
theorem eTChain (hG : eG D K A u sz) {o : Int} (ho : o ≠ 0) {g : kTst → kTst → kTst} {p : kP kTst} {t m : Nat} (hp : tOk F D A u sz t m p) {N : Nat} (hN : m ≤ N)
    {f : Int → (Int → zDa → Option (Int × zDa)) → Int → zDa → Option (Int × zDa)} {w : Int → Int → Int} {c : Int → Int → Int}
    (hw : ∀ live v, (live = 0 ∨ live = 1) → (v = 0 ∨ v = 1) → (w live v = 0 ∨ w live v = 1))
    (hst : ∀ (k : Int → zDa → Option (Int × zDa)) (live v b v1 b1 : Int) (i j : Nat), (live = 0 ∨ live = 1) → (v = 0 ∨ v = 1) → (v1 = 0 ∨ v1 = 1) → kCode K u i = o → R5 F N t (w live v) 0 (eS D u (i + 1) b) = some (v1, eS D u j b1) → f live k v (eS D u i b) = k (c v v1) (eS D u j b1))
    (hen : ∀ (k : Int → zDa → Option (Int × zDa)) (live v b : Int) (i : Nat), (v = 0 ∨ v = 1) → ¬ kCode K u i = o → f live k v (eS D u i b) = some (v, eS D u i b))
    (hcm : ∀ (live b v b' v1 b1 : Int) (a s : kTst), (live = 0 ∨ live = 1) → tPost live b (a A) v b' → tPost (w live v) b' (s A) v1 b1 → tPost live b (g a s A) (c v v1) b1) :
    ∀ (n : Nat) (a : kTst) (i l : Nat) (s : kTst) (j l' : Nat), sz < i + n → i ≤ sz → kTChain (kCode K u) o g p n a i l = .inr (s, j, l') →
      i ≤ j ∧ j ≤ sz ∧ ∀ (M : Nat) (live b v b' : Int), n < M → (live = 0 ∨ live = 1) → (b = 0 ∨ b = 1) → tPost live b (a A) v b' →
        ∃ v2 b2, zfix (fun _ _ => none) (f live) M v (eS D u i b') = some (v2, eS D u j b2) ∧ tPost live b (s A) v2 b2 := by
  intro n
  induction n with
  | zero => intro a i l s j l' h1 h2; omega
  | succ n ih =>
    intro a i l s j l' h1 h2 hk
    unfold kTChain at hk
    by_cases hc : kCode K u i = o
    · rw [if_pos hc] at hk
      cases hpi : p (i + 1) l with
      | inl e => rw [hpi] at hk; cases hk
      | inr q =>
        obtain ⟨s1, j1, l1⟩ := q
        rw [hpi] at hk
        obtain ⟨g1, g2, g4⟩ := hp (i + 1) l s1 j1 l1 hpi
        obtain ⟨r1, r2, r4⟩ := ih (g a s1) j1 l1 s j l' (by omega) g2 hk
        refine ⟨by omega, r2, ?_⟩
        intro M live b v b' hM hl hb hpost
        obtain ⟨M', rfl⟩ : ∃ M', M = M' + 1 := ⟨M - 1, by omega⟩
        obtain ⟨v1, b1, e1, post1⟩ := g4 N hN (w live v) b' (hw live v hl hpost.1) hpost.2.1
        rw [zfix_succ, hst _ live v b' v1 b1 i j1 hl hpost.1 post1.1 hc e1]
        exact r4 M' live b _ b1 (by omega) hl hb (hcm live b v b' v1 b1 a s1 hl hpost post1)
    · rw [if_neg hc] at hk
      cases hk
      refine ⟨by omega, h2, ?_⟩
      intro M live b v b' hM hl hb hpost
      obtain ⟨M', rfl⟩ : ∃ M', M = M' + 1 := ⟨M - 1, by omega⟩
      rw [zfix_succ, hen _ live v b' i hpost.1 hc]
      exact ⟨v, b', rfl, hpost⟩
theorem eBoth (hG : eG D K A u sz) {p : kP kTst} {m : Nat} (hp : tOk F D A u sz 2 m p) : tOk F D A u sz 1 (m + 1) (kBoth (kCode K u) p) := by
  intro i l s j l' hk
  unfold kBoth at hk
  cases hpi : p i l with
  | inl e => rw [hpi] at hk; cases hk
  | inr q =>
    obtain ⟨s1, j1, l1⟩ := q
    rw [hpi] at hk
    obtain ⟨g1, g2, g4⟩ := hp i l s1 j1 l1 hpi
    have hsz := hG.2.2.2.2.1
    have hch := fun (N : Nat) (hN : m ≤ N) => eTChain (F := F) (A := A) hG (o := 6) (g := kAnd) (by omega) hp hN (f := fun live k x D' => fX12_bothOf_6 F (R5 F N) live k x D') (w := fun live v => if live = 0 then 0 else v) (c := fun v v1 => if v = 0 then 0 else v1)
      (fun live v hl hv => by split <;> omega)
      (fun k live v b v1 b1 i j hl hv hv1 hc hr => by
        have hps : fX12_passes0 F 6 (eS D u i b) = some (1, eS D u (i + 1) b) := ePassT hG (by omega) hc
        unfold fX12_bothOf_6
        rw [hps, Option.bind_some]
        dsimp only
        rw [if_neg (by omega)]
        unfold fX12_bothOf_28 fX12_bothOf_29 fX12_bothOf_45 fX12_bothOf_46
        rcases hl with rfl | rfl
        · rw [if_pos rfl] at hr
          rw [if_pos rfl, hr, Option.bind_some]
          dsimp only
          rcases hv with rfl | rfl <;> rcases hv1 with rfl | rfl <;> simp
        · rw [if_neg (by omega)] at hr
          rw [if_neg (by omega)]
          rcases hv with rfl | rfl
          · rw [if_pos rfl, hr, Option.bind_some]
            dsimp only
            rw [if_pos rfl, if_pos rfl]
          · rw [if_neg (by omega), hr, Option.bind_some]
            dsimp only
            rcases hv1 with rfl | rfl <;> simp)
      (fun k live v b i hv hc => by
        have hps : fX12_passes0 F 6 (eS D u i b) = some (0, eS D u i b) := ePassF hG (by omega) hc
        unfold fX12_bothOf_6
        rw [hps, Option.bind_some]
        dsimp only
        rw [if_pos rfl, if_pos hv])
      (fun live b v b' v1 b1 a s hl h1 h2 => by
        obtain ⟨p1, p2, p3⟩ := h1
        obtain ⟨q1, q2, q3⟩ := h2
        refine ⟨by split <;> omega, q2, ?_⟩
        by_cases hm : live = 1 ∧ b = 0
        · obtain ⟨rfl, rfl⟩ := hm
          rw [if_pos (by omega)] at p3 ⊢
          rw [if_neg (c := (1 : Int) = 0) (by omega)] at q3
          unfold kAnd
          cases ha : a A with
          | none =>
            rw [ha] at p3
            dsimp only at p3
            rw [if_neg (by omega)] at q3
            exact q3.trans p3
          | some x =>
            rw [ha] at p3
            obtain ⟨e1, e2⟩ := p3
            cases x with
            | false =>
              have hv0 : v = 0 := e1
              rw [if_neg (by omega)] at q3
              rw [if_pos hv0]
              exact ⟨rfl, q3.trans e2⟩
            | true =>
              have hv1 : v = 1 := e1
              rw [if_pos ⟨hv1, e2⟩] at q3
              rw [if_neg (by omega)]
              exact q3
        · rw [if_neg hm] at p3 ⊢
          rw [if_neg (by
            intro hh
            by_cases hl0 : live = 0
            · rw [if_pos hl0] at hh; omega
            · omega)] at q3
          omega) 500 s1 j1 l1 s j l' (by omega) g2 hk
    obtain ⟨r1, r2, _⟩ := hch m (Nat.le_refl _)
    refine ⟨by omega, r2, ?_⟩
    intro N hN live b hl hb
    obtain ⟨N', rfl⟩ : ∃ N', N = N' + 1 := ⟨N - 1, by omega⟩
    obtain ⟨_, _, r4⟩ := hch N' (by omega)
    obtain ⟨v1, b1, e1, post1⟩ := g4 N' (by omega) live b hl hb
    rw [R5_1]
    unfold bX12_bothOf
    rw [e1, Option.bind_some]
    exact r4 zfu live b v1 b1 (zfu_gt (by omega)) hl hb post1
theorem eTest (hG : eG D K A u sz) {p : kP kTst} {m : Nat} (hp : tOk F D A u sz 2 m p) : tOk F D A u sz 0 (m + 2) (kTestP (kCode K u) p) := by
  have hbo := eBoth hG hp
  intro i l s j l' hk
  unfold kTestP at hk
  cases hpi : kBoth (kCode K u) p i l with
  | inl e => rw [hpi] at hk; cases hk
  | inr q =>
    obtain ⟨s1, j1, l1⟩ := q
    rw [hpi] at hk
    obtain ⟨g1, g2, g4⟩ := hbo i l s1 j1 l1 hpi
    have hsz := hG.2.2.2.2.1
    have hch := fun (N : Nat) (hN : m + 1 ≤ N) => eTChain (F := F) (A := A) hG (o := 5) (g := kOr) (by omega) hbo hN (f := fun live k x D' => fX12_testOf_6 F (R5 F N) live k x D') (w := fun live v => if live = 0 then 0 else if v = 0 then 1 else 0) (c := fun v v1 => if v = 0 then v1 else 1)
      (fun live v hl hv => by split; omega; split <;> omega)
      (fun k live v b v1 b1 i j hl hv hv1 hc hr => by
        have hps : fX12_passes0 F 5 (eS D u i b) = some (1, eS D u (i + 1) b) := ePassT hG (by omega) hc
        unfold fX12_testOf_6
        rw [hps, Option.bind_some]
        dsimp only
        rw [if_neg (by omega)]
        unfold fX12_testOf_27 fX12_testOf_28 fX12_testOf_40 fX12_testOf_45
        rcases hl with rfl | rfl
        · rw [if_pos rfl] at hr
          rw [if_pos rfl, hr, Option.bind_some]
          dsimp only
          rcases hv with rfl | rfl
          · rw [if_pos rfl, if_pos rfl]
            rcases hv1 with rfl | rfl
            · rw [if_pos rfl]
            · rw [if_neg (by omega)]
          · rw [if_neg (by omega), if_neg (by omega)]
        · rw [if_neg (by omega)] at hr
          rw [if_neg (by omega)]
          rcases hv with rfl | rfl
          · rw [if_pos rfl] at hr
            rw [if_pos rfl, hr, Option.bind_some]
            dsimp only
            rw [if_pos rfl, if_pos rfl]
            rcases hv1 with rfl | rfl
            · rw [if_pos rfl]
            · rw [if_neg (by omega)]
          · rw [if_neg (by omega)] at hr
            rw [if_neg (by omega), hr, Option.bind_some]
            dsimp only
            rw [if_neg (by omega), if_neg (by omega)])
      (fun k live v b i hv hc => by
        have hps : fX12_passes0 F 5 (eS D u i b) = some (0, eS D u i b) := ePassF hG (by omega) hc
        unfold fX12_testOf_6
        rw [hps, Option.bind_some]
        dsimp only
        rw [if_pos rfl, if_pos hv])
      (fun live b v b' v1 b1 a s hl h1 h2 => by
        obtain ⟨p1, p2, p3⟩ := h1
        obtain ⟨q1, q2, q3⟩ := h2
        refine ⟨by split <;> omega, q2, ?_⟩
        by_cases hm : live = 1 ∧ b = 0
        · obtain ⟨rfl, rfl⟩ := hm
          rw [if_pos (by omega)] at p3 ⊢
          rw [if_neg (c := (1 : Int) = 0) (by omega)] at q3
          unfold kOr
          cases ha : a A with
          | none =>
            rw [ha] at p3
            dsimp only at p3
            rw [if_neg (by omega)] at q3
            exact q3.trans p3
          | some x =>
            rw [ha] at p3
            obtain ⟨e1, e2⟩ := p3
            cases x with
            | false =>
              have hv0 : v = 0 := e1
              rw [if_pos hv0] at q3
              rw [if_pos ⟨rfl, e2⟩] at q3
              rw [if_pos hv0]
              exact q3
            | true =>
              have hv1 : v = 1 := e1
              rw [if_neg (c := v = 0) (by omega)] at q3
              rw [if_neg (by omega)] at q3
              rw [if_neg (by omega)]
              exact ⟨rfl, q3.trans e2⟩
        · rw [if_neg hm] at p3 ⊢
          rw [if_neg (by
            intro hh
            by_cases hl0 : live = 0
            · rw [if_pos hl0] at hh; omega
            · omega)] at q3
          omega) 500 s1 j1 l1 s j l' (by omega) g2 hk
    obtain ⟨r1, r2, _⟩ := hch (m + 1) (Nat.le_refl _)
    refine ⟨by omega, r2, ?_⟩
    intro N hN live b hl hb
    obtain ⟨N', rfl⟩ : ∃ N', N = N' + 1 := ⟨N - 1, by omega⟩
    obtain ⟨_, _, r4⟩ := hch N' (by omega)
    obtain ⟨v1, b1, e1, post1⟩ := g4 N' (by omega) live b hl hb
    rw [R5_0]
    unfold bX12_testOf
    rw [e1, Option.bind_some]
    exact r4 zfu live b v1 b1 (zfu_gt (by omega)) hl hb post1
theorem eTestD (hG : eG D K A u sz) (d : Nat) (hd : d ≤ 8) : tOk F D A u sz 0 (4 * d + 4) (kTestD (kCode K u) (kVal K u) d) := by
  induction d with
  | zero =>
    unfold kTestD
    exact eTest hG (ePlain hG (ePos (m := 0) hG (by omega) (fun p h => by cases h)))
  | succ d ih =>
    unfold kTestD
    have := eTest hG (ePlain hG (ePos (m := 4 * d + 4) hG hd (dp := some (kTestD (kCode K u) (kVal K u) d)) (fun p h => by cases h; exact ih (by omega))))
    intro i l s j l' hk
    obtain ⟨a, b, e⟩ := this i l s j l' hk
    exact ⟨a, b, fun N hN => e N (by omega)⟩
end EV3
