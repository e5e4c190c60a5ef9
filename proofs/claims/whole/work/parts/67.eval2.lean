section EV2
variable {F : zFs} {D : zDa} {K A : Nat → Int} {u sz : Nat}
theorem kOp147 (x y : Int) : kOp 147 x y = if y = 0 then none else kBnd (Int.tdiv x y) := by
  unfold kOp; rw [if_neg (by omega), if_neg (by omega), if_neg (by omega)]
theorem eTermStep (hG : eG D K A u sz) {rec : Nat → Int → Int → zDa → Option (Int × zDa)} {k : Int → zDa → Option (Int × zDa)} {v s : kSum} {live b : Int} {i j : Nat} (hl : live = 0 ∨ live = 1) (hb : b = 0 ∨ b = 1)
    (hc : kCode K u i = 142 ∨ kCode K u i = 147) (hv : kBd v A) (hs : kBd s A)
    (hr : rec 2 live 0 (eS D u (i + 1) (evr live b (v A)).2) = some ((evr live (evr live b (v A)).2 (s A)).1, eS D u j (evr live (evr live b (v A)).2 (s A)).2)) :
    fX12_termOf_6 F rec live k (evr live b (v A)).1 (eS D u i (evr live b (v A)).2) = k (evr live b (kBin (kCode K u i) v s A)).1 (eS D u j (evr live b (kBin (kCode K u i) v s A)).2) := by
  have hlt := eCode_lt hG (i := i) (by omega)
  have hu := hG.2.2.2.1
  have hsz := hG.2.2.2.2.1
  have i1 := evr_in (live := live) (b := b) hv
  have i2 := evr_in (live := live) (b := (evr live b (v A)).2) hs
  have e38 : ∀ (x b1 : Int), fX12_termOf_38 F rec k live x (eS D u i b1) = if kCode K u i = 142 then fX12_termOf_59 F rec k live x 1 (eS D u i b1) else fX12_termOf_59 F rec k live x 0 (eS D u i b1) := by
    intro x b1
    simp only [fX12_termOf_38, eS_18, eCode hG, eSign 42 (by omega), Option.bind_some, Int.reduceAdd]
  have e6 : ∀ (x b1 : Int), fX12_termOf_6 F rec live k x (eS D u i b1) = fX12_termOf_38 F rec k live x (eS D u i b1) := by
    intro x b1
    simp only [fX12_termOf_6, eS_18, eCode hG, eSign 42 (by omega), eSign 47 (by omega), Option.bind_some, Int.reduceAdd]
    rcases hc with hc | hc
    · rw [if_pos hc]
    · rw [if_neg (by omega), if_pos hc]
  rw [e6, e38]
  rcases hc with hc | hc
  · have hop := eOp (F := F) (D := D) (A := A) (u := u) (op := kCode K u i) (v := v) (s := s) (i := j) hl hb (by omega) (fun x y _ _ => by
      unfold kOp
      rw [hc, if_neg (by omega), if_neg (by omega), if_pos rfl, if_neg (by omega), if_neg (by omega)])
    rw [if_pos hc]
    rw [if_neg (by omega), if_neg (by omega)] at hop
    generalize hx : (evr live b (v A)).1 = x at *
    generalize hb1 : (evr live b (v A)).2 = b1 at *
    generalize hy : (evr live b1 (s A)).1 = y at *
    generalize hb2 : (evr live b1 (s A)).2 = b2 at *
    unfold fX12_termOf_59
    rw [eS_18, if_pos (by omega)]
    dsimp only [zlet]
    rw [eS_go (j := i + 1) (by omega), hr, Option.bind_some]
    dsimp only
    rw [if_neg (by omega)]
    unfold fX12_termOf_113 fX12_termOf_130
    have hxy : -1000000000000000000 ≤ x * y ∧ x * y ≤ 1000000000000000000 := by
      have h1 : x * y ≤ 1000000000 * 1000000000 := by
        by_cases hy0 : 0 ≤ y
        · exact Int.le_trans (Int.mul_le_mul_of_nonneg_right i1.2 hy0) (Int.mul_le_mul_of_nonneg_left i2.2 (by omega))
        · have : x * y = (-x) * (-y) := by rw [Int.neg_mul_neg]
          rw [this]
          exact Int.le_trans (Int.mul_le_mul_of_nonneg_right (by omega : -x ≤ 1000000000) (by omega)) (Int.mul_le_mul_of_nonneg_left (by omega) (by omega))
      have h2 : -(x * y) ≤ 1000000000 * 1000000000 := by
        by_cases hy0 : 0 ≤ y
        · have : -(x * y) = (-x) * y := by rw [Int.neg_mul]
          rw [this]
          exact Int.le_trans (Int.mul_le_mul_of_nonneg_right (by omega : -x ≤ 1000000000) hy0) (Int.mul_le_mul_of_nonneg_left i2.2 (by omega))
        · have : -(x * y) = x * (-y) := by rw [Int.mul_neg]
          rw [this]
          exact Int.le_trans (Int.mul_le_mul_of_nonneg_right i1.2 (by omega)) (Int.mul_le_mul_of_nonneg_left (by omega) (by omega))
      omega
    rw [if_neg (by omega), if_pos (by omega), hop]; rfl
  · rw [if_neg (by omega), hc]
    have e59 : ∀ (x b1 y b2 : Int), rec 2 live 0 (eS D u (i + 1) b1) = some (y, eS D u j b2) → (-1000000000 ≤ x ∧ x ≤ 1000000000) → (b2 = 0 ∨ b2 = 1) →
        fX12_termOf_59 F rec k live x 0 (eS D u i b1) = (fX12_bounded F (if y = 0 then x else Int.tdiv x y) live (eS D u j (if y = 0 then (if b2 = 0 then live else 1) else b2))).bind (fun (r, D') => k r D') := by
      intro x b1 y b2 hr hx hb2
      unfold fX12_termOf_59
      rw [eS_18, if_pos (by omega)]
      dsimp only [zlet]
      rw [eS_go (j := i + 1) (by omega), hr, Option.bind_some]
      dsimp only
      rw [if_pos rfl]
      by_cases hy : y = 0
      · rw [if_pos hy, if_pos hy, if_pos hy]
        have e113 : ∀ b3 : Int, fX12_termOf_113 F rec k live x 0 1 (eS D u j b3) = (fX12_bounded F x live (eS D u j b3)).bind (fun (r, D') => k r D') := by
          intro b3
          unfold fX12_termOf_113 fX12_termOf_130
          rw [if_pos rfl, if_pos (by omega), Int.tdiv_one]
        have e107 : ∀ s0 : Int, (s0 = 0 ∨ s0 = 1) → fX12_termOf_107 F rec k live x 0 s0 (eS D u j b2) = (fX12_bounded F x live (eS D u j s0)).bind (fun (r, D') => k r D') := by
          intro s0 hs0
          unfold fX12_termOf_107
          rw [if_pos hs0]
          dsimp only [zlet]
          rw [eS_br, e113]
        unfold fX12_termOf_102
        by_cases hz : b2 = 0
        · rw [if_pos (show eS D u j b2 91 20 = 0 by rw [eS_20]; exact hz), if_pos hz]
          rcases hl with rfl | rfl
          · rw [if_pos rfl, e107 0 (by omega)]
          · rw [if_neg (by omega), e107 1 (by omega)]
        · rw [if_neg (show ¬ eS D u j b2 91 20 = 0 by rw [eS_20]; exact hz), if_neg hz, e107 1 (by omega)]
      · rw [if_neg hy, if_neg hy, if_neg hy]
        unfold fX12_termOf_113 fX12_termOf_130
        rw [if_pos rfl, if_pos (by omega)]
    rw [e59 _ _ _ _ hr i1 (evr_b (evr_b hb))]
    by_cases hm : live = 1 ∧ b = 0
    · obtain ⟨rfl, rfl⟩ := hm
      unfold kBin
      cases hva : v A with
      | none =>
        rw [evr_n]
        have : evr 1 1 (s A) = (0, 1) := by unfold evr; rw [if_neg (by omega)]
        rw [this]
        dsimp only
        rw [if_pos rfl, if_pos rfl, if_neg (by omega), eBnd2, Option.bind_none, evr_n]; rfl
      | some x =>
        rw [evr_s]
        dsimp only
        cases hsa : s A with
        | none =>
          rw [evr_n]
          dsimp only
          rw [if_pos rfl, if_pos rfl, if_neg (by omega), eBnd2]
          simp only [Option.bind_some, Option.bind_none, evr_n]
        | some y =>
          rw [evr_s]
          dsimp only
          rw [Option.bind_some, Option.bind_some, kOp147]
          by_cases hy : y = 0
          · rw [if_pos hy, if_pos hy, if_pos hy, if_pos rfl, eBnd2, evr_n]; rfl
          · rw [if_neg hy, if_neg hy, if_neg hy, eBnd1]; rfl
    · have h1 : ∀ o, evr live b o = (0, b) := fun o => by unfold evr; rw [if_neg hm]
      rw [h1, h1, h1]
      dsimp only
      rw [if_pos rfl, if_pos rfl]
      rcases hb with rfl | rfl
      · have : live = 0 := by omega
        subst this
        rw [if_pos rfl, eBnd3]; rfl
      · rw [if_neg (by omega), eBnd2]; rfl
theorem eTermEnd (hG : eG D K A u sz) {rec : Nat → Int → Int → zDa → Option (Int × zDa)} {k : Int → zDa → Option (Int × zDa)} {live x b : Int} {i : Nat} (hc : ¬ (kCode K u i = 142 ∨ kCode K u i = 147)) :
    fX12_termOf_6 F rec live k x (eS D u i b) = some (x, eS D u i b) := by
  simp only [fX12_termOf_6, eS_18, eCode hG, eSign 42 (by omega), eSign 47 (by omega), Option.bind_some, Int.reduceAdd]
  rw [if_neg (fun h => hc (Or.inl h)), if_neg (fun h => hc (Or.inr h))]
/-- the loop of a chain, with a step as above -/
theorem eChain (hG : eG D K A u sz) {o1 o2 : Int} (ho : o1 ≠ 0 ∧ o2 ≠ 0) {p : kP kSum} {t m : Nat} (hp : eOk F D A u sz t m p) {N : Nat} (hN : m ≤ N)
    {f : Int → (Int → zDa → Option (Int × zDa)) → Int → zDa → Option (Int × zDa)}
    (hst : ∀ (k : Int → zDa → Option (Int × zDa)) (v s : kSum) (live b : Int) (i j : Nat), (live = 0 ∨ live = 1) → (b = 0 ∨ b = 1) → (kCode K u i = o1 ∨ kCode K u i = o2) → kBd v A → kBd s A →
      R4 F N t live 0 (eS D u (i + 1) (evr live b (v A)).2) = some ((evr live (evr live b (v A)).2 (s A)).1, eS D u j (evr live (evr live b (v A)).2 (s A)).2) →
      f live k (evr live b (v A)).1 (eS D u i (evr live b (v A)).2) = k (evr live b (kBin (kCode K u i) v s A)).1 (eS D u j (evr live b (kBin (kCode K u i) v s A)).2))
    (hen : ∀ (k : Int → zDa → Option (Int × zDa)) (live x b : Int) (i : Nat), ¬ (kCode K u i = o1 ∨ kCode K u i = o2) → f live k x (eS D u i b) = some (x, eS D u i b)) :
    ∀ (n : Nat) (v : kSum) (i l : Nat) (s : kSum) (j l' : Nat), sz < i + n → i ≤ sz → kBd v A → kChain (kCode K u) o1 o2 p n v i l = .inr (s, j, l') →
      i ≤ j ∧ j ≤ sz ∧ kBd s A ∧ ∀ (M : Nat) (live b : Int), n < M → (live = 0 ∨ live = 1) → (b = 0 ∨ b = 1) →
        zfix (fun _ _ => none) (f live) M (evr live b (v A)).1 (eS D u i (evr live b (v A)).2) = some ((evr live b (s A)).1, eS D u j (evr live b (s A)).2) := by
  intro n
  induction n with
  | zero => intro v i l s j l' h1 h2; omega
  | succ n ih =>
    intro v i l s j l' h1 h2 hv hk
    unfold kChain at hk
    by_cases hc : kCode K u i = o1 ∨ kCode K u i = o2
    · rw [if_pos hc] at hk
      cases hpi : p (i + 1) l with
      | inl e => rw [hpi] at hk; cases hk
      | inr q =>
        obtain ⟨s1, j1, l1⟩ := q
        rw [hpi] at hk
        obtain ⟨g1, g2, g3, g4⟩ := hp (i + 1) l s1 j1 l1 hpi
        obtain ⟨r1, r2, r3, r4⟩ := ih (kBin (kCode K u i) v s1) j1 l1 s j l' (by omega) g2 kBin_bd hk
        refine ⟨by omega, r2, r3, ?_⟩
        intro M live b hM hl hb
        obtain ⟨M', rfl⟩ : ∃ M', M = M' + 1 := ⟨M - 1, by omega⟩
        rw [zfix_succ, hst _ v s1 live b i j1 hl hb hc hv g3 (g4 N hN live _ hl (evr_b hb))]
        exact r4 M' live b (by omega) hl hb
    · rw [if_neg hc] at hk
      cases hk
      refine ⟨by omega, h2, hv, ?_⟩
      intro M live b hM hl hb
      obtain ⟨M', rfl⟩ : ∃ M', M = M' + 1 := ⟨M - 1, by omega⟩
      rw [zfix_succ, hen _ live _ _ i hc]
theorem eTerm (hG : eG D K A u sz) {p : kP kSum} {m : Nat} (hp : eOk F D A u sz 2 m p) : eOk F D A u sz 1 (m + 1) (kTerm (kCode K u) p) := by
  intro i l s j l' hk
  unfold kTerm at hk
  cases hpi : p i l with
  | inl e => rw [hpi] at hk; cases hk
  | inr q =>
    obtain ⟨s1, j1, l1⟩ := q
    rw [hpi] at hk
    obtain ⟨g1, g2, g3, g4⟩ := hp i l s1 j1 l1 hpi
    have hsz := hG.2.2.2.2.1
    have hch := fun (N : Nat) (hN : m ≤ N) => eChain hG (o1 := 142) (o2 := 147) (by omega) hp hN (f := fun live k x D' => fX12_termOf_6 F (R4 F N) live k x D') (fun k v s live b i j hl hb hc hv hs hr => eTermStep hG hl hb hc hv hs hr) (fun k live x b i hc => eTermEnd hG hc) 500 s1 j1 l1 s j l' (by omega) g2 g3 hk
    obtain ⟨r1, r2, r3, _⟩ := hch m (Nat.le_refl _)
    refine ⟨by omega, r2, r3, ?_⟩
    intro N hN live b hl hb
    obtain ⟨N', rfl⟩ : ∃ N', N = N' + 1 := ⟨N - 1, by omega⟩
    obtain ⟨_, _, _, r4⟩ := hch N' (by omega)
    rw [R4_1]
    unfold bX12_termOf
    rw [g4 N' (by omega) live b hl hb, Option.bind_some]
    exact r4 zfu live b (zfu_gt (by omega)) hl hb
theorem eSum (hG : eG D K A u sz) {p : kP kSum} {m : Nat} (hp : eOk F D A u sz 2 m p) : eOk F D A u sz 0 (m + 2) (kSumP (kCode K u) p) := by
  have ht := eTerm hG hp
  intro i l s j l' hk
  unfold kSumP at hk
  cases hpi : kTerm (kCode K u) p i l with
  | inl e => rw [hpi] at hk; cases hk
  | inr q =>
    obtain ⟨s1, j1, l1⟩ := q
    rw [hpi] at hk
    obtain ⟨g1, g2, g3, g4⟩ := ht i l s1 j1 l1 hpi
    have hsz := hG.2.2.2.2.1
    have hch := fun (N : Nat) (hN : m + 1 ≤ N) => eChain hG (o1 := 143) (o2 := 145) (by omega) ht hN (f := fun live k x D' => fX12_sumOf_6 F (R4 F N) live k x D') (fun k v s live b i j hl hb hc hv hs hr => eSumStep hG hl hb hc hv hs hr) (fun k live x b i hc => eSumEnd hG hc) 500 s1 j1 l1 s j l' (by omega) g2 g3 hk
    obtain ⟨r1, r2, r3, _⟩ := hch (m + 1) (Nat.le_refl _)
    refine ⟨by omega, r2, r3, ?_⟩
    intro N hN live b hl hb
    obtain ⟨N', rfl⟩ : ∃ N', N = N' + 1 := ⟨N - 1, by omega⟩
    obtain ⟨_, _, _, r4⟩ := hch N' (by omega)
    rw [R4_0]
    unfold bX12_sumOf
    rw [g4 N' (by omega) live b hl hb, Option.bind_some]
    exact r4 zfu live b (zfu_gt (by omega)) hl hb
theorem ePart (hG : eG D K A u sz) {dp : Option (kP kSum)} {m : Nat} (hd : ∀ p, dp = some p → eOk F D A u sz 0 m p) : eOk F D A u sz 2 (m + 1) (kPart (kCode K u) (kVal K u) dp) := by
  intro i l s j l' hk
  have hu := hG.2.2.2.1
  have hsz := hG.2.2.2.2.1
  unfold kPart at hk
  by_cases hc : kCode K u i = 191
  · rw [if_pos hc] at hk
    have hlt := eCode_lt hG (i := i) (by omega)
    cases hdp : dp with
    | none => rw [hdp] at hk; cases hk
    | some p =>
      rw [hdp] at hk
      dsimp only at hk
      cases hpi : p (i + 1) l with
      | inl e => rw [hpi] at hk; cases hk
      | inr q =>
        obtain ⟨s1, j1, l1⟩ := q
        rw [hpi] at hk
        dsimp only at hk
        by_cases hc2 : kCode K u j1 = 193
        · rw [if_pos hc2] at hk
          cases hk
          have hlt2 := eCode_lt hG (i := j1) (by omega)
          obtain ⟨g1, g2, g3, g4⟩ := hd p hdp (i + 1) l s j1 l' hpi
          refine ⟨by omega, by omega, g3, ?_⟩
          intro N hN live b hl hb
          obtain ⟨N', rfl⟩ : ∃ N', N = N' + 1 := ⟨N - 1, by omega⟩
          rw [R4_2]
          unfold bX12_partOf
          rw [eSign 91 (by omega), Option.bind_some]
          dsimp only
          have hps : fX12_passes0 F (100 + 91) (eS D u i b) = some (1, eS D u (i + 1) b) := by rw [ePass hG i b _ (by omega), if_pos (by omega), if_pos (by omega)]
          rw [hps, Option.bind_some]
          dsimp only
          rw [if_neg (by omega), g4 N' (by omega) live b hl hb, Option.bind_some]
          simp only [eS_18, zlet]
          rw [if_pos (by omega), eS_go (j := j1 + 1) (by omega)]
        · rw [if_neg hc2] at hk; cases hk
  · rw [if_neg hc] at hk
    have body : ∀ N live b, R4 F (N + 1) 2 live 0 (eS D u i b) = if (-2147483648 ≤ 400 * (u : Int) + i + 1 ∧ 400 * (u : Int) + i + 1 ≤ 2147483647) then (if live = 0 then some (0, eS D u (i + 1) b) else if b = 0 then (if kCode K u i = 50 then (if (-2147483648 ≤ 2801 + (400 * (u : Int) + (i + 1 : Nat)) ∧ 2801 + (400 * (u : Int) + (i + 1 : Nat)) ≤ 2147483647) ∧ (-2147483648 ≤ (2801 + (400 * (u : Int) + (i + 1 : Nat))) - 1 ∧ (2801 + (400 * (u : Int) + (i + 1 : Nat))) - 1 ≤ 2147483647) ∧ (0 ≤ ((2801 + (400 * (u : Int) + (i + 1 : Nat))) - 1) ∧ ((2801 + (400 * (u : Int) + (i + 1 : Nat))) - 1) < 5201) then some (D 93 ((2801 + (400 * (u : Int) + (i + 1 : Nat))) - 1).toNat, eS D u (i + 1) b) else none) else (if (-2147483648 ≤ kCode K u i - 8 ∧ kCode K u i - 8 ≤ 2147483647) ∧ (0 ≤ (kCode K u i - 8) ∧ (kCode K u i - 8) < 7) then some (D 102 (kCode K u i - 8).toNat, eS D u (i + 1) b) else none)) else some (0, eS D u (i + 1) b)) else none := by
      intro N live b
      rw [R4_2]
      unfold bX12_partOf
      rw [eSign 91 (by omega), Option.bind_some]
      dsimp only
      have hps : fX12_passes0 F (100 + 91) (eS D u i b) = some (0, eS D u i b) := by rw [ePass hG i b _ (by omega), if_neg (by omega), if_neg (by omega)]
      rw [hps, Option.bind_some]
      dsimp only
      rw [if_pos rfl, eS_18, eCode hG, Option.bind_some]
      have hg : zwr (eS D u i b) 91 18 (400 * (u : Int) + i + 1) = eS D u (i + 1) b := eS_go (by omega)
      have h93 : eS D u (i + 1) b 93 = D 93 := eS_r (by omega)
      have h102 : eS D u (i + 1) b 102 = D 102 := eS_r (by omega)
      simp only [zlet, eS_18, hg, eS_20, h93, h102]
    have leaf : ∀ x : Int, i < sz → (-1000000000 ≤ x ∧ x ≤ 1000000000) → s = (fun _ => some x) ∨ s A = some x → j = i + 1 →
        (kCode K u i = 50 ∧ x = K (2801 + 400 * u + i) ∨ (8 ≤ kCode K u i ∧ kCode K u i ≤ 14) ∧ x = A (kCode K u i - 8).toNat) →
        i < j ∧ j ≤ sz ∧ kBd s A ∧ ∀ N, m + 1 ≤ N → ∀ live b : Int, (live = 0 ∨ live = 1) → (b = 0 ∨ b = 1) → R4 F N 2 live 0 (eS D u i b) = some ((evr live b (s A)).1, eS D u j (evr live b (s A)).2) := by
      intro x hi hx hs hj hcase
      have hsA : s A = some x := by
        rcases hs with rfl | h
        · rfl
        · exact h
      subst hj
      refine ⟨by omega, by omega, fun y hy => by rw [hsA] at hy; cases hy; exact hx, ?_⟩
      intro N hN live b hl hb
      obtain ⟨N', rfl⟩ : ∃ N', N = N' + 1 := ⟨N - 1, by omega⟩
      rw [body, if_pos (by omega), hsA]
      rcases hl with rfl | rfl
      · rw [if_pos rfl]; unfold evr; rw [if_neg (by omega)]
      · rw [if_neg (by omega)]
        rcases hb with rfl | rfl
        · rw [if_pos rfl, evr_s]
          rcases hcase with ⟨h50, hx⟩ | ⟨h8, hx⟩
          · rw [if_pos h50, if_pos (by omega), hG.1, show ((2801 + (400 * (u : Int) + ((i + 1 : Nat) : Int))) - 1).toNat = 2801 + 400 * u + i by omega, ← hx]
          · rw [if_neg (by omega), if_pos (by omega), hG.2.1 _ (by omega), ← hx]
        · rw [if_neg (by omega)]; unfold evr; rw [if_neg (by omega)]
    by_cases h50 : kCode K u i = 50 ∧ 0 ≤ kVal K u i ∧ kVal K u i ≤ 1000
    · rw [if_pos h50] at hk
      have hlt := eCode_lt hG (i := i) (by omega)
      by_cases hl50 : l = 50
      · rw [if_pos hl50] at hk; cases hk
      · rw [if_neg hl50] at hk
        cases hk
        exact leaf (kVal K u i) hlt (by omega) (Or.inl rfl) rfl (Or.inl ⟨h50.1, rfl⟩)
    · rw [if_neg h50] at hk
      by_cases h8 : 8 ≤ kCode K u i ∧ kCode K u i ≤ 14
      · rw [if_pos h8] at hk
        have hlt := eCode_lt hG (i := i) (by omega)
        by_cases hl50 : l = 50
        · rw [if_pos hl50] at hk; cases hk
        · rw [if_neg hl50] at hk
          cases hk
          exact leaf (A (kCode K u i - 8).toNat) hlt (hG.2.2.2.2.2.2 _) (Or.inr rfl) rfl (Or.inr ⟨h8, rfl⟩)
      · rw [if_neg h8] at hk; cases hk
theorem eSumD (hG : eG D K A u sz) (d : Nat) : eOk F D A u sz 0 (3 * d + 3) (kSumD (kCode K u) (kVal K u) d) := by
  induction d with
  | zero =>
    unfold kSumD
    exact eSum hG (ePart (m := 0) hG (fun p h => by cases h))
  | succ d ih =>
    unfold kSumD
    have := eSum hG (ePart (m := 3 * d + 3) hG (dp := some (kSumD (kCode K u) (kVal K u) d)) (fun p h => by cases h; exact ih))
    intro i l s j l' hk
    obtain ⟨a, b, c, e⟩ := this i l s j l' hk
    exact ⟨a, b, c, fun N hN => e N (by omega)⟩
end EV2
