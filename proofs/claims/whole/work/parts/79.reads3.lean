section RD3
variable {F : zFs} {D : zDa} {c w p : Nat → Int} {n : Nat}
/-- how the reading of a whole text ends -/
def rFin {α : Type} (D : zDa) (p : Nat → Int) (n : Nat) (x : Nat ⊕ α) (y : Option (Int × zDa)) : Prop := match x with
  | .inl e => e ≤ n ∧ ∃ i' l', y = some (0, zwr (rS D i' l' (p e)) 91 10 (p e))
  | .inr _ => ∃ i' l', y = some (1, zwr (rS D i' l' (-1)) 91 10 (-1))
def kFin {α : Type} (n : Nat) (x : Nat ⊕ (α × Nat)) : Nat ⊕ α := match x with
  | .inl e => .inl e
  | .inr (r, k) => if k = n then .inr r else .inl k
theorem rS_w10 {i l : Nat} {b x : Int} : zwr (rS D i l b) 91 10 x = rS (zwr D 91 10 x) i l b := by
  funext a k
  unfold rS zwr
  by_cases ha : a = 91
  · by_cases h1 : k = 10
    · simp [ha, h1]
    · simp [ha, h1]
  · simp [ha]
theorem rR95_f {i l : Nat} {b : Int} (hb : 0 ≤ b) : fX12_reads_95 F (rS D i l b) = some (0, zwr (rS D i l b) 91 10 b) := by
  unfold fX12_reads_95
  rw [zlet_b, rS_17, rS_w10, rFine_f hb, Option.bind_some]
  exact if_pos (Or.inl rfl)
theorem rR95_t {i l : Nat} : fX12_reads_95 F (rS D i l (-1)) = some (1, zwr (rS D i l (-1)) 91 10 (-1)) := by
  unfold fX12_reads_95
  rw [zlet_b, rS_17, rS_w10, rFine_t, Option.bind_some]
  exact if_pos (Or.inr rfl)
theorem rR34_f {i l : Nat} {b v : Int} (hb : 0 ≤ b) (k : Int → zDa → Option (Int × zDa)) : fX12_reads_34 F k v (rS D i l b) = some (0, zwr (rS D i l b) 91 10 b) := by
  unfold fX12_reads_34
  rw [eSign 59 (by omega), Option.bind_some]
  dsimp only
  rw [rTk_f hb, Option.bind_some]
  dsimp only
  rw [if_pos rfl, rFine_f hb, Option.bind_some]
  dsimp only
  rw [if_pos rfl, rR95_f hb]
theorem rLoop (hG : rG D c w p n) (h14 : D 91 14 = (n : Int)) : ∀ (m N j l : Nat), 13 ≤ N + m → N ≤ 12 → j ≤ n → l ≤ 50 → ∀ M, m + 1 < M → rFin D p n (kFin n (if c j = 159 then kText c w m N (j + 1) l else .inr ([], j))) (zfix (fun _ _ => none) (fX12_reads_34 F) M (N : Int) (rS D j l (-1))) := by
  intro m
  induction m with
  | zero => intro N j l h1 h2; omega
  | succ m ih =>
    intro N j l h1 h2 hj hl M hM
    obtain ⟨M', rfl⟩ : ∃ M', M = M' + 1 + 1 := ⟨M - 2, by omega⟩
    rw [zfix_succ]
    by_cases hc : c j = 159
    · have hjn : j < n := rIn hG (by omega)
      rw [if_pos hc]
      have st : ∀ k, fX12_reads_34 F k (N : Int) (rS D j l (-1)) = if (N : Int) = 12 then (fX12_faults F (rS D (j + 1) l (-1))).bind (fun D_21 => fX12_reads_56 F k (N : Int) D_21) else fX12_reads_56 F k (N : Int) (rS D (j + 1) l (-1)) := by
        intro k
        unfold fX12_reads_34
        rw [eSign 59 (by omega), Option.bind_some]
        dsimp only
        rw [rTk_y hG hj (by omega), Option.bind_some]
        dsimp only
        rw [if_neg (by omega)]
      rw [st]
      unfold kText
      by_cases h12 : N = 12
      · rw [if_pos (c := (N : Int) = 12) (by omega), if_pos h12, rFault_t hG (by omega), Option.bind_some]
        unfold fX12_reads_56
        rw [rFine_f (hG.2.2.2.1 _), Option.bind_some]
        dsimp only
        rw [if_pos rfl]
        unfold fX12_reads_67
        rw [if_pos (by omega), zfix_succ, rR34_f (hG.2.2.2.1 _)]
        exact ⟨by omega, j + 1, l, rfl⟩
      · rw [if_neg (c := (N : Int) = 12) (by omega), if_neg h12]
        unfold fX12_reads_56
        rw [rFine_t, Option.bind_some]
        dsimp only
        rw [if_neg (by omega)]
        have hr := rClause (F := F) hG (i := j + 1) (l := l) (by omega) hl
        cases hcl : kClause c w (j + 1) l with
        | inl e =>
          rw [hcl] at hr
          obtain ⟨he, i', l', e1⟩ := hr
          rw [e1, Option.bind_some]
          unfold fX12_reads_67
          rw [if_pos (by omega), zfix_succ, rR34_f (hG.2.2.2.1 _)]
          exact ⟨he, i', l', rfl⟩
        | inr s =>
          obtain ⟨s1, j1, l1⟩ := s
          rw [hcl] at hr
          obtain ⟨a1, a2, a3, a4⟩ := hr
          rw [a4, Option.bind_some]
          unfold fX12_reads_67
          rw [if_pos (by omega), show (N : Int) + 1 = ((N + 1 : Nat) : Int) by omega]
          have hi := ih (N + 1) j1 l1 (by omega) (by omega) a2 a3 (M' + 1) (by omega)
          dsimp only
          by_cases hc1 : c j1 = 159
          · rw [if_pos hc1] at hi ⊢
            cases hk : kText c w m (N + 1) (j1 + 1) l1 with
            | inl e => rw [hk] at hi; exact hi
            | inr q =>
              obtain ⟨r, k⟩ := q
              rw [hk] at hi
              unfold kFin at hi ⊢
              dsimp only at hi ⊢
              by_cases hkn : k = n
              · rw [if_pos hkn] at hi ⊢; exact hi
              · rw [if_neg hkn] at hi ⊢; exact hi
          · rw [if_neg hc1] at hi ⊢
            unfold kFin at hi ⊢
            dsimp only at hi ⊢
            by_cases hkn : j1 = n
            · rw [if_pos hkn] at hi ⊢; exact hi
            · rw [if_neg hkn] at hi ⊢; exact hi
    · rw [if_neg hc]
      have st : ∀ k, fX12_reads_34 F k (N : Int) (rS D j l (-1)) = if (j : Int) < (n : Int) then (fX12_faults F (rS D j l (-1))).bind (fun D_19 => fX12_reads_95 F D_19) else fX12_reads_95 F (rS D j l (-1)) := by
        intro k
        unfold fX12_reads_34
        rw [eSign 59 (by omega), Option.bind_some]
        dsimp only
        rw [rTk_n hG hj (by omega), Option.bind_some]
        dsimp only
        rw [if_pos rfl, rFine_t, Option.bind_some]
        dsimp only
        rw [if_neg (by omega)]
        simp only [rS_15, rS_f (D := D) (i := j) (l := l) (b := -1) (k := 14) (by omega) (by omega) (by omega), h14]
      rw [st]
      unfold kFin
      dsimp only
      by_cases hjn : j = n
      · rw [if_pos hjn, if_neg (by omega), rR95_t]
        exact ⟨j, l, rfl⟩
      · rw [if_neg hjn, if_pos (by omega), rFault_t hG hj, Option.bind_some, rR95_f (hG.2.2.2.1 _)]
        exact ⟨hj, j, l, rfl⟩
theorem kRead_fin (size : Nat) : kRead c w size = kFin size (kText c w 13 0 0 0) := by
  unfold kRead kFin
  cases kText c w 13 0 0 0 <;> rfl
theorem rText (hG : rG D c w p n) (h14 : D 91 14 = (n : Int)) : rFin D p n (kRead c w n) ((fX12_readClause F (rS D 0 0 (-1))).bind (fun D_8 => zfix (fun _ _ => none) (fX12_reads_34 F) zfu 1 D_8)) := by
  rw [kRead_fin]
  unfold kText
  rw [if_neg (by omega)]
  have hr := rClause (F := F) hG (i := 0) (l := 0) (by omega) (by omega)
  cases hcl : kClause c w 0 0 with
  | inl e =>
    rw [hcl] at hr
    obtain ⟨he, i', l', e1⟩ := hr
    rw [e1, Option.bind_some, show zfu = 999999 + 1 from rfl, zfix_succ, rR34_f (hG.2.2.2.1 _)]
    exact ⟨he, i', l', rfl⟩
  | inr s =>
    obtain ⟨s1, j1, l1⟩ := s
    rw [hcl] at hr
    obtain ⟨a1, a2, a3, a4⟩ := hr
    rw [a4, Option.bind_some]
    have hi := rLoop (F := F) hG h14 12 1 j1 l1 (by omega) (by omega) a2 a3 zfu (zfu_gt (by omega))
    rw [show ((1 : Nat) : Int) = 1 from rfl] at hi
    dsimp only
    by_cases hc1 : c j1 = 159
    · rw [if_pos hc1] at hi ⊢
      cases hk : kText c w 12 1 (j1 + 1) l1 with
      | inl e => rw [hk] at hi; exact hi
      | inr q =>
        obtain ⟨r, k⟩ := q
        rw [hk] at hi
        unfold kFin at hi ⊢
        dsimp only at hi ⊢
        by_cases hkn : k = n
        · rw [if_pos hkn] at hi ⊢; exact hi
        · rw [if_neg hkn] at hi ⊢; exact hi
    · rw [if_neg hc1] at hi ⊢
      unfold kFin at hi ⊢
      dsimp only at hi ⊢
      by_cases hkn : j1 = n
      · rw [if_pos hkn] at hi ⊢; exact hi
      · rw [if_neg hkn] at hi ⊢; exact hi
end RD3
