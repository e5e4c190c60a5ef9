/-! ===== tokens of a tape ===== -/
def tSm (b : Int) : Bool := decide (97 ≤ b ∧ b ≤ 122)
def tDg (b : Int) : Bool := decide (48 ≤ b ∧ b ≤ 57)
/-- the end of a row of signs -/
def tRun (P : Int → Bool) (tp : Nat → Int) (L : Nat) (n t : Nat) : Nat := match n with
  | 0 => t
  | n + 1 => if t < L ∧ P (tp t) = true then tRun P tp L n (t + 1) else t
def tEnd (tp : Nat → Int) (L k : Nat) : Nat := if tSm (tp k) = true then tRun tSm tp L 400 (k + 1) else if tDg (tp k) = true then tRun tDg tp L 400 (k + 1) else k + 1
def tTok (tp : Nat → Int) (L n k : Nat) : List (Nat × Nat) := match n with
  | 0 => []
  | n + 1 => if k < L then (if tp k = 32 then tTok tp L n (k + 1) else (k, tEnd tp L k) :: tTok tp L n (tEnd tp L k)) else []
def kWords : List (List Int) := [[104, 111, 117, 114, 115], [107, 101, 101, 112, 115], [99, 104, 97, 110, 99, 101], [105, 102], [111, 114], [97, 110, 100], [110, 111, 116], [107, 105, 110, 103], [112, 97, 103, 101, 115], [108, 101, 118, 101, 108], [104, 101, 108, 112, 101, 100], [108, 105, 107, 101, 100], [100, 97, 121], [113, 117, 101, 115, 116, 105, 111, 110]]
def tByt (tp : Nat → Int) (a b : Nat) : List Int := (List.range (b - a)).map (fun k => tp (a + k))
def tFind (ws : List (List Int)) (B : List Int) (k : Int) : Int := match ws with
  | [] => 0
  | w :: r => if w = B then k else tFind r B (k + 1)
def tNum (tp : Nat → Int) (a m : Nat) : Int := match m with
  | 0 => 0
  | m + 1 => if 1000000 < tNum tp a m then tNum tp a m else 10 * tNum tp a m + tp (a + m) - 48
def tCode (tp : Nat → Int) (q : Nat × Nat) : Int := if tSm (tp q.1) = true then tFind kWords (tByt tp q.1 q.2) 1 else if tDg (tp q.1) = true then 50 else 100 + tp q.1
def tVal (tp : Nat → Int) (q : Nat × Nat) : Int := if tDg (tp q.1) = true then tNum tp q.1 (q.2 - q.1) else 0
def tToks (tp : Nat → Int) (L : Nat) : List (Nat × Nat) := tTok tp L 401 0
def tC (tp : Nat → Int) (L i : Nat) : Int := match (tToks tp L)[i]? with | some q => tCode tp q | none => 0
def tW (tp : Nat → Int) (L i : Nat) : Int := match (tToks tp L)[i]? with | some q => tVal tp q | none => 0
def tP (tp : Nat → Int) (L i : Nat) : Int := match (tToks tp L)[i]? with | some q => (q.1 : Int) | none => (L : Int)
section TK2
variable {tp : Nat → Int} {L : Nat}
theorem tRun_le (P : Int → Bool) (n t : Nat) (h : t ≤ L) : t ≤ tRun P tp L n t ∧ tRun P tp L n t ≤ L := by
  induction n generalizing t with
  | zero => exact ⟨Nat.le_refl _, h⟩
  | succ n ih =>
    unfold tRun
    split
    · next hc => have := ih (t + 1) (by omega); omega
    · exact ⟨Nat.le_refl _, h⟩
theorem tEnd_le {k : Nat} (h : k < L) : k < tEnd tp L k ∧ tEnd tp L k ≤ L := by
  unfold tEnd
  split
  · have := tRun_le (tp := tp) tSm 400 (k + 1) (L := L) (by omega); omega
  · split
    · have := tRun_le (tp := tp) tDg 400 (k + 1) (L := L) (by omega); omega
    · omega
theorem tTok_len (n k : Nat) (h : k ≤ L) : (tTok tp L n k).length ≤ L - k := by
  induction n generalizing k with
  | zero => simp [tTok]
  | succ n ih =>
    unfold tTok
    split
    · next hk =>
      split
      · have := ih (k + 1) (by omega); omega
      · have h1 := tEnd_le (tp := tp) hk
        have := ih (tEnd tp L k) (by omega)
        simp only [List.length_cons]; omega
    · simp
theorem tToks_len : (tToks tp L).length ≤ L := by
  have := tTok_len (tp := tp) (L := L) 401 0 (by omega)
  unfold tToks; omega
theorem tTok_in (n k : Nat) (h : k ≤ L) : ∀ q ∈ tTok tp L n k, k ≤ q.1 ∧ q.1 < q.2 ∧ q.2 ≤ L ∧ tp q.1 ≠ 32 ∧ q.2 = tEnd tp L q.1 := by
  induction n generalizing k with
  | zero => intro q hq; simp [tTok] at hq
  | succ n ih =>
    intro q hq
    unfold tTok at hq
    split at hq
    · next hk =>
      split at hq
      · have := ih (k + 1) (by omega) q hq
        omega
      · next hb =>
        have h1 := tEnd_le (tp := tp) hk
        rcases List.mem_cons.mp hq with rfl | hq
        · exact ⟨by omega, h1.1, h1.2, hb, rfl⟩
        · have := ih (tEnd tp L k) (by omega) q hq
          omega
    · simp at hq
theorem tC_lt {i : Nat} (h : i < (tToks tp L).length) : tC tp L i = tCode tp (tToks tp L)[i] ∧ tW tp L i = tVal tp (tToks tp L)[i] ∧ tP tp L i = ((tToks tp L)[i].1 : Int) := by
  unfold tC tW tP
  rw [List.getElem?_eq_getElem h]
  exact ⟨rfl, rfl, rfl⟩
theorem tC_ge {i : Nat} (h : (tToks tp L).length ≤ i) : tC tp L i = 0 ∧ tW tp L i = 0 ∧ tP tp L i = (L : Int) := by
  unfold tC tW tP
  rw [List.getElem?_eq_none h]
  exact ⟨rfl, rfl, rfl⟩
theorem tSm_sgn {b : Int} (h : 0 ≤ b ∧ b ≤ 255) : (97 ≤ sgn8 b ∧ sgn8 b ≤ 122) ↔ tSm b = true := by
  unfold sgn8 tSm
  rw [decide_eq_true_iff]
  split <;> omega
theorem tDg_sgn {b : Int} (h : 0 ≤ b ∧ b ≤ 255) : (48 ≤ sgn8 b ∧ sgn8 b ≤ 57) ↔ tDg b = true := by
  unfold sgn8 tDg
  rw [decide_eq_true_iff]
  split <;> omega
theorem tNum_in (hb : ∀ i, i < L → 0 ≤ tp i ∧ tp i ≤ 255) (a : Nat) (hd : ∀ i, a ≤ i → i < L → True) : True := trivial
theorem tNum_bnd (a m : Nat) (hd : ∀ k, k < m → 48 ≤ tp (a + k) ∧ tp (a + k) ≤ 57) : 0 ≤ tNum tp a m ∧ tNum tp a m ≤ 10000009 := by
  induction m with
  | zero => simp [tNum]
  | succ m ih =>
    have h := ih (fun k hk => hd k (by omega))
    have hm := hd m (by omega)
    unfold tNum
    split <;> omega
end TK2
section TR
variable {F : zFs} {D : zDa} {tp : Nat → Int} {L : Nat}
theorem rSm_t {b : Int} {D1 : zDa} (h : 0 ≤ b ∧ b ≤ 255) (hs : tSm b = true) : fX12_isSmall F (sgn8 b) D1 = some (1, D1) := by
  have := (tSm_sgn h).mpr hs
  unfold fX12_isSmall; rw [if_neg (by omega), if_neg (by omega)]
theorem rSm_f {b : Int} {D1 : zDa} (h : 0 ≤ b ∧ b ≤ 255) (hs : ¬ tSm b = true) : fX12_isSmall F (sgn8 b) D1 = some (0, D1) := by
  have : ¬ (97 ≤ sgn8 b ∧ sgn8 b ≤ 122) := fun hh => hs ((tSm_sgn h).mp hh)
  unfold fX12_isSmall
  by_cases h1 : sgn8 b < 97
  · rw [if_pos h1]
  · rw [if_neg h1, if_pos (by omega)]
theorem rDg_t {b : Int} {D1 : zDa} (h : 0 ≤ b ∧ b ≤ 255) (hs : tDg b = true) : fX12_isDigit F (sgn8 b) D1 = some (1, D1) := by
  have := (tDg_sgn h).mpr hs
  unfold fX12_isDigit; rw [if_neg (by omega), if_neg (by omega)]
theorem rDg_f {b : Int} {D1 : zDa} (h : 0 ≤ b ∧ b ≤ 255) (hs : ¬ tDg b = true) : fX12_isDigit F (sgn8 b) D1 = some (0, D1) := by
  have : ¬ (48 ≤ sgn8 b ∧ sgn8 b ≤ 57) := fun hh => hs ((tDg_sgn h).mp hh)
  unfold fX12_isDigit
  by_cases h1 : sgn8 b < 48
  · rw [if_pos h1]
  · rw [if_neg h1, if_pos (by omega)]
/-- the reference's row of words -/
def rWs (D : zDa) : Prop := ∀ k, k < 76 → D 96 k = ([104, 111, 117, 114, 115, 32, 107, 101, 101, 112, 115, 32, 99, 104, 97, 110, 99, 101, 32, 105, 102, 32, 111, 114, 32, 97, 110, 100, 32, 110, 111, 116, 32, 107, 105, 110, 103, 32, 112, 97, 103, 101, 115, 32, 108, 101, 118, 101, 108, 32, 104, 101, 108, 112, 101, 100, 32, 108, 105, 107, 101, 100, 32, 100, 97, 121, 32, 113, 117, 101, 115, 116, 105, 111, 110, 32] : List Int).getD k 0
/-- where each word begins there -/
def kBeg : List Nat := [0, 6, 12, 19, 22, 25, 29, 33, 38, 44, 50, 57, 63, 67, 76]
theorem kBeg_ok : ∀ j, j < 14 → kBeg.getD (j + 1) 0 = kBeg.getD j 0 + (kWords.getD j []).length + 1 ∧ kBeg.getD j 0 < 76 ∧ (∀ k, k < (kWords.getD j []).length → ([104, 111, 117, 114, 115, 32, 107, 101, 101, 112, 115, 32, 99, 104, 97, 110, 99, 101, 32, 105, 102, 32, 111, 114, 32, 97, 110, 100, 32, 110, 111, 116, 32, 107, 105, 110, 103, 32, 112, 97, 103, 101, 115, 32, 108, 101, 118, 101, 108, 32, 104, 101, 108, 112, 101, 100, 32, 108, 105, 107, 101, 100, 32, 100, 97, 121, 32, 113, 117, 101, 115, 116, 105, 111, 110, 32] : List Int).getD (kBeg.getD j 0 + k) 0 = (kWords.getD j []).getD k 0 ∧ (kWords.getD j []).getD k 0 ≠ 32) ∧ ([104, 111, 117, 114, 115, 32, 107, 101, 101, 112, 115, 32, 99, 104, 97, 110, 99, 101, 32, 105, 102, 32, 111, 114, 32, 97, 110, 100, 32, 110, 111, 116, 32, 107, 105, 110, 103, 32, 112, 97, 103, 101, 115, 32, 108, 101, 118, 101, 108, 32, 104, 101, 108, 112, 101, 100, 32, 108, 105, 107, 101, 100, 32, 100, 97, 121, 32, 113, 117, 101, 115, 116, 105, 111, 110, 32] : List Int).getD (kBeg.getD j 0 + (kWords.getD j []).length) 0 = 32 := by decide
theorem kW_small : ∀ j, j < 14 → ∀ k, k < (kWords.getD j []).length → 97 ≤ (kWords.getD j []).getD k 0 ∧ (kWords.getD j []).getD k 0 ≤ 122 := by decide
theorem tByt_eq {a b : Nat} (h : a ≤ b) (w : List Int) : w = tByt tp a b ↔ w.length = b - a ∧ ∀ k, k < w.length → w.getD k 0 = tp (a + k) := by
  constructor
  · intro e
    subst e
    refine ⟨by simp [tByt], fun k hk => ?_⟩
    simp [tByt] at hk ⊢
    simp [hk]
  · intro ⟨h1, h2⟩
    apply List.ext_getElem
    · simp [tByt, h1]
    · intro k hk hk2
      have := h2 k hk
      rw [List.getD_eq_getElem?_getD, List.getElem?_eq_getElem hk] at this
      simp [tByt]
      exact this
theorem pX12_wordOf (hw : rWs D) (ht : ∀ i, i < L → D 97 i = sgn8 (tp i) ∧ 0 ≤ tp i ∧ tp i ≤ 255) {a b : Nat} (hab : a ≤ b) (hb : b ≤ L) (hL : L ≤ 400) : qS (fX12_wordOf F (a : Int) (b : Int) D) (fun r => r = (tFind kWords (tByt tp a b) 1, D)) := by
  unfold fX12_wordOf
  refine qloop2 (fun v3 v4 D1 => ∃ j : Nat, v3 = (j : Int) + 1 ∧ j ≤ 14 ∧ v4 = ((kBeg.getD j 0 : Nat) : Int) ∧ tFind kWords (tByt tp a b) 1 = tFind (kWords.drop j) (tByt tp a b) v3 ∧ D1 = D) (fun v3 _ _ => (20 - v3).toNat) ?_ ⟨0, by omega, by omega, rfl, rfl, rfl⟩ (zfu_gt (by omega))
  intro k v3 v4 D1 ⟨j, e3, hj, e4, ef, eD⟩ ih
  subst eD
  unfold fX12_wordOf_5
  by_cases hj14 : j = 14
  · subst hj14
    have : v4 = 76 := by rw [e4]; rfl
    refine qS_neg (by omega) (qS_ret ?_)
    rw [ef]; rfl
  · obtain ⟨k1, k2, k3, k4⟩ := kBeg_ok j (by omega)
    have hsm := kW_small j (by omega)
    have hdrop : kWords.drop j = kWords.getD j [] :: kWords.drop (j + 1) := by
      rw [List.getD_eq_getElem?_getD, List.getElem?_eq_getElem (by simp [kWords]; omega)]
      exact List.drop_eq_getElem_cons (by simp [kWords]; omega)
    generalize hwd : kWords.getD j [] = wd at *
    generalize hbg : kBeg.getD j 0 = bg at *
    have hlen8 : bg + wd.length + 1 ≤ 76 := by
      have : kBeg.getD (j + 1) 0 ≤ 76 := by
        have : ∀ i, i < 15 → kBeg.getD i 0 ≤ 76 := by decide
        exact this (j + 1) (by omega)
      omega
    have hrow : ∀ i, i < wd.length → D1 96 (bg + i) = wd.getD i 0 := fun i hi => by rw [hw _ (by omega)]; exact (k3 i hi).1
    have hrow2 : D1 96 (bg + wd.length) = 32 := by rw [hw _ (by omega)]; exact k4
    subst e4
    refine qS_pos (by omega) ?_
    -- the word's length
    refine qloop1 (fun v5 D2 => ∃ n : Nat, v5 = (n : Int) ∧ n ≤ wd.length ∧ D2 = D1) (fun v5 _ => (wd.length - v5).toNat) ?_ ⟨0, by omega, by omega, rfl⟩ (zfu_gt (by omega))
    intro k18 v5 D2 ⟨n, e5, hn, eD⟩ ih2
    subst eD
    subst e5
    unfold fX12_wordOf_18
    rw [show ((bg : Int) + (n : Int)).toNat = bg + n by omega]
    refine qS_chk (by omega) ?_
    by_cases hnl : n = wd.length
    · subst hnl
      refine qS_pos hrow2 (qS_chk (by omega) ?_)
      -- next word
      have nextw : ¬ (wd = tByt tp a b) → qS (fX12_wordOf_104 F k (a : Int) (b : Int) v3 (bg : Int) (wd.length : Int) 0 D2) (fun r => r = (tFind kWords (tByt tp a b) 1, D2)) := by
        intro hne
        unfold fX12_wordOf_104
        refine qS_pos rfl (qS_chk (by omega) (qS_leti (qS_chk (by omega) (ih _ _ _ ⟨j + 1, by omega, by omega, by rw [k1]; omega, ?_, rfl⟩ (by omega)))))
        rw [ef, hdrop]
        conv => lhs; unfold tFind
        rw [if_neg hne]
      have found : wd = tByt tp a b → qS (fX12_wordOf_104 F k (a : Int) (b : Int) v3 (bg : Int) (wd.length : Int) 1 D2) (fun r => r = (tFind kWords (tByt tp a b) 1, D2)) := by
        intro he
        unfold fX12_wordOf_104
        refine qS_neg (by omega) (qS_ret ?_)
        rw [ef, hdrop]
        conv => rhs; unfold tFind
        rw [if_pos he]
      unfold fX12_wordOf_52
      refine qS_ite (fun hl => ?_) (fun hl => ?_)
      · -- compare
        refine qloop2 (fun v6 v7 D3 => ∃ n : Nat, v7 = (n : Int) ∧ n ≤ wd.length ∧ D3 = D2 ∧ ((v6 = 1 ∧ ∀ i, i < n → wd.getD i 0 = tp (a + i)) ∨ (v6 = 0 ∧ ∃ i, i < wd.length ∧ wd.getD i 0 ≠ tp (a + i)))) (fun v6 v7 _ => (wd.length - v7).toNat) ?_ ⟨0, by omega, by omega, rfl, Or.inl ⟨rfl, fun i hi => by omega⟩⟩ (zfu_gt (by omega))
        intro k57 v6 v7 D3 ⟨n, e7, hn, eD, hv⟩ ih3
        subst eD
        subst e7
        unfold fX12_wordOf_57
        rcases hv with ⟨rfl, hv⟩ | ⟨rfl, i0, hi0, hne0⟩
        · refine qS_ite (fun hlt => qS_neg (by omega) ?_) (fun hlt => ?_)
          · rw [show ((bg : Int) + (n : Int)).toNat = bg + n by omega, show ((a : Int) + (n : Int)).toNat = a + n by omega]
            refine qS_chk (by omega) ?_
            have hp := ht (a + n) (by omega)
            have hs := hsm n (by omega)
            rw [hrow n (by omega), hp.1]
            unfold fX12_wordOf_96
            have heq : wd.getD n 0 = sgn8 (tp (a + n)) ↔ wd.getD n 0 = tp (a + n) := by
              unfold sgn8
              split <;> omega
            refine qS_ite (fun he => ?_) (fun he => ?_)
            · refine qS_chk (by omega) (ih3 _ _ _ ⟨n + 1, by omega, by omega, rfl, Or.inl ⟨rfl, fun i hi => ?_⟩⟩ (by omega))
              by_cases hin : i = n
              · subst hin; exact heq.mp he
              · exact hv i (by omega)
            · exact qS_chk (by omega) (ih3 _ _ _ ⟨n + 1, by omega, by omega, rfl, Or.inr ⟨rfl, n, by omega, fun hh => he (heq.mpr hh)⟩⟩ (by omega))
          · have : n = wd.length := by omega
            subst this
            exact found ((tByt_eq hab wd).mpr ⟨by omega, hv⟩)
        · have hne : ¬ (wd = tByt tp a b) := fun he => hne0 (((tByt_eq hab wd).mp he).2 i0 hi0)
          exact qS_ite (fun hlt => qS_pos rfl (nextw hne)) (fun hlt => nextw hne)
      · have hne : ¬ (wd = tByt tp a b) := fun he => by
          have := ((tByt_eq hab wd).mp he).1
          omega
        refine qloop2 (fun v6 v7 D3 => v6 = 0 ∧ v7 = 0 ∧ D3 = D2) (fun _ _ _ => 0) ?_ ⟨rfl, rfl, rfl⟩ (zfu_gt (by omega))
        intro k57 v6 v7 D3 ⟨e6, e7, eD⟩ ih3
        subst eD
        subst e6
        subst e7
        unfold fX12_wordOf_57
        exact qS_ite (fun hlt => qS_pos rfl (nextw hne)) (fun hlt => nextw hne)
    · have hr := hrow n (by omega)
      have h32 := (k3 n (by omega)).2
      exact qS_neg (by rw [hr]; exact h32) (qS_chk (by omega) (ih2 _ _ ⟨n + 1, by omega, by omega, rfl⟩ (by omega)))
end TR
