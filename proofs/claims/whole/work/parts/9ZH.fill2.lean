/-! ===== the class fills the row of the fewest hours ===== -/
def fV (A : Nat → Int) (wo wi left s t : Nat) (p1 p2 : Int) : Int :=
  if 0 < t then min (if t < s then min (if s < left then A (wo + (tri s + t)) else 100000) (p1 + A (wi + (tri (s - 1) + t))) else (if s < left then A (wo + (tri s + t)) else 100000)) (p2 + A (wi + (tri (s - 1) + (t - 1))))
  else (if t < s then min (if s < left then A (wo + (tri s + t)) else 100000) (p1 + A (wi + (tri (s - 1) + t))) else (if s < left then A (wo + (tri s + t)) else 100000))
def fFd (D1 : zDa) (r row wo wi left : Nat) (p1 p2 : Int) (x : Nat) (D2 : zDa) : Prop :=
  (∀ s t, t ≤ s → s ≤ left → tri s + t < x → D2 r (row + (tri s + t)) = fV (D1 r) wo wi left s t p1 p2) ∧ (∀ y, y < row ∨ row + x ≤ y → D2 r y = D1 r y) ∧ ∀ a, a ≠ r → D2 a = D1 a
theorem pMinI {F : zFs} {D : zDa} (x y : Int) : fJ9_min_7cf53 F x y D = some (min x y, D) := by
  unfold fJ9_min_7cf53
  by_cases h : y < x
  · rw [if_pos h, Int.min_eq_right (by omega)]
  · rw [if_neg h, Int.min_eq_left (by omega)]
theorem tdiv_tri' {s : Nat} : Int.tdiv ((s : Int) * ((s : Int) - 1)) 2 = (tri (s - 1) : Int) := by
  rcases s with _ | s
  · rfl
  · have := tdiv_tri s
    rw [show s + 1 - 1 = s by omega, ← this, Int.mul_comm]
    congr 1
    rw [show ((s + 1 : Nat) : Int) - 1 = (s : Int) by omega, show ((s + 1 : Nat) : Int) = (s : Int) + 1 by omega]
theorem tri_int' {s : Nat} (h : s ≤ 40) : -2000 ≤ (s : Int) * ((s : Int) - 1) ∧ (s : Int) * ((s : Int) - 1) ≤ 2000 := by
  rcases s with _ | s
  · omega
  · have := tri_int (s := s) (by omega)
    rw [show ((s + 1 : Nat) : Int) - 1 = (s : Int) by omega, show ((s + 1 : Nat) : Int) = (s : Int) + 1 by omega, Int.mul_comm]
    omega
section FF
variable {F : zFs} {D1 : zDa} {r i left c row wo wi : Nat} {p1 p2 : Int} {k9 : Int → zDa → Option zDa} {P : zDa → Prop}
theorem fF_108 (h11 : D1 60 11 = (r : Int)) (hr : r ≠ 60) (hF : (F r).1 = 20) (hl1 : wo + tri left ≤ (F r).2.1) (hl2 : wi + tri left ≤ (F r).2.1) (hlen : (F r).2.1 ≤ 1000000) (h1 : row + tri (left + 1) ≤ wo) (h2 : row + tri (left + 1) ≤ wi) (hL : left ≤ 20) (hL0 : 0 < left)
    (hp1 : 0 ≤ p1 ∧ p1 ≤ 40) (hp2 : 0 ≤ p2 ∧ p2 ≤ 40)
    (hA : ∀ y, y < tri left → (0 ≤ D1 r (wo + y) ∧ D1 r (wo + y) ≤ 100000) ∧ (0 ≤ D1 r (wi + y) ∧ D1 r (wi + y) ≤ 100000))
    (hk : ∀ D', fFd D1 r row wo wi left p1 p2 (tri (left + 1)) D' → qS (k9 ((c : Int) + 1) D') P) (hc : c ≤ 100) :
    qS (zfix (fun _ _ => none) (fX4_fillFrom_108 F (i : Int) (left : Int) (c : Int) (row : Int) p1 p2 (wo : Int) (wi : Int) k9) zfu 0 D1) P := by
  have tl := tri_le (s := left) (t := 20) hL
  have t20 : tri 20 = 210 := rfl
  refine qloop1 (fun v D2 => ∃ s : Nat, v = (s : Int) ∧ s ≤ left + 1 ∧ fFd D1 r row wo wi left p1 p2 (tri s) D2) (fun v _ => (100 - v).toNat) ?_ ⟨0, rfl, by omega, fun s t _ _ h => absurd h (by show ¬ tri s + t < 0; omega), fun y _ => rfl, fun _ _ => rfl⟩ (zfu_gt (by omega))
  intro k108 v D2 ⟨s, ev, hs, f2⟩ ih
  subst ev
  unfold fX4_fillFrom_108
  refine qS_ite (fun hlt => ?_) (fun hlt => ?_)
  · have : s = left + 1 := by omega
    subst this
    unfold fX4_fillFrom_267
    exact qS_chk (by omega) (hk D2 f2)
  · have hs' : s ≤ left := by omega
    have b1 := tri_int (s := s) (by omega)
    have b2 := tri_int' (s := s) (by omega)
    have e1 := tdiv_tri s
    have e2 := tdiv_tri' (s := s)
    have ts := tri_le (s := s) (t := left) hs'
    have ts1 := tri_le (s := s - 1) (t := left) (by omega)
    rw [e1, e2]
    refine qS_chk (by omega) (qS_leti (qS_chk (by omega) (qS_leti (qS_chk (by omega) (qS_leti ?_)))))
    refine qloop1 (fun v D3 => ∃ t : Nat, v = (t : Int) ∧ t ≤ s + 1 ∧ fFd D1 r row wo wi left p1 p2 (tri s + t) D3) (fun v _ => (100 - v).toNat) ?_ ⟨0, rfl, by omega, f2⟩ (zfu_gt (by omega))
    intro k159 v D3 ⟨t, ev, ht, f3⟩ ih3
    subst ev
    unfold fX4_fillFrom_159
    refine qS_ite (fun hlt2 => ?_) (fun hlt2 => ?_)
    · have : t = s + 1 := by omega
      subst this
      refine qS_chk (by omega) (ih _ _ ⟨s + 1, by omega, by omega, ?_⟩ (by omega))
      rw [tri_s]; exact f3
    · have ht' : t ≤ s := by omega
      have e11 : D3 60 11 = (r : Int) := by rw [f3.2.2 60 (Ne.symm hr)]; exact h11
      have in0 : tri s + t < tri (left + 1) := tri_in hs' ht'
      have tls : tri (left + 1) = tri left + left + 1 := rfl
      -- what is written
      have fin : ∀ w : Int, w = fV (D1 r) wo wi left s t p1 p2 → qS (fX4_fillFrom_243 F k9 k108 k159 (i : Int) (left : Int) (c : Int) (row : Int) p1 p2 (wo : Int) (wi : Int) (s : Int) ((row : Int) + (tri s : Int)) ((wi : Int) + (tri (s - 1) : Int)) ((wo : Int) + (tri s : Int)) (t : Int) w D3) P := by
        intro w hw
        unfold fX4_fillFrom_243
        rw [e11, show ((r : Int)).toNat = r by omega]
        refine qS_chk ⟨by omega, by omega, hF, by omega⟩ (qS_leti (qS_chk (by omega) (ih3 _ _ ⟨t + 1, by omega, by omega, fun s' t' h1' h2' h3' => ?_, fun y hy => ?_, fun a ha => ?_⟩ (by omega))))
        · rw [show ((row : Int) + (tri s : Int) + (t : Int)).toNat = row + (tri s + t) by omega, zwr_at]
          by_cases e : tri s' + t' = tri s + t
          · have := cell_inj (T := tri (left + 1)) (c := 0) (c' := 0) (s := s') (t := t') (s' := s) (t' := t) rfl h2' h1' hs' ht' (by omega)
            rw [if_pos (by omega), hw, this.2.1, this.2.2]
          · rw [if_neg (by omega)]; exact f3.1 s' t' h1' h2' (by omega)
        · rw [zwr_off (by omega)]; exact f3.2.1 y (by omega)
        · rw [zwr_row ha]; exact f3.2.2 a ha
      have rd1 : t < s → D3 r (wi + (tri (s - 1) + t)) = D1 r (wi + (tri (s - 1) + t)) ∧ tri (s - 1) + t < tri left := fun h => ⟨f3.2.1 _ (by omega), by have := tri_in (s := s - 1) (t := t) (L := left - 1) (by omega) (by omega); rw [show left - 1 + 1 = left by omega] at this; exact this⟩
      have rd2 : 0 < t → D3 r (wi + (tri (s - 1) + (t - 1))) = D1 r (wi + (tri (s - 1) + (t - 1))) ∧ tri (s - 1) + (t - 1) < tri left := fun h => ⟨f3.2.1 _ (by omega), by have := tri_in (s := s - 1) (t := t - 1) (L := left - 1) (by omega) (by omega); rw [show left - 1 + 1 = left by omega] at this; exact this⟩
      have rd0 : s < left → D3 r (wo + (tri s + t)) = D1 r (wo + (tri s + t)) ∧ tri s + t < tri left := fun h => ⟨f3.2.1 _ (by omega), by have := tri_in (s := s) (t := t) (L := left - 1) (by omega) ht'; rw [show left - 1 + 1 = left by omega] at this; exact this⟩
      have g216 : ∀ w : Int, 0 ≤ w ∧ w ≤ 100000 → w = (if t < s then min (if s < left then D1 r (wo + (tri s + t)) else 100000) (p1 + D1 r (wi + (tri (s - 1) + t))) else (if s < left then D1 r (wo + (tri s + t)) else 100000)) → qS (fX4_fillFrom_216 F k9 k108 k159 (i : Int) (left : Int) (c : Int) (row : Int) p1 p2 (wo : Int) (wi : Int) (s : Int) ((row : Int) + (tri s : Int)) ((wi : Int) + (tri (s - 1) : Int)) ((wo : Int) + (tri s : Int)) (t : Int) w D3) P := by
        intro w hb hw
        unfold fX4_fillFrom_216
        refine qS_ite (fun h3 => ?_) (fun h3 => ?_)
        · have r2 := rd2 (by omega)
          have a2 := (hA _ r2.2).2
          have en : ((wi : Int) + (tri (s - 1) : Int) + (t : Int) - 1).toNat = wi + (tri (s - 1) + (t - 1)) := by omega
          rw [e11, show ((r : Int)).toNat = r by omega, en, r2.1]
          refine qS_chk ⟨by omega, by omega, by omega, hF, by omega, by omega⟩ ?_
          rw [pMinI]
          refine qS_step rfl (fin _ ?_)
          unfold fV
          rw [if_pos (by omega : 0 < t), ← hw]
        · refine fin _ ?_
          unfold fV
          rw [if_neg (by omega : ¬ 0 < t)]
          exact hw
      have g187 : ∀ w : Int, 0 ≤ w ∧ w ≤ 100000 → w = (if s < left then D1 r (wo + (tri s + t)) else 100000) → qS (fX4_fillFrom_187 F k9 k108 k159 (i : Int) (left : Int) (c : Int) (row : Int) p1 p2 (wo : Int) (wi : Int) (s : Int) ((row : Int) + (tri s : Int)) ((wi : Int) + (tri (s - 1) : Int)) ((wo : Int) + (tri s : Int)) (t : Int) w D3) P := by
        intro w hb hw
        unfold fX4_fillFrom_187
        refine qS_ite (fun h3 => ?_) (fun h3 => ?_)
        · have r2 := rd1 (by omega)
          have a2 := (hA _ r2.2).2
          have en : ((wi : Int) + (tri (s - 1) : Int) + (t : Int)).toNat = wi + (tri (s - 1) + t) := by omega
          rw [e11, show ((r : Int)).toNat = r by omega, en, r2.1]
          refine qS_chk ⟨by omega, by omega, hF, by omega, by omega⟩ ?_
          rw [pMinI]
          refine qS_step rfl (g216 _ ?_ ?_)
          · omega
          · rw [if_pos (by omega : t < s), ← hw]
        · refine g216 _ hb ?_
          rw [if_neg (by omega : ¬ t < s)]
          exact hw
      refine qS_ite (fun h3 => ?_) (fun h3 => ?_)
      · have r2 := rd0 (by omega)
        have a2 := (hA _ r2.2).1
        have en : ((wo : Int) + (tri s : Int) + (t : Int)).toNat = wo + (tri s + t) := by omega
        rw [e11, show ((r : Int)).toNat = r by omega, en, r2.1]
        refine qS_chk ⟨by omega, by omega, hF, by omega⟩ (g187 _ a2 ?_)
        rw [if_pos (by omega : s < left)]
      · exact g187 _ (by omega) (by rw [if_neg (by omega : ¬ s < left)])
end FF
