section RAN2
variable {F : zFs} {D : zDa}
theorem rCh.fr {D D' : zDa} {ch : Nat → Int} (h : rCh D ch) (h4 : D' 103 = D 103) : rCh D' ch := by unfold rCh; rw [h4]; exact h
/-- one round: the best level that is left -/
theorem rA_35 {P : zDa → Prop} {ch : Nat → Int} (hc : rCh D ch) {u lv L cnt k : Nat} {d : Nat → Int} (hu : u < 8) (hlv : lv < 3) (hp : pk ch u = (lv : Int)) (hd : dOk k d) (hk : k + L ≤ 3) (hrow : ∀ m, m < 4 → D 107 m = d m) (hcnt : cnt ≤ 1000) (h106 : D 106 lv = (cnt : Int)) {kk : Int → Int → zDa → Option zDa}
    (h0 : L = 0 → P D) (hn : ∀ D', (∀ m, m < 4 → D' 107 m = dPw (ch lv) (min cnt L) d m) → zfr [107] D D' → qS (kk ((L - min cnt L : Nat) : Int) ((u ||| 2 ^ lv : Nat) : Int) D') P) :
    qS (fX12_answers_35 F kk (L : Int) (u : Int) D) P := by
  unfold fX12_answers_35
  refine qS_ite (fun hpos => ?_) (fun hpos => qS_ret (h0 (by omega)))
  exact rA_pick hc hu hlv hp (rA_98 hlv hd hk hrow (hc lv hlv).1 (hc lv hlv).2 hcnt h106 hn)
theorem dPw_0 {h : Int} {d : Nat → Int} {k : Nat} (e : k = 0) : dPw h k d = d := by subst e; rfl
theorem pX12_answers {ch : Nat → Int} {nn : Nat → Nat} {R : Nat} (hc : rCh D ch) (h106 : ∀ lv, lv < 3 → D 106 lv = (nn lv : Int) ∧ nn lv ≤ 1000) (h29 : D 91 29 = (R : Int)) (hR : R ≤ 3) (hT : R ≤ nn 0 + nn 1 + nn 2) :
    qS (fX12_answers F D) (fun D' => (∀ m, m < 4 → D' 107 m = kG ch nn R m) ∧ zfr [107] D D') := by
  unfold fX12_answers
  refine qloop1 (fun v D1 => ∃ j : Nat, v = (j : Int) ∧ j ≤ 4 ∧ (∀ m, m < j → D1 107 m = d0 m) ∧ zfr [107] D D1) (fun v _ => (10 - v).toNat) ?_ ⟨0, rfl, by omega, fun m hm => by omega, zfr.rfl' _ D⟩ (zfu_gt (by omega))
  intro kk v D1 ⟨j, ev, hj, hr1, hf1⟩ ih
  subst ev
  unfold fX12_answers_2
  have init : ∀ s0 : Int, s0 = d0 j → j < 4 → qS (fX12_answers_21 F kk (j : Int) s0 (j : Int) D1) (fun D' => (∀ m, m < 4 → D' 107 m = kG ch nn R m) ∧ zfr [107] D D') := by
    intro s0 e hj4
    unfold fX12_answers_21
    refine qS_chk (by omega) (qS_leti (qS_chk (by omega) (ih _ _ ⟨j + 1, by omega, by omega, fun m hm => ?_, hf1.wr (by decide)⟩ (by omega))))
    rw [show ((j : Int)).toNat = j by omega, zwr_at]
    by_cases hm2 : m = j
    · rw [if_pos hm2, e, hm2]
    · rw [if_neg hm2]; exact hr1 m (by omega)
  refine qS_ite (fun h4 => qS_ite (fun h0 => init 1 (by unfold d0; rw [if_pos (by omega)]) (by omega)) (fun h0 => init 0 (by unfold d0; rw [if_neg (by omega)]) (by omega))) (fun h4 => ?_)
  refine qS_leti ?_
  rw [hf1 91 (by decide), h29]
  have hj4 : j = 4 := by omega
  subst hj4
  have hc1 : rCh D1 ch := hc.fr (hf1 103 (by decide))
  have e106 : D1 106 = D 106 := hf1 106 (by decide)
  obtain ⟨r1, r2, r3, _⟩ := kRk_in ch
  obtain ⟨p1, p2, p3⟩ := pk_rank ch
  have hh : ∀ lv, lv < 3 → 0 ≤ ch lv ∧ ch lv ≤ 100 := fun lv h => (hc lv h).2
  have u1 := uO_lt 0 (by omega) _ r1
  have u2 := uO_lt _ u1 _ r2
  have g1 := dOk_pw (hh _ r1) (min (nn (kRk ch).1) R) dOk_0
  have g2 := dOk_pw (hh _ r2) (min (nn (kRk ch).2.1) (R - min (nn (kRk ch).1) R)) g1
  have ek := kAn_eq (ch := ch) (n := nn) (A := R)
  unfold kAn at ek
  rw [show zfu = 999996 + 1 + 1 + 1 + 1 from rfl, zfix_succ]
  refine rA_35 (u := 0) hc1 (by omega) r1 p1 dOk_0 (by omega) hr1 (h106 _ r1).2 (by rw [e106]; exact (h106 _ r1).1) ?_ ?_
  · intro h0
    refine ⟨fun m hm => ?_, hf1⟩
    unfold kG kGr
    rw [dPw_0 (by omega), dPw_0 (by omega), dPw_0 (by omega)]
    exact hr1 m hm
  intro D2 hr2 hf2
  have hc2 : rCh D2 ch := hc1.fr (hf2 103 (by decide))
  rw [zfix_succ]
  refine rA_35 hc2 u1 r2 p2 g1 (by omega) hr2 (h106 _ r2).2 (by rw [hf2 106 (by decide), e106]; exact (h106 _ r2).1) ?_ ?_
  · intro h0
    refine ⟨fun m hm => ?_, hf1.trans hf2⟩
    unfold kG kGr
    rw [dPw_0 (k := min (nn (kRk ch).2.2) _) (by omega), dPw_0 (k := min (nn (kRk ch).2.1) _) (by omega)]
    exact hr2 m hm
  intro D3 hr3 hf3
  have hc3 : rCh D3 ch := hc2.fr (hf3 103 (by decide))
  rw [zfix_succ]
  refine rA_35 hc3 u2 r3 p3 g2 (by omega) hr3 (h106 _ r3).2 (by rw [hf3 106 (by decide), hf2 106 (by decide), e106]; exact (h106 _ r3).1) ?_ ?_
  · intro h0
    refine ⟨fun m hm => ?_, hf1.trans (hf2.trans hf3)⟩
    unfold kG kGr
    rw [dPw_0 (k := min (nn (kRk ch).2.2) _) (by omega)]
    exact hr3 m hm
  intro D4 hr4 hf4
  rw [zfix_succ]
  unfold fX12_answers_35
  refine qS_neg (by omega) (qS_ret ⟨fun m hm => hr4 m hm, hf1.trans (hf2.trans (hf3.trans hf4))⟩)
end RAN2
