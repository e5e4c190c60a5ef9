section OD
variable {F : zFs} {D : zDa}
theorem pX2_addSets {ch : Nat → Int} {B : Nat → Nat} {lying A : Nat} {lev times : Int} {acc : Nat → Int} (hG : zG F) (hc : cCh D ch) (hLt : cLot D) (h56 : ∀ lv, lv < 3 → D 56 lv = (B lv : Int)) (hB : B 0 + B 1 + B 2 ≤ 20) (hlev : lev = -1 ∨ (0 ≤ lev ∧ lev < 3 ∧ 1 ≤ B lev.toNat ∧ 1 ≤ lying)) (hl : lying ≤ 10) (hA : A ≤ 3) (ht : 0 ≤ times ∧ times ≤ 40000) (hacc : ∀ m, m < 4 → D 59 m = acc m ∧ 0 ≤ acc m ∧ acc m ≤ 4000000000000000000) :
    qS (fX2_addSets F (lying : Int) (A : Int) lev times D) (fun D' => (∀ m, m < 4 → D' 59 m = acc m + times * (100 ^ (3 - min lying A) * kLots ch (fun lv => B lv - eOf lev lv) (eOf lev) (min lying A) (lying - (eOf lev 0 + eOf lev 1 + eOf lev 2)) m)) ∧ zfr [58, 59] D D') := by
  have main : eOf lev 0 ≤ B 0 ∧ eOf lev 1 ≤ B 1 ∧ eOf lev 2 ≤ B 2 → eOf lev 0 + eOf lev 1 + eOf lev 2 ≤ 1 → eOf lev 0 + eOf lev 1 + eOf lev 2 ≤ lying → qS (fX2_addSets_33 F (lying : Int) (A : Int) times (eOf lev 0 : Int) (eOf lev 1 : Int) (eOf lev 2 : Int) D) (fun D' => (∀ m, m < 4 → D' 59 m = acc m + times * (100 ^ (3 - min lying A) * kLots ch (fun lv => B lv - eOf lev lv) (eOf lev) (min lying A) (lying - (eOf lev 0 + eOf lev 1 + eOf lev 2)) m)) ∧ zfr [58, 59] D D') := by
    intro h1 h2 h3
    refine qS_mono (pX2_addSets_33 hG hc hLt h56 hB h1 h2 hl hA ht hacc) ?_
    intro D' ⟨r1, r2⟩
    exact ⟨fun m hm => by rw [r1 m hm, kPc_all h1 h2 h3], r2⟩
  unfold fX2_addSets fX2_addSets_9 fX2_addSets_21
  rcases hlev with rfl | ⟨l0, l3, lb, ly⟩
  · refine qS_neg (by omega) (qS_neg (by omega) (qS_neg (by omega) ?_))
    exact main ⟨by simp [eOf], by simp [eOf], by simp [eOf]⟩ (by simp [eOf]) (by simp [eOf])
  · rcases (by omega : lev = 0 ∨ lev = 1 ∨ lev = 2) with rfl | rfl | rfl
    · refine qS_pos rfl (qS_neg (by omega) (qS_neg (by omega) ?_))
      exact main ⟨by simp [eOf]; exact lb, by simp [eOf], by simp [eOf]⟩ (by simp [eOf]) (by simp [eOf]; exact ly)
    · refine qS_neg (by omega) (qS_pos rfl (qS_neg (by omega) ?_))
      exact main ⟨by simp [eOf], by simp [eOf]; exact lb, by simp [eOf]⟩ (by simp [eOf]) (by simp [eOf]; exact ly)
    · refine qS_neg (by omega) (qS_neg (by omega) (qS_pos rfl ?_))
      exact main ⟨by simp [eOf], by simp [eOf], by simp [eOf]; exact lb⟩ (by simp [eOf]) (by simp [eOf]; exact ly)
end OD
