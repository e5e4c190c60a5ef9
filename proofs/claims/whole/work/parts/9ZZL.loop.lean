/-! ===== the law answers 1 (printed by wip/gen/lawloop.py) ===== -/
section LW2
variable {E : zE}

theorem law_loop {F : zFs} {D : zDa} {n sl : Nat} (hlen : zgl E 0 ≤ 3072) (hz : ∀ j, -2147483648 ≤ zga E 0 j ∧ zga E 0 j ≤ 2147483647) (h : wI F D n sl 0) :
    qS (zfix (fun _ _ _ _ _ => none) (fL_law_18 E) zfu 0 F D n sl) (fun x => x.1 = 1 ∧ x.2.2.2.1 ≤ 60000 ∧ x.2.2.2.2 ≤ 1000000) := by
  refine qloopV1 (fun v F1 D1 n1 sl1 => ∃ c : Nat, v = 6 * (c : Int) ∧ c ≤ 512 ∧ wI F1 D1 n1 sl1 c) (fun v => (4000 - v).toNat) ?_ ⟨0, rfl, by omega, h⟩ (zfu_gt (by omega))
  intro k18 v F1 D1 n1 sl1 ⟨c, ev, hc, hI⟩ ih
  have hc9 : c < 1000 := by omega
  unfold fL_law_18
  refine qS_chk (by omega) ?_
  refine qS_ite (fun hend => ?_) (fun hgo => qS_chk (by omega) ?_)
  · obtain ⟨Z, K, im, tp, tl, ms, r, rr, hcb, hr⟩ := hI
    have b1 := hcb.2.2.2.2.2.1.2.2.2.2.2
    obtain ⟨e, he, b2⟩ := hcb.2.2.2.2.2.2.2.1.2.2.2.2
    have p12 := pow12 he
    have b3 := hcb.2.2.2.2.2.2.2.2.2.2.2.1
    have b4 := hcb.2.2.2.2.2.2.2.2.2.2.2.2
    refine qS_ret ⟨rfl, ?_, ?_⟩
    · show n1 ≤ 60000
      omega
    · show sl1 ≤ 1000000
      rw [b2] at b4
      omega
  have nx : ∀ F' D' n' sl', wI F' D' n' sl' (c + 1) → qS (fL_law_1337 E k18 v F' D' n' sl') (fun x => x.1 = 1 ∧ x.2.2.2.1 ≤ 60000 ∧ x.2.2.2.2 ≤ 1000000) := by
    intro F' D' n' sl' hI'
    unfold fL_law_1337
    exact qS_chk (by omega) (ih _ _ _ _ _ ⟨c + 1, by omega, by omega, hI'⟩ (by omega))

  refine qS_ite (fun _ => qS_chk (by omega) (law_question hI hc9 hz nx)) (fun _ => ?_)
  refine qS_ite (fun _ => qS_chk (by omega) (law_know hI hc9 hz nx)) (fun _ => ?_)
  refine qS_ite (fun _ => qS_chk (by omega) (law_of hI hc9 hz nx)) (fun _ => ?_)
  refine qS_ite (fun _ => qS_chk (by omega) (law_terms hI hc9 hz nx)) (fun _ => ?_)
  refine qS_ite (fun _ => qS_chk (by omega) (law_feed hI hc9 hz nx)) (fun _ => ?_)
  refine qS_ite (fun _ => qS_chk (by omega) (law_end hI hc9 hz nx)) (fun _ => ?_)
  refine qS_ite (fun _ => (law_paper hI hc9 hz nx)) (fun _ => ?_)
  refine qS_ite (fun _ => (law_fault hI hc9 hz nx)) (fun _ => ?_)
  refine qS_ite (fun _ => qS_chk (by omega) (law_use hI hc9 hz nx)) (fun _ => ?_)
  refine qS_ite (fun _ => qS_chk (by omega) (law_takes hI hc9 hz nx)) (fun _ => ?_)
  refine qS_ite (fun _ => qS_chk (by omega) (law_keeps hI hc9 hz nx)) (fun _ => ?_)
  refine qS_ite (fun _ => qS_chk (by omega) (law_chance hI hc9 hz nx)) (fun _ => ?_)
  refine qS_ite (fun _ => qS_chk (by omega) (law_pass hI hc9 hz nx)) (fun _ => ?_)
  refine qS_ite (fun _ => qS_chk (by omega) (law_right hI hc9 hz nx)) (fun _ => ?_)
  refine qS_ite (fun _ => qS_chk (by omega) (law_mean hI hc9 hz nx)) (fun _ => ?_)
  refine qS_ite (fun _ => qS_chk (by omega) (law_sure hI hc9 hz nx)) (fun _ => ?_)
  refine qS_ite (fun _ => (law_safe hI hc9 hz nx)) (fun _ => ?_)
  refine qS_ite (fun _ => qS_chk (by omega) (law_worth hI hc9 hz nx)) (fun _ => ?_)
  refine qS_ite (fun _ => qS_chk (by omega) (law_best hI hc9 hz nx)) (fun _ => ?_)
  refine qS_ite (fun _ => qS_chk (by omega) (law_level hI hc9 hz nx)) (fun _ => ?_)
  refine qS_ite (fun _ => qS_chk (by omega) (law_enough hI hc9 hz nx)) (fun _ => ?_)
  refine qS_ite (fun _ => qS_chk (by omega) (law_lesson hI hc9 hz nx)) (fun _ => ?_)
  refine qS_ite (fun _ => (law_clear hI hc9 hz nx)) (fun _ => ?_)
  refine qS_ite (fun _ => qS_chk (by omega) (law_behind hI hc9 hz nx)) (fun _ => ?_)
  refine qS_ite (fun _ => qS_chk (by omega) (law_judge hI hc9 hz nx)) (fun _ => ?_)
  refine qS_ite (fun _ => (law_learn hI hc9 hz nx)) (fun _ => ?_)
  refine qS_ite (fun _ => qS_chk (by omega) (law_backward hI hc9 hz nx)) (fun _ => ?_)
  refine qS_ite (fun _ => qS_chk (by omega) (law_friend hI hc9 hz nx)) (fun _ => ?_)
  refine qS_ite (fun _ => qS_chk (by omega) (law_share hI hc9 hz nx)) (fun _ => ?_)
  refine qS_ite (fun _ => qS_chk (by omega) (law_ill hI hc9 hz nx)) (fun _ => ?_)
  refine qS_ite (fun _ => qS_chk (by omega) (law_year hI hc9 hz nx)) (fun _ => ?_)
  refine qS_ite (fun _ => (law_row hI hc9 hz nx)) (fun _ => ?_)
  refine qS_ite (fun _ => (law_lost hI hc9 hz nx)) (fun _ => ?_)
  refine qS_ite (fun _ => qS_chk (by omega) (law_drawn hI hc9 hz nx)) (fun _ => ?_)
  refine qS_ite (fun _ => qS_chk (by omega) (law_seldom hI hc9 hz nx)) (fun _ => ?_)
  refine qS_ite (fun _ => qS_chk (by omega) (law_exam hI hc9 hz nx)) (fun _ => ?_)
  refine qS_ite (fun _ => qS_chk (by omega) (law_table hI hc9 hz nx)) (fun _ => ?_)
  refine qS_ite (fun _ => qS_chk (by omega) (law_exams hI hc9 hz nx)) (fun _ => ?_)
  refine qS_ite (fun _ => qS_chk (by omega) (law_image hI hc9 hz nx)) (fun _ => ?_)
  refine qS_ite (fun _ => qS_chk (by omega) (law_back hI hc9 hz nx)) (fun _ => ?_)
  refine qS_ite (fun _ => qS_chk (by omega) (law_count hI hc9 hz nx)) (fun _ => ?_)
  refine qS_ite (fun _ => (law_status hI hc9 hz nx)) (fun _ => ?_)
  obtain ⟨Z, K, im, tp, tl, ms, r, rr, hcb, hr⟩ := hI
  exact nx _ _ _ _ ⟨Z, K, im, tp, tl, ms, r, rr, hcb.ask hc9 (zfr.rfl' [] D1) (by decide), hr.ask hc9 (zfm.rfl' [] [] D1) (by decide) (by decide)⟩
end LW2
