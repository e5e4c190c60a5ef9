/-! ===== the law: from its entry to its end ===== -/
theorem law_head {l : Launch} {E : zE} {d : Nat} {x : Option (Int × zM)} (k : zO l E (d + 94) YL_law 18 [(0, zR (1000000 + 0)), (1, zR 0), (2, zR 91), (3, zI 0)] [] (cF257, cD236, 126, 172044) zmI x) : zO l E (d + 94) YL_law 0 [(0, zR (1000000 + 0))] [] (cF0, cD0, 0, 0) zmI x := by
  refine cnw11 dL_law_0 wL_L_7 (by decide) ?_
  change zO l E (d + 94) YL_law 3 [(0, zR (1000000 + 0))] [zR 0] (cF1, cD1, 1, 19) zmI x
  refine zO_dup dL_law_3 rfl ?_
  refine zO_callI (Y' := YX11_init) (cw := zmV) (y := some (cF188, cD114, 91, 5339)) (g := fun _ => x) (as := []) (a := 0) (rest := [zR 0]) (na := 0) dL_law_4 wC_X11_init wN_X11 wM_L_9 wI_X11_init rfl rfl (by decide) (by decide) rfl rfl (Nat.le_of_ble_eq_true rfl) (fun r hr => Option.some.inj hr ▸ zMet_cast (Nat.add_assoc d 92 1) (cn_X11_init_0 (d := d + 92))) (fun r hr => Option.some.inj hr ▸ ?_)
  change zO l E (d + 94) YL_law 7 [(0, zR (1000000 + 0))] [zR 0] (cF188, cD114, 91, 5339) zmI x
  refine zO_astore_n dL_law_7 (by decide) ⟨_, rfl⟩ ?_
  refine zO_ls (ls' := [(0, zR (1000000 + 0)), (1, zR 0)]) rfl ?_
  refine cnw12 dL_law_8 wL_L_10 (by decide) ?_
  change zO l E (d + 94) YL_law 11 [(0, zR (1000000 + 0)), (1, zR 0)] [zR 91] (cF189, cD115, 92, 5409) zmI x
  refine zO_dup dL_law_11 rfl ?_
  refine zO_callI (Y' := YX12_init) (cw := zmV) (y := some (cF257, cD236, 126, 172044)) (g := fun _ => x) (as := []) (a := 91) (rest := [zR 91]) (na := 0) dL_law_12 wC_X12_init wN_X12 wM_L_12 wI_X12_init rfl rfl (by decide) (by decide) rfl rfl (Nat.le_of_ble_eq_true rfl) (fun r hr => Option.some.inj hr ▸ cn_X12_init_91 (d := d + 93)) (fun r hr => Option.some.inj hr ▸ ?_)
  change zO l E (d + 94) YL_law 15 [(0, zR (1000000 + 0)), (1, zR 0)] [zR 91] (cF257, cD236, 126, 172044) zmI x
  refine zO_astore_n dL_law_15 (by decide) ⟨_, rfl⟩ ?_
  refine zO_ls (ls' := [(0, zR (1000000 + 0)), (1, zR 0), (2, zR 91)]) rfl ?_
  refine zO_iconst dL_law_16 (by decide) ?_
  refine zO_istore_n dL_law_17 (by decide) ?_
  refine zO_ls (ls' := [(0, zR (1000000 + 0)), (1, zR 0), (2, zR 91), (3, zI 0)]) rfl ?_
  exact k
theorem law_all {l : Launch} {E : zE} (hlen : zgl E 0 ≤ 3072) (hz : ∀ j, -2147483648 ≤ zga E 0 j ∧ zga E 0 j ≤ 2147483647) : ∃ M : zM, M.2.2.1 ≤ 60000 ∧ M.2.2.2 ≤ 1000000 ∧ zT l E (0 + 94) YL_law 0 [(0, zR (1000000 + 0))] [] (cF0, cD0, 0, 0) (some (zI 1), M) := by
  obtain ⟨⟨v, M⟩, e, h1, h2, h3⟩ := law_loop hlen hz wI_start
  dsimp only at h1 h2 h3
  subst h1
  exact ⟨M, h2, h3, law_head (sL_law_18 zfu 0 cF257 cD236 126 172044 cs_G (Nat.le_refl _)) (1, M) e⟩
