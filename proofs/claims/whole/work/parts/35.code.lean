/-! printed by wip/gen/emit_all.py: X12_sure X12_safe X12_millionths X12_worth X12_cell X12_helpedBy X12_kingsWith X12_costOf X12_lesser X12_fewest X12_schemes X12_bests X12_best X12_canBe -/
theorem dX12_sure_0 : decode cX12_sure 0 = .ok (.iload_n 1, 1) := by decide +kernel
theorem dX12_sure_1 : decode cX12_sure 1 = .ok (.iconst 0, 1) := by decide +kernel
theorem dX12_sure_2 : decode cX12_sure 2 = .ok (.aload_n 0, 1) := by decide +kernel
theorem dX12_sure_3 : decode cX12_sure 3 = .ok (.invokevirtual 362, 3) := by decide +kernel
theorem dX12_sure_6 : decode cX12_sure 6 = .ok (.invokestatic 135, 3) := by decide +kernel
theorem dX12_sure_9 : decode cX12_sure 9 = .ok (.ifCond .eq 12, 3) := by decide +kernel
theorem dX12_sure_12 : decode cX12_sure 12 = .ok (.iload_n 2, 1) := by decide +kernel
theorem dX12_sure_13 : decode cX12_sure 13 = .ok (.iconst 0, 1) := by decide +kernel
theorem dX12_sure_14 : decode cX12_sure 14 = .ok (.iconst 1, 1) := by decide +kernel
theorem dX12_sure_15 : decode cX12_sure 15 = .ok (.invokestatic 135, 3) := by decide +kernel
theorem dX12_sure_18 : decode cX12_sure 18 = .ok (.ifCond .ne 7, 3) := by decide +kernel
theorem dX12_sure_21 : decode cX12_sure 21 = .ok (.ldc2_w 344, 3) := by decide +kernel
theorem dX12_sure_24 : decode cX12_sure 24 = .ok (.lreturn, 1) := by decide +kernel
theorem dX12_sure_25 : decode cX12_sure 25 = .ok (.aload_n 0, 1) := by decide +kernel
theorem dX12_sure_26 : decode cX12_sure 26 = .ok (.invokevirtual 334, 3) := by decide +kernel
theorem dX12_sure_29 : decode cX12_sure 29 = .ok (.aload_n 0, 1) := by decide +kernel
theorem dX12_sure_30 : decode cX12_sure 30 = .ok (.iconst 0, 1) := by decide +kernel
theorem dX12_sure_31 : decode cX12_sure 31 = .ok (.iload_n 1, 1) := by decide +kernel
theorem dX12_sure_32 : decode cX12_sure 32 = .ok (.invokevirtual 365, 3) := by decide +kernel
theorem dX12_sure_35 : decode cX12_sure 35 = .ok (.lstore_n 3, 1) := by decide +kernel
theorem dX12_sure_36 : decode cX12_sure 36 = .ok (.lload_n 3, 1) := by decide +kernel
theorem dX12_sure_37 : decode cX12_sure 37 = .ok (.aload_n 0, 1) := by decide +kernel
theorem dX12_sure_38 : decode cX12_sure 38 = .ok (.getfield 324, 3) := by decide +kernel
theorem dX12_sure_41 : decode cX12_sure 41 = .ok (.iload_n 2, 1) := by decide +kernel
theorem dX12_sure_42 : decode cX12_sure 42 = .ok (.invokestatic 354, 3) := by decide +kernel
theorem dX12_sure_45 : decode cX12_sure 45 = .ok (.lreturn, 1) := by decide +kernel
abbrev YX12_sure : zY := (yX12_sure, cX12_sure, 5, (Option.some Jvm.ClassFile.FieldType.long), [])
def fX12_sure (F : zFs) (v1 : Int) (v2 : Int) (D : zDa) : Option (Int × zDa) :=
  (fX12_bowl F D).bind (fun (r_1, D_2) =>
    (fX12_lies F v1 0 r_1 D_2).bind (fun (r_3, D_4) =>
      if r_3 = 0 then
        some ((-1), D_4)
      else
        (fX12_lies F v2 0 1 D_4).bind (fun (r_5, D_6) =>
          if r_5 = 0 then
            some ((-1), D_6)
          else
            (fX12_laysChances F D_6).bind (fun D_8 =>
              (fX12_passesWith F 0 v1 D_8).bind (fun (r_9, D_10) =>
                (fX12_reduced F r_9 (D_10 91 30) v2 D_10).bind (fun (r_11, D_12) =>
                  some (r_11, D_12)))))))
set_option maxHeartbeats 20000000 in
theorem mX12_sure {l : Launch} {E : zE} {d : Nat} {F : zFs} {n sl : Nat} (hG : zG F) (v1 : Int) (v2 : Int) {D : zDa} : ∀ r, fX12_sure F  v1 v2 D = some r → zMet l E (d + 89) YX12_sure [zR 91, zI v1, zI v2] (F, D, n, sl) (zcJ F n sl r) := by
  intro r hr
  refine zMet_of (plainFor_of_name (by decide)) (fun _ h => (nomatch h)) (Nat.le_of_ble_eq_true rfl) ?_
  have hz : zO l E (d + 89) YX12_sure 0 [(0, zR 91), (1, zI v1), (2, zI v2)] [] (F, D, n, sl) (zcJ F n sl) (fX12_sure F  v1 v2 D) := by
    unfold fX12_sure
    refine zO_iload_n dX12_sure_0 rfl ?_
    refine zO_iconst dX12_sure_1 (by decide) ?_
    refine zO_aload_n dX12_sure_2 rfl (zR_P _) ?_
    refine zO_callV (Y' := YX12_bowl) (cw := zcI F n sl) (as := []) (rest := [zI 0, zI v1]) (na := 0) (ci := 12) rfl dX12_sure_3 wC_X12_bowl wN_X12 wM_X12_362 wI_X12_bowl wV_X12_bowl (by decide) (by decide) rfl rfl (Nat.le_of_ble_eq_true rfl) rfl (by decide) (gk_91 hG) (fun r hr => zMet_cast (Nat.add_assoc d 86 2) (mX12_bowl (d := d + 86) hG  r hr)) ?_
    rintro ⟨r_1, D_2⟩ -
    show zO _ _ _ _ _ _ [zI r_1, zI 0, zI v1] (F, D_2, n, sl) _ _
    refine zO_callS (Y' := YX12_lies) (cw := zcI F n sl) (as := [zI v1, zI 0, zI r_1]) (rest := []) (na := 3) dX12_sure_6 wC_X12_lies wN_X12 wM_X12_135 wS_X12_lies (by decide) (by decide) rfl rfl (Nat.le_of_ble_eq_true rfl) (fun r hr => zMet_cast (Nat.add_assoc d 88 0) (mX12_lies (d := d + 88) hG v1 0 r_1 r hr)) ?_
    rintro ⟨r_3, D_4⟩ -
    show zO _ _ _ _ _ _ [zI r_3] (F, D_4, n, sl) _ _
    refine zO_if_eq (tgt := 21) dX12_sure_9 rfl (fun c9 => ?_) (fun c9 => ?_)
    · refine zO_ldc2 (n := -1) dX12_sure_21 wK_X12_344 (by decide) ?_
      exact zO_ret (rv := some (zL (-1))) dX12_sure_24 rfl trivial rfl
    · refine zO_iload_n dX12_sure_12 rfl ?_
      refine zO_iconst dX12_sure_13 (by decide) ?_
      refine zO_iconst dX12_sure_14 (by decide) ?_
      refine zO_callS (Y' := YX12_lies) (cw := zcI F n sl) (as := [zI v2, zI 0, zI 1]) (rest := []) (na := 3) dX12_sure_15 wC_X12_lies wN_X12 wM_X12_135 wS_X12_lies (by decide) (by decide) rfl rfl (Nat.le_of_ble_eq_true rfl) (fun r hr => zMet_cast (Nat.add_assoc d 88 0) (mX12_lies (d := d + 88) hG v2 0 1 r hr)) ?_
      rintro ⟨r_5, D_6⟩ -
      show zO _ _ _ _ _ _ [zI r_5] (F, D_6, n, sl) _ _
      refine zO_if_ne (tgt := 25) dX12_sure_18 rfl (fun c18 => ?_) (fun c18 => ?_)
      · refine zO_ldc2 (n := -1) dX12_sure_21 wK_X12_344 (by decide) ?_
        exact zO_ret (rv := some (zL (-1))) dX12_sure_24 rfl trivial rfl
      · refine zO_aload_n dX12_sure_25 rfl (zR_P _) ?_
        refine zO_callV (Y' := YX12_laysChances) (cw := zcV F n sl) (as := []) (rest := []) (na := 0) (ci := 12) rfl dX12_sure_26 wC_X12_laysChances wN_X12 wM_X12_334 wI_X12_laysChances wV_X12_laysChances (by decide) (by decide) rfl rfl (Nat.le_of_ble_eq_true rfl) rfl (by decide) (gk_91 hG) (fun r hr => zMet_cast (Nat.add_assoc d 0 88) (mX12_laysChances (d := d + 0) hG  r hr)) ?_
        intro D_8 _
        show zO _ _ _ _ _ _ [] (F, D_8, n, sl) _ _
        refine zO_aload_n dX12_sure_29 rfl (zR_P _) ?_
        refine zO_iconst dX12_sure_30 (by decide) ?_
        refine zO_iload_n dX12_sure_31 rfl ?_
        refine zO_callV (Y' := YX12_passesWith) (cw := zcJ F n sl) (as := [zI 0, zI v1]) (rest := []) (na := 2) (ci := 12) rfl dX12_sure_32 wC_X12_passesWith wN_X12 wM_X12_365 wI_X12_passesWith wV_X12_passesWith (by decide) (by decide) rfl rfl (Nat.le_of_ble_eq_true rfl) rfl (by decide) (gk_91 hG) (fun r hr => zMet_cast (Nat.add_assoc d 85 3) (mX12_passesWith (d := d + 85) hG 0 v1 r hr)) ?_
        rintro ⟨r_9, D_10⟩ -
        show zO _ _ _ _ _ _ [zL r_9] (F, D_10, n, sl) _ _
        refine zO_lstore_n dX12_sure_35 (by decide) ?_
        refine zO_ls (ls' := [(0, zR 91), (1, zI v1), (2, zI v2), (3, zL r_9)]) rfl ?_
        refine zO_lload_n dX12_sure_36 rfl ?_
        refine zO_aload_n dX12_sure_37 rfl (zR_P _) ?_
        refine gt12 (k := 30) (v := zL (D_10 91 30)) dX12_sure_38 wF_X12_324 (by decide) (gk_91 hG) rfl ?_
        refine zO_iload_n dX12_sure_41 rfl ?_
        refine zO_callS (Y' := YX12_reduced) (cw := zcJ F n sl) (as := [zL r_9, zL (D_10 91 30), zI v2]) (rest := []) (na := 3) dX12_sure_42 wC_X12_reduced wN_X12 wM_X12_354 wS_X12_reduced (by decide) (by decide) rfl rfl (Nat.le_of_ble_eq_true rfl) (fun r hr => zMet_cast (Nat.add_assoc d 87 1) (mX12_reduced (d := d + 87) hG r_9 (D_10 91 30) v2 r hr)) ?_
        rintro ⟨r_11, D_12⟩ -
        show zO _ _ _ _ _ _ [zL r_11] (F, D_12, n, sl) _ _
        exact zO_ret (rv := some (zL r_11)) dX12_sure_45 rfl trivial rfl
  exact hz r hr
theorem dX12_safe_0 : decode cX12_safe 0 = .ok (.aload_n 0, 1) := by decide +kernel
theorem dX12_safe_1 : decode cX12_safe 1 = .ok (.invokevirtual 334, 3) := by decide +kernel
theorem dX12_safe_4 : decode cX12_safe 4 = .ok (.iconst 0, 1) := by decide +kernel
theorem dX12_safe_5 : decode cX12_safe 5 = .ok (.istore_n 1, 1) := by decide +kernel
theorem dX12_safe_6 : decode cX12_safe 6 = .ok (.iload_n 1, 1) := by decide +kernel
theorem dX12_safe_7 : decode cX12_safe 7 = .ok (.aload_n 0, 1) := by decide +kernel
theorem dX12_safe_8 : decode cX12_safe 8 = .ok (.invokevirtual 362, 3) := by decide +kernel
theorem dX12_safe_11 : decode cX12_safe 11 = .ok (.if_icmp .gt 25, 3) := by decide +kernel
theorem dX12_safe_14 : decode cX12_safe 14 = .ok (.aload_n 0, 1) := by decide +kernel
theorem dX12_safe_15 : decode cX12_safe 15 = .ok (.iconst 0, 1) := by decide +kernel
theorem dX12_safe_16 : decode cX12_safe 16 = .ok (.iload_n 1, 1) := by decide +kernel
theorem dX12_safe_17 : decode cX12_safe 17 = .ok (.invokevirtual 365, 3) := by decide +kernel
theorem dX12_safe_20 : decode cX12_safe 20 = .ok (.aload_n 0, 1) := by decide +kernel
theorem dX12_safe_21 : decode cX12_safe 21 = .ok (.getfield 324, 3) := by decide +kernel
theorem dX12_safe_24 : decode cX12_safe 24 = .ok (.lcmp, 1) := by decide +kernel
theorem dX12_safe_25 : decode cX12_safe 25 = .ok (.ifCond .ne 5, 3) := by decide +kernel
theorem dX12_safe_28 : decode cX12_safe 28 = .ok (.iload_n 1, 1) := by decide +kernel
theorem dX12_safe_29 : decode cX12_safe 29 = .ok (.ireturn, 1) := by decide +kernel
theorem dX12_safe_30 : decode cX12_safe 30 = .ok (.iinc 1 1, 3) := by decide +kernel
theorem dX12_safe_33 : decode cX12_safe 33 = .ok (.goto (-27), 3) := by decide +kernel
theorem dX12_safe_36 : decode cX12_safe 36 = .ok (.iconst (-1), 1) := by decide +kernel
theorem dX12_safe_37 : decode cX12_safe 37 = .ok (.ireturn, 1) := by decide +kernel
abbrev YX12_safe : zY := (yX12_safe, cX12_safe, 2, (Option.some Jvm.ClassFile.FieldType.int), [])
def fX12_safe_6 (F : zFs)   (k_6 : Int → zDa → Option (Int × zDa)) (v1 : Int) (D : zDa) : Option (Int × zDa) :=
  (fX12_bowl F D).bind (fun (r_3, D_4) =>
    if r_3 < v1 then
      some ((-1), D_4)
    else
      (fX12_passesWith F 0 v1 D_4).bind (fun (r_5, D_6) =>
        if r_5 = (D_6 91 30) then
          some (v1, D_6)
        else
          if (-2147483648 ≤ v1 + 1 ∧ v1 + 1 ≤ 2147483647) then
            k_6 (v1 + 1) D_6
          else none))
def fX12_safe (F : zFs)  (D : zDa) : Option (Int × zDa) :=
  (fX12_laysChances F D).bind (fun D_2 =>
    zfix (fun _ _ => none) (fX12_safe_6 F) zfu 0 D_2)
set_option maxHeartbeats 20000000 in
theorem sX12_safe_6 {l : Launch} {E : zE} {d : Nat} {F : zFs} {n sl : Nat} (hG : zG F)     : ∀ (N : Nat) (v1 : Int) (D : zDa), zO l E (d + 89) YX12_safe 6 [(0, zR 91), (1, zI v1)] [] (F, D, n, sl) (zcI F n sl) (zfix (fun _ _ => none) (fX12_safe_6 F) N v1 D) := by
  intro N
  induction N with
  | zero => intro v1 D; exact zO_none
  | succ N hk_6 =>
    intro v1 D
    show zO _ _ _ _ _ _ _ _ _ ((fX12_safe_6 F) (zfix (fun _ _ => none) (fX12_safe_6 F) N) v1 D)
    unfold fX12_safe_6
    refine zO_iload_n dX12_safe_6 rfl ?_
    refine zO_aload_n dX12_safe_7 rfl (zR_P _) ?_
    refine zO_callV (Y' := YX12_bowl) (cw := zcI F n sl) (as := []) (rest := [zI v1]) (na := 0) (ci := 12) rfl dX12_safe_8 wC_X12_bowl wN_X12 wM_X12_362 wI_X12_bowl wV_X12_bowl (by decide) (by decide) rfl rfl (Nat.le_of_ble_eq_true rfl) rfl (by decide) (gk_91 hG) (fun r hr => zMet_cast (Nat.add_assoc d 86 2) (mX12_bowl (d := d + 86) hG  r hr)) ?_
    rintro ⟨r_3, D_4⟩ -
    show zO _ _ _ _ _ _ [zI r_3, zI v1] (F, D_4, n, sl) _ _
    refine zO_icmp_gt (tgt := 36) dX12_safe_11 rfl (fun c11 => ?_) (fun c11 => ?_)
    · refine zO_iconst dX12_safe_36 (by decide) ?_
      exact zO_ret (rv := some (zI (-1))) dX12_safe_37 rfl rfl rfl
    · refine zO_aload_n dX12_safe_14 rfl (zR_P _) ?_
      refine zO_iconst dX12_safe_15 (by decide) ?_
      refine zO_iload_n dX12_safe_16 rfl ?_
      refine zO_callV (Y' := YX12_passesWith) (cw := zcJ F n sl) (as := [zI 0, zI v1]) (rest := []) (na := 2) (ci := 12) rfl dX12_safe_17 wC_X12_passesWith wN_X12 wM_X12_365 wI_X12_passesWith wV_X12_passesWith (by decide) (by decide) rfl rfl (Nat.le_of_ble_eq_true rfl) rfl (by decide) (gk_91 hG) (fun r hr => zMet_cast (Nat.add_assoc d 85 3) (mX12_passesWith (d := d + 85) hG 0 v1 r hr)) ?_
      rintro ⟨r_5, D_6⟩ -
      show zO _ _ _ _ _ _ [zL r_5] (F, D_6, n, sl) _ _
      refine zO_aload_n dX12_safe_20 rfl (zR_P _) ?_
      refine gt12 (k := 30) (v := zL (D_6 91 30)) dX12_safe_21 wF_X12_324 (by decide) (gk_91 hG) rfl ?_
      refine zO_lif_ne (tgt := 30) dX12_safe_24 dX12_safe_25 rfl (fun c24 => ?_) (fun c24 => ?_)
      · refine zO_iload_n dX12_safe_28 rfl ?_
        exact zO_ret (rv := some (zI v1)) dX12_safe_29 rfl rfl rfl
      · refine zO_chk (fun h1 => ?_)
        refine zO_iinc dX12_safe_30 rfl h1 (by decide) ?_
        refine zO_ls (ls' := [(0, zR 91), (1, zI (v1 + 1))]) rfl ?_
        refine zO_goto (tgt := 6) dX12_safe_33 rfl ?_
        refine zO_live [0, 1] ?_
        exact hk_6 (v1 + 1) D_6
set_option maxHeartbeats 20000000 in
theorem mX12_safe {l : Launch} {E : zE} {d : Nat} {F : zFs} {n sl : Nat} (hG : zG F)  {D : zDa} : ∀ r, fX12_safe F   D = some r → zMet l E (d + 89) YX12_safe [zR 91] (F, D, n, sl) (zcI F n sl r) := by
  intro r hr
  refine zMet_of (plainFor_of_name (by decide)) (fun _ h => (nomatch h)) (Nat.le_of_ble_eq_true rfl) ?_
  have hz : zO l E (d + 89) YX12_safe 0 [(0, zR 91)] [] (F, D, n, sl) (zcI F n sl) (fX12_safe F   D) := by
    unfold fX12_safe
    refine zO_aload_n dX12_safe_0 rfl (zR_P _) ?_
    refine zO_callV (Y' := YX12_laysChances) (cw := zcV F n sl) (as := []) (rest := []) (na := 0) (ci := 12) rfl dX12_safe_1 wC_X12_laysChances wN_X12 wM_X12_334 wI_X12_laysChances wV_X12_laysChances (by decide) (by decide) rfl rfl (Nat.le_of_ble_eq_true rfl) rfl (by decide) (gk_91 hG) (fun r hr => zMet_cast (Nat.add_assoc d 0 88) (mX12_laysChances (d := d + 0) hG  r hr)) ?_
    intro D_2 _
    show zO _ _ _ _ _ _ [] (F, D_2, n, sl) _ _
    refine zO_iconst dX12_safe_4 (by decide) ?_
    refine zO_istore_n dX12_safe_5 (by decide) ?_
    refine zO_ls (ls' := [(0, zR 91), (1, zI 0)]) rfl ?_
    refine zO_live [0, 1] ?_
    exact sX12_safe_6 hG zfu 0 D_2
  exact hz r hr
theorem dX12_millionths_0 : decode cX12_millionths 0 = .ok (.lload_n 0, 1) := by decide +kernel
theorem dX12_millionths_1 : decode cX12_millionths 1 = .ok (.lload_n 2, 1) := by decide +kernel
theorem dX12_millionths_2 : decode cX12_millionths 2 = .ok (.ldiv, 1) := by decide +kernel
theorem dX12_millionths_3 : decode cX12_millionths 3 = .ok (.lstore 4, 2) := by decide +kernel
theorem dX12_millionths_5 : decode cX12_millionths 5 = .ok (.lload_n 0, 1) := by decide +kernel
theorem dX12_millionths_6 : decode cX12_millionths 6 = .ok (.lload_n 2, 1) := by decide +kernel
theorem dX12_millionths_7 : decode cX12_millionths 7 = .ok (.lrem, 1) := by decide +kernel
theorem dX12_millionths_8 : decode cX12_millionths 8 = .ok (.lstore 6, 2) := by decide +kernel
theorem dX12_millionths_10 : decode cX12_millionths 10 = .ok (.iconst 0, 1) := by decide +kernel
theorem dX12_millionths_11 : decode cX12_millionths 11 = .ok (.istore 8, 2) := by decide +kernel
theorem dX12_millionths_13 : decode cX12_millionths 13 = .ok (.iload 8, 2) := by decide +kernel
theorem dX12_millionths_15 : decode cX12_millionths 15 = .ok (.bipush 6, 2) := by decide +kernel
theorem dX12_millionths_17 : decode cX12_millionths 17 = .ok (.if_icmp .ge 36, 3) := by decide +kernel
theorem dX12_millionths_20 : decode cX12_millionths 20 = .ok (.lload 6, 2) := by decide +kernel
theorem dX12_millionths_22 : decode cX12_millionths 22 = .ok (.ldc2_w 368, 3) := by decide +kernel
theorem dX12_millionths_25 : decode cX12_millionths 25 = .ok (.lmul, 1) := by decide +kernel
theorem dX12_millionths_26 : decode cX12_millionths 26 = .ok (.lstore 6, 2) := by decide +kernel
theorem dX12_millionths_28 : decode cX12_millionths 28 = .ok (.lload 4, 2) := by decide +kernel
theorem dX12_millionths_30 : decode cX12_millionths 30 = .ok (.ldc2_w 368, 3) := by decide +kernel
theorem dX12_millionths_33 : decode cX12_millionths 33 = .ok (.lmul, 1) := by decide +kernel
theorem dX12_millionths_34 : decode cX12_millionths 34 = .ok (.lload 6, 2) := by decide +kernel
theorem dX12_millionths_36 : decode cX12_millionths 36 = .ok (.lload_n 2, 1) := by decide +kernel
theorem dX12_millionths_37 : decode cX12_millionths 37 = .ok (.ldiv, 1) := by decide +kernel
theorem dX12_millionths_38 : decode cX12_millionths 38 = .ok (.ladd, 1) := by decide +kernel
theorem dX12_millionths_39 : decode cX12_millionths 39 = .ok (.lstore 4, 2) := by decide +kernel
theorem dX12_millionths_41 : decode cX12_millionths 41 = .ok (.lload 6, 2) := by decide +kernel
theorem dX12_millionths_43 : decode cX12_millionths 43 = .ok (.lload_n 2, 1) := by decide +kernel
theorem dX12_millionths_44 : decode cX12_millionths 44 = .ok (.lrem, 1) := by decide +kernel
theorem dX12_millionths_45 : decode cX12_millionths 45 = .ok (.lstore 6, 2) := by decide +kernel
theorem dX12_millionths_47 : decode cX12_millionths 47 = .ok (.iinc 8 1, 3) := by decide +kernel
theorem dX12_millionths_50 : decode cX12_millionths 50 = .ok (.goto (-37), 3) := by decide +kernel
theorem dX12_millionths_53 : decode cX12_millionths 53 = .ok (.lload 4, 2) := by decide +kernel
theorem dX12_millionths_55 : decode cX12_millionths 55 = .ok (.l2i, 1) := by decide +kernel
theorem dX12_millionths_56 : decode cX12_millionths 56 = .ok (.ireturn, 1) := by decide +kernel
abbrev YX12_millionths : zY := (yX12_millionths, cX12_millionths, 9, (Option.some Jvm.ClassFile.FieldType.int), [])
def fX12_millionths_13 (F : zFs) (o2 : Int)  (k_13 : Int → Int → Int → zDa → Option (Int × zDa)) (v4 : Int) (v6 : Int) (v8 : Int) (D : zDa) : Option (Int × zDa) :=
  if v8 < 6 then
    if (-9223372036854775808 ≤ v6 * 10 ∧ v6 * 10 ≤ 9223372036854775807) then
      zlet ((v6 * 10)) (fun x6_3 =>
        if (-9223372036854775808 ≤ v4 * 10 ∧ v4 * 10 ≤ 9223372036854775807) ∧ (o2 ≠ 0) ∧ (¬ (x6_3 = -9223372036854775808 ∧ o2 = -1)) ∧ (-9223372036854775808 ≤ (v4 * 10) + (Int.tdiv x6_3 o2) ∧ (v4 * 10) + (Int.tdiv x6_3 o2) ≤ 9223372036854775807) then
          zlet (((v4 * 10) + (Int.tdiv x6_3 o2))) (fun x4_4 =>
            zlet ((Int.tmod x6_3 o2)) (fun x6_5 =>
              if (-2147483648 ≤ v8 + 1 ∧ v8 + 1 ≤ 2147483647) then
                k_13 x4_4 x6_5 (v8 + 1) D
              else none))
        else none)
    else none
  else
    some ((zl2i v4), D)
def fX12_millionths (F : zFs) (v0 : Int) (v2 : Int) (D : zDa) : Option (Int × zDa) :=
  if (v2 ≠ 0) ∧ (¬ (v0 = -9223372036854775808 ∧ v2 = -1)) then
    zlet ((Int.tdiv v0 v2)) (fun x4_1 =>
      zlet ((Int.tmod v0 v2)) (fun x6_2 =>
        zfix (fun _ _ _ _ => none) (fX12_millionths_13 F v2) zfu x4_1 x6_2 0 D))
  else none
set_option maxHeartbeats 20000000 in
theorem sX12_millionths_13 {l : Launch} {E : zE} {d : Nat} {F : zFs} {n sl : Nat} (hG : zG F)  (o2 : Int)   : ∀ (N : Nat) (v4 : Int) (v6 : Int) (v8 : Int) (D : zDa), zO l E (d + 0) YX12_millionths 13 [(2, zL o2), (4, zL v4), (6, zL v6), (8, zI v8)] [] (F, D, n, sl) (zcI F n sl) (zfix (fun _ _ _ _ => none) (fX12_millionths_13 F o2) N v4 v6 v8 D) := by
  intro N
  induction N with
  | zero => intro v4 v6 v8 D; exact zO_none
  | succ N hk_13 =>
    intro v4 v6 v8 D
    show zO _ _ _ _ _ _ _ _ _ ((fX12_millionths_13 F o2) (zfix (fun _ _ _ _ => none) (fX12_millionths_13 F o2) N) v4 v6 v8 D)
    unfold fX12_millionths_13
    refine zO_iload dX12_millionths_13 rfl ?_
    refine zO_bipush dX12_millionths_15 (by decide) ?_
    refine zO_icmp_ge (tgt := 53) dX12_millionths_17 rfl (fun c17 => ?_) (fun c17 => ?_)
    · refine zO_chk (fun h2 => ?_)
      refine zO_lload dX12_millionths_20 rfl ?_
      refine zO_ldc2 (n := 10) dX12_millionths_22 wK_X12_368 (by decide) ?_
      refine zO_lmul dX12_millionths_25 h2 ?_
      refine zO_letJ (fun x6_3 ex6_3 => ?_)
      refine zO_lstore dX12_millionths_26 (by decide) ?_
      refine zO_ls (ls' := [(2, zL o2), (4, zL v4), (6, zL x6_3), (8, zI v8)]) rfl ?_
      refine zO_chk (fun h3 => ?_)
      refine zO_lload dX12_millionths_28 rfl ?_
      refine zO_ldc2 (n := 10) dX12_millionths_30 wK_X12_368 (by decide) ?_
      refine zO_lmul dX12_millionths_33 h3.1 ?_
      refine zO_lload dX12_millionths_34 rfl ?_
      refine zO_lload_n dX12_millionths_36 rfl ?_
      refine zO_ldiv dX12_millionths_37 h3.2.1 h3.2.2.1 ?_
      refine zO_ladd dX12_millionths_38 h3.2.2.2 ?_
      refine zO_letJ (fun x4_4 ex4_4 => ?_)
      refine zO_lstore dX12_millionths_39 (by decide) ?_
      refine zO_ls (ls' := [(2, zL o2), (4, zL x4_4), (6, zL x6_3), (8, zI v8)]) rfl ?_
      refine zO_lload dX12_millionths_41 rfl ?_
      refine zO_lload_n dX12_millionths_43 rfl ?_
      refine zO_lrem dX12_millionths_44 h3.2.1 ?_
      refine zO_letJ (fun x6_5 ex6_5 => ?_)
      refine zO_lstore dX12_millionths_45 (by decide) ?_
      refine zO_ls (ls' := [(2, zL o2), (4, zL x4_4), (6, zL x6_5), (8, zI v8)]) rfl ?_
      refine zO_chk (fun h4 => ?_)
      refine zO_iinc dX12_millionths_47 rfl h4 (by decide) ?_
      refine zO_ls (ls' := [(2, zL o2), (4, zL x4_4), (6, zL x6_5), (8, zI (v8 + 1))]) rfl ?_
      refine zO_goto (tgt := 13) dX12_millionths_50 rfl ?_
      refine zO_live [2, 4, 6, 8] ?_
      exact hk_13 x4_4 x6_5 (v8 + 1) D
    · refine zO_lload dX12_millionths_53 rfl ?_
      refine zO_l2i dX12_millionths_55 ?_
      exact zO_ret (rv := some (zI (zl2i v4))) dX12_millionths_56 rfl rfl rfl
set_option maxHeartbeats 20000000 in
theorem mX12_millionths {l : Launch} {E : zE} {d : Nat} {F : zFs} {n sl : Nat} (hG : zG F) (v0 : Int) (v2 : Int) {D : zDa} : ∀ r, fX12_millionths F  v0 v2 D = some r → zMet l E (d + 0) YX12_millionths [zL v0, zL v2] (F, D, n, sl) (zcI F n sl r) := by
  intro r hr
  refine zMet_of (plainFor_of_name (by decide)) (fun _ h => (nomatch h)) (Nat.le_of_ble_eq_true rfl) ?_
  have hz : zO l E (d + 0) YX12_millionths 0 [(0, zL v0), (2, zL v2)] [] (F, D, n, sl) (zcI F n sl) (fX12_millionths F  v0 v2 D) := by
    unfold fX12_millionths
    refine zO_chk (fun h1 => ?_)
    refine zO_lload_n dX12_millionths_0 rfl ?_
    refine zO_lload_n dX12_millionths_1 rfl ?_
    refine zO_ldiv dX12_millionths_2 h1.1 h1.2 ?_
    refine zO_letJ (fun x4_1 ex4_1 => ?_)
    refine zO_lstore dX12_millionths_3 (by decide) ?_
    refine zO_ls (ls' := [(0, zL v0), (2, zL v2), (4, zL x4_1)]) rfl ?_
    refine zO_lload_n dX12_millionths_5 rfl ?_
    refine zO_lload_n dX12_millionths_6 rfl ?_
    refine zO_lrem dX12_millionths_7 h1.1 ?_
    refine zO_letJ (fun x6_2 ex6_2 => ?_)
    refine zO_lstore dX12_millionths_8 (by decide) ?_
    refine zO_ls (ls' := [(0, zL v0), (2, zL v2), (4, zL x4_1), (6, zL x6_2)]) rfl ?_
    refine zO_iconst dX12_millionths_10 (by decide) ?_
    refine zO_istore dX12_millionths_11 (by decide) ?_
    refine zO_ls (ls' := [(0, zL v0), (2, zL v2), (4, zL x4_1), (6, zL x6_2), (8, zI 0)]) rfl ?_
    refine zO_live [2, 4, 6, 8] ?_
    exact sX12_millionths_13 hG v2 zfu x4_1 x6_2 0 D
  exact hz r hr
theorem dX12_worth_0 : decode cX12_worth 0 = .ok (.aload_n 0, 1) := by decide +kernel
theorem dX12_worth_1 : decode cX12_worth 1 = .ok (.iload_n 1, 1) := by decide +kernel
theorem dX12_worth_2 : decode cX12_worth 2 = .ok (.invokevirtual 158, 3) := by decide +kernel
theorem dX12_worth_5 : decode cX12_worth 5 = .ok (.ifCond .ne 7, 3) := by decide +kernel
theorem dX12_worth_8 : decode cX12_worth 8 = .ok (.ldc_w 370, 3) := by decide +kernel
theorem dX12_worth_11 : decode cX12_worth 11 = .ok (.ireturn, 1) := by decide +kernel
theorem dX12_worth_12 : decode cX12_worth 12 = .ok (.aload_n 0, 1) := by decide +kernel
theorem dX12_worth_13 : decode cX12_worth 13 = .ok (.iload_n 1, 1) := by decide +kernel
theorem dX12_worth_14 : decode cX12_worth 14 = .ok (.invokevirtual 154, 3) := by decide +kernel
theorem dX12_worth_17 : decode cX12_worth 17 = .ok (.ifCond .ne 5, 3) := by decide +kernel
theorem dX12_worth_20 : decode cX12_worth 20 = .ok (.iconst 0, 1) := by decide +kernel
theorem dX12_worth_21 : decode cX12_worth 21 = .ok (.ireturn, 1) := by decide +kernel
theorem dX12_worth_22 : decode cX12_worth 22 = .ok (.aload_n 0, 1) := by decide +kernel
theorem dX12_worth_23 : decode cX12_worth 23 = .ok (.iload_n 1, 1) := by decide +kernel
theorem dX12_worth_24 : decode cX12_worth 24 = .ok (.iconst 2, 1) := by decide +kernel
theorem dX12_worth_25 : decode cX12_worth 25 = .ok (.invokevirtual 346, 3) := by decide +kernel
theorem dX12_worth_28 : decode cX12_worth 28 = .ok (.aload_n 0, 1) := by decide +kernel
theorem dX12_worth_29 : decode cX12_worth 29 = .ok (.invokevirtual 350, 3) := by decide +kernel
theorem dX12_worth_32 : decode cX12_worth 32 = .ok (.aload_n 0, 1) := by decide +kernel
theorem dX12_worth_33 : decode cX12_worth 33 = .ok (.getfield 324, 3) := by decide +kernel
theorem dX12_worth_36 : decode cX12_worth 36 = .ok (.invokestatic 371, 3) := by decide +kernel
theorem dX12_worth_39 : decode cX12_worth 39 = .ok (.istore_n 2, 1) := by decide +kernel
theorem dX12_worth_40 : decode cX12_worth 40 = .ok (.aload_n 0, 1) := by decide +kernel
theorem dX12_worth_41 : decode cX12_worth 41 = .ok (.iload_n 1, 1) := by decide +kernel
theorem dX12_worth_42 : decode cX12_worth 42 = .ok (.iconst 0, 1) := by decide +kernel
theorem dX12_worth_43 : decode cX12_worth 43 = .ok (.invokevirtual 346, 3) := by decide +kernel
theorem dX12_worth_46 : decode cX12_worth 46 = .ok (.iload_n 2, 1) := by decide +kernel
theorem dX12_worth_47 : decode cX12_worth 47 = .ok (.aload_n 0, 1) := by decide +kernel
theorem dX12_worth_48 : decode cX12_worth 48 = .ok (.invokevirtual 350, 3) := by decide +kernel
theorem dX12_worth_51 : decode cX12_worth 51 = .ok (.aload_n 0, 1) := by decide +kernel
theorem dX12_worth_52 : decode cX12_worth 52 = .ok (.getfield 324, 3) := by decide +kernel
theorem dX12_worth_55 : decode cX12_worth 55 = .ok (.invokestatic 371, 3) := by decide +kernel
theorem dX12_worth_58 : decode cX12_worth 58 = .ok (.isub, 1) := by decide +kernel
theorem dX12_worth_59 : decode cX12_worth 59 = .ok (.ireturn, 1) := by decide +kernel
abbrev YX12_worth : zY := (yX12_worth, cX12_worth, 3, (Option.some Jvm.ClassFile.FieldType.int), [])
def fX12_worth (F : zFs) (v1 : Int) (D : zDa) : Option (Int × zDa) :=
  (fX12_isQuestion F v1 D).bind (fun (r_1, D_2) =>
    if r_1 = 0 then
      some ((-10000000), D_2)
    else
      (fX12_isBowl F v1 D_2).bind (fun (r_3, D_4) =>
        if r_3 = 0 then
          some (0, D_4)
        else
          (fX12_known F v1 2 D_4).bind (fun D_6 =>
            (fX12_passes F D_6).bind (fun (r_7, D_8) =>
              (fX12_millionths F r_7 (D_8 91 30) D_8).bind (fun (r_9, D_10) =>
                (fX12_known F v1 0 D_10).bind (fun D_12 =>
                  (fX12_passes F D_12).bind (fun (r_13, D_14) =>
                    (fX12_millionths F r_13 (D_14 91 30) D_14).bind (fun (r_15, D_16) =>
                      if (-2147483648 ≤ r_9 - r_15 ∧ r_9 - r_15 ≤ 2147483647) then
                        some ((r_9 - r_15), D_16)
                      else none))))))))
set_option maxHeartbeats 20000000 in
theorem mX12_worth {l : Launch} {E : zE} {d : Nat} {F : zFs} {n sl : Nat} (hG : zG F) (v1 : Int) {D : zDa} : ∀ r, fX12_worth F  v1 D = some r → zMet l E (d + 90) YX12_worth [zR 91, zI v1] (F, D, n, sl) (zcI F n sl r) := by
  intro r hr
  refine zMet_of (plainFor_of_name (by decide)) (fun _ h => (nomatch h)) (Nat.le_of_ble_eq_true rfl) ?_
  have hz : zO l E (d + 90) YX12_worth 0 [(0, zR 91), (1, zI v1)] [] (F, D, n, sl) (zcI F n sl) (fX12_worth F  v1 D) := by
    unfold fX12_worth
    refine zO_aload_n dX12_worth_0 rfl (zR_P _) ?_
    refine zO_iload_n dX12_worth_1 rfl ?_
    refine zO_callV (Y' := YX12_isQuestion) (cw := zcI F n sl) (as := [zI v1]) (rest := []) (na := 1) (ci := 12) rfl dX12_worth_2 wC_X12_isQuestion wN_X12 wM_X12_158 wI_X12_isQuestion wV_X12_isQuestion (by decide) (by decide) rfl rfl (Nat.le_of_ble_eq_true rfl) rfl (by decide) (gk_91 hG) (fun r hr => zMet_cast (Nat.add_assoc d 88 1) (mX12_isQuestion (d := d + 88) hG v1 r hr)) ?_
    rintro ⟨r_1, D_2⟩ -
    show zO _ _ _ _ _ _ [zI r_1] (F, D_2, n, sl) _ _
    refine zO_if_ne (tgt := 12) dX12_worth_5 rfl (fun c5 => ?_) (fun c5 => ?_)
    · refine zO_ldcw (n := -10000000) dX12_worth_8 wK_X12_370 (by decide) ?_
      exact zO_ret (rv := some (zI (-10000000))) dX12_worth_11 rfl rfl rfl
    · refine zO_aload_n dX12_worth_12 rfl (zR_P _) ?_
      refine zO_iload_n dX12_worth_13 rfl ?_
      refine zO_callV (Y' := YX12_isBowl) (cw := zcI F n sl) (as := [zI v1]) (rest := []) (na := 1) (ci := 12) rfl dX12_worth_14 wC_X12_isBowl wN_X12 wM_X12_154 wI_X12_isBowl wV_X12_isBowl (by decide) (by decide) rfl rfl (Nat.le_of_ble_eq_true rfl) rfl (by decide) (gk_91 hG) (fun r hr => zMet_cast (Nat.add_assoc d 88 1) (mX12_isBowl (d := d + 88) hG v1 r hr)) ?_
      rintro ⟨r_3, D_4⟩ -
      show zO _ _ _ _ _ _ [zI r_3] (F, D_4, n, sl) _ _
      refine zO_if_ne (tgt := 22) dX12_worth_17 rfl (fun c17 => ?_) (fun c17 => ?_)
      · refine zO_iconst dX12_worth_20 (by decide) ?_
        exact zO_ret (rv := some (zI 0)) dX12_worth_21 rfl rfl rfl
      · refine zO_aload_n dX12_worth_22 rfl (zR_P _) ?_
        refine zO_iload_n dX12_worth_23 rfl ?_
        refine zO_iconst dX12_worth_24 (by decide) ?_
        refine zO_callV (Y' := YX12_known) (cw := zcV F n sl) (as := [zI v1, zI 2]) (rest := []) (na := 2) (ci := 12) rfl dX12_worth_25 wC_X12_known wN_X12 wM_X12_346 wI_X12_known wV_X12_known (by decide) (by decide) rfl rfl (Nat.le_of_ble_eq_true rfl) rfl (by decide) (gk_91 hG) (fun r hr => zMet_cast (Nat.add_assoc d 0 89) (mX12_known (d := d + 0) hG v1 2 r hr)) ?_
        intro D_6 _
        show zO _ _ _ _ _ _ [] (F, D_6, n, sl) _ _
        refine zO_aload_n dX12_worth_28 rfl (zR_P _) ?_
        refine zO_callV (Y' := YX12_passes) (cw := zcJ F n sl) (as := []) (rest := []) (na := 0) (ci := 12) rfl dX12_worth_29 wC_X12_passes wN_X12 wM_X12_350 wI_X12_passes wV_X12_passes (by decide) (by decide) rfl rfl (Nat.le_of_ble_eq_true rfl) rfl (by decide) (gk_91 hG) (fun r hr => zMet_cast (Nat.add_assoc d 88 1) (mX12_passes (d := d + 88) hG  r hr)) ?_
        rintro ⟨r_7, D_8⟩ -
        show zO _ _ _ _ _ _ [zL r_7] (F, D_8, n, sl) _ _
        refine zO_aload_n dX12_worth_32 rfl (zR_P _) ?_
        refine gt12 (k := 30) (v := zL (D_8 91 30)) dX12_worth_33 wF_X12_324 (by decide) (gk_91 hG) rfl ?_
        refine zO_callS (Y' := YX12_millionths) (cw := zcI F n sl) (as := [zL r_7, zL (D_8 91 30)]) (rest := []) (na := 2) dX12_worth_36 wC_X12_millionths wN_X12 wM_X12_371 wS_X12_millionths (by decide) (by decide) rfl rfl (Nat.le_of_ble_eq_true rfl) (fun r hr => zMet_cast (Nat.add_assoc d 89 0) (mX12_millionths (d := d + 89) hG r_7 (D_8 91 30) r hr)) ?_
        rintro ⟨r_9, D_10⟩ -
        show zO _ _ _ _ _ _ [zI r_9] (F, D_10, n, sl) _ _
        refine zO_istore_n dX12_worth_39 (by decide) ?_
        refine zO_ls (ls' := [(0, zR 91), (1, zI v1), (2, zI r_9)]) rfl ?_
        refine zO_aload_n dX12_worth_40 rfl (zR_P _) ?_
        refine zO_iload_n dX12_worth_41 rfl ?_
        refine zO_iconst dX12_worth_42 (by decide) ?_
        refine zO_callV (Y' := YX12_known) (cw := zcV F n sl) (as := [zI v1, zI 0]) (rest := []) (na := 2) (ci := 12) rfl dX12_worth_43 wC_X12_known wN_X12 wM_X12_346 wI_X12_known wV_X12_known (by decide) (by decide) rfl rfl (Nat.le_of_ble_eq_true rfl) rfl (by decide) (gk_91 hG) (fun r hr => zMet_cast (Nat.add_assoc d 0 89) (mX12_known (d := d + 0) hG v1 0 r hr)) ?_
        intro D_12 _
        show zO _ _ _ _ _ _ [] (F, D_12, n, sl) _ _
        refine zO_iload_n dX12_worth_46 rfl ?_
        refine zO_aload_n dX12_worth_47 rfl (zR_P _) ?_
        refine zO_callV (Y' := YX12_passes) (cw := zcJ F n sl) (as := []) (rest := [zI r_9]) (na := 0) (ci := 12) rfl dX12_worth_48 wC_X12_passes wN_X12 wM_X12_350 wI_X12_passes wV_X12_passes (by decide) (by decide) rfl rfl (Nat.le_of_ble_eq_true rfl) rfl (by decide) (gk_91 hG) (fun r hr => zMet_cast (Nat.add_assoc d 88 1) (mX12_passes (d := d + 88) hG  r hr)) ?_
        rintro ⟨r_13, D_14⟩ -
        show zO _ _ _ _ _ _ [zL r_13, zI r_9] (F, D_14, n, sl) _ _
        refine zO_aload_n dX12_worth_51 rfl (zR_P _) ?_
        refine gt12 (k := 30) (v := zL (D_14 91 30)) dX12_worth_52 wF_X12_324 (by decide) (gk_91 hG) rfl ?_
        refine zO_callS (Y' := YX12_millionths) (cw := zcI F n sl) (as := [zL r_13, zL (D_14 91 30)]) (rest := [zI r_9]) (na := 2) dX12_worth_55 wC_X12_millionths wN_X12 wM_X12_371 wS_X12_millionths (by decide) (by decide) rfl rfl (Nat.le_of_ble_eq_true rfl) (fun r hr => zMet_cast (Nat.add_assoc d 89 0) (mX12_millionths (d := d + 89) hG r_13 (D_14 91 30) r hr)) ?_
        rintro ⟨r_15, D_16⟩ -
        show zO _ _ _ _ _ _ [zI r_15, zI r_9] (F, D_16, n, sl) _ _
        refine zO_chk (fun h1 => ?_)
        refine zO_isub dX12_worth_58 h1 ?_
        exact zO_ret (rv := some (zI (r_9 - r_15))) dX12_worth_59 rfl rfl rfl
  exact hz r hr
theorem dX12_cell_0 : decode cX12_cell 0 = .ok (.sipush 7056, 3) := by decide +kernel
theorem dX12_cell_3 : decode cX12_cell 3 = .ok (.iload_n 0, 1) := by decide +kernel
theorem dX12_cell_4 : decode cX12_cell 4 = .ok (.imul, 1) := by decide +kernel
theorem dX12_cell_5 : decode cX12_cell 5 = .ok (.sipush 441, 3) := by decide +kernel
theorem dX12_cell_8 : decode cX12_cell 8 = .ok (.iload_n 1, 1) := by decide +kernel
theorem dX12_cell_9 : decode cX12_cell 9 = .ok (.imul, 1) := by decide +kernel
theorem dX12_cell_10 : decode cX12_cell 10 = .ok (.iadd, 1) := by decide +kernel
theorem dX12_cell_11 : decode cX12_cell 11 = .ok (.bipush 21, 2) := by decide +kernel
theorem dX12_cell_13 : decode cX12_cell 13 = .ok (.iload_n 2, 1) := by decide +kernel
theorem dX12_cell_14 : decode cX12_cell 14 = .ok (.imul, 1) := by decide +kernel
theorem dX12_cell_15 : decode cX12_cell 15 = .ok (.iadd, 1) := by decide +kernel
theorem dX12_cell_16 : decode cX12_cell 16 = .ok (.iload_n 3, 1) := by decide +kernel
theorem dX12_cell_17 : decode cX12_cell 17 = .ok (.iadd, 1) := by decide +kernel
theorem dX12_cell_18 : decode cX12_cell 18 = .ok (.ireturn, 1) := by decide +kernel
abbrev YX12_cell : zY := (yX12_cell, cX12_cell, 4, (Option.some Jvm.ClassFile.FieldType.int), [])
def fX12_cell (F : zFs) (v0 : Int) (v1 : Int) (v2 : Int) (v3 : Int) (D : zDa) : Option (Int × zDa) :=
  if (-2147483648 ≤ 7056 * v0 ∧ 7056 * v0 ≤ 2147483647) ∧ (-2147483648 ≤ 441 * v1 ∧ 441 * v1 ≤ 2147483647) ∧ (-2147483648 ≤ (7056 * v0) + (441 * v1) ∧ (7056 * v0) + (441 * v1) ≤ 2147483647) ∧ (-2147483648 ≤ 21 * v2 ∧ 21 * v2 ≤ 2147483647) ∧ (-2147483648 ≤ ((7056 * v0) + (441 * v1)) + (21 * v2) ∧ ((7056 * v0) + (441 * v1)) + (21 * v2) ≤ 2147483647) ∧ (-2147483648 ≤ (((7056 * v0) + (441 * v1)) + (21 * v2)) + v3 ∧ (((7056 * v0) + (441 * v1)) + (21 * v2)) + v3 ≤ 2147483647) then
    some (((((7056 * v0) + (441 * v1)) + (21 * v2)) + v3), D)
  else none
set_option maxHeartbeats 20000000 in
theorem mX12_cell {l : Launch} {E : zE} {d : Nat} {F : zFs} {n sl : Nat} (hG : zG F) (v0 : Int) (v1 : Int) (v2 : Int) (v3 : Int) {D : zDa} : ∀ r, fX12_cell F  v0 v1 v2 v3 D = some r → zMet l E (d + 0) YX12_cell [zI v0, zI v1, zI v2, zI v3] (F, D, n, sl) (zcI F n sl r) := by
  intro r hr
  refine zMet_of (plainFor_of_name (by decide)) (fun _ h => (nomatch h)) (Nat.le_of_ble_eq_true rfl) ?_
  have hz : zO l E (d + 0) YX12_cell 0 [(0, zI v0), (1, zI v1), (2, zI v2), (3, zI v3)] [] (F, D, n, sl) (zcI F n sl) (fX12_cell F  v0 v1 v2 v3 D) := by
    unfold fX12_cell
    refine zO_chk (fun h1 => ?_)
    refine zO_sipush dX12_cell_0 (by decide) ?_
    refine zO_iload_n dX12_cell_3 rfl ?_
    refine zO_imul dX12_cell_4 h1.1 ?_
    refine zO_sipush dX12_cell_5 (by decide) ?_
    refine zO_iload_n dX12_cell_8 rfl ?_
    refine zO_imul dX12_cell_9 h1.2.1 ?_
    refine zO_iadd dX12_cell_10 h1.2.2.1 ?_
    refine zO_bipush dX12_cell_11 (by decide) ?_
    refine zO_iload_n dX12_cell_13 rfl ?_
    refine zO_imul dX12_cell_14 h1.2.2.2.1 ?_
    refine zO_iadd dX12_cell_15 h1.2.2.2.2.1 ?_
    refine zO_iload_n dX12_cell_16 rfl ?_
    refine zO_iadd dX12_cell_17 h1.2.2.2.2.2 ?_
    exact zO_ret (rv := some (zI ((((7056 * v0) + (441 * v1)) + (21 * v2)) + v3))) dX12_cell_18 rfl rfl rfl
  exact hz r hr
theorem dX12_helpedBy_0 : decode cX12_helpedBy 0 = .ok (.aload_n 0, 1) := by decide +kernel
theorem dX12_helpedBy_1 : decode cX12_helpedBy 1 = .ok (.iload_n 1, 1) := by decide +kernel
theorem dX12_helpedBy_2 : decode cX12_helpedBy 2 = .ok (.iconst 0, 1) := by decide +kernel
theorem dX12_helpedBy_3 : decode cX12_helpedBy 3 = .ok (.invokevirtual 150, 3) := by decide +kernel
theorem dX12_helpedBy_6 : decode cX12_helpedBy 6 = .ok (.ifCond .le 23, 3) := by decide +kernel
theorem dX12_helpedBy_9 : decode cX12_helpedBy 9 = .ok (.iload_n 2, 1) := by decide +kernel
theorem dX12_helpedBy_10 : decode cX12_helpedBy 10 = .ok (.aload_n 0, 1) := by decide +kernel
theorem dX12_helpedBy_11 : decode cX12_helpedBy 11 = .ok (.iload_n 1, 1) := by decide +kernel
theorem dX12_helpedBy_12 : decode cX12_helpedBy 12 = .ok (.iconst 0, 1) := by decide +kernel
theorem dX12_helpedBy_13 : decode cX12_helpedBy 13 = .ok (.invokevirtual 150, 3) := by decide +kernel
theorem dX12_helpedBy_16 : decode cX12_helpedBy 16 = .ok (.iconst 1, 1) := by decide +kernel
theorem dX12_helpedBy_17 : decode cX12_helpedBy 17 = .ok (.isub, 1) := by decide +kernel
theorem dX12_helpedBy_18 : decode cX12_helpedBy 18 = .ok (.ishr, 1) := by decide +kernel
theorem dX12_helpedBy_19 : decode cX12_helpedBy 19 = .ok (.iconst 1, 1) := by decide +kernel
theorem dX12_helpedBy_20 : decode cX12_helpedBy 20 = .ok (.iand, 1) := by decide +kernel
theorem dX12_helpedBy_21 : decode cX12_helpedBy 21 = .ok (.iconst 1, 1) := by decide +kernel
theorem dX12_helpedBy_22 : decode cX12_helpedBy 22 = .ok (.if_icmp .ne 7, 3) := by decide +kernel
theorem dX12_helpedBy_25 : decode cX12_helpedBy 25 = .ok (.iconst 1, 1) := by decide +kernel
theorem dX12_helpedBy_26 : decode cX12_helpedBy 26 = .ok (.goto 4, 3) := by decide +kernel
theorem dX12_helpedBy_29 : decode cX12_helpedBy 29 = .ok (.iconst 0, 1) := by decide +kernel
theorem dX12_helpedBy_30 : decode cX12_helpedBy 30 = .ok (.ireturn, 1) := by decide +kernel
abbrev YX12_helpedBy : zY := (yX12_helpedBy, cX12_helpedBy, 3, (Option.some Jvm.ClassFile.FieldType.int), [])
def fX12_helpedBy (F : zFs) (v1 : Int) (v2 : Int) (D : zDa) : Option (Int × zDa) :=
  (fX12_factOf F v1 0 D).bind (fun (r_1, D_2) =>
    if 0 < r_1 then
      (fX12_factOf F v1 0 D_2).bind (fun (r_3, D_4) =>
        if (-2147483648 ≤ r_3 - 1 ∧ r_3 - 1 ≤ 2147483647) then
          if (zand (zshr v2 (r_3 - 1)) 1) = 1 then
            some (1, D_4)
          else
            some (0, D_4)
        else none)
    else
      some (0, D_2))
set_option maxHeartbeats 20000000 in
theorem mX12_helpedBy {l : Launch} {E : zE} {d : Nat} {F : zFs} {n sl : Nat} (hG : zG F) (v1 : Int) (v2 : Int) {D : zDa} : ∀ r, fX12_helpedBy F  v1 v2 D = some r → zMet l E (d + 1) YX12_helpedBy [zR 91, zI v1, zI v2] (F, D, n, sl) (zcI F n sl r) := by
  intro r hr
  refine zMet_of (plainFor_of_name (by decide)) (fun _ h => (nomatch h)) (Nat.le_of_ble_eq_true rfl) ?_
  have hz : zO l E (d + 1) YX12_helpedBy 0 [(0, zR 91), (1, zI v1), (2, zI v2)] [] (F, D, n, sl) (zcI F n sl) (fX12_helpedBy F  v1 v2 D) := by
    unfold fX12_helpedBy
    refine zO_aload_n dX12_helpedBy_0 rfl (zR_P _) ?_
    refine zO_iload_n dX12_helpedBy_1 rfl ?_
    refine zO_iconst dX12_helpedBy_2 (by decide) ?_
    refine zO_callV (Y' := YX12_factOf) (cw := zcI F n sl) (as := [zI v1, zI 0]) (rest := []) (na := 2) (ci := 12) rfl dX12_helpedBy_3 wC_X12_factOf wN_X12 wM_X12_150 wI_X12_factOf wV_X12_factOf (by decide) (by decide) rfl rfl (Nat.le_of_ble_eq_true rfl) rfl (by decide) (gk_91 hG) (fun r hr => zMet_cast (Nat.add_assoc d 0 0) (mX12_factOf (d := d + 0) hG v1 0 r hr)) ?_
    rintro ⟨r_1, D_2⟩ -
    show zO _ _ _ _ _ _ [zI r_1] (F, D_2, n, sl) _ _
    refine zO_if_le (tgt := 29) dX12_helpedBy_6 rfl (fun c6 => ?_) (fun c6 => ?_)
    · refine zO_iload_n dX12_helpedBy_9 rfl ?_
      refine zO_aload_n dX12_helpedBy_10 rfl (zR_P _) ?_
      refine zO_iload_n dX12_helpedBy_11 rfl ?_
      refine zO_iconst dX12_helpedBy_12 (by decide) ?_
      refine zO_callV (Y' := YX12_factOf) (cw := zcI F n sl) (as := [zI v1, zI 0]) (rest := [zI v2]) (na := 2) (ci := 12) rfl dX12_helpedBy_13 wC_X12_factOf wN_X12 wM_X12_150 wI_X12_factOf wV_X12_factOf (by decide) (by decide) rfl rfl (Nat.le_of_ble_eq_true rfl) rfl (by decide) (gk_91 hG) (fun r hr => zMet_cast (Nat.add_assoc d 0 0) (mX12_factOf (d := d + 0) hG v1 0 r hr)) ?_
      rintro ⟨r_3, D_4⟩ -
      show zO _ _ _ _ _ _ [zI r_3, zI v2] (F, D_4, n, sl) _ _
      refine zO_chk (fun h1 => ?_)
      refine zO_iconst dX12_helpedBy_16 (by decide) ?_
      refine zO_isub dX12_helpedBy_17 h1 ?_
      refine zO_ishr dX12_helpedBy_18 ?_
      refine zO_iconst dX12_helpedBy_19 (by decide) ?_
      refine zO_iand dX12_helpedBy_20 ?_
      refine zO_iconst dX12_helpedBy_21 (by decide) ?_
      refine zO_icmp_ne (tgt := 29) dX12_helpedBy_22 rfl (fun c22 => ?_) (fun c22 => ?_)
      · refine zO_iconst dX12_helpedBy_25 (by decide) ?_
        refine zO_goto (tgt := 30) dX12_helpedBy_26 rfl ?_
        exact zO_ret (rv := some (zI 1)) dX12_helpedBy_30 rfl rfl rfl
      · refine zO_iconst dX12_helpedBy_29 (by decide) ?_
        exact zO_ret (rv := some (zI 0)) dX12_helpedBy_30 rfl rfl rfl
    · refine zO_iconst dX12_helpedBy_29 (by decide) ?_
      exact zO_ret (rv := some (zI 0)) dX12_helpedBy_30 rfl rfl rfl
  exact hz r hr
theorem dX12_kingsWith_0 : decode cX12_kingsWith 0 = .ok (.aload_n 0, 1) := by decide +kernel
theorem dX12_kingsWith_1 : decode cX12_kingsWith 1 = .ok (.iload_n 1, 1) := by decide +kernel
theorem dX12_kingsWith_2 : decode cX12_kingsWith 2 = .ok (.iconst 0, 1) := by decide +kernel
theorem dX12_kingsWith_3 : decode cX12_kingsWith 3 = .ok (.invokevirtual 150, 3) := by decide +kernel
theorem dX12_kingsWith_6 : decode cX12_kingsWith 6 = .ok (.ifCond .le 18, 3) := by decide +kernel
theorem dX12_kingsWith_9 : decode cX12_kingsWith 9 = .ok (.iload_n 2, 1) := by decide +kernel
theorem dX12_kingsWith_10 : decode cX12_kingsWith 10 = .ok (.iconst 1, 1) := by decide +kernel
theorem dX12_kingsWith_11 : decode cX12_kingsWith 11 = .ok (.aload_n 0, 1) := by decide +kernel
theorem dX12_kingsWith_12 : decode cX12_kingsWith 12 = .ok (.iload_n 1, 1) := by decide +kernel
theorem dX12_kingsWith_13 : decode cX12_kingsWith 13 = .ok (.iconst 0, 1) := by decide +kernel
theorem dX12_kingsWith_14 : decode cX12_kingsWith 14 = .ok (.invokevirtual 150, 3) := by decide +kernel
theorem dX12_kingsWith_17 : decode cX12_kingsWith 17 = .ok (.iconst 1, 1) := by decide +kernel
theorem dX12_kingsWith_18 : decode cX12_kingsWith 18 = .ok (.isub, 1) := by decide +kernel
theorem dX12_kingsWith_19 : decode cX12_kingsWith 19 = .ok (.ishl, 1) := by decide +kernel
theorem dX12_kingsWith_20 : decode cX12_kingsWith 20 = .ok (.ior, 1) := by decide +kernel
theorem dX12_kingsWith_21 : decode cX12_kingsWith 21 = .ok (.goto 4, 3) := by decide +kernel
theorem dX12_kingsWith_24 : decode cX12_kingsWith 24 = .ok (.iload_n 2, 1) := by decide +kernel
theorem dX12_kingsWith_25 : decode cX12_kingsWith 25 = .ok (.ireturn, 1) := by decide +kernel
abbrev YX12_kingsWith : zY := (yX12_kingsWith, cX12_kingsWith, 3, (Option.some Jvm.ClassFile.FieldType.int), [])
def fX12_kingsWith (F : zFs) (v1 : Int) (v2 : Int) (D : zDa) : Option (Int × zDa) :=
  (fX12_factOf F v1 0 D).bind (fun (r_1, D_2) =>
    if 0 < r_1 then
      (fX12_factOf F v1 0 D_2).bind (fun (r_3, D_4) =>
        if (-2147483648 ≤ r_3 - 1 ∧ r_3 - 1 ≤ 2147483647) then
          some ((zor v2 (zshl 1 (r_3 - 1))), D_4)
        else none)
    else
      some (v2, D_2))
set_option maxHeartbeats 20000000 in
theorem mX12_kingsWith {l : Launch} {E : zE} {d : Nat} {F : zFs} {n sl : Nat} (hG : zG F) (v1 : Int) (v2 : Int) {D : zDa} : ∀ r, fX12_kingsWith F  v1 v2 D = some r → zMet l E (d + 1) YX12_kingsWith [zR 91, zI v1, zI v2] (F, D, n, sl) (zcI F n sl r) := by
  intro r hr
  refine zMet_of (plainFor_of_name (by decide)) (fun _ h => (nomatch h)) (Nat.le_of_ble_eq_true rfl) ?_
  have hz : zO l E (d + 1) YX12_kingsWith 0 [(0, zR 91), (1, zI v1), (2, zI v2)] [] (F, D, n, sl) (zcI F n sl) (fX12_kingsWith F  v1 v2 D) := by
    unfold fX12_kingsWith
    refine zO_aload_n dX12_kingsWith_0 rfl (zR_P _) ?_
    refine zO_iload_n dX12_kingsWith_1 rfl ?_
    refine zO_iconst dX12_kingsWith_2 (by decide) ?_
    refine zO_callV (Y' := YX12_factOf) (cw := zcI F n sl) (as := [zI v1, zI 0]) (rest := []) (na := 2) (ci := 12) rfl dX12_kingsWith_3 wC_X12_factOf wN_X12 wM_X12_150 wI_X12_factOf wV_X12_factOf (by decide) (by decide) rfl rfl (Nat.le_of_ble_eq_true rfl) rfl (by decide) (gk_91 hG) (fun r hr => zMet_cast (Nat.add_assoc d 0 0) (mX12_factOf (d := d + 0) hG v1 0 r hr)) ?_
    rintro ⟨r_1, D_2⟩ -
    show zO _ _ _ _ _ _ [zI r_1] (F, D_2, n, sl) _ _
    refine zO_if_le (tgt := 24) dX12_kingsWith_6 rfl (fun c6 => ?_) (fun c6 => ?_)
    · refine zO_iload_n dX12_kingsWith_9 rfl ?_
      refine zO_iconst dX12_kingsWith_10 (by decide) ?_
      refine zO_aload_n dX12_kingsWith_11 rfl (zR_P _) ?_
      refine zO_iload_n dX12_kingsWith_12 rfl ?_
      refine zO_iconst dX12_kingsWith_13 (by decide) ?_
      refine zO_callV (Y' := YX12_factOf) (cw := zcI F n sl) (as := [zI v1, zI 0]) (rest := [zI 1, zI v2]) (na := 2) (ci := 12) rfl dX12_kingsWith_14 wC_X12_factOf wN_X12 wM_X12_150 wI_X12_factOf wV_X12_factOf (by decide) (by decide) rfl rfl (Nat.le_of_ble_eq_true rfl) rfl (by decide) (gk_91 hG) (fun r hr => zMet_cast (Nat.add_assoc d 0 0) (mX12_factOf (d := d + 0) hG v1 0 r hr)) ?_
      rintro ⟨r_3, D_4⟩ -
      show zO _ _ _ _ _ _ [zI r_3, zI 1, zI v2] (F, D_4, n, sl) _ _
      refine zO_chk (fun h1 => ?_)
      refine zO_iconst dX12_kingsWith_17 (by decide) ?_
      refine zO_isub dX12_kingsWith_18 h1 ?_
      refine zO_ishl dX12_kingsWith_19 ?_
      refine zO_ior dX12_kingsWith_20 ?_
      refine zO_goto (tgt := 25) dX12_kingsWith_21 rfl ?_
      exact zO_ret (rv := some (zI (zor v2 (zshl 1 (r_3 - 1))))) dX12_kingsWith_25 rfl rfl rfl
    · refine zO_iload_n dX12_kingsWith_24 rfl ?_
      exact zO_ret (rv := some (zI v2)) dX12_kingsWith_25 rfl rfl rfl
  exact hz r hr
theorem dX12_costOf_0 : decode cX12_costOf 0 = .ok (.iload_n 2, 1) := by decide +kernel
theorem dX12_costOf_1 : decode cX12_costOf 1 = .ok (.ifCond .ne 7, 3) := by decide +kernel
theorem dX12_costOf_4 : decode cX12_costOf 4 = .ok (.iconst 0, 1) := by decide +kernel
theorem dX12_costOf_5 : decode cX12_costOf 5 = .ok (.goto 50, 3) := by decide +kernel
theorem dX12_costOf_8 : decode cX12_costOf 8 = .ok (.iload_n 2, 1) := by decide +kernel
theorem dX12_costOf_9 : decode cX12_costOf 9 = .ok (.iconst 1, 1) := by decide +kernel
theorem dX12_costOf_10 : decode cX12_costOf 10 = .ok (.if_icmp .ne 18, 3) := by decide +kernel
theorem dX12_costOf_13 : decode cX12_costOf 13 = .ok (.aload_n 0, 1) := by decide +kernel
theorem dX12_costOf_14 : decode cX12_costOf 14 = .ok (.getfield 81, 3) := by decide +kernel
theorem dX12_costOf_17 : decode cX12_costOf 17 = .ok (.iconst 4, 1) := by decide +kernel
theorem dX12_costOf_18 : decode cX12_costOf 18 = .ok (.iload_n 1, 1) := by decide +kernel
theorem dX12_costOf_19 : decode cX12_costOf 19 = .ok (.imul, 1) := by decide +kernel
theorem dX12_costOf_20 : decode cX12_costOf 20 = .ok (.iconst 2, 1) := by decide +kernel
theorem dX12_costOf_21 : decode cX12_costOf 21 = .ok (.iload_n 3, 1) := by decide +kernel
theorem dX12_costOf_22 : decode cX12_costOf 22 = .ok (.imul, 1) := by decide +kernel
theorem dX12_costOf_23 : decode cX12_costOf 23 = .ok (.iadd, 1) := by decide +kernel
theorem dX12_costOf_24 : decode cX12_costOf 24 = .ok (.iaload, 1) := by decide +kernel
theorem dX12_costOf_25 : decode cX12_costOf 25 = .ok (.goto 30, 3) := by decide +kernel
theorem dX12_costOf_28 : decode cX12_costOf 28 = .ok (.aload_n 0, 1) := by decide +kernel
theorem dX12_costOf_29 : decode cX12_costOf 29 = .ok (.getfield 81, 3) := by decide +kernel
theorem dX12_costOf_32 : decode cX12_costOf 32 = .ok (.iconst 4, 1) := by decide +kernel
theorem dX12_costOf_33 : decode cX12_costOf 33 = .ok (.iload_n 1, 1) := by decide +kernel
theorem dX12_costOf_34 : decode cX12_costOf 34 = .ok (.imul, 1) := by decide +kernel
theorem dX12_costOf_35 : decode cX12_costOf 35 = .ok (.iconst 2, 1) := by decide +kernel
theorem dX12_costOf_36 : decode cX12_costOf 36 = .ok (.iload_n 3, 1) := by decide +kernel
theorem dX12_costOf_37 : decode cX12_costOf 37 = .ok (.imul, 1) := by decide +kernel
theorem dX12_costOf_38 : decode cX12_costOf 38 = .ok (.iadd, 1) := by decide +kernel
theorem dX12_costOf_39 : decode cX12_costOf 39 = .ok (.iaload, 1) := by decide +kernel
theorem dX12_costOf_40 : decode cX12_costOf 40 = .ok (.aload_n 0, 1) := by decide +kernel
theorem dX12_costOf_41 : decode cX12_costOf 41 = .ok (.getfield 81, 3) := by decide +kernel
theorem dX12_costOf_44 : decode cX12_costOf 44 = .ok (.iconst 4, 1) := by decide +kernel
theorem dX12_costOf_45 : decode cX12_costOf 45 = .ok (.iload_n 1, 1) := by decide +kernel
theorem dX12_costOf_46 : decode cX12_costOf 46 = .ok (.imul, 1) := by decide +kernel
theorem dX12_costOf_47 : decode cX12_costOf 47 = .ok (.iconst 2, 1) := by decide +kernel
theorem dX12_costOf_48 : decode cX12_costOf 48 = .ok (.iload_n 3, 1) := by decide +kernel
theorem dX12_costOf_49 : decode cX12_costOf 49 = .ok (.imul, 1) := by decide +kernel
theorem dX12_costOf_50 : decode cX12_costOf 50 = .ok (.iadd, 1) := by decide +kernel
theorem dX12_costOf_51 : decode cX12_costOf 51 = .ok (.iconst 1, 1) := by decide +kernel
theorem dX12_costOf_52 : decode cX12_costOf 52 = .ok (.iadd, 1) := by decide +kernel
theorem dX12_costOf_53 : decode cX12_costOf 53 = .ok (.iaload, 1) := by decide +kernel
theorem dX12_costOf_54 : decode cX12_costOf 54 = .ok (.iadd, 1) := by decide +kernel
theorem dX12_costOf_55 : decode cX12_costOf 55 = .ok (.ireturn, 1) := by decide +kernel
abbrev YX12_costOf : zY := (yX12_costOf, cX12_costOf, 4, (Option.some Jvm.ClassFile.FieldType.int), [])
def fX12_costOf (F : zFs) (v1 : Int) (v2 : Int) (v3 : Int) (D : zDa) : Option (Int × zDa) :=
  if v2 = 0 then
    some (0, D)
  else
    if v2 = 1 then
      if (-2147483648 ≤ 4 * v1 ∧ 4 * v1 ≤ 2147483647) ∧ (-2147483648 ≤ 2 * v3 ∧ 2 * v3 ≤ 2147483647) ∧ (-2147483648 ≤ (4 * v1) + (2 * v3) ∧ (4 * v1) + (2 * v3) ≤ 2147483647) ∧ (0 ≤ ((4 * v1) + (2 * v3)) ∧ ((4 * v1) + (2 * v3)) < 80) then
        some ((D 111 ((4 * v1) + (2 * v3)).toNat), D)
      else none
    else
      if (-2147483648 ≤ 4 * v1 ∧ 4 * v1 ≤ 2147483647) ∧ (-2147483648 ≤ 2 * v3 ∧ 2 * v3 ≤ 2147483647) ∧ (-2147483648 ≤ (4 * v1) + (2 * v3) ∧ (4 * v1) + (2 * v3) ≤ 2147483647) ∧ (0 ≤ ((4 * v1) + (2 * v3)) ∧ ((4 * v1) + (2 * v3)) < 80) ∧ (-2147483648 ≤ ((4 * v1) + (2 * v3)) + 1 ∧ ((4 * v1) + (2 * v3)) + 1 ≤ 2147483647) ∧ (0 ≤ (((4 * v1) + (2 * v3)) + 1) ∧ (((4 * v1) + (2 * v3)) + 1) < 80) ∧ (-2147483648 ≤ (D 111 ((4 * v1) + (2 * v3)).toNat) + (D 111 (((4 * v1) + (2 * v3)) + 1).toNat) ∧ (D 111 ((4 * v1) + (2 * v3)).toNat) + (D 111 (((4 * v1) + (2 * v3)) + 1).toNat) ≤ 2147483647) then
        some (((D 111 ((4 * v1) + (2 * v3)).toNat) + (D 111 (((4 * v1) + (2 * v3)) + 1).toNat)), D)
      else none
set_option maxHeartbeats 20000000 in
theorem mX12_costOf {l : Launch} {E : zE} {d : Nat} {F : zFs} {n sl : Nat} (hG : zG F) (v1 : Int) (v2 : Int) (v3 : Int) {D : zDa} : ∀ r, fX12_costOf F  v1 v2 v3 D = some r → zMet l E (d + 0) YX12_costOf [zR 91, zI v1, zI v2, zI v3] (F, D, n, sl) (zcI F n sl r) := by
  intro r hr
  refine zMet_of (plainFor_of_name (by decide)) (fun _ h => (nomatch h)) (Nat.le_of_ble_eq_true rfl) ?_
  have hz : zO l E (d + 0) YX12_costOf 0 [(0, zR 91), (1, zI v1), (2, zI v2), (3, zI v3)] [] (F, D, n, sl) (zcI F n sl) (fX12_costOf F  v1 v2 v3 D) := by
    unfold fX12_costOf
    refine zO_iload_n dX12_costOf_0 rfl ?_
    refine zO_if_ne (tgt := 8) dX12_costOf_1 rfl (fun c1 => ?_) (fun c1 => ?_)
    · refine zO_iconst dX12_costOf_4 (by decide) ?_
      refine zO_goto (tgt := 55) dX12_costOf_5 rfl ?_
      exact zO_ret (rv := some (zI 0)) dX12_costOf_55 rfl rfl rfl
    · refine zO_iload_n dX12_costOf_8 rfl ?_
      refine zO_iconst dX12_costOf_9 (by decide) ?_
      refine zO_icmp_ne (tgt := 28) dX12_costOf_10 rfl (fun c10 => ?_) (fun c10 => ?_)
      · refine zO_chk (fun h1 => ?_)
        refine zO_aload_n dX12_costOf_13 rfl (zR_P _) ?_
        refine gt12 (k := 33) dX12_costOf_14 wF_X12_81 (by decide) (gk_91 hG) (zgv (c := 12) (k := 33) rfl (Or.inl ⟨_, rfl⟩) (gf_91_33 hG)) ?_
        refine zO_iconst dX12_costOf_17 (by decide) ?_
        refine zO_iload_n dX12_costOf_18 rfl ?_
        refine zO_imul dX12_costOf_19 h1.1 ?_
        refine zO_iconst dX12_costOf_20 (by decide) ?_
        refine zO_iload_n dX12_costOf_21 rfl ?_
        refine zO_imul dX12_costOf_22 h1.2.1 ?_
        refine zO_iadd dX12_costOf_23 h1.2.2.1 ?_
        refine zO_iald dX12_costOf_24 (gk_111 hG) (gl_in (gl_111 hG) h1.2.2.2) ?_
        refine zO_goto (tgt := 55) dX12_costOf_25 rfl ?_
        exact zO_ret (rv := some (zI (D 111 ((4 * v1) + (2 * v3)).toNat))) dX12_costOf_55 rfl rfl rfl
      · refine zO_chk (fun h2 => ?_)
        refine zO_aload_n dX12_costOf_28 rfl (zR_P _) ?_
        refine gt12 (k := 33) dX12_costOf_29 wF_X12_81 (by decide) (gk_91 hG) (zgv (c := 12) (k := 33) rfl (Or.inl ⟨_, rfl⟩) (gf_91_33 hG)) ?_
        refine zO_iconst dX12_costOf_32 (by decide) ?_
        refine zO_iload_n dX12_costOf_33 rfl ?_
        refine zO_imul dX12_costOf_34 h2.1 ?_
        refine zO_iconst dX12_costOf_35 (by decide) ?_
        refine zO_iload_n dX12_costOf_36 rfl ?_
        refine zO_imul dX12_costOf_37 h2.2.1 ?_
        refine zO_iadd dX12_costOf_38 h2.2.2.1 ?_
        refine zO_iald dX12_costOf_39 (gk_111 hG) (gl_in (gl_111 hG) h2.2.2.2.1) ?_
        refine zO_aload_n dX12_costOf_40 rfl (zR_P _) ?_
        refine gt12 (k := 33) dX12_costOf_41 wF_X12_81 (by decide) (gk_91 hG) (zgv (c := 12) (k := 33) rfl (Or.inl ⟨_, rfl⟩) (gf_91_33 hG)) ?_
        refine zO_iconst dX12_costOf_44 (by decide) ?_
        refine zO_iload_n dX12_costOf_45 rfl ?_
        refine zO_imul dX12_costOf_46 h2.1 ?_
        refine zO_iconst dX12_costOf_47 (by decide) ?_
        refine zO_iload_n dX12_costOf_48 rfl ?_
        refine zO_imul dX12_costOf_49 h2.2.1 ?_
        refine zO_iadd dX12_costOf_50 h2.2.2.1 ?_
        refine zO_iconst dX12_costOf_51 (by decide) ?_
        refine zO_iadd dX12_costOf_52 h2.2.2.2.2.1 ?_
        refine zO_iald dX12_costOf_53 (gk_111 hG) (gl_in (gl_111 hG) h2.2.2.2.2.2.1) ?_
        refine zO_iadd dX12_costOf_54 h2.2.2.2.2.2.2 ?_
        exact zO_ret (rv := some (zI ((D 111 ((4 * v1) + (2 * v3)).toNat) + (D 111 (((4 * v1) + (2 * v3)) + 1).toNat)))) dX12_costOf_55 rfl rfl rfl
  exact hz r hr
theorem dX12_lesser_0 : decode cX12_lesser 0 = .ok (.iload_n 0, 1) := by decide +kernel
theorem dX12_lesser_1 : decode cX12_lesser 1 = .ok (.iload_n 1, 1) := by decide +kernel
theorem dX12_lesser_2 : decode cX12_lesser 2 = .ok (.if_icmp .ge 7, 3) := by decide +kernel
theorem dX12_lesser_5 : decode cX12_lesser 5 = .ok (.iload_n 0, 1) := by decide +kernel
theorem dX12_lesser_6 : decode cX12_lesser 6 = .ok (.goto 4, 3) := by decide +kernel
theorem dX12_lesser_9 : decode cX12_lesser 9 = .ok (.iload_n 1, 1) := by decide +kernel
theorem dX12_lesser_10 : decode cX12_lesser 10 = .ok (.ireturn, 1) := by decide +kernel
abbrev YX12_lesser : zY := (yX12_lesser, cX12_lesser, 2, (Option.some Jvm.ClassFile.FieldType.int), [])
def fX12_lesser (F : zFs) (v0 : Int) (v1 : Int) (D : zDa) : Option (Int × zDa) :=
  if v0 < v1 then
    some (v0, D)
  else
    some (v1, D)
set_option maxHeartbeats 20000000 in
theorem mX12_lesser {l : Launch} {E : zE} {d : Nat} {F : zFs} {n sl : Nat} (hG : zG F) (v0 : Int) (v1 : Int) {D : zDa} : ∀ r, fX12_lesser F  v0 v1 D = some r → zMet l E (d + 0) YX12_lesser [zI v0, zI v1] (F, D, n, sl) (zcI F n sl r) := by
  intro r hr
  refine zMet_of (plainFor_of_name (by decide)) (fun _ h => (nomatch h)) (Nat.le_of_ble_eq_true rfl) ?_
  have hz : zO l E (d + 0) YX12_lesser 0 [(0, zI v0), (1, zI v1)] [] (F, D, n, sl) (zcI F n sl) (fX12_lesser F  v0 v1 D) := by
    unfold fX12_lesser
    refine zO_iload_n dX12_lesser_0 rfl ?_
    refine zO_iload_n dX12_lesser_1 rfl ?_
    refine zO_icmp_ge (tgt := 9) dX12_lesser_2 rfl (fun c2 => ?_) (fun c2 => ?_)
    · refine zO_iload_n dX12_lesser_5 rfl ?_
      refine zO_goto (tgt := 10) dX12_lesser_6 rfl ?_
      exact zO_ret (rv := some (zI v0)) dX12_lesser_10 rfl rfl rfl
    · refine zO_iload_n dX12_lesser_9 rfl ?_
      exact zO_ret (rv := some (zI v1)) dX12_lesser_10 rfl rfl rfl
  exact hz r hr
theorem dX12_fewest_0 : decode cX12_fewest 0 = .ok (.aload_n 0, 1) := by decide +kernel
theorem dX12_fewest_1 : decode cX12_fewest 1 = .ok (.getfield 75, 3) := by decide +kernel
theorem dX12_fewest_4 : decode cX12_fewest 4 = .ok (.iload_n 1, 1) := by decide +kernel
theorem dX12_fewest_5 : decode cX12_fewest 5 = .ok (.iconst 1, 1) := by decide +kernel
theorem dX12_fewest_6 : decode cX12_fewest 6 = .ok (.iadd, 1) := by decide +kernel
theorem dX12_fewest_7 : decode cX12_fewest 7 = .ok (.iload_n 2, 1) := by decide +kernel
theorem dX12_fewest_8 : decode cX12_fewest 8 = .ok (.iload_n 3, 1) := by decide +kernel
theorem dX12_fewest_9 : decode cX12_fewest 9 = .ok (.iload 4, 2) := by decide +kernel
theorem dX12_fewest_11 : decode cX12_fewest 11 = .ok (.invokestatic 375, 3) := by decide +kernel
theorem dX12_fewest_14 : decode cX12_fewest 14 = .ok (.iaload, 1) := by decide +kernel
theorem dX12_fewest_15 : decode cX12_fewest 15 = .ok (.istore 5, 2) := by decide +kernel
theorem dX12_fewest_17 : decode cX12_fewest 17 = .ok (.aload_n 0, 1) := by decide +kernel
theorem dX12_fewest_18 : decode cX12_fewest 18 = .ok (.iload_n 1, 1) := by decide +kernel
theorem dX12_fewest_19 : decode cX12_fewest 19 = .ok (.invokevirtual 154, 3) := by decide +kernel
theorem dX12_fewest_22 : decode cX12_fewest 22 = .ok (.ifCond .ne 6, 3) := by decide +kernel
theorem dX12_fewest_25 : decode cX12_fewest 25 = .ok (.iload 5, 2) := by decide +kernel
theorem dX12_fewest_27 : decode cX12_fewest 27 = .ok (.ireturn, 1) := by decide +kernel
theorem dX12_fewest_28 : decode cX12_fewest 28 = .ok (.aload_n 0, 1) := by decide +kernel
theorem dX12_fewest_29 : decode cX12_fewest 29 = .ok (.iload_n 1, 1) := by decide +kernel
theorem dX12_fewest_30 : decode cX12_fewest 30 = .ok (.iload_n 2, 1) := by decide +kernel
theorem dX12_fewest_31 : decode cX12_fewest 31 = .ok (.invokevirtual 384, 3) := by decide +kernel
theorem dX12_fewest_34 : decode cX12_fewest 34 = .ok (.istore 6, 2) := by decide +kernel
theorem dX12_fewest_36 : decode cX12_fewest 36 = .ok (.aload_n 0, 1) := by decide +kernel
theorem dX12_fewest_37 : decode cX12_fewest 37 = .ok (.iload_n 1, 1) := by decide +kernel
theorem dX12_fewest_38 : decode cX12_fewest 38 = .ok (.iload_n 2, 1) := by decide +kernel
theorem dX12_fewest_39 : decode cX12_fewest 39 = .ok (.invokevirtual 387, 3) := by decide +kernel
theorem dX12_fewest_42 : decode cX12_fewest 42 = .ok (.istore 7, 2) := by decide +kernel
theorem dX12_fewest_44 : decode cX12_fewest 44 = .ok (.iload_n 3, 1) := by decide +kernel
theorem dX12_fewest_45 : decode cX12_fewest 45 = .ok (.ifCond .le 37, 3) := by decide +kernel
theorem dX12_fewest_48 : decode cX12_fewest 48 = .ok (.iload 5, 2) := by decide +kernel
theorem dX12_fewest_50 : decode cX12_fewest 50 = .ok (.aload_n 0, 1) := by decide +kernel
theorem dX12_fewest_51 : decode cX12_fewest 51 = .ok (.iload_n 1, 1) := by decide +kernel
theorem dX12_fewest_52 : decode cX12_fewest 52 = .ok (.iconst 1, 1) := by decide +kernel
theorem dX12_fewest_53 : decode cX12_fewest 53 = .ok (.iload 6, 2) := by decide +kernel
theorem dX12_fewest_55 : decode cX12_fewest 55 = .ok (.invokevirtual 390, 3) := by decide +kernel
theorem dX12_fewest_58 : decode cX12_fewest 58 = .ok (.aload_n 0, 1) := by decide +kernel
theorem dX12_fewest_59 : decode cX12_fewest 59 = .ok (.getfield 75, 3) := by decide +kernel
theorem dX12_fewest_62 : decode cX12_fewest 62 = .ok (.iload_n 1, 1) := by decide +kernel
theorem dX12_fewest_63 : decode cX12_fewest 63 = .ok (.iconst 1, 1) := by decide +kernel
theorem dX12_fewest_64 : decode cX12_fewest 64 = .ok (.iadd, 1) := by decide +kernel
theorem dX12_fewest_65 : decode cX12_fewest 65 = .ok (.iload 7, 2) := by decide +kernel
theorem dX12_fewest_67 : decode cX12_fewest 67 = .ok (.iload_n 3, 1) := by decide +kernel
theorem dX12_fewest_68 : decode cX12_fewest 68 = .ok (.iconst 1, 1) := by decide +kernel
theorem dX12_fewest_69 : decode cX12_fewest 69 = .ok (.isub, 1) := by decide +kernel
theorem dX12_fewest_70 : decode cX12_fewest 70 = .ok (.iload 4, 2) := by decide +kernel
theorem dX12_fewest_72 : decode cX12_fewest 72 = .ok (.invokestatic 375, 3) := by decide +kernel
theorem dX12_fewest_75 : decode cX12_fewest 75 = .ok (.iaload, 1) := by decide +kernel
theorem dX12_fewest_76 : decode cX12_fewest 76 = .ok (.iadd, 1) := by decide +kernel
theorem dX12_fewest_77 : decode cX12_fewest 77 = .ok (.invokestatic 394, 3) := by decide +kernel
theorem dX12_fewest_80 : decode cX12_fewest 80 = .ok (.istore 5, 2) := by decide +kernel
theorem dX12_fewest_82 : decode cX12_fewest 82 = .ok (.iload 4, 2) := by decide +kernel
theorem dX12_fewest_84 : decode cX12_fewest 84 = .ok (.ifCond .le 37, 3) := by decide +kernel
theorem dX12_fewest_87 : decode cX12_fewest 87 = .ok (.iload 5, 2) := by decide +kernel
theorem dX12_fewest_89 : decode cX12_fewest 89 = .ok (.aload_n 0, 1) := by decide +kernel
theorem dX12_fewest_90 : decode cX12_fewest 90 = .ok (.iload_n 1, 1) := by decide +kernel
theorem dX12_fewest_91 : decode cX12_fewest 91 = .ok (.iconst 2, 1) := by decide +kernel
theorem dX12_fewest_92 : decode cX12_fewest 92 = .ok (.iload 6, 2) := by decide +kernel
theorem dX12_fewest_94 : decode cX12_fewest 94 = .ok (.invokevirtual 390, 3) := by decide +kernel
theorem dX12_fewest_97 : decode cX12_fewest 97 = .ok (.aload_n 0, 1) := by decide +kernel
theorem dX12_fewest_98 : decode cX12_fewest 98 = .ok (.getfield 75, 3) := by decide +kernel
theorem dX12_fewest_101 : decode cX12_fewest 101 = .ok (.iload_n 1, 1) := by decide +kernel
theorem dX12_fewest_102 : decode cX12_fewest 102 = .ok (.iconst 1, 1) := by decide +kernel
theorem dX12_fewest_103 : decode cX12_fewest 103 = .ok (.iadd, 1) := by decide +kernel
theorem dX12_fewest_104 : decode cX12_fewest 104 = .ok (.iload 7, 2) := by decide +kernel
theorem dX12_fewest_106 : decode cX12_fewest 106 = .ok (.iload_n 3, 1) := by decide +kernel
theorem dX12_fewest_107 : decode cX12_fewest 107 = .ok (.iload 4, 2) := by decide +kernel
theorem dX12_fewest_109 : decode cX12_fewest 109 = .ok (.iconst 1, 1) := by decide +kernel
theorem dX12_fewest_110 : decode cX12_fewest 110 = .ok (.isub, 1) := by decide +kernel
theorem dX12_fewest_111 : decode cX12_fewest 111 = .ok (.invokestatic 375, 3) := by decide +kernel
theorem dX12_fewest_114 : decode cX12_fewest 114 = .ok (.iaload, 1) := by decide +kernel
theorem dX12_fewest_115 : decode cX12_fewest 115 = .ok (.iadd, 1) := by decide +kernel
theorem dX12_fewest_116 : decode cX12_fewest 116 = .ok (.invokestatic 394, 3) := by decide +kernel
theorem dX12_fewest_119 : decode cX12_fewest 119 = .ok (.istore 5, 2) := by decide +kernel
theorem dX12_fewest_121 : decode cX12_fewest 121 = .ok (.iload 5, 2) := by decide +kernel
theorem dX12_fewest_123 : decode cX12_fewest 123 = .ok (.ireturn, 1) := by decide +kernel
abbrev YX12_fewest : zY := (yX12_fewest, cX12_fewest, 8, (Option.some Jvm.ClassFile.FieldType.int), [])
def fX12_fewest_82 (F : zFs)  (v1 : Int) (v3 : Int) (v4 : Int) (v5 : Int) (v6 : Int) (v7 : Int) (D : zDa) : Option (Int × zDa) :=
  if 0 < v4 then
    (fX12_costOf F v1 2 v6 D).bind (fun (r_16, D_17) =>
      if (-2147483648 ≤ v1 + 1 ∧ v1 + 1 ≤ 2147483647) ∧ (-2147483648 ≤ v4 - 1 ∧ v4 - 1 ≤ 2147483647) then
        (fX12_cell F (v1 + 1) v7 v3 (v4 - 1) D_17).bind (fun (r_18, D_19) =>
          if (0 ≤ r_18 ∧ r_18 < 148176) ∧ (-2147483648 ≤ r_16 + (D_19 109 r_18.toNat) ∧ r_16 + (D_19 109 r_18.toNat) ≤ 2147483647) then
            (fX12_lesser F v5 (r_16 + (D_19 109 r_18.toNat)) D_19).bind (fun (r_20, D_21) =>
              some (r_20, D_21))
          else none)
      else none)
  else
    some (v5, D)
def fX12_fewest (F : zFs) (v1 : Int) (v2 : Int) (v3 : Int) (v4 : Int) (D : zDa) : Option (Int × zDa) :=
  if (-2147483648 ≤ v1 + 1 ∧ v1 + 1 ≤ 2147483647) then
    (fX12_cell F (v1 + 1) v2 v3 v4 D).bind (fun (r_1, D_2) =>
      if (0 ≤ r_1 ∧ r_1 < 148176) then
        zlet ((D_2 109 r_1.toNat)) (fun x5_3 =>
          (fX12_isBowl F v1 D_2).bind (fun (r_4, D_5) =>
            if r_4 = 0 then
              some (x5_3, D_5)
            else
              (fX12_helpedBy F v1 v2 D_5).bind (fun (r_6, D_7) =>
                (fX12_kingsWith F v1 v2 D_7).bind (fun (r_8, D_9) =>
                  if 0 < v3 then
                    (fX12_costOf F v1 1 r_6 D_9).bind (fun (r_10, D_11) =>
                      if (-2147483648 ≤ v3 - 1 ∧ v3 - 1 ≤ 2147483647) then
                        (fX12_cell F (v1 + 1) r_8 (v3 - 1) v4 D_11).bind (fun (r_12, D_13) =>
                          if (0 ≤ r_12 ∧ r_12 < 148176) ∧ (-2147483648 ≤ r_10 + (D_13 109 r_12.toNat) ∧ r_10 + (D_13 109 r_12.toNat) ≤ 2147483647) then
                            (fX12_lesser F x5_3 (r_10 + (D_13 109 r_12.toNat)) D_13).bind (fun (r_14, D_15) =>
                              fX12_fewest_82 F v1 v3 v4 r_14 r_6 r_8 D_15)
                          else none)
                      else none)
                  else
                    fX12_fewest_82 F v1 v3 v4 x5_3 r_6 r_8 D_9))))
      else none)
  else none
set_option maxHeartbeats 20000000 in
theorem sX12_fewest_82 {l : Launch} {E : zE} {d : Nat} {F : zFs} {n sl : Nat} (hG : zG F)  (v1 : Int) (v3 : Int) (v4 : Int) (v5 : Int) (v6 : Int) (v7 : Int)   (D : zDa) : zO l E (d + 2) YX12_fewest 82 [(0, zR 91), (1, zI v1), (3, zI v3), (4, zI v4), (5, zI v5), (6, zI v6), (7, zI v7)] [] (F, D, n, sl) (zcI F n sl) (fX12_fewest_82 F v1 v3 v4 v5 v6 v7 D) := by
  unfold fX12_fewest_82
  refine zO_iload dX12_fewest_82 rfl ?_
  refine zO_if_le (tgt := 121) dX12_fewest_84 rfl (fun c84 => ?_) (fun c84 => ?_)
  · refine zO_iload dX12_fewest_87 rfl ?_
    refine zO_aload_n dX12_fewest_89 rfl (zR_P _) ?_
    refine zO_iload_n dX12_fewest_90 rfl ?_
    refine zO_iconst dX12_fewest_91 (by decide) ?_
    refine zO_iload dX12_fewest_92 rfl ?_
    refine zO_callV (Y' := YX12_costOf) (cw := zcI F n sl) (as := [zI v1, zI 2, zI v6]) (rest := [zI v5]) (na := 3) (ci := 12) rfl dX12_fewest_94 wC_X12_costOf wN_X12 wM_X12_390 wI_X12_costOf wV_X12_costOf (by decide) (by decide) rfl rfl (Nat.le_of_ble_eq_true rfl) rfl (by decide) (gk_91 hG) (fun r hr => zMet_cast (Nat.add_assoc d 1 0) (mX12_costOf (d := d + 1) hG v1 2 v6 r hr)) ?_
    rintro ⟨r_16, D_17⟩ -
    show zO _ _ _ _ _ _ [zI r_16, zI v5] (F, D_17, n, sl) _ _
    refine zO_chk (fun h5 => ?_)
    refine zO_aload_n dX12_fewest_97 rfl (zR_P _) ?_
    refine gt12 (k := 31) dX12_fewest_98 wF_X12_75 (by decide) (gk_91 hG) (zgv (c := 12) (k := 31) rfl (Or.inl ⟨_, rfl⟩) (gf_91_31 hG)) ?_
    refine zO_iload_n dX12_fewest_101 rfl ?_
    refine zO_iconst dX12_fewest_102 (by decide) ?_
    refine zO_iadd dX12_fewest_103 h5.1 ?_
    refine zO_iload dX12_fewest_104 rfl ?_
    refine zO_iload_n dX12_fewest_106 rfl ?_
    refine zO_iload dX12_fewest_107 rfl ?_
    refine zO_iconst dX12_fewest_109 (by decide) ?_
    refine zO_isub dX12_fewest_110 h5.2 ?_
    refine zO_callS (Y' := YX12_cell) (cw := zcI F n sl) (as := [zI (v1 + 1), zI v7, zI v3, zI (v4 - 1)]) (rest := [zR 109, zI r_16, zI v5]) (na := 4) dX12_fewest_111 wC_X12_cell wN_X12 wM_X12_375 wS_X12_cell (by decide) (by decide) rfl rfl (Nat.le_of_ble_eq_true rfl) (fun r hr => zMet_cast (Nat.add_assoc d 1 0) (mX12_cell (d := d + 1) hG (v1 + 1) v7 v3 (v4 - 1) r hr)) ?_
    rintro ⟨r_18, D_19⟩ -
    show zO _ _ _ _ _ _ [zI r_18, zR 109, zI r_16, zI v5] (F, D_19, n, sl) _ _
    refine zO_chk (fun h6 => ?_)
    refine zO_iald dX12_fewest_114 (gk_109 hG) (gl_in (gl_109 hG) h6.1) ?_
    refine zO_iadd dX12_fewest_115 h6.2 ?_
    refine zO_callS (Y' := YX12_lesser) (cw := zcI F n sl) (as := [zI v5, zI (r_16 + (D_19 109 r_18.toNat))]) (rest := []) (na := 2) dX12_fewest_116 wC_X12_lesser wN_X12 wM_X12_394 wS_X12_lesser (by decide) (by decide) rfl rfl (Nat.le_of_ble_eq_true rfl) (fun r hr => zMet_cast (Nat.add_assoc d 1 0) (mX12_lesser (d := d + 1) hG v5 (r_16 + (D_19 109 r_18.toNat)) r hr)) ?_
    rintro ⟨r_20, D_21⟩ -
    show zO _ _ _ _ _ _ [zI r_20] (F, D_21, n, sl) _ _
    refine zO_istore dX12_fewest_119 (by decide) ?_
    refine zO_ls (ls' := [(0, zR 91), (1, zI v1), (3, zI v3), (4, zI v4), (5, zI r_20), (6, zI v6), (7, zI v7)]) rfl ?_
    refine zO_iload dX12_fewest_121 rfl ?_
    exact zO_ret (rv := some (zI r_20)) dX12_fewest_123 rfl rfl rfl
  · refine zO_iload dX12_fewest_121 rfl ?_
    exact zO_ret (rv := some (zI v5)) dX12_fewest_123 rfl rfl rfl
set_option maxHeartbeats 20000000 in
theorem mX12_fewest {l : Launch} {E : zE} {d : Nat} {F : zFs} {n sl : Nat} (hG : zG F) (v1 : Int) (v2 : Int) (v3 : Int) (v4 : Int) {D : zDa} : ∀ r, fX12_fewest F  v1 v2 v3 v4 D = some r → zMet l E (d + 2) YX12_fewest [zR 91, zI v1, zI v2, zI v3, zI v4] (F, D, n, sl) (zcI F n sl r) := by
  intro r hr
  refine zMet_of (plainFor_of_name (by decide)) (fun _ h => (nomatch h)) (Nat.le_of_ble_eq_true rfl) ?_
  have hz : zO l E (d + 2) YX12_fewest 0 [(0, zR 91), (1, zI v1), (2, zI v2), (3, zI v3), (4, zI v4)] [] (F, D, n, sl) (zcI F n sl) (fX12_fewest F  v1 v2 v3 v4 D) := by
    unfold fX12_fewest
    refine zO_chk (fun h1 => ?_)
    refine zO_aload_n dX12_fewest_0 rfl (zR_P _) ?_
    refine gt12 (k := 31) dX12_fewest_1 wF_X12_75 (by decide) (gk_91 hG) (zgv (c := 12) (k := 31) rfl (Or.inl ⟨_, rfl⟩) (gf_91_31 hG)) ?_
    refine zO_iload_n dX12_fewest_4 rfl ?_
    refine zO_iconst dX12_fewest_5 (by decide) ?_
    refine zO_iadd dX12_fewest_6 h1 ?_
    refine zO_iload_n dX12_fewest_7 rfl ?_
    refine zO_iload_n dX12_fewest_8 rfl ?_
    refine zO_iload dX12_fewest_9 rfl ?_
    refine zO_callS (Y' := YX12_cell) (cw := zcI F n sl) (as := [zI (v1 + 1), zI v2, zI v3, zI v4]) (rest := [zR 109]) (na := 4) dX12_fewest_11 wC_X12_cell wN_X12 wM_X12_375 wS_X12_cell (by decide) (by decide) rfl rfl (Nat.le_of_ble_eq_true rfl) (fun r hr => zMet_cast (Nat.add_assoc d 1 0) (mX12_cell (d := d + 1) hG (v1 + 1) v2 v3 v4 r hr)) ?_
    rintro ⟨r_1, D_2⟩ -
    show zO _ _ _ _ _ _ [zI r_1, zR 109] (F, D_2, n, sl) _ _
    refine zO_chk (fun h2 => ?_)
    refine zO_iald dX12_fewest_14 (gk_109 hG) (gl_in (gl_109 hG) h2) ?_
    refine zO_letI (fun x5_3 ex5_3 => ?_)
    refine zO_istore dX12_fewest_15 (by decide) ?_
    refine zO_ls (ls' := [(0, zR 91), (1, zI v1), (2, zI v2), (3, zI v3), (4, zI v4), (5, zI x5_3)]) rfl ?_
    refine zO_aload_n dX12_fewest_17 rfl (zR_P _) ?_
    refine zO_iload_n dX12_fewest_18 rfl ?_
    refine zO_callV (Y' := YX12_isBowl) (cw := zcI F n sl) (as := [zI v1]) (rest := []) (na := 1) (ci := 12) rfl dX12_fewest_19 wC_X12_isBowl wN_X12 wM_X12_154 wI_X12_isBowl wV_X12_isBowl (by decide) (by decide) rfl rfl (Nat.le_of_ble_eq_true rfl) rfl (by decide) (gk_91 hG) (fun r hr => zMet_cast (Nat.add_assoc d 0 1) (mX12_isBowl (d := d + 0) hG v1 r hr)) ?_
    rintro ⟨r_4, D_5⟩ -
    show zO _ _ _ _ _ _ [zI r_4] (F, D_5, n, sl) _ _
    refine zO_if_ne (tgt := 28) dX12_fewest_22 rfl (fun c22 => ?_) (fun c22 => ?_)
    · refine zO_iload dX12_fewest_25 rfl ?_
      exact zO_ret (rv := some (zI x5_3)) dX12_fewest_27 rfl rfl rfl
    · refine zO_aload_n dX12_fewest_28 rfl (zR_P _) ?_
      refine zO_iload_n dX12_fewest_29 rfl ?_
      refine zO_iload_n dX12_fewest_30 rfl ?_
      refine zO_callV (Y' := YX12_helpedBy) (cw := zcI F n sl) (as := [zI v1, zI v2]) (rest := []) (na := 2) (ci := 12) rfl dX12_fewest_31 wC_X12_helpedBy wN_X12 wM_X12_384 wI_X12_helpedBy wV_X12_helpedBy (by decide) (by decide) rfl rfl (Nat.le_of_ble_eq_true rfl) rfl (by decide) (gk_91 hG) (fun r hr => zMet_cast (Nat.add_assoc d 0 1) (mX12_helpedBy (d := d + 0) hG v1 v2 r hr)) ?_
      rintro ⟨r_6, D_7⟩ -
      show zO _ _ _ _ _ _ [zI r_6] (F, D_7, n, sl) _ _
      refine zO_istore dX12_fewest_34 (by decide) ?_
      refine zO_ls (ls' := [(0, zR 91), (1, zI v1), (2, zI v2), (3, zI v3), (4, zI v4), (5, zI x5_3), (6, zI r_6)]) rfl ?_
      refine zO_aload_n dX12_fewest_36 rfl (zR_P _) ?_
      refine zO_iload_n dX12_fewest_37 rfl ?_
      refine zO_iload_n dX12_fewest_38 rfl ?_
      refine zO_callV (Y' := YX12_kingsWith) (cw := zcI F n sl) (as := [zI v1, zI v2]) (rest := []) (na := 2) (ci := 12) rfl dX12_fewest_39 wC_X12_kingsWith wN_X12 wM_X12_387 wI_X12_kingsWith wV_X12_kingsWith (by decide) (by decide) rfl rfl (Nat.le_of_ble_eq_true rfl) rfl (by decide) (gk_91 hG) (fun r hr => zMet_cast (Nat.add_assoc d 0 1) (mX12_kingsWith (d := d + 0) hG v1 v2 r hr)) ?_
      rintro ⟨r_8, D_9⟩ -
      show zO _ _ _ _ _ _ [zI r_8] (F, D_9, n, sl) _ _
      refine zO_istore dX12_fewest_42 (by decide) ?_
      refine zO_ls (ls' := [(0, zR 91), (1, zI v1), (2, zI v2), (3, zI v3), (4, zI v4), (5, zI x5_3), (6, zI r_6), (7, zI r_8)]) rfl ?_
      refine zO_iload_n dX12_fewest_44 rfl ?_
      refine zO_if_le (tgt := 82) dX12_fewest_45 rfl (fun c45 => ?_) (fun c45 => ?_)
      · refine zO_iload dX12_fewest_48 rfl ?_
        refine zO_aload_n dX12_fewest_50 rfl (zR_P _) ?_
        refine zO_iload_n dX12_fewest_51 rfl ?_
        refine zO_iconst dX12_fewest_52 (by decide) ?_
        refine zO_iload dX12_fewest_53 rfl ?_
        refine zO_callV (Y' := YX12_costOf) (cw := zcI F n sl) (as := [zI v1, zI 1, zI r_6]) (rest := [zI x5_3]) (na := 3) (ci := 12) rfl dX12_fewest_55 wC_X12_costOf wN_X12 wM_X12_390 wI_X12_costOf wV_X12_costOf (by decide) (by decide) rfl rfl (Nat.le_of_ble_eq_true rfl) rfl (by decide) (gk_91 hG) (fun r hr => zMet_cast (Nat.add_assoc d 1 0) (mX12_costOf (d := d + 1) hG v1 1 r_6 r hr)) ?_
        rintro ⟨r_10, D_11⟩ -
        show zO _ _ _ _ _ _ [zI r_10, zI x5_3] (F, D_11, n, sl) _ _
        refine zO_chk (fun h3 => ?_)
        refine zO_aload_n dX12_fewest_58 rfl (zR_P _) ?_
        refine gt12 (k := 31) dX12_fewest_59 wF_X12_75 (by decide) (gk_91 hG) (zgv (c := 12) (k := 31) rfl (Or.inl ⟨_, rfl⟩) (gf_91_31 hG)) ?_
        refine zO_iload_n dX12_fewest_62 rfl ?_
        refine zO_iconst dX12_fewest_63 (by decide) ?_
        refine zO_iadd dX12_fewest_64 h1 ?_
        refine zO_iload dX12_fewest_65 rfl ?_
        refine zO_iload_n dX12_fewest_67 rfl ?_
        refine zO_iconst dX12_fewest_68 (by decide) ?_
        refine zO_isub dX12_fewest_69 h3 ?_
        refine zO_iload dX12_fewest_70 rfl ?_
        refine zO_callS (Y' := YX12_cell) (cw := zcI F n sl) (as := [zI (v1 + 1), zI r_8, zI (v3 - 1), zI v4]) (rest := [zR 109, zI r_10, zI x5_3]) (na := 4) dX12_fewest_72 wC_X12_cell wN_X12 wM_X12_375 wS_X12_cell (by decide) (by decide) rfl rfl (Nat.le_of_ble_eq_true rfl) (fun r hr => zMet_cast (Nat.add_assoc d 1 0) (mX12_cell (d := d + 1) hG (v1 + 1) r_8 (v3 - 1) v4 r hr)) ?_
        rintro ⟨r_12, D_13⟩ -
        show zO _ _ _ _ _ _ [zI r_12, zR 109, zI r_10, zI x5_3] (F, D_13, n, sl) _ _
        refine zO_chk (fun h4 => ?_)
        refine zO_iald dX12_fewest_75 (gk_109 hG) (gl_in (gl_109 hG) h4.1) ?_
        refine zO_iadd dX12_fewest_76 h4.2 ?_
        refine zO_callS (Y' := YX12_lesser) (cw := zcI F n sl) (as := [zI x5_3, zI (r_10 + (D_13 109 r_12.toNat))]) (rest := []) (na := 2) dX12_fewest_77 wC_X12_lesser wN_X12 wM_X12_394 wS_X12_lesser (by decide) (by decide) rfl rfl (Nat.le_of_ble_eq_true rfl) (fun r hr => zMet_cast (Nat.add_assoc d 1 0) (mX12_lesser (d := d + 1) hG x5_3 (r_10 + (D_13 109 r_12.toNat)) r hr)) ?_
        rintro ⟨r_14, D_15⟩ -
        show zO _ _ _ _ _ _ [zI r_14] (F, D_15, n, sl) _ _
        refine zO_istore dX12_fewest_80 (by decide) ?_
        refine zO_ls (ls' := [(0, zR 91), (1, zI v1), (2, zI v2), (3, zI v3), (4, zI v4), (5, zI r_14), (6, zI r_6), (7, zI r_8)]) rfl ?_
        refine zO_live [0, 1, 3, 4, 5, 6, 7] ?_
        exact sX12_fewest_82 hG v1 v3 v4 r_14 r_6 r_8 D_15
      · refine zO_live [0, 1, 3, 4, 5, 6, 7] ?_
        exact sX12_fewest_82 hG v1 v3 v4 x5_3 r_6 r_8 D_9
  exact hz r hr
theorem dX12_schemes_0 : decode cX12_schemes 0 = .ok (.aload_n 0, 1) := by decide +kernel
theorem dX12_schemes_1 : decode cX12_schemes 1 = .ok (.getfield 84, 3) := by decide +kernel
theorem dX12_schemes_4 : decode cX12_schemes 4 = .ok (.aload_n 0, 1) := by decide +kernel
theorem dX12_schemes_5 : decode cX12_schemes 5 = .ok (.getfield 11, 3) := by decide +kernel
theorem dX12_schemes_8 : decode cX12_schemes 8 = .ok (.if_icmp .ne 4, 3) := by decide +kernel
theorem dX12_schemes_11 : decode cX12_schemes 11 = .ok (.return_, 1) := by decide +kernel
theorem dX12_schemes_12 : decode cX12_schemes 12 = .ok (.aload_n 0, 1) := by decide +kernel
theorem dX12_schemes_13 : decode cX12_schemes 13 = .ok (.aload_n 0, 1) := by decide +kernel
theorem dX12_schemes_14 : decode cX12_schemes 14 = .ok (.getfield 11, 3) := by decide +kernel
theorem dX12_schemes_17 : decode cX12_schemes 17 = .ok (.putfield 84, 3) := by decide +kernel
theorem dX12_schemes_20 : decode cX12_schemes 20 = .ok (.iconst 0, 1) := by decide +kernel
theorem dX12_schemes_21 : decode cX12_schemes 21 = .ok (.istore_n 1, 1) := by decide +kernel
theorem dX12_schemes_22 : decode cX12_schemes 22 = .ok (.iload_n 1, 1) := by decide +kernel
theorem dX12_schemes_23 : decode cX12_schemes 23 = .ok (.aload_n 0, 1) := by decide +kernel
theorem dX12_schemes_24 : decode cX12_schemes 24 = .ok (.invokevirtual 146, 3) := by decide +kernel
theorem dX12_schemes_27 : decode cX12_schemes 27 = .ok (.if_icmp .ge 68, 3) := by decide +kernel
theorem dX12_schemes_30 : decode cX12_schemes 30 = .ok (.iconst 0, 1) := by decide +kernel
theorem dX12_schemes_31 : decode cX12_schemes 31 = .ok (.istore_n 2, 1) := by decide +kernel
theorem dX12_schemes_32 : decode cX12_schemes 32 = .ok (.iload_n 2, 1) := by decide +kernel
theorem dX12_schemes_33 : decode cX12_schemes 33 = .ok (.iconst 2, 1) := by decide +kernel
theorem dX12_schemes_34 : decode cX12_schemes 34 = .ok (.if_icmp .ge 55, 3) := by decide +kernel
theorem dX12_schemes_37 : decode cX12_schemes 37 = .ok (.iconst 1, 1) := by decide +kernel
theorem dX12_schemes_38 : decode cX12_schemes 38 = .ok (.istore_n 3, 1) := by decide +kernel
theorem dX12_schemes_39 : decode cX12_schemes 39 = .ok (.iload_n 3, 1) := by decide +kernel
theorem dX12_schemes_40 : decode cX12_schemes 40 = .ok (.iconst 3, 1) := by decide +kernel
theorem dX12_schemes_41 : decode cX12_schemes 41 = .ok (.if_icmp .ge 42, 3) := by decide +kernel
theorem dX12_schemes_44 : decode cX12_schemes 44 = .ok (.aload_n 0, 1) := by decide +kernel
theorem dX12_schemes_45 : decode cX12_schemes 45 = .ok (.getfield 81, 3) := by decide +kernel
theorem dX12_schemes_48 : decode cX12_schemes 48 = .ok (.iconst 4, 1) := by decide +kernel
theorem dX12_schemes_49 : decode cX12_schemes 49 = .ok (.iload_n 1, 1) := by decide +kernel
theorem dX12_schemes_50 : decode cX12_schemes 50 = .ok (.imul, 1) := by decide +kernel
theorem dX12_schemes_51 : decode cX12_schemes 51 = .ok (.iconst 2, 1) := by decide +kernel
theorem dX12_schemes_52 : decode cX12_schemes 52 = .ok (.iload_n 2, 1) := by decide +kernel
theorem dX12_schemes_53 : decode cX12_schemes 53 = .ok (.imul, 1) := by decide +kernel
theorem dX12_schemes_54 : decode cX12_schemes 54 = .ok (.iadd, 1) := by decide +kernel
theorem dX12_schemes_55 : decode cX12_schemes 55 = .ok (.iload_n 3, 1) := by decide +kernel
theorem dX12_schemes_56 : decode cX12_schemes 56 = .ok (.iadd, 1) := by decide +kernel
theorem dX12_schemes_57 : decode cX12_schemes 57 = .ok (.iconst 1, 1) := by decide +kernel
theorem dX12_schemes_58 : decode cX12_schemes 58 = .ok (.isub, 1) := by decide +kernel
theorem dX12_schemes_59 : decode cX12_schemes 59 = .ok (.aload_n 0, 1) := by decide +kernel
theorem dX12_schemes_60 : decode cX12_schemes 60 = .ok (.iload_n 1, 1) := by decide +kernel
theorem dX12_schemes_61 : decode cX12_schemes 61 = .ok (.iload_n 3, 1) := by decide +kernel
theorem dX12_schemes_62 : decode cX12_schemes 62 = .ok (.iload_n 2, 1) := by decide +kernel
theorem dX12_schemes_63 : decode cX12_schemes 63 = .ok (.iconst 1, 1) := by decide +kernel
theorem dX12_schemes_64 : decode cX12_schemes 64 = .ok (.if_icmp .ne 7, 3) := by decide +kernel
theorem dX12_schemes_67 : decode cX12_schemes 67 = .ok (.iconst 1, 1) := by decide +kernel
theorem dX12_schemes_68 : decode cX12_schemes 68 = .ok (.goto 4, 3) := by decide +kernel
theorem dX12_schemes_71 : decode cX12_schemes 71 = .ok (.iconst 0, 1) := by decide +kernel
theorem dX12_schemes_72 : decode cX12_schemes 72 = .ok (.iconst 0, 1) := by decide +kernel
theorem dX12_schemes_73 : decode cX12_schemes 73 = .ok (.invokevirtual 298, 3) := by decide +kernel
theorem dX12_schemes_76 : decode cX12_schemes 76 = .ok (.iastore, 1) := by decide +kernel
theorem dX12_schemes_77 : decode cX12_schemes 77 = .ok (.iinc 3 1, 3) := by decide +kernel
theorem dX12_schemes_80 : decode cX12_schemes 80 = .ok (.goto (-41), 3) := by decide +kernel
theorem dX12_schemes_83 : decode cX12_schemes 83 = .ok (.iinc 2 1, 3) := by decide +kernel
theorem dX12_schemes_86 : decode cX12_schemes 86 = .ok (.goto (-54), 3) := by decide +kernel
theorem dX12_schemes_89 : decode cX12_schemes 89 = .ok (.iinc 1 1, 3) := by decide +kernel
theorem dX12_schemes_92 : decode cX12_schemes 92 = .ok (.goto (-70), 3) := by decide +kernel
theorem dX12_schemes_95 : decode cX12_schemes 95 = .ok (.aload_n 0, 1) := by decide +kernel
theorem dX12_schemes_96 : decode cX12_schemes 96 = .ok (.invokevirtual 146, 3) := by decide +kernel
theorem dX12_schemes_99 : decode cX12_schemes 99 = .ok (.istore_n 1, 1) := by decide +kernel
theorem dX12_schemes_100 : decode cX12_schemes 100 = .ok (.iconst 0, 1) := by decide +kernel
theorem dX12_schemes_101 : decode cX12_schemes 101 = .ok (.istore_n 2, 1) := by decide +kernel
theorem dX12_schemes_102 : decode cX12_schemes 102 = .ok (.iload_n 2, 1) := by decide +kernel
theorem dX12_schemes_103 : decode cX12_schemes 103 = .ok (.sipush 7056, 3) := by decide +kernel
theorem dX12_schemes_106 : decode cX12_schemes 106 = .ok (.if_icmp .ge 35, 3) := by decide +kernel
theorem dX12_schemes_109 : decode cX12_schemes 109 = .ok (.aload_n 0, 1) := by decide +kernel
theorem dX12_schemes_110 : decode cX12_schemes 110 = .ok (.getfield 75, 3) := by decide +kernel
theorem dX12_schemes_113 : decode cX12_schemes 113 = .ok (.sipush 7056, 3) := by decide +kernel
theorem dX12_schemes_116 : decode cX12_schemes 116 = .ok (.iload_n 1, 1) := by decide +kernel
theorem dX12_schemes_117 : decode cX12_schemes 117 = .ok (.imul, 1) := by decide +kernel
theorem dX12_schemes_118 : decode cX12_schemes 118 = .ok (.iload_n 2, 1) := by decide +kernel
theorem dX12_schemes_119 : decode cX12_schemes 119 = .ok (.iadd, 1) := by decide +kernel
theorem dX12_schemes_120 : decode cX12_schemes 120 = .ok (.iload_n 2, 1) := by decide +kernel
theorem dX12_schemes_121 : decode cX12_schemes 121 = .ok (.sipush 441, 3) := by decide +kernel
theorem dX12_schemes_124 : decode cX12_schemes 124 = .ok (.irem, 1) := by decide +kernel
theorem dX12_schemes_125 : decode cX12_schemes 125 = .ok (.ifCond .ne 7, 3) := by decide +kernel
theorem dX12_schemes_128 : decode cX12_schemes 128 = .ok (.iconst 0, 1) := by decide +kernel
theorem dX12_schemes_129 : decode cX12_schemes 129 = .ok (.goto 5, 3) := by decide +kernel
theorem dX12_schemes_132 : decode cX12_schemes 132 = .ok (.ldc 185, 2) := by decide +kernel
theorem dX12_schemes_134 : decode cX12_schemes 134 = .ok (.iastore, 1) := by decide +kernel
theorem dX12_schemes_135 : decode cX12_schemes 135 = .ok (.iinc 2 1, 3) := by decide +kernel
theorem dX12_schemes_138 : decode cX12_schemes 138 = .ok (.goto (-36), 3) := by decide +kernel
theorem dX12_schemes_141 : decode cX12_schemes 141 = .ok (.iload_n 1, 1) := by decide +kernel
theorem dX12_schemes_142 : decode cX12_schemes 142 = .ok (.iconst 1, 1) := by decide +kernel
theorem dX12_schemes_143 : decode cX12_schemes 143 = .ok (.isub, 1) := by decide +kernel
theorem dX12_schemes_144 : decode cX12_schemes 144 = .ok (.istore_n 2, 1) := by decide +kernel
theorem dX12_schemes_145 : decode cX12_schemes 145 = .ok (.iload_n 2, 1) := by decide +kernel
theorem dX12_schemes_146 : decode cX12_schemes 146 = .ok (.ifCond .lt 79, 3) := by decide +kernel
theorem dX12_schemes_149 : decode cX12_schemes 149 = .ok (.iconst 0, 1) := by decide +kernel
theorem dX12_schemes_150 : decode cX12_schemes 150 = .ok (.istore_n 3, 1) := by decide +kernel
theorem dX12_schemes_151 : decode cX12_schemes 151 = .ok (.iload_n 3, 1) := by decide +kernel
theorem dX12_schemes_152 : decode cX12_schemes 152 = .ok (.bipush 16, 2) := by decide +kernel
theorem dX12_schemes_154 : decode cX12_schemes 154 = .ok (.if_icmp .ge 65, 3) := by decide +kernel
theorem dX12_schemes_157 : decode cX12_schemes 157 = .ok (.iconst 0, 1) := by decide +kernel
theorem dX12_schemes_158 : decode cX12_schemes 158 = .ok (.istore 4, 2) := by decide +kernel
theorem dX12_schemes_160 : decode cX12_schemes 160 = .ok (.iload 4, 2) := by decide +kernel
theorem dX12_schemes_162 : decode cX12_schemes 162 = .ok (.bipush 21, 2) := by decide +kernel
theorem dX12_schemes_164 : decode cX12_schemes 164 = .ok (.if_icmp .ge 49, 3) := by decide +kernel
theorem dX12_schemes_167 : decode cX12_schemes 167 = .ok (.iconst 0, 1) := by decide +kernel
theorem dX12_schemes_168 : decode cX12_schemes 168 = .ok (.istore 5, 2) := by decide +kernel
theorem dX12_schemes_170 : decode cX12_schemes 170 = .ok (.iload 5, 2) := by decide +kernel
theorem dX12_schemes_172 : decode cX12_schemes 172 = .ok (.bipush 21, 2) := by decide +kernel
theorem dX12_schemes_174 : decode cX12_schemes 174 = .ok (.if_icmp .ge 33, 3) := by decide +kernel
theorem dX12_schemes_177 : decode cX12_schemes 177 = .ok (.aload_n 0, 1) := by decide +kernel
theorem dX12_schemes_178 : decode cX12_schemes 178 = .ok (.getfield 75, 3) := by decide +kernel
theorem dX12_schemes_181 : decode cX12_schemes 181 = .ok (.iload_n 2, 1) := by decide +kernel
theorem dX12_schemes_182 : decode cX12_schemes 182 = .ok (.iload_n 3, 1) := by decide +kernel
theorem dX12_schemes_183 : decode cX12_schemes 183 = .ok (.iload 4, 2) := by decide +kernel
theorem dX12_schemes_185 : decode cX12_schemes 185 = .ok (.iload 5, 2) := by decide +kernel
theorem dX12_schemes_187 : decode cX12_schemes 187 = .ok (.invokestatic 375, 3) := by decide +kernel
theorem dX12_schemes_190 : decode cX12_schemes 190 = .ok (.aload_n 0, 1) := by decide +kernel
theorem dX12_schemes_191 : decode cX12_schemes 191 = .ok (.iload_n 2, 1) := by decide +kernel
theorem dX12_schemes_192 : decode cX12_schemes 192 = .ok (.iload_n 3, 1) := by decide +kernel
theorem dX12_schemes_193 : decode cX12_schemes 193 = .ok (.iload 4, 2) := by decide +kernel
theorem dX12_schemes_195 : decode cX12_schemes 195 = .ok (.iload 5, 2) := by decide +kernel
theorem dX12_schemes_197 : decode cX12_schemes 197 = .ok (.invokevirtual 378, 3) := by decide +kernel
theorem dX12_schemes_200 : decode cX12_schemes 200 = .ok (.iastore, 1) := by decide +kernel
theorem dX12_schemes_201 : decode cX12_schemes 201 = .ok (.iinc 5 1, 3) := by decide +kernel
theorem dX12_schemes_204 : decode cX12_schemes 204 = .ok (.goto (-34), 3) := by decide +kernel
theorem dX12_schemes_207 : decode cX12_schemes 207 = .ok (.iinc 4 1, 3) := by decide +kernel
theorem dX12_schemes_210 : decode cX12_schemes 210 = .ok (.goto (-50), 3) := by decide +kernel
theorem dX12_schemes_213 : decode cX12_schemes 213 = .ok (.iinc 3 1, 3) := by decide +kernel
theorem dX12_schemes_216 : decode cX12_schemes 216 = .ok (.goto (-65), 3) := by decide +kernel
theorem dX12_schemes_219 : decode cX12_schemes 219 = .ok (.iinc 2 (-1), 3) := by decide +kernel
theorem dX12_schemes_222 : decode cX12_schemes 222 = .ok (.goto (-77), 3) := by decide +kernel
theorem dX12_schemes_225 : decode cX12_schemes 225 = .ok (.aload_n 0, 1) := by decide +kernel
theorem dX12_schemes_226 : decode cX12_schemes 226 = .ok (.invokevirtual 334, 3) := by decide +kernel
theorem dX12_schemes_229 : decode cX12_schemes 229 = .ok (.iconst 0, 1) := by decide +kernel
theorem dX12_schemes_230 : decode cX12_schemes 230 = .ok (.istore_n 2, 1) := by decide +kernel
theorem dX12_schemes_231 : decode cX12_schemes 231 = .ok (.iload_n 2, 1) := by decide +kernel
theorem dX12_schemes_232 : decode cX12_schemes 232 = .ok (.bipush 21, 2) := by decide +kernel
theorem dX12_schemes_234 : decode cX12_schemes 234 = .ok (.if_icmp .ge 53, 3) := by decide +kernel
theorem dX12_schemes_237 : decode cX12_schemes 237 = .ok (.iconst 0, 1) := by decide +kernel
theorem dX12_schemes_238 : decode cX12_schemes 238 = .ok (.istore_n 3, 1) := by decide +kernel
theorem dX12_schemes_239 : decode cX12_schemes 239 = .ok (.iload_n 3, 1) := by decide +kernel
theorem dX12_schemes_240 : decode cX12_schemes 240 = .ok (.bipush 21, 2) := by decide +kernel
theorem dX12_schemes_242 : decode cX12_schemes 242 = .ok (.if_icmp .ge 39, 3) := by decide +kernel
theorem dX12_schemes_245 : decode cX12_schemes 245 = .ok (.iload_n 2, 1) := by decide +kernel
theorem dX12_schemes_246 : decode cX12_schemes 246 = .ok (.iload_n 3, 1) := by decide +kernel
theorem dX12_schemes_247 : decode cX12_schemes 247 = .ok (.iadd, 1) := by decide +kernel
theorem dX12_schemes_248 : decode cX12_schemes 248 = .ok (.aload_n 0, 1) := by decide +kernel
theorem dX12_schemes_249 : decode cX12_schemes 249 = .ok (.invokevirtual 362, 3) := by decide +kernel
theorem dX12_schemes_252 : decode cX12_schemes 252 = .ok (.if_icmp .le 6, 3) := by decide +kernel
theorem dX12_schemes_255 : decode cX12_schemes 255 = .ok (.goto 20, 3) := by decide +kernel
theorem dX12_schemes_258 : decode cX12_schemes 258 = .ok (.aload_n 0, 1) := by decide +kernel
theorem dX12_schemes_259 : decode cX12_schemes 259 = .ok (.getfield 78, 3) := by decide +kernel
theorem dX12_schemes_262 : decode cX12_schemes 262 = .ok (.bipush 21, 2) := by decide +kernel
theorem dX12_schemes_264 : decode cX12_schemes 264 = .ok (.iload_n 2, 1) := by decide +kernel
theorem dX12_schemes_265 : decode cX12_schemes 265 = .ok (.imul, 1) := by decide +kernel
theorem dX12_schemes_266 : decode cX12_schemes 266 = .ok (.iload_n 3, 1) := by decide +kernel
theorem dX12_schemes_267 : decode cX12_schemes 267 = .ok (.iadd, 1) := by decide +kernel
theorem dX12_schemes_268 : decode cX12_schemes 268 = .ok (.aload_n 0, 1) := by decide +kernel
theorem dX12_schemes_269 : decode cX12_schemes 269 = .ok (.iload_n 2, 1) := by decide +kernel
theorem dX12_schemes_270 : decode cX12_schemes 270 = .ok (.iload_n 3, 1) := by decide +kernel
theorem dX12_schemes_271 : decode cX12_schemes 271 = .ok (.invokevirtual 365, 3) := by decide +kernel
theorem dX12_schemes_274 : decode cX12_schemes 274 = .ok (.lastore, 1) := by decide +kernel
theorem dX12_schemes_275 : decode cX12_schemes 275 = .ok (.iinc 3 1, 3) := by decide +kernel
theorem dX12_schemes_278 : decode cX12_schemes 278 = .ok (.goto (-39), 3) := by decide +kernel
theorem dX12_schemes_281 : decode cX12_schemes 281 = .ok (.iinc 2 1, 3) := by decide +kernel
theorem dX12_schemes_284 : decode cX12_schemes 284 = .ok (.goto (-53), 3) := by decide +kernel
theorem dX12_schemes_287 : decode cX12_schemes 287 = .ok (.aload_n 0, 1) := by decide +kernel
theorem dX12_schemes_288 : decode cX12_schemes 288 = .ok (.aload_n 0, 1) := by decide +kernel
theorem dX12_schemes_289 : decode cX12_schemes 289 = .ok (.getfield 324, 3) := by decide +kernel
theorem dX12_schemes_292 : decode cX12_schemes 292 = .ok (.putfield 381, 3) := by decide +kernel
theorem dX12_schemes_295 : decode cX12_schemes 295 = .ok (.return_, 1) := by decide +kernel
abbrev YX12_schemes : zY := (yX12_schemes, cX12_schemes, 6, none, [])
def fX12_schemes_72 (F : zFs) (k_22 : Int → zDa → Option zDa) (k_32 : Int → zDa → Option zDa) (k_39 : Int → zDa → Option zDa) (o1 : Int) (o2 : Int) (v3 : Int) (s0 : Int) (s1 : Int) (s2 : Int) (s4 : Int) (D : zDa) : Option zDa :=
  (fX12_takesOf F s2 s1 s0 0 D).bind (fun (r_4, D_5) =>
    if (0 ≤ s4 ∧ s4 < 80) then
      zlet (zwr D_5 111 s4.toNat r_4) (fun D_6 =>
        if (-2147483648 ≤ v3 + 1 ∧ v3 + 1 ≤ 2147483647) then
          k_39 (v3 + 1) D_6
        else none)
    else none)
def fX12_schemes_39 (F : zFs) (o1 : Int) (o2 : Int) (k_22 : Int → zDa → Option zDa) (k_32 : Int → zDa → Option zDa) (k_39 : Int → zDa → Option zDa) (v3 : Int) (D : zDa) : Option zDa :=
  if v3 < 3 then
    if (-2147483648 ≤ 4 * o1 ∧ 4 * o1 ≤ 2147483647) ∧ (-2147483648 ≤ 2 * o2 ∧ 2 * o2 ≤ 2147483647) ∧ (-2147483648 ≤ (4 * o1) + (2 * o2) ∧ (4 * o1) + (2 * o2) ≤ 2147483647) ∧ (-2147483648 ≤ ((4 * o1) + (2 * o2)) + v3 ∧ ((4 * o1) + (2 * o2)) + v3 ≤ 2147483647) ∧ (-2147483648 ≤ (((4 * o1) + (2 * o2)) + v3) - 1 ∧ (((4 * o1) + (2 * o2)) + v3) - 1 ≤ 2147483647) then
      if o2 = 1 then
        fX12_schemes_72 F k_22 k_32 k_39 o1 o2 v3 1 v3 o1 ((((4 * o1) + (2 * o2)) + v3) - 1) D
      else
        fX12_schemes_72 F k_22 k_32 k_39 o1 o2 v3 0 v3 o1 ((((4 * o1) + (2 * o2)) + v3) - 1) D
    else none
  else
    if (-2147483648 ≤ o2 + 1 ∧ o2 + 1 ≤ 2147483647) then
      k_32 (o2 + 1) D
    else none
def fX12_schemes_32 (F : zFs) (o1 : Int) (k_22 : Int → zDa → Option zDa) (k_32 : Int → zDa → Option zDa) (v2 : Int) (D : zDa) : Option zDa :=
  if v2 < 2 then
    zfix (fun _ _ => none) (fX12_schemes_39 F o1 v2 k_22 k_32) zfu 1 D
  else
    if (-2147483648 ≤ o1 + 1 ∧ o1 + 1 ≤ 2147483647) then
      k_22 (o1 + 1) D
    else none
def fX12_schemes_134 (F : zFs) (k_102 : Int → zDa → Option zDa) (o1 : Int) (v2 : Int) (s0 : Int) (s1 : Int) (D : zDa) : Option zDa :=
  if (0 ≤ s1 ∧ s1 < 148176) then
    zlet (zwr D 109 s1.toNat s0) (fun D_9 =>
      if (-2147483648 ≤ v2 + 1 ∧ v2 + 1 ≤ 2147483647) then
        k_102 (v2 + 1) D_9
      else none)
  else none
def fX12_schemes_275 (F : zFs) (k_231 : Int → zDa → Option zDa) (k_239 : Int → zDa → Option zDa) (o2 : Int) (v3 : Int) (D : zDa) : Option zDa :=
  if (-2147483648 ≤ v3 + 1 ∧ v3 + 1 ≤ 2147483647) then
    k_239 (v3 + 1) D
  else none
def fX12_schemes_239 (F : zFs) (o2 : Int) (k_231 : Int → zDa → Option zDa) (k_239 : Int → zDa → Option zDa) (v3 : Int) (D : zDa) : Option zDa :=
  if v3 < 21 then
    if (-2147483648 ≤ o2 + v3 ∧ o2 + v3 ≤ 2147483647) then
      (fX12_bowl F D).bind (fun (r_13, D_14) =>
        if r_13 < (o2 + v3) then
          fX12_schemes_275 F k_231 k_239 o2 v3 D_14
        else
          if (-2147483648 ≤ 21 * o2 ∧ 21 * o2 ≤ 2147483647) ∧ (-2147483648 ≤ (21 * o2) + v3 ∧ (21 * o2) + v3 ≤ 2147483647) then
            (fX12_passesWith F o2 v3 D_14).bind (fun (r_15, D_16) =>
              if (0 ≤ ((21 * o2) + v3) ∧ ((21 * o2) + v3) < 441) then
                zlet (zwr D_16 110 ((21 * o2) + v3).toNat r_15) (fun D_17 =>
                  fX12_schemes_275 F k_231 k_239 o2 v3 D_17)
              else none)
          else none)
    else none
  else
    if (-2147483648 ≤ o2 + 1 ∧ o2 + 1 ≤ 2147483647) then
      k_231 (o2 + 1) D
    else none
def fX12_schemes_231 (F : zFs)   (k_231 : Int → zDa → Option zDa) (v2 : Int) (D : zDa) : Option zDa :=
  if v2 < 21 then
    zfix (fun _ _ => none) (fX12_schemes_239 F v2 k_231) zfu 0 D
  else
    zlet (zwr D 91 34 (D 91 30)) (fun D_18 =>
      some D_18)
def fX12_schemes_170 (F : zFs) (o2 : Int) (o3 : Int) (o4 : Int) (k_145 : Int → zDa → Option zDa) (k_151 : Int → zDa → Option zDa) (k_160 : Int → zDa → Option zDa) (k_170 : Int → zDa → Option zDa) (v5 : Int) (D : zDa) : Option zDa :=
  if v5 < 21 then
    (fX12_cell F o2 o3 o4 v5 D).bind (fun (r_19, D_20) =>
      (fX12_fewest F o2 o3 o4 v5 D_20).bind (fun (r_21, D_22) =>
        if (0 ≤ r_19 ∧ r_19 < 148176) then
          zlet (zwr D_22 109 r_19.toNat r_21) (fun D_23 =>
            if (-2147483648 ≤ v5 + 1 ∧ v5 + 1 ≤ 2147483647) then
              k_170 (v5 + 1) D_23
            else none)
        else none))
  else
    if (-2147483648 ≤ o4 + 1 ∧ o4 + 1 ≤ 2147483647) then
      k_160 (o4 + 1) D
    else none
def fX12_schemes_160 (F : zFs) (o2 : Int) (o3 : Int) (k_145 : Int → zDa → Option zDa) (k_151 : Int → zDa → Option zDa) (k_160 : Int → zDa → Option zDa) (v4 : Int) (D : zDa) : Option zDa :=
  if v4 < 21 then
    zfix (fun _ _ => none) (fX12_schemes_170 F o2 o3 v4 k_145 k_151 k_160) zfu 0 D
  else
    if (-2147483648 ≤ o3 + 1 ∧ o3 + 1 ≤ 2147483647) then
      k_151 (o3 + 1) D
    else none
def fX12_schemes_151 (F : zFs) (o2 : Int) (k_145 : Int → zDa → Option zDa) (k_151 : Int → zDa → Option zDa) (v3 : Int) (D : zDa) : Option zDa :=
  if v3 < 16 then
    zfix (fun _ _ => none) (fX12_schemes_160 F o2 v3 k_145 k_151) zfu 0 D
  else
    if (-2147483648 ≤ o2 + (-1) ∧ o2 + (-1) ≤ 2147483647) then
      k_145 (o2 + (-1)) D
    else none
def fX12_schemes_145 (F : zFs)   (k_145 : Int → zDa → Option zDa) (v2 : Int) (D : zDa) : Option zDa :=
  if v2 < 0 then
    (fX12_laysChances F D).bind (fun D_12 =>
      zfix (fun _ _ => none) (fX12_schemes_231 F) zfu 0 D_12)
  else
    zfix (fun _ _ => none) (fX12_schemes_151 F v2 k_145) zfu 0 D
def fX12_schemes_102 (F : zFs) (o1 : Int)  (k_102 : Int → zDa → Option zDa) (v2 : Int) (D : zDa) : Option zDa :=
  if v2 < 7056 then
    if (-2147483648 ≤ 7056 * o1 ∧ 7056 * o1 ≤ 2147483647) ∧ (-2147483648 ≤ (7056 * o1) + v2 ∧ (7056 * o1) + v2 ≤ 2147483647) then
      if (Int.tmod v2 441) = 0 then
        fX12_schemes_134 F k_102 o1 v2 0 ((7056 * o1) + v2) D
      else
        fX12_schemes_134 F k_102 o1 v2 1000000 ((7056 * o1) + v2) D
    else none
  else
    if (-2147483648 ≤ o1 - 1 ∧ o1 - 1 ≤ 2147483647) then
      zlet ((o1 - 1)) (fun x2_10 =>
        zfix (fun _ _ => none) (fX12_schemes_145 F) zfu x2_10 D)
    else none
def fX12_schemes_22 (F : zFs)   (k_22 : Int → zDa → Option zDa) (v1 : Int) (D : zDa) : Option zDa :=
  (fX12_questions F D).bind (fun (r_2, D_3) =>
    if v1 < r_2 then
      zfix (fun _ _ => none) (fX12_schemes_32 F v1 k_22) zfu 0 D_3
    else
      (fX12_questions F D_3).bind (fun (r_7, D_8) =>
        zfix (fun _ _ => none) (fX12_schemes_102 F r_7) zfu 0 D_8))
def fX12_schemes (F : zFs)  (D : zDa) : Option zDa :=
  if (D 91 35) = (D 91 1) then
    some D
  else
    zlet (zwr D 91 35 (D 91 1)) (fun D_1 =>
      zfix (fun _ _ => none) (fX12_schemes_22 F) zfu 0 D_1)
set_option maxHeartbeats 20000000 in
theorem sX12_schemes_72 {l : Launch} {E : zE} {d : Nat} {F : zFs} {n sl : Nat} (hG : zG F)  (o1 : Int) (o2 : Int) (v3 : Int) (s0 : Int) (s1 : Int) (s2 : Int) (s4 : Int) (k_22 : Int → zDa → Option zDa) (k_32 : Int → zDa → Option zDa) (k_39 : Int → zDa → Option zDa) (hk_22 : ∀ (u1 : Int) (D : zDa), zO l E (d + 89) YX12_schemes 22 [(0, zR 91), (1, zI u1)] [] (F, D, n, sl) (zcV F n sl) (k_22 u1 D)) (hk_32 : ∀ (u2 : Int) (D : zDa), zO l E (d + 89) YX12_schemes 32 [(0, zR 91), (1, zI o1), (2, zI u2)] [] (F, D, n, sl) (zcV F n sl) (k_32 u2 D)) (hk_39 : ∀ (u3 : Int) (D : zDa), zO l E (d + 89) YX12_schemes 39 [(0, zR 91), (1, zI o1), (2, zI o2), (3, zI u3)] [] (F, D, n, sl) (zcV F n sl) (k_39 u3 D)) (D : zDa) : zO l E (d + 89) YX12_schemes 72 [(0, zR 91), (1, zI o1), (2, zI o2), (3, zI v3)] [zI s0, zI s1, zI s2, zR 91, zI s4, zR 111] (F, D, n, sl) (zcV F n sl) (fX12_schemes_72 F k_22 k_32 k_39 o1 o2 v3 s0 s1 s2 s4 D) := by
  unfold fX12_schemes_72
  refine zO_iconst dX12_schemes_72 (by decide) ?_
  refine zO_callV (Y' := YX12_takesOf) (cw := zcI F n sl) (as := [zI s2, zI s1, zI s0, zI 0]) (rest := [zI s4, zR 111]) (na := 4) (ci := 12) rfl dX12_schemes_73 wC_X12_takesOf wN_X12 wM_X12_298 wI_X12_takesOf wV_X12_takesOf (by decide) (by decide) rfl rfl (Nat.le_of_ble_eq_true rfl) rfl (by decide) (gk_91 hG) (fun r hr => zMet_cast (Nat.add_assoc d 1 87) (mX12_takesOf (d := d + 1) hG s2 s1 s0 0 r hr)) ?_
  rintro ⟨r_4, D_5⟩ -
  show zO _ _ _ _ _ _ [zI r_4, zI s4, zR 111] (F, D_5, n, sl) _ _
  refine zO_chk (fun h2 => ?_)
  refine zO_iast dX12_schemes_76 (gk_111 hG) (gl_in (gl_111 hG) h2) ?_
  refine zO_letD (fun D_6 eD_6 => ?_)
  refine zO_chk (fun h3 => ?_)
  refine zO_iinc dX12_schemes_77 rfl h3 (by decide) ?_
  refine zO_ls (ls' := [(0, zR 91), (1, zI o1), (2, zI o2), (3, zI (v3 + 1))]) rfl ?_
  refine zO_goto (tgt := 39) dX12_schemes_80 rfl ?_
  refine zO_live [0, 1, 2, 3] ?_
  exact hk_39 (v3 + 1) D_6
set_option maxHeartbeats 20000000 in
theorem sX12_schemes_39 {l : Launch} {E : zE} {d : Nat} {F : zFs} {n sl : Nat} (hG : zG F)  (o1 : Int) (o2 : Int) (k_22 : Int → zDa → Option zDa) (k_32 : Int → zDa → Option zDa) (hk_22 : ∀ (u1 : Int) (D : zDa), zO l E (d + 89) YX12_schemes 22 [(0, zR 91), (1, zI u1)] [] (F, D, n, sl) (zcV F n sl) (k_22 u1 D)) (hk_32 : ∀ (u2 : Int) (D : zDa), zO l E (d + 89) YX12_schemes 32 [(0, zR 91), (1, zI o1), (2, zI u2)] [] (F, D, n, sl) (zcV F n sl) (k_32 u2 D)) : ∀ (N : Nat) (v3 : Int) (D : zDa), zO l E (d + 89) YX12_schemes 39 [(0, zR 91), (1, zI o1), (2, zI o2), (3, zI v3)] [] (F, D, n, sl) (zcV F n sl) (zfix (fun _ _ => none) (fX12_schemes_39 F o1 o2 k_22 k_32) N v3 D) := by
  intro N
  induction N with
  | zero => intro v3 D; exact zO_none
  | succ N hk_39 =>
    intro v3 D
    show zO _ _ _ _ _ _ _ _ _ ((fX12_schemes_39 F o1 o2 k_22 k_32) (zfix (fun _ _ => none) (fX12_schemes_39 F o1 o2 k_22 k_32) N) v3 D)
    unfold fX12_schemes_39
    refine zO_iload_n dX12_schemes_39 rfl ?_
    refine zO_iconst dX12_schemes_40 (by decide) ?_
    refine zO_icmp_ge (tgt := 83) dX12_schemes_41 rfl (fun c41 => ?_) (fun c41 => ?_)
    · refine zO_chk (fun h1 => ?_)
      refine zO_aload_n dX12_schemes_44 rfl (zR_P _) ?_
      refine gt12 (k := 33) dX12_schemes_45 wF_X12_81 (by decide) (gk_91 hG) (zgv (c := 12) (k := 33) rfl (Or.inl ⟨_, rfl⟩) (gf_91_33 hG)) ?_
      refine zO_iconst dX12_schemes_48 (by decide) ?_
      refine zO_iload_n dX12_schemes_49 rfl ?_
      refine zO_imul dX12_schemes_50 h1.1 ?_
      refine zO_iconst dX12_schemes_51 (by decide) ?_
      refine zO_iload_n dX12_schemes_52 rfl ?_
      refine zO_imul dX12_schemes_53 h1.2.1 ?_
      refine zO_iadd dX12_schemes_54 h1.2.2.1 ?_
      refine zO_iload_n dX12_schemes_55 rfl ?_
      refine zO_iadd dX12_schemes_56 h1.2.2.2.1 ?_
      refine zO_iconst dX12_schemes_57 (by decide) ?_
      refine zO_isub dX12_schemes_58 h1.2.2.2.2 ?_
      refine zO_aload_n dX12_schemes_59 rfl (zR_P _) ?_
      refine zO_iload_n dX12_schemes_60 rfl ?_
      refine zO_iload_n dX12_schemes_61 rfl ?_
      refine zO_iload_n dX12_schemes_62 rfl ?_
      refine zO_iconst dX12_schemes_63 (by decide) ?_
      refine zO_icmp_ne (tgt := 71) dX12_schemes_64 rfl (fun c64 => ?_) (fun c64 => ?_)
      · refine zO_iconst dX12_schemes_67 (by decide) ?_
        refine zO_goto (tgt := 72) dX12_schemes_68 rfl ?_
        refine zO_live [0, 1, 2, 3] ?_
        exact sX12_schemes_72 hG o1 o2 v3 1 v3 o1 ((((4 * o1) + (2 * o2)) + v3) - 1) _ _ _ hk_22 hk_32 hk_39 D
      · refine zO_iconst dX12_schemes_71 (by decide) ?_
        refine zO_live [0, 1, 2, 3] ?_
        exact sX12_schemes_72 hG o1 o2 v3 0 v3 o1 ((((4 * o1) + (2 * o2)) + v3) - 1) _ _ _ hk_22 hk_32 hk_39 D
    · refine zO_chk (fun h4 => ?_)
      refine zO_iinc dX12_schemes_83 rfl h4 (by decide) ?_
      refine zO_ls (ls' := [(0, zR 91), (1, zI o1), (2, zI (o2 + 1)), (3, zI v3)]) rfl ?_
      refine zO_goto (tgt := 32) dX12_schemes_86 rfl ?_
      refine zO_live [0, 1, 2] ?_
      exact hk_32 (o2 + 1) D
set_option maxHeartbeats 20000000 in
theorem sX12_schemes_32 {l : Launch} {E : zE} {d : Nat} {F : zFs} {n sl : Nat} (hG : zG F)  (o1 : Int) (k_22 : Int → zDa → Option zDa) (hk_22 : ∀ (u1 : Int) (D : zDa), zO l E (d + 89) YX12_schemes 22 [(0, zR 91), (1, zI u1)] [] (F, D, n, sl) (zcV F n sl) (k_22 u1 D)) : ∀ (N : Nat) (v2 : Int) (D : zDa), zO l E (d + 89) YX12_schemes 32 [(0, zR 91), (1, zI o1), (2, zI v2)] [] (F, D, n, sl) (zcV F n sl) (zfix (fun _ _ => none) (fX12_schemes_32 F o1 k_22) N v2 D) := by
  intro N
  induction N with
  | zero => intro v2 D; exact zO_none
  | succ N hk_32 =>
    intro v2 D
    show zO _ _ _ _ _ _ _ _ _ ((fX12_schemes_32 F o1 k_22) (zfix (fun _ _ => none) (fX12_schemes_32 F o1 k_22) N) v2 D)
    unfold fX12_schemes_32
    refine zO_iload_n dX12_schemes_32 rfl ?_
    refine zO_iconst dX12_schemes_33 (by decide) ?_
    refine zO_icmp_ge (tgt := 89) dX12_schemes_34 rfl (fun c34 => ?_) (fun c34 => ?_)
    · refine zO_iconst dX12_schemes_37 (by decide) ?_
      refine zO_istore_n dX12_schemes_38 (by decide) ?_
      refine zO_ls (ls' := [(0, zR 91), (1, zI o1), (2, zI v2), (3, zI 1)]) rfl ?_
      refine zO_live [0, 1, 2, 3] ?_
      exact sX12_schemes_39 hG o1 v2 _ _ hk_22 hk_32 zfu 1 D
    · refine zO_chk (fun h5 => ?_)
      refine zO_iinc dX12_schemes_89 rfl h5 (by decide) ?_
      refine zO_ls (ls' := [(0, zR 91), (1, zI (o1 + 1)), (2, zI v2)]) rfl ?_
      refine zO_goto (tgt := 22) dX12_schemes_92 rfl ?_
      refine zO_live [0, 1] ?_
      exact hk_22 (o1 + 1) D
set_option maxHeartbeats 20000000 in
theorem sX12_schemes_134 {l : Launch} {E : zE} {d : Nat} {F : zFs} {n sl : Nat} (hG : zG F)  (o1 : Int) (v2 : Int) (s0 : Int) (s1 : Int) (k_102 : Int → zDa → Option zDa) (hk_102 : ∀ (u2 : Int) (D : zDa), zO l E (d + 89) YX12_schemes 102 [(0, zR 91), (1, zI o1), (2, zI u2)] [] (F, D, n, sl) (zcV F n sl) (k_102 u2 D)) (D : zDa) : zO l E (d + 89) YX12_schemes 134 [(0, zR 91), (1, zI o1), (2, zI v2)] [zI s0, zI s1, zR 109] (F, D, n, sl) (zcV F n sl) (fX12_schemes_134 F k_102 o1 v2 s0 s1 D) := by
  unfold fX12_schemes_134
  refine zO_chk (fun h7 => ?_)
  refine zO_iast dX12_schemes_134 (gk_109 hG) (gl_in (gl_109 hG) h7) ?_
  refine zO_letD (fun D_9 eD_9 => ?_)
  refine zO_chk (fun h8 => ?_)
  refine zO_iinc dX12_schemes_135 rfl h8 (by decide) ?_
  refine zO_ls (ls' := [(0, zR 91), (1, zI o1), (2, zI (v2 + 1))]) rfl ?_
  refine zO_goto (tgt := 102) dX12_schemes_138 rfl ?_
  refine zO_live [0, 1, 2] ?_
  exact hk_102 (v2 + 1) D_9
set_option maxHeartbeats 20000000 in
theorem sX12_schemes_275 {l : Launch} {E : zE} {d : Nat} {F : zFs} {n sl : Nat} (hG : zG F)  (o2 : Int) (v3 : Int) (k_231 : Int → zDa → Option zDa) (k_239 : Int → zDa → Option zDa) (hk_231 : ∀ (u2 : Int) (D : zDa), zO l E (d + 89) YX12_schemes 231 [(0, zR 91), (2, zI u2)] [] (F, D, n, sl) (zcV F n sl) (k_231 u2 D)) (hk_239 : ∀ (u3 : Int) (D : zDa), zO l E (d + 89) YX12_schemes 239 [(0, zR 91), (2, zI o2), (3, zI u3)] [] (F, D, n, sl) (zcV F n sl) (k_239 u3 D)) (D : zDa) : zO l E (d + 89) YX12_schemes 275 [(0, zR 91), (2, zI o2), (3, zI v3)] [] (F, D, n, sl) (zcV F n sl) (fX12_schemes_275 F k_231 k_239 o2 v3 D) := by
  unfold fX12_schemes_275
  refine zO_chk (fun h11 => ?_)
  refine zO_iinc dX12_schemes_275 rfl h11 (by decide) ?_
  refine zO_ls (ls' := [(0, zR 91), (2, zI o2), (3, zI (v3 + 1))]) rfl ?_
  refine zO_goto (tgt := 239) dX12_schemes_278 rfl ?_
  refine zO_live [0, 2, 3] ?_
  exact hk_239 (v3 + 1) D
set_option maxHeartbeats 20000000 in
theorem sX12_schemes_239 {l : Launch} {E : zE} {d : Nat} {F : zFs} {n sl : Nat} (hG : zG F)  (o2 : Int) (k_231 : Int → zDa → Option zDa) (hk_231 : ∀ (u2 : Int) (D : zDa), zO l E (d + 89) YX12_schemes 231 [(0, zR 91), (2, zI u2)] [] (F, D, n, sl) (zcV F n sl) (k_231 u2 D)) : ∀ (N : Nat) (v3 : Int) (D : zDa), zO l E (d + 89) YX12_schemes 239 [(0, zR 91), (2, zI o2), (3, zI v3)] [] (F, D, n, sl) (zcV F n sl) (zfix (fun _ _ => none) (fX12_schemes_239 F o2 k_231) N v3 D) := by
  intro N
  induction N with
  | zero => intro v3 D; exact zO_none
  | succ N hk_239 =>
    intro v3 D
    show zO _ _ _ _ _ _ _ _ _ ((fX12_schemes_239 F o2 k_231) (zfix (fun _ _ => none) (fX12_schemes_239 F o2 k_231) N) v3 D)
    unfold fX12_schemes_239
    refine zO_iload_n dX12_schemes_239 rfl ?_
    refine zO_bipush dX12_schemes_240 (by decide) ?_
    refine zO_icmp_ge (tgt := 281) dX12_schemes_242 rfl (fun c242 => ?_) (fun c242 => ?_)
    · refine zO_chk (fun h10 => ?_)
      refine zO_iload_n dX12_schemes_245 rfl ?_
      refine zO_iload_n dX12_schemes_246 rfl ?_
      refine zO_iadd dX12_schemes_247 h10 ?_
      refine zO_aload_n dX12_schemes_248 rfl (zR_P _) ?_
      refine zO_callV (Y' := YX12_bowl) (cw := zcI F n sl) (as := []) (rest := [zI (o2 + v3)]) (na := 0) (ci := 12) rfl dX12_schemes_249 wC_X12_bowl wN_X12 wM_X12_362 wI_X12_bowl wV_X12_bowl (by decide) (by decide) rfl rfl (Nat.le_of_ble_eq_true rfl) rfl (by decide) (gk_91 hG) (fun r hr => zMet_cast (Nat.add_assoc d 86 2) (mX12_bowl (d := d + 86) hG  r hr)) ?_
      rintro ⟨r_13, D_14⟩ -
      show zO _ _ _ _ _ _ [zI r_13, zI (o2 + v3)] (F, D_14, n, sl) _ _
      refine zO_icmp_le (tgt := 258) dX12_schemes_252 rfl (fun c252 => ?_) (fun c252 => ?_)
      · refine zO_goto (tgt := 275) dX12_schemes_255 rfl ?_
        refine zO_live [0, 2, 3] ?_
        exact sX12_schemes_275 hG o2 v3 _ _ hk_231 hk_239 D_14
      · refine zO_chk (fun h12 => ?_)
        refine zO_aload_n dX12_schemes_258 rfl (zR_P _) ?_
        refine gt12 (k := 32) dX12_schemes_259 wF_X12_78 (by decide) (gk_91 hG) (zgv (c := 12) (k := 32) rfl (Or.inl ⟨_, rfl⟩) (gf_91_32 hG)) ?_
        refine zO_bipush dX12_schemes_262 (by decide) ?_
        refine zO_iload_n dX12_schemes_264 rfl ?_
        refine zO_imul dX12_schemes_265 h12.1 ?_
        refine zO_iload_n dX12_schemes_266 rfl ?_
        refine zO_iadd dX12_schemes_267 h12.2 ?_
        refine zO_aload_n dX12_schemes_268 rfl (zR_P _) ?_
        refine zO_iload_n dX12_schemes_269 rfl ?_
        refine zO_iload_n dX12_schemes_270 rfl ?_
        refine zO_callV (Y' := YX12_passesWith) (cw := zcJ F n sl) (as := [zI o2, zI v3]) (rest := [zI ((21 * o2) + v3), zR 110]) (na := 2) (ci := 12) rfl dX12_schemes_271 wC_X12_passesWith wN_X12 wM_X12_365 wI_X12_passesWith wV_X12_passesWith (by decide) (by decide) rfl rfl (Nat.le_of_ble_eq_true rfl) rfl (by decide) (gk_91 hG) (fun r hr => zMet_cast (Nat.add_assoc d 85 3) (mX12_passesWith (d := d + 85) hG o2 v3 r hr)) ?_
        rintro ⟨r_15, D_16⟩ -
        show zO _ _ _ _ _ _ [zL r_15, zI ((21 * o2) + v3), zR 110] (F, D_16, n, sl) _ _
        refine zO_chk (fun h13 => ?_)
        refine zO_last dX12_schemes_274 (gk_110 hG) (gl_in (gl_110 hG) h13) ?_
        refine zO_letD (fun D_17 eD_17 => ?_)
        refine zO_live [0, 2, 3] ?_
        exact sX12_schemes_275 hG o2 v3 _ _ hk_231 hk_239 D_17
    · refine zO_chk (fun h14 => ?_)
      refine zO_iinc dX12_schemes_281 rfl h14 (by decide) ?_
      refine zO_ls (ls' := [(0, zR 91), (2, zI (o2 + 1)), (3, zI v3)]) rfl ?_
      refine zO_goto (tgt := 231) dX12_schemes_284 rfl ?_
      refine zO_live [0, 2] ?_
      exact hk_231 (o2 + 1) D
set_option maxHeartbeats 20000000 in
theorem sX12_schemes_231 {l : Launch} {E : zE} {d : Nat} {F : zFs} {n sl : Nat} (hG : zG F)     : ∀ (N : Nat) (v2 : Int) (D : zDa), zO l E (d + 89) YX12_schemes 231 [(0, zR 91), (2, zI v2)] [] (F, D, n, sl) (zcV F n sl) (zfix (fun _ _ => none) (fX12_schemes_231 F) N v2 D) := by
  intro N
  induction N with
  | zero => intro v2 D; exact zO_none
  | succ N hk_231 =>
    intro v2 D
    show zO _ _ _ _ _ _ _ _ _ ((fX12_schemes_231 F) (zfix (fun _ _ => none) (fX12_schemes_231 F) N) v2 D)
    unfold fX12_schemes_231
    refine zO_iload_n dX12_schemes_231 rfl ?_
    refine zO_bipush dX12_schemes_232 (by decide) ?_
    refine zO_icmp_ge (tgt := 287) dX12_schemes_234 rfl (fun c234 => ?_) (fun c234 => ?_)
    · refine zO_iconst dX12_schemes_237 (by decide) ?_
      refine zO_istore_n dX12_schemes_238 (by decide) ?_
      refine zO_ls (ls' := [(0, zR 91), (2, zI v2), (3, zI 0)]) rfl ?_
      refine zO_live [0, 2, 3] ?_
      exact sX12_schemes_239 hG v2 _ hk_231 zfu 0 D
    · refine zO_aload_n dX12_schemes_287 rfl (zR_P _) ?_
      refine zO_aload_n dX12_schemes_288 rfl (zR_P _) ?_
      refine gt12 (k := 30) (v := zL (D 91 30)) dX12_schemes_289 wF_X12_324 (by decide) (gk_91 hG) rfl ?_
      refine ptJ12 (k := 34) (z := (D 91 30)) dX12_schemes_292 wF_X12_381 (by decide) rfl (gk_91 hG) rfl ?_
      refine zO_letD (fun D_18 eD_18 => ?_)
      exact zO_ret (rv := none) dX12_schemes_295 rfl trivial rfl
set_option maxHeartbeats 20000000 in
theorem sX12_schemes_170 {l : Launch} {E : zE} {d : Nat} {F : zFs} {n sl : Nat} (hG : zG F)  (o2 : Int) (o3 : Int) (o4 : Int) (k_145 : Int → zDa → Option zDa) (k_151 : Int → zDa → Option zDa) (k_160 : Int → zDa → Option zDa) (hk_145 : ∀ (u2 : Int) (D : zDa), zO l E (d + 89) YX12_schemes 145 [(0, zR 91), (2, zI u2)] [] (F, D, n, sl) (zcV F n sl) (k_145 u2 D)) (hk_151 : ∀ (u3 : Int) (D : zDa), zO l E (d + 89) YX12_schemes 151 [(0, zR 91), (2, zI o2), (3, zI u3)] [] (F, D, n, sl) (zcV F n sl) (k_151 u3 D)) (hk_160 : ∀ (u4 : Int) (D : zDa), zO l E (d + 89) YX12_schemes 160 [(0, zR 91), (2, zI o2), (3, zI o3), (4, zI u4)] [] (F, D, n, sl) (zcV F n sl) (k_160 u4 D)) : ∀ (N : Nat) (v5 : Int) (D : zDa), zO l E (d + 89) YX12_schemes 170 [(0, zR 91), (2, zI o2), (3, zI o3), (4, zI o4), (5, zI v5)] [] (F, D, n, sl) (zcV F n sl) (zfix (fun _ _ => none) (fX12_schemes_170 F o2 o3 o4 k_145 k_151 k_160) N v5 D) := by
  intro N
  induction N with
  | zero => intro v5 D; exact zO_none
  | succ N hk_170 =>
    intro v5 D
    show zO _ _ _ _ _ _ _ _ _ ((fX12_schemes_170 F o2 o3 o4 k_145 k_151 k_160) (zfix (fun _ _ => none) (fX12_schemes_170 F o2 o3 o4 k_145 k_151 k_160) N) v5 D)
    unfold fX12_schemes_170
    refine zO_iload dX12_schemes_170 rfl ?_
    refine zO_bipush dX12_schemes_172 (by decide) ?_
    refine zO_icmp_ge (tgt := 207) dX12_schemes_174 rfl (fun c174 => ?_) (fun c174 => ?_)
    · refine zO_aload_n dX12_schemes_177 rfl (zR_P _) ?_
      refine gt12 (k := 31) dX12_schemes_178 wF_X12_75 (by decide) (gk_91 hG) (zgv (c := 12) (k := 31) rfl (Or.inl ⟨_, rfl⟩) (gf_91_31 hG)) ?_
      refine zO_iload_n dX12_schemes_181 rfl ?_
      refine zO_iload_n dX12_schemes_182 rfl ?_
      refine zO_iload dX12_schemes_183 rfl ?_
      refine zO_iload dX12_schemes_185 rfl ?_
      refine zO_callS (Y' := YX12_cell) (cw := zcI F n sl) (as := [zI o2, zI o3, zI o4, zI v5]) (rest := [zR 109]) (na := 4) dX12_schemes_187 wC_X12_cell wN_X12 wM_X12_375 wS_X12_cell (by decide) (by decide) rfl rfl (Nat.le_of_ble_eq_true rfl) (fun r hr => zMet_cast (Nat.add_assoc d 88 0) (mX12_cell (d := d + 88) hG o2 o3 o4 v5 r hr)) ?_
      rintro ⟨r_19, D_20⟩ -
      show zO _ _ _ _ _ _ [zI r_19, zR 109] (F, D_20, n, sl) _ _
      refine zO_aload_n dX12_schemes_190 rfl (zR_P _) ?_
      refine zO_iload_n dX12_schemes_191 rfl ?_
      refine zO_iload_n dX12_schemes_192 rfl ?_
      refine zO_iload dX12_schemes_193 rfl ?_
      refine zO_iload dX12_schemes_195 rfl ?_
      refine zO_callV (Y' := YX12_fewest) (cw := zcI F n sl) (as := [zI o2, zI o3, zI o4, zI v5]) (rest := [zI r_19, zR 109]) (na := 4) (ci := 12) rfl dX12_schemes_197 wC_X12_fewest wN_X12 wM_X12_378 wI_X12_fewest wV_X12_fewest (by decide) (by decide) rfl rfl (Nat.le_of_ble_eq_true rfl) rfl (by decide) (gk_91 hG) (fun r hr => zMet_cast (Nat.add_assoc d 86 2) (mX12_fewest (d := d + 86) hG o2 o3 o4 v5 r hr)) ?_
      rintro ⟨r_21, D_22⟩ -
      show zO _ _ _ _ _ _ [zI r_21, zI r_19, zR 109] (F, D_22, n, sl) _ _
      refine zO_chk (fun h15 => ?_)
      refine zO_iast dX12_schemes_200 (gk_109 hG) (gl_in (gl_109 hG) h15) ?_
      refine zO_letD (fun D_23 eD_23 => ?_)
      refine zO_chk (fun h16 => ?_)
      refine zO_iinc dX12_schemes_201 rfl h16 (by decide) ?_
      refine zO_ls (ls' := [(0, zR 91), (2, zI o2), (3, zI o3), (4, zI o4), (5, zI (v5 + 1))]) rfl ?_
      refine zO_goto (tgt := 170) dX12_schemes_204 rfl ?_
      refine zO_live [0, 2, 3, 4, 5] ?_
      exact hk_170 (v5 + 1) D_23
    · refine zO_chk (fun h17 => ?_)
      refine zO_iinc dX12_schemes_207 rfl h17 (by decide) ?_
      refine zO_ls (ls' := [(0, zR 91), (2, zI o2), (3, zI o3), (4, zI (o4 + 1)), (5, zI v5)]) rfl ?_
      refine zO_goto (tgt := 160) dX12_schemes_210 rfl ?_
      refine zO_live [0, 2, 3, 4] ?_
      exact hk_160 (o4 + 1) D
set_option maxHeartbeats 20000000 in
theorem sX12_schemes_160 {l : Launch} {E : zE} {d : Nat} {F : zFs} {n sl : Nat} (hG : zG F)  (o2 : Int) (o3 : Int) (k_145 : Int → zDa → Option zDa) (k_151 : Int → zDa → Option zDa) (hk_145 : ∀ (u2 : Int) (D : zDa), zO l E (d + 89) YX12_schemes 145 [(0, zR 91), (2, zI u2)] [] (F, D, n, sl) (zcV F n sl) (k_145 u2 D)) (hk_151 : ∀ (u3 : Int) (D : zDa), zO l E (d + 89) YX12_schemes 151 [(0, zR 91), (2, zI o2), (3, zI u3)] [] (F, D, n, sl) (zcV F n sl) (k_151 u3 D)) : ∀ (N : Nat) (v4 : Int) (D : zDa), zO l E (d + 89) YX12_schemes 160 [(0, zR 91), (2, zI o2), (3, zI o3), (4, zI v4)] [] (F, D, n, sl) (zcV F n sl) (zfix (fun _ _ => none) (fX12_schemes_160 F o2 o3 k_145 k_151) N v4 D) := by
  intro N
  induction N with
  | zero => intro v4 D; exact zO_none
  | succ N hk_160 =>
    intro v4 D
    show zO _ _ _ _ _ _ _ _ _ ((fX12_schemes_160 F o2 o3 k_145 k_151) (zfix (fun _ _ => none) (fX12_schemes_160 F o2 o3 k_145 k_151) N) v4 D)
    unfold fX12_schemes_160
    refine zO_iload dX12_schemes_160 rfl ?_
    refine zO_bipush dX12_schemes_162 (by decide) ?_
    refine zO_icmp_ge (tgt := 213) dX12_schemes_164 rfl (fun c164 => ?_) (fun c164 => ?_)
    · refine zO_iconst dX12_schemes_167 (by decide) ?_
      refine zO_istore dX12_schemes_168 (by decide) ?_
      refine zO_ls (ls' := [(0, zR 91), (2, zI o2), (3, zI o3), (4, zI v4), (5, zI 0)]) rfl ?_
      refine zO_live [0, 2, 3, 4, 5] ?_
      exact sX12_schemes_170 hG o2 o3 v4 _ _ _ hk_145 hk_151 hk_160 zfu 0 D
    · refine zO_chk (fun h18 => ?_)
      refine zO_iinc dX12_schemes_213 rfl h18 (by decide) ?_
      refine zO_ls (ls' := [(0, zR 91), (2, zI o2), (3, zI (o3 + 1)), (4, zI v4)]) rfl ?_
      refine zO_goto (tgt := 151) dX12_schemes_216 rfl ?_
      refine zO_live [0, 2, 3] ?_
      exact hk_151 (o3 + 1) D
set_option maxHeartbeats 20000000 in
theorem sX12_schemes_151 {l : Launch} {E : zE} {d : Nat} {F : zFs} {n sl : Nat} (hG : zG F)  (o2 : Int) (k_145 : Int → zDa → Option zDa) (hk_145 : ∀ (u2 : Int) (D : zDa), zO l E (d + 89) YX12_schemes 145 [(0, zR 91), (2, zI u2)] [] (F, D, n, sl) (zcV F n sl) (k_145 u2 D)) : ∀ (N : Nat) (v3 : Int) (D : zDa), zO l E (d + 89) YX12_schemes 151 [(0, zR 91), (2, zI o2), (3, zI v3)] [] (F, D, n, sl) (zcV F n sl) (zfix (fun _ _ => none) (fX12_schemes_151 F o2 k_145) N v3 D) := by
  intro N
  induction N with
  | zero => intro v3 D; exact zO_none
  | succ N hk_151 =>
    intro v3 D
    show zO _ _ _ _ _ _ _ _ _ ((fX12_schemes_151 F o2 k_145) (zfix (fun _ _ => none) (fX12_schemes_151 F o2 k_145) N) v3 D)
    unfold fX12_schemes_151
    refine zO_iload_n dX12_schemes_151 rfl ?_
    refine zO_bipush dX12_schemes_152 (by decide) ?_
    refine zO_icmp_ge (tgt := 219) dX12_schemes_154 rfl (fun c154 => ?_) (fun c154 => ?_)
    · refine zO_iconst dX12_schemes_157 (by decide) ?_
      refine zO_istore dX12_schemes_158 (by decide) ?_
      refine zO_ls (ls' := [(0, zR 91), (2, zI o2), (3, zI v3), (4, zI 0)]) rfl ?_
      refine zO_live [0, 2, 3, 4] ?_
      exact sX12_schemes_160 hG o2 v3 _ _ hk_145 hk_151 zfu 0 D
    · refine zO_chk (fun h19 => ?_)
      refine zO_iinc dX12_schemes_219 rfl h19 (by decide) ?_
      refine zO_ls (ls' := [(0, zR 91), (2, zI (o2 + (-1))), (3, zI v3)]) rfl ?_
      refine zO_goto (tgt := 145) dX12_schemes_222 rfl ?_
      refine zO_live [0, 2] ?_
      exact hk_145 (o2 + (-1)) D
set_option maxHeartbeats 20000000 in
theorem sX12_schemes_145 {l : Launch} {E : zE} {d : Nat} {F : zFs} {n sl : Nat} (hG : zG F)     : ∀ (N : Nat) (v2 : Int) (D : zDa), zO l E (d + 89) YX12_schemes 145 [(0, zR 91), (2, zI v2)] [] (F, D, n, sl) (zcV F n sl) (zfix (fun _ _ => none) (fX12_schemes_145 F) N v2 D) := by
  intro N
  induction N with
  | zero => intro v2 D; exact zO_none
  | succ N hk_145 =>
    intro v2 D
    show zO _ _ _ _ _ _ _ _ _ ((fX12_schemes_145 F) (zfix (fun _ _ => none) (fX12_schemes_145 F) N) v2 D)
    unfold fX12_schemes_145
    refine zO_iload_n dX12_schemes_145 rfl ?_
    refine zO_if_lt (tgt := 225) dX12_schemes_146 rfl (fun c146 => ?_) (fun c146 => ?_)
    · refine zO_aload_n dX12_schemes_225 rfl (zR_P _) ?_
      refine zO_callV (Y' := YX12_laysChances) (cw := zcV F n sl) (as := []) (rest := []) (na := 0) (ci := 12) rfl dX12_schemes_226 wC_X12_laysChances wN_X12 wM_X12_334 wI_X12_laysChances wV_X12_laysChances (by decide) (by decide) rfl rfl (Nat.le_of_ble_eq_true rfl) rfl (by decide) (gk_91 hG) (fun r hr => zMet_cast (Nat.add_assoc d 0 88) (mX12_laysChances (d := d + 0) hG  r hr)) ?_
      intro D_12 _
      show zO _ _ _ _ _ _ [] (F, D_12, n, sl) _ _
      refine zO_iconst dX12_schemes_229 (by decide) ?_
      refine zO_istore_n dX12_schemes_230 (by decide) ?_
      refine zO_ls (ls' := [(0, zR 91), (2, zI 0)]) rfl ?_
      refine zO_live [0, 2] ?_
      exact sX12_schemes_231 hG zfu 0 D_12
    · refine zO_iconst dX12_schemes_149 (by decide) ?_
      refine zO_istore_n dX12_schemes_150 (by decide) ?_
      refine zO_ls (ls' := [(0, zR 91), (2, zI v2), (3, zI 0)]) rfl ?_
      refine zO_live [0, 2, 3] ?_
      exact sX12_schemes_151 hG v2 _ hk_145 zfu 0 D
set_option maxHeartbeats 20000000 in
theorem sX12_schemes_102 {l : Launch} {E : zE} {d : Nat} {F : zFs} {n sl : Nat} (hG : zG F)  (o1 : Int)   : ∀ (N : Nat) (v2 : Int) (D : zDa), zO l E (d + 89) YX12_schemes 102 [(0, zR 91), (1, zI o1), (2, zI v2)] [] (F, D, n, sl) (zcV F n sl) (zfix (fun _ _ => none) (fX12_schemes_102 F o1) N v2 D) := by
  intro N
  induction N with
  | zero => intro v2 D; exact zO_none
  | succ N hk_102 =>
    intro v2 D
    show zO _ _ _ _ _ _ _ _ _ ((fX12_schemes_102 F o1) (zfix (fun _ _ => none) (fX12_schemes_102 F o1) N) v2 D)
    unfold fX12_schemes_102
    refine zO_iload_n dX12_schemes_102 rfl ?_
    refine zO_sipush dX12_schemes_103 (by decide) ?_
    refine zO_icmp_ge (tgt := 141) dX12_schemes_106 rfl (fun c106 => ?_) (fun c106 => ?_)
    · refine zO_chk (fun h6 => ?_)
      refine zO_aload_n dX12_schemes_109 rfl (zR_P _) ?_
      refine gt12 (k := 31) dX12_schemes_110 wF_X12_75 (by decide) (gk_91 hG) (zgv (c := 12) (k := 31) rfl (Or.inl ⟨_, rfl⟩) (gf_91_31 hG)) ?_
      refine zO_sipush dX12_schemes_113 (by decide) ?_
      refine zO_iload_n dX12_schemes_116 rfl ?_
      refine zO_imul dX12_schemes_117 h6.1 ?_
      refine zO_iload_n dX12_schemes_118 rfl ?_
      refine zO_iadd dX12_schemes_119 h6.2 ?_
      refine zO_iload_n dX12_schemes_120 rfl ?_
      refine zO_sipush dX12_schemes_121 (by decide) ?_
      refine zO_irem dX12_schemes_124 (by decide) ?_
      refine zO_if_ne (tgt := 132) dX12_schemes_125 rfl (fun c125 => ?_) (fun c125 => ?_)
      · refine zO_iconst dX12_schemes_128 (by decide) ?_
        refine zO_goto (tgt := 134) dX12_schemes_129 rfl ?_
        refine zO_live [0, 1, 2] ?_
        exact sX12_schemes_134 hG o1 v2 0 ((7056 * o1) + v2) _ hk_102 D
      · refine zO_ldc (n := 1000000) dX12_schemes_132 wK_X12_185 (by decide) ?_
        refine zO_live [0, 1, 2] ?_
        exact sX12_schemes_134 hG o1 v2 1000000 ((7056 * o1) + v2) _ hk_102 D
    · refine zO_chk (fun h9 => ?_)
      refine zO_iload_n dX12_schemes_141 rfl ?_
      refine zO_iconst dX12_schemes_142 (by decide) ?_
      refine zO_isub dX12_schemes_143 h9 ?_
      refine zO_letI (fun x2_10 ex2_10 => ?_)
      refine zO_istore_n dX12_schemes_144 (by decide) ?_
      refine zO_ls (ls' := [(0, zR 91), (1, zI o1), (2, zI x2_10)]) rfl ?_
      refine zO_live [0, 2] ?_
      exact sX12_schemes_145 hG zfu x2_10 D
set_option maxHeartbeats 20000000 in
theorem sX12_schemes_22 {l : Launch} {E : zE} {d : Nat} {F : zFs} {n sl : Nat} (hG : zG F)     : ∀ (N : Nat) (v1 : Int) (D : zDa), zO l E (d + 89) YX12_schemes 22 [(0, zR 91), (1, zI v1)] [] (F, D, n, sl) (zcV F n sl) (zfix (fun _ _ => none) (fX12_schemes_22 F) N v1 D) := by
  intro N
  induction N with
  | zero => intro v1 D; exact zO_none
  | succ N hk_22 =>
    intro v1 D
    show zO _ _ _ _ _ _ _ _ _ ((fX12_schemes_22 F) (zfix (fun _ _ => none) (fX12_schemes_22 F) N) v1 D)
    unfold fX12_schemes_22
    refine zO_iload_n dX12_schemes_22 rfl ?_
    refine zO_aload_n dX12_schemes_23 rfl (zR_P _) ?_
    refine zO_callV (Y' := YX12_questions) (cw := zcI F n sl) (as := []) (rest := [zI v1]) (na := 0) (ci := 12) rfl dX12_schemes_24 wC_X12_questions wN_X12 wM_X12_146 wI_X12_questions wV_X12_questions (by decide) (by decide) rfl rfl (Nat.le_of_ble_eq_true rfl) rfl (by decide) (gk_91 hG) (fun r hr => zMet_cast (Nat.add_assoc d 88 0) (mX12_questions (d := d + 88) hG  r hr)) ?_
    rintro ⟨r_2, D_3⟩ -
    show zO _ _ _ _ _ _ [zI r_2, zI v1] (F, D_3, n, sl) _ _
    refine zO_icmp_ge (tgt := 95) dX12_schemes_27 rfl (fun c27 => ?_) (fun c27 => ?_)
    · refine zO_iconst dX12_schemes_30 (by decide) ?_
      refine zO_istore_n dX12_schemes_31 (by decide) ?_
      refine zO_ls (ls' := [(0, zR 91), (1, zI v1), (2, zI 0)]) rfl ?_
      refine zO_live [0, 1, 2] ?_
      exact sX12_schemes_32 hG v1 _ hk_22 zfu 0 D_3
    · refine zO_aload_n dX12_schemes_95 rfl (zR_P _) ?_
      refine zO_callV (Y' := YX12_questions) (cw := zcI F n sl) (as := []) (rest := []) (na := 0) (ci := 12) rfl dX12_schemes_96 wC_X12_questions wN_X12 wM_X12_146 wI_X12_questions wV_X12_questions (by decide) (by decide) rfl rfl (Nat.le_of_ble_eq_true rfl) rfl (by decide) (gk_91 hG) (fun r hr => zMet_cast (Nat.add_assoc d 88 0) (mX12_questions (d := d + 88) hG  r hr)) ?_
      rintro ⟨r_7, D_8⟩ -
      show zO _ _ _ _ _ _ [zI r_7] (F, D_8, n, sl) _ _
      refine zO_istore_n dX12_schemes_99 (by decide) ?_
      refine zO_ls (ls' := [(0, zR 91), (1, zI r_7)]) rfl ?_
      refine zO_iconst dX12_schemes_100 (by decide) ?_
      refine zO_istore_n dX12_schemes_101 (by decide) ?_
      refine zO_ls (ls' := [(0, zR 91), (1, zI r_7), (2, zI 0)]) rfl ?_
      refine zO_live [0, 1, 2] ?_
      exact sX12_schemes_102 hG r_7 zfu 0 D_8
set_option maxHeartbeats 20000000 in
theorem mX12_schemes {l : Launch} {E : zE} {d : Nat} {F : zFs} {n sl : Nat} (hG : zG F)  {D : zDa} : ∀ r, fX12_schemes F   D = some r → zMet l E (d + 89) YX12_schemes [zR 91] (F, D, n, sl) (zcV F n sl r) := by
  intro r hr
  refine zMet_of (plainFor_of_name (by decide)) (fun _ h => (nomatch h)) (Nat.le_of_ble_eq_true rfl) ?_
  have hz : zO l E (d + 89) YX12_schemes 0 [(0, zR 91)] [] (F, D, n, sl) (zcV F n sl) (fX12_schemes F   D) := by
    unfold fX12_schemes
    refine zO_aload_n dX12_schemes_0 rfl (zR_P _) ?_
    refine gt12 (k := 35) (v := zI (D 91 35)) dX12_schemes_1 wF_X12_84 (by decide) (gk_91 hG) rfl ?_
    refine zO_aload_n dX12_schemes_4 rfl (zR_P _) ?_
    refine gt12 (k := 1) (v := zI (D 91 1)) dX12_schemes_5 wF_X12_11 (by decide) (gk_91 hG) rfl ?_
    refine zO_icmp_ne (tgt := 12) dX12_schemes_8 rfl (fun c8 => ?_) (fun c8 => ?_)
    · exact zO_ret (rv := none) dX12_schemes_11 rfl trivial rfl
    · refine zO_aload_n dX12_schemes_12 rfl (zR_P _) ?_
      refine zO_aload_n dX12_schemes_13 rfl (zR_P _) ?_
      refine gt12 (k := 1) (v := zI (D 91 1)) dX12_schemes_14 wF_X12_11 (by decide) (gk_91 hG) rfl ?_
      refine ptI12 (k := 35) (z := (D 91 1)) dX12_schemes_17 wF_X12_84 (by decide) rfl (gk_91 hG) rfl ?_
      refine zO_letD (fun D_1 eD_1 => ?_)
      refine zO_iconst dX12_schemes_20 (by decide) ?_
      refine zO_istore_n dX12_schemes_21 (by decide) ?_
      refine zO_ls (ls' := [(0, zR 91), (1, zI 0)]) rfl ?_
      refine zO_live [0, 1] ?_
      exact sX12_schemes_22 hG zfu 0 D_1
  exact hz r hr
theorem dX12_bests_0 : decode cX12_bests 0 = .ok (.aload_n 0, 1) := by decide +kernel
theorem dX12_bests_1 : decode cX12_bests 1 = .ok (.invokevirtual 397, 3) := by decide +kernel
theorem dX12_bests_4 : decode cX12_bests 4 = .ok (.aload_n 0, 1) := by decide +kernel
theorem dX12_bests_5 : decode cX12_bests 5 = .ok (.ldc2_w 344, 3) := by decide +kernel
theorem dX12_bests_8 : decode cX12_bests 8 = .ok (.putfield 400, 3) := by decide +kernel
theorem dX12_bests_11 : decode cX12_bests 11 = .ok (.aload_n 0, 1) := by decide +kernel
theorem dX12_bests_12 : decode cX12_bests 12 = .ok (.ldc 185, 2) := by decide +kernel
theorem dX12_bests_14 : decode cX12_bests 14 = .ok (.putfield 403, 3) := by decide +kernel
theorem dX12_bests_17 : decode cX12_bests 17 = .ok (.iconst 0, 1) := by decide +kernel
theorem dX12_bests_18 : decode cX12_bests 18 = .ok (.istore_n 2, 1) := by decide +kernel
theorem dX12_bests_19 : decode cX12_bests 19 = .ok (.iload_n 2, 1) := by decide +kernel
theorem dX12_bests_20 : decode cX12_bests 20 = .ok (.sipush 441, 3) := by decide +kernel
theorem dX12_bests_23 : decode cX12_bests 23 = .ok (.if_icmp .ge 94, 3) := by decide +kernel
theorem dX12_bests_26 : decode cX12_bests 26 = .ok (.aload_n 0, 1) := by decide +kernel
theorem dX12_bests_27 : decode cX12_bests 27 = .ok (.getfield 75, 3) := by decide +kernel
theorem dX12_bests_30 : decode cX12_bests 30 = .ok (.iload_n 2, 1) := by decide +kernel
theorem dX12_bests_31 : decode cX12_bests 31 = .ok (.iaload, 1) := by decide +kernel
theorem dX12_bests_32 : decode cX12_bests 32 = .ok (.istore_n 3, 1) := by decide +kernel
theorem dX12_bests_33 : decode cX12_bests 33 = .ok (.iload_n 3, 1) := by decide +kernel
theorem dX12_bests_34 : decode cX12_bests 34 = .ok (.iload_n 1, 1) := by decide +kernel
theorem dX12_bests_35 : decode cX12_bests 35 = .ok (.if_icmp .gt 76, 3) := by decide +kernel
theorem dX12_bests_38 : decode cX12_bests 38 = .ok (.iload_n 2, 1) := by decide +kernel
theorem dX12_bests_39 : decode cX12_bests 39 = .ok (.bipush 21, 2) := by decide +kernel
theorem dX12_bests_41 : decode cX12_bests 41 = .ok (.idiv, 1) := by decide +kernel
theorem dX12_bests_42 : decode cX12_bests 42 = .ok (.iload_n 2, 1) := by decide +kernel
theorem dX12_bests_43 : decode cX12_bests 43 = .ok (.bipush 21, 2) := by decide +kernel
theorem dX12_bests_45 : decode cX12_bests 45 = .ok (.irem, 1) := by decide +kernel
theorem dX12_bests_46 : decode cX12_bests 46 = .ok (.iadd, 1) := by decide +kernel
theorem dX12_bests_47 : decode cX12_bests 47 = .ok (.aload_n 0, 1) := by decide +kernel
theorem dX12_bests_48 : decode cX12_bests 48 = .ok (.invokevirtual 362, 3) := by decide +kernel
theorem dX12_bests_51 : decode cX12_bests 51 = .ok (.if_icmp .le 6, 3) := by decide +kernel
theorem dX12_bests_54 : decode cX12_bests 54 = .ok (.goto 57, 3) := by decide +kernel
theorem dX12_bests_57 : decode cX12_bests 57 = .ok (.aload_n 0, 1) := by decide +kernel
theorem dX12_bests_58 : decode cX12_bests 58 = .ok (.getfield 78, 3) := by decide +kernel
theorem dX12_bests_61 : decode cX12_bests 61 = .ok (.iload_n 2, 1) := by decide +kernel
theorem dX12_bests_62 : decode cX12_bests 62 = .ok (.laload, 1) := by decide +kernel
theorem dX12_bests_63 : decode cX12_bests 63 = .ok (.aload_n 0, 1) := by decide +kernel
theorem dX12_bests_64 : decode cX12_bests 64 = .ok (.getfield 400, 3) := by decide +kernel
theorem dX12_bests_67 : decode cX12_bests 67 = .ok (.lcmp, 1) := by decide +kernel
theorem dX12_bests_68 : decode cX12_bests 68 = .ok (.ifCond .lt 43, 3) := by decide +kernel
theorem dX12_bests_71 : decode cX12_bests 71 = .ok (.aload_n 0, 1) := by decide +kernel
theorem dX12_bests_72 : decode cX12_bests 72 = .ok (.getfield 78, 3) := by decide +kernel
theorem dX12_bests_75 : decode cX12_bests 75 = .ok (.iload_n 2, 1) := by decide +kernel
theorem dX12_bests_76 : decode cX12_bests 76 = .ok (.laload, 1) := by decide +kernel
theorem dX12_bests_77 : decode cX12_bests 77 = .ok (.aload_n 0, 1) := by decide +kernel
theorem dX12_bests_78 : decode cX12_bests 78 = .ok (.getfield 400, 3) := by decide +kernel
theorem dX12_bests_81 : decode cX12_bests 81 = .ok (.lcmp, 1) := by decide +kernel
theorem dX12_bests_82 : decode cX12_bests 82 = .ok (.ifCond .ne 14, 3) := by decide +kernel
theorem dX12_bests_85 : decode cX12_bests 85 = .ok (.iload_n 3, 1) := by decide +kernel
theorem dX12_bests_86 : decode cX12_bests 86 = .ok (.aload_n 0, 1) := by decide +kernel
theorem dX12_bests_87 : decode cX12_bests 87 = .ok (.getfield 403, 3) := by decide +kernel
theorem dX12_bests_90 : decode cX12_bests 90 = .ok (.if_icmp .lt 6, 3) := by decide +kernel
theorem dX12_bests_93 : decode cX12_bests 93 = .ok (.goto 18, 3) := by decide +kernel
theorem dX12_bests_96 : decode cX12_bests 96 = .ok (.aload_n 0, 1) := by decide +kernel
theorem dX12_bests_97 : decode cX12_bests 97 = .ok (.aload_n 0, 1) := by decide +kernel
theorem dX12_bests_98 : decode cX12_bests 98 = .ok (.getfield 78, 3) := by decide +kernel
theorem dX12_bests_101 : decode cX12_bests 101 = .ok (.iload_n 2, 1) := by decide +kernel
theorem dX12_bests_102 : decode cX12_bests 102 = .ok (.laload, 1) := by decide +kernel
theorem dX12_bests_103 : decode cX12_bests 103 = .ok (.putfield 400, 3) := by decide +kernel
theorem dX12_bests_106 : decode cX12_bests 106 = .ok (.aload_n 0, 1) := by decide +kernel
theorem dX12_bests_107 : decode cX12_bests 107 = .ok (.iload_n 3, 1) := by decide +kernel
theorem dX12_bests_108 : decode cX12_bests 108 = .ok (.putfield 403, 3) := by decide +kernel
theorem dX12_bests_111 : decode cX12_bests 111 = .ok (.iinc 2 1, 3) := by decide +kernel
theorem dX12_bests_114 : decode cX12_bests 114 = .ok (.goto (-95), 3) := by decide +kernel
theorem dX12_bests_117 : decode cX12_bests 117 = .ok (.return_, 1) := by decide +kernel
abbrev YX12_bests : zY := (yX12_bests, cX12_bests, 4, none, [])
def fX12_bests_111 (F : zFs) (k_19 : Int → zDa → Option zDa) (o1 : Int) (v2 : Int) (D : zDa) : Option zDa :=
  if (-2147483648 ≤ v2 + 1 ∧ v2 + 1 ≤ 2147483647) then
    k_19 (v2 + 1) D
  else none
def fX12_bests_96 (F : zFs) (k_19 : Int → zDa → Option zDa) (o1 : Int) (v2 : Int) (v3 : Int) (D : zDa) : Option zDa :=
  if (0 ≤ v2 ∧ v2 < 441) then
    zlet (zwr D 91 36 (D 110 v2.toNat)) (fun D_8 =>
      zlet (zwr D_8 91 37 v3) (fun D_9 =>
        fX12_bests_111 F k_19 o1 v2 D_9))
  else none
def fX12_bests_19 (F : zFs) (o1 : Int)  (k_19 : Int → zDa → Option zDa) (v2 : Int) (D : zDa) : Option zDa :=
  if v2 < 441 then
    if (0 ≤ v2 ∧ v2 < 148176) then
      zlet ((D 109 v2.toNat)) (fun x3_5 =>
        if o1 < x3_5 then
          fX12_bests_111 F k_19 o1 v2 D
        else
          if (-2147483648 ≤ (Int.tdiv v2 21) + (Int.tmod v2 21) ∧ (Int.tdiv v2 21) + (Int.tmod v2 21) ≤ 2147483647) then
            (fX12_bowl F D).bind (fun (r_6, D_7) =>
              if r_6 < ((Int.tdiv v2 21) + (Int.tmod v2 21)) then
                fX12_bests_111 F k_19 o1 v2 D_7
              else
                if (0 ≤ v2 ∧ v2 < 441) then
                  if (D_7 110 v2.toNat) < (D_7 91 36) then
                    fX12_bests_111 F k_19 o1 v2 D_7
                  else
                    if (D_7 110 v2.toNat) = (D_7 91 36) then
                      if x3_5 < (D_7 91 37) then
                        fX12_bests_96 F k_19 o1 v2 x3_5 D_7
                      else
                        fX12_bests_111 F k_19 o1 v2 D_7
                    else
                      fX12_bests_96 F k_19 o1 v2 x3_5 D_7
                else none)
          else none)
    else none
  else
    some D
def fX12_bests (F : zFs) (v1 : Int) (D : zDa) : Option zDa :=
  (fX12_schemes F D).bind (fun D_2 =>
    zlet (zwr D_2 91 36 (-1)) (fun D_3 =>
      zlet (zwr D_3 91 37 1000000) (fun D_4 =>
        zfix (fun _ _ => none) (fX12_bests_19 F v1) zfu 0 D_4)))
set_option maxHeartbeats 20000000 in
theorem sX12_bests_111 {l : Launch} {E : zE} {d : Nat} {F : zFs} {n sl : Nat} (hG : zG F)  (o1 : Int) (v2 : Int) (k_19 : Int → zDa → Option zDa) (hk_19 : ∀ (u2 : Int) (D : zDa), zO l E (d + 90) YX12_bests 19 [(0, zR 91), (1, zI o1), (2, zI u2)] [] (F, D, n, sl) (zcV F n sl) (k_19 u2 D)) (D : zDa) : zO l E (d + 90) YX12_bests 111 [(0, zR 91), (1, zI o1), (2, zI v2)] [] (F, D, n, sl) (zcV F n sl) (fX12_bests_111 F k_19 o1 v2 D) := by
  unfold fX12_bests_111
  refine zO_chk (fun h2 => ?_)
  refine zO_iinc dX12_bests_111 rfl h2 (by decide) ?_
  refine zO_ls (ls' := [(0, zR 91), (1, zI o1), (2, zI (v2 + 1))]) rfl ?_
  refine zO_goto (tgt := 19) dX12_bests_114 rfl ?_
  refine zO_live [0, 1, 2] ?_
  exact hk_19 (v2 + 1) D
set_option maxHeartbeats 20000000 in
theorem sX12_bests_96 {l : Launch} {E : zE} {d : Nat} {F : zFs} {n sl : Nat} (hG : zG F)  (o1 : Int) (v2 : Int) (v3 : Int) (k_19 : Int → zDa → Option zDa) (hk_19 : ∀ (u2 : Int) (D : zDa), zO l E (d + 90) YX12_bests 19 [(0, zR 91), (1, zI o1), (2, zI u2)] [] (F, D, n, sl) (zcV F n sl) (k_19 u2 D)) (D : zDa) : zO l E (d + 90) YX12_bests 96 [(0, zR 91), (1, zI o1), (2, zI v2), (3, zI v3)] [] (F, D, n, sl) (zcV F n sl) (fX12_bests_96 F k_19 o1 v2 v3 D) := by
  unfold fX12_bests_96
  refine zO_chk (fun h5 => ?_)
  refine zO_aload_n dX12_bests_96 rfl (zR_P _) ?_
  refine zO_aload_n dX12_bests_97 rfl (zR_P _) ?_
  refine gt12 (k := 32) dX12_bests_98 wF_X12_78 (by decide) (gk_91 hG) (zgv (c := 12) (k := 32) rfl (Or.inl ⟨_, rfl⟩) (gf_91_32 hG)) ?_
  refine zO_iload_n dX12_bests_101 rfl ?_
  refine zO_lald dX12_bests_102 (gk_110 hG) (gl_in (gl_110 hG) h5) ?_
  refine ptJ12 (k := 36) (z := (D 110 v2.toNat)) dX12_bests_103 wF_X12_400 (by decide) rfl (gk_91 hG) rfl ?_
  refine zO_letD (fun D_8 eD_8 => ?_)
  refine zO_aload_n dX12_bests_106 rfl (zR_P _) ?_
  refine zO_iload_n dX12_bests_107 rfl ?_
  refine ptI12 (k := 37) (z := v3) dX12_bests_108 wF_X12_403 (by decide) rfl (gk_91 hG) rfl ?_
  refine zO_letD (fun D_9 eD_9 => ?_)
  refine zO_live [0, 1, 2] ?_
  exact sX12_bests_111 hG o1 v2 _ hk_19 D_9
set_option maxHeartbeats 20000000 in
theorem sX12_bests_19 {l : Launch} {E : zE} {d : Nat} {F : zFs} {n sl : Nat} (hG : zG F)  (o1 : Int)   : ∀ (N : Nat) (v2 : Int) (D : zDa), zO l E (d + 90) YX12_bests 19 [(0, zR 91), (1, zI o1), (2, zI v2)] [] (F, D, n, sl) (zcV F n sl) (zfix (fun _ _ => none) (fX12_bests_19 F o1) N v2 D) := by
  intro N
  induction N with
  | zero => intro v2 D; exact zO_none
  | succ N hk_19 =>
    intro v2 D
    show zO _ _ _ _ _ _ _ _ _ ((fX12_bests_19 F o1) (zfix (fun _ _ => none) (fX12_bests_19 F o1) N) v2 D)
    unfold fX12_bests_19
    refine zO_iload_n dX12_bests_19 rfl ?_
    refine zO_sipush dX12_bests_20 (by decide) ?_
    refine zO_icmp_ge (tgt := 117) dX12_bests_23 rfl (fun c23 => ?_) (fun c23 => ?_)
    · refine zO_chk (fun h1 => ?_)
      refine zO_aload_n dX12_bests_26 rfl (zR_P _) ?_
      refine gt12 (k := 31) dX12_bests_27 wF_X12_75 (by decide) (gk_91 hG) (zgv (c := 12) (k := 31) rfl (Or.inl ⟨_, rfl⟩) (gf_91_31 hG)) ?_
      refine zO_iload_n dX12_bests_30 rfl ?_
      refine zO_iald dX12_bests_31 (gk_109 hG) (gl_in (gl_109 hG) h1) ?_
      refine zO_letI (fun x3_5 ex3_5 => ?_)
      refine zO_istore_n dX12_bests_32 (by decide) ?_
      refine zO_ls (ls' := [(0, zR 91), (1, zI o1), (2, zI v2), (3, zI x3_5)]) rfl ?_
      refine zO_iload_n dX12_bests_33 rfl ?_
      refine zO_iload_n dX12_bests_34 rfl ?_
      refine zO_icmp_gt (tgt := 111) dX12_bests_35 rfl (fun c35 => ?_) (fun c35 => ?_)
      · refine zO_live [0, 1, 2] ?_
        exact sX12_bests_111 hG o1 v2 _ hk_19 D
      · refine zO_chk (fun h3 => ?_)
        refine zO_iload_n dX12_bests_38 rfl ?_
        refine zO_bipush dX12_bests_39 (by decide) ?_
        refine zO_idiv dX12_bests_41 (by decide) (fun q => absurd q.2 (by decide)) ?_
        refine zO_iload_n dX12_bests_42 rfl ?_
        refine zO_bipush dX12_bests_43 (by decide) ?_
        refine zO_irem dX12_bests_45 (by decide) ?_
        refine zO_iadd dX12_bests_46 h3 ?_
        refine zO_aload_n dX12_bests_47 rfl (zR_P _) ?_
        refine zO_callV (Y' := YX12_bowl) (cw := zcI F n sl) (as := []) (rest := [zI ((Int.tdiv v2 21) + (Int.tmod v2 21))]) (na := 0) (ci := 12) rfl dX12_bests_48 wC_X12_bowl wN_X12 wM_X12_362 wI_X12_bowl wV_X12_bowl (by decide) (by decide) rfl rfl (Nat.le_of_ble_eq_true rfl) rfl (by decide) (gk_91 hG) (fun r hr => zMet_cast (Nat.add_assoc d 87 2) (mX12_bowl (d := d + 87) hG  r hr)) ?_
        rintro ⟨r_6, D_7⟩ -
        show zO _ _ _ _ _ _ [zI r_6, zI ((Int.tdiv v2 21) + (Int.tmod v2 21))] (F, D_7, n, sl) _ _
        refine zO_icmp_le (tgt := 57) dX12_bests_51 rfl (fun c51 => ?_) (fun c51 => ?_)
        · refine zO_goto (tgt := 111) dX12_bests_54 rfl ?_
          refine zO_live [0, 1, 2] ?_
          exact sX12_bests_111 hG o1 v2 _ hk_19 D_7
        · refine zO_chk (fun h4 => ?_)
          refine zO_aload_n dX12_bests_57 rfl (zR_P _) ?_
          refine gt12 (k := 32) dX12_bests_58 wF_X12_78 (by decide) (gk_91 hG) (zgv (c := 12) (k := 32) rfl (Or.inl ⟨_, rfl⟩) (gf_91_32 hG)) ?_
          refine zO_iload_n dX12_bests_61 rfl ?_
          refine zO_lald dX12_bests_62 (gk_110 hG) (gl_in (gl_110 hG) h4) ?_
          refine zO_aload_n dX12_bests_63 rfl (zR_P _) ?_
          refine gt12 (k := 36) (v := zL (D_7 91 36)) dX12_bests_64 wF_X12_400 (by decide) (gk_91 hG) rfl ?_
          refine zO_lif_lt (tgt := 111) dX12_bests_67 dX12_bests_68 rfl (fun c67 => ?_) (fun c67 => ?_)
          · refine zO_live [0, 1, 2] ?_
            exact sX12_bests_111 hG o1 v2 _ hk_19 D_7
          · refine zO_aload_n dX12_bests_71 rfl (zR_P _) ?_
            refine gt12 (k := 32) dX12_bests_72 wF_X12_78 (by decide) (gk_91 hG) (zgv (c := 12) (k := 32) rfl (Or.inl ⟨_, rfl⟩) (gf_91_32 hG)) ?_
            refine zO_iload_n dX12_bests_75 rfl ?_
            refine zO_lald dX12_bests_76 (gk_110 hG) (gl_in (gl_110 hG) h4) ?_
            refine zO_aload_n dX12_bests_77 rfl (zR_P _) ?_
            refine gt12 (k := 36) (v := zL (D_7 91 36)) dX12_bests_78 wF_X12_400 (by decide) (gk_91 hG) rfl ?_
            refine zO_lif_ne (tgt := 96) dX12_bests_81 dX12_bests_82 rfl (fun c81 => ?_) (fun c81 => ?_)
            · refine zO_iload_n dX12_bests_85 rfl ?_
              refine zO_aload_n dX12_bests_86 rfl (zR_P _) ?_
              refine gt12 (k := 37) (v := zI (D_7 91 37)) dX12_bests_87 wF_X12_403 (by decide) (gk_91 hG) rfl ?_
              refine zO_icmp_lt (tgt := 96) dX12_bests_90 rfl (fun c90 => ?_) (fun c90 => ?_)
              · refine zO_live [0, 1, 2, 3] ?_
                exact sX12_bests_96 hG o1 v2 x3_5 _ hk_19 D_7
              · refine zO_goto (tgt := 111) dX12_bests_93 rfl ?_
                refine zO_live [0, 1, 2] ?_
                exact sX12_bests_111 hG o1 v2 _ hk_19 D_7
            · refine zO_live [0, 1, 2, 3] ?_
              exact sX12_bests_96 hG o1 v2 x3_5 _ hk_19 D_7
    · exact zO_ret (rv := none) dX12_bests_117 rfl trivial rfl
set_option maxHeartbeats 20000000 in
theorem mX12_bests {l : Launch} {E : zE} {d : Nat} {F : zFs} {n sl : Nat} (hG : zG F) (v1 : Int) {D : zDa} : ∀ r, fX12_bests F  v1 D = some r → zMet l E (d + 90) YX12_bests [zR 91, zI v1] (F, D, n, sl) (zcV F n sl r) := by
  intro r hr
  refine zMet_of (plainFor_of_name (by decide)) (fun _ h => (nomatch h)) (Nat.le_of_ble_eq_true rfl) ?_
  have hz : zO l E (d + 90) YX12_bests 0 [(0, zR 91), (1, zI v1)] [] (F, D, n, sl) (zcV F n sl) (fX12_bests F  v1 D) := by
    unfold fX12_bests
    refine zO_aload_n dX12_bests_0 rfl (zR_P _) ?_
    refine zO_callV (Y' := YX12_schemes) (cw := zcV F n sl) (as := []) (rest := []) (na := 0) (ci := 12) rfl dX12_bests_1 wC_X12_schemes wN_X12 wM_X12_397 wI_X12_schemes wV_X12_schemes (by decide) (by decide) rfl rfl (Nat.le_of_ble_eq_true rfl) rfl (by decide) (gk_91 hG) (fun r hr => zMet_cast (Nat.add_assoc d 0 89) (mX12_schemes (d := d + 0) hG  r hr)) ?_
    intro D_2 _
    show zO _ _ _ _ _ _ [] (F, D_2, n, sl) _ _
    refine zO_aload_n dX12_bests_4 rfl (zR_P _) ?_
    refine zO_ldc2 (n := -1) dX12_bests_5 wK_X12_344 (by decide) ?_
    refine ptJ12 (k := 36) (z := (-1)) dX12_bests_8 wF_X12_400 (by decide) rfl (gk_91 hG) rfl ?_
    refine zO_letD (fun D_3 eD_3 => ?_)
    refine zO_aload_n dX12_bests_11 rfl (zR_P _) ?_
    refine zO_ldc (n := 1000000) dX12_bests_12 wK_X12_185 (by decide) ?_
    refine ptI12 (k := 37) (z := 1000000) dX12_bests_14 wF_X12_403 (by decide) rfl (gk_91 hG) rfl ?_
    refine zO_letD (fun D_4 eD_4 => ?_)
    refine zO_iconst dX12_bests_17 (by decide) ?_
    refine zO_istore_n dX12_bests_18 (by decide) ?_
    refine zO_ls (ls' := [(0, zR 91), (1, zI v1), (2, zI 0)]) rfl ?_
    refine zO_live [0, 1, 2] ?_
    exact sX12_bests_19 hG v1 zfu 0 D_4
  exact hz r hr
theorem dX12_best_0 : decode cX12_best 0 = .ok (.iload_n 1, 1) := by decide +kernel
theorem dX12_best_1 : decode cX12_best 1 = .ok (.iconst 0, 1) := by decide +kernel
theorem dX12_best_2 : decode cX12_best 2 = .ok (.sipush 400, 3) := by decide +kernel
theorem dX12_best_5 : decode cX12_best 5 = .ok (.invokestatic 135, 3) := by decide +kernel
theorem dX12_best_8 : decode cX12_best 8 = .ok (.ifCond .eq 12, 3) := by decide +kernel
theorem dX12_best_11 : decode cX12_best 11 = .ok (.iload_n 2, 1) := by decide +kernel
theorem dX12_best_12 : decode cX12_best 12 = .ok (.iconst 0, 1) := by decide +kernel
theorem dX12_best_13 : decode cX12_best 13 = .ok (.iconst 2, 1) := by decide +kernel
theorem dX12_best_14 : decode cX12_best 14 = .ok (.invokestatic 135, 3) := by decide +kernel
theorem dX12_best_17 : decode cX12_best 17 = .ok (.ifCond .ne 7, 3) := by decide +kernel
theorem dX12_best_20 : decode cX12_best 20 = .ok (.ldc2_w 344, 3) := by decide +kernel
theorem dX12_best_23 : decode cX12_best 23 = .ok (.lreturn, 1) := by decide +kernel
theorem dX12_best_24 : decode cX12_best 24 = .ok (.aload_n 0, 1) := by decide +kernel
theorem dX12_best_25 : decode cX12_best 25 = .ok (.iload_n 1, 1) := by decide +kernel
theorem dX12_best_26 : decode cX12_best 26 = .ok (.invokevirtual 406, 3) := by decide +kernel
theorem dX12_best_29 : decode cX12_best 29 = .ok (.iload_n 2, 1) := by decide +kernel
theorem dX12_best_30 : decode cX12_best 30 = .ok (.iconst 2, 1) := by decide +kernel
theorem dX12_best_31 : decode cX12_best 31 = .ok (.if_icmp .ne 11, 3) := by decide +kernel
theorem dX12_best_34 : decode cX12_best 34 = .ok (.aload_n 0, 1) := by decide +kernel
theorem dX12_best_35 : decode cX12_best 35 = .ok (.getfield 403, 3) := by decide +kernel
theorem dX12_best_38 : decode cX12_best 38 = .ok (.i2l, 1) := by decide +kernel
theorem dX12_best_39 : decode cX12_best 39 = .ok (.goto 15, 3) := by decide +kernel
theorem dX12_best_42 : decode cX12_best 42 = .ok (.aload_n 0, 1) := by decide +kernel
theorem dX12_best_43 : decode cX12_best 43 = .ok (.getfield 400, 3) := by decide +kernel
theorem dX12_best_46 : decode cX12_best 46 = .ok (.aload_n 0, 1) := by decide +kernel
theorem dX12_best_47 : decode cX12_best 47 = .ok (.getfield 381, 3) := by decide +kernel
theorem dX12_best_50 : decode cX12_best 50 = .ok (.iload_n 2, 1) := by decide +kernel
theorem dX12_best_51 : decode cX12_best 51 = .ok (.invokestatic 354, 3) := by decide +kernel
theorem dX12_best_54 : decode cX12_best 54 = .ok (.lreturn, 1) := by decide +kernel
abbrev YX12_best : zY := (yX12_best, cX12_best, 3, (Option.some Jvm.ClassFile.FieldType.long), [])
def fX12_best (F : zFs) (v1 : Int) (v2 : Int) (D : zDa) : Option (Int × zDa) :=
  (fX12_lies F v1 0 400 D).bind (fun (r_1, D_2) =>
    if r_1 = 0 then
      some ((-1), D_2)
    else
      (fX12_lies F v2 0 2 D_2).bind (fun (r_3, D_4) =>
        if r_3 = 0 then
          some ((-1), D_4)
        else
          (fX12_bests F v1 D_4).bind (fun D_6 =>
            if v2 = 2 then
              some ((D_6 91 37), D_6)
            else
              (fX12_reduced F (D_6 91 36) (D_6 91 34) v2 D_6).bind (fun (r_7, D_8) =>
                some (r_7, D_8)))))
set_option maxHeartbeats 20000000 in
theorem mX12_best {l : Launch} {E : zE} {d : Nat} {F : zFs} {n sl : Nat} (hG : zG F) (v1 : Int) (v2 : Int) {D : zDa} : ∀ r, fX12_best F  v1 v2 D = some r → zMet l E (d + 91) YX12_best [zR 91, zI v1, zI v2] (F, D, n, sl) (zcJ F n sl r) := by
  intro r hr
  refine zMet_of (plainFor_of_name (by decide)) (fun _ h => (nomatch h)) (Nat.le_of_ble_eq_true rfl) ?_
  have hz : zO l E (d + 91) YX12_best 0 [(0, zR 91), (1, zI v1), (2, zI v2)] [] (F, D, n, sl) (zcJ F n sl) (fX12_best F  v1 v2 D) := by
    unfold fX12_best
    refine zO_iload_n dX12_best_0 rfl ?_
    refine zO_iconst dX12_best_1 (by decide) ?_
    refine zO_sipush dX12_best_2 (by decide) ?_
    refine zO_callS (Y' := YX12_lies) (cw := zcI F n sl) (as := [zI v1, zI 0, zI 400]) (rest := []) (na := 3) dX12_best_5 wC_X12_lies wN_X12 wM_X12_135 wS_X12_lies (by decide) (by decide) rfl rfl (Nat.le_of_ble_eq_true rfl) (fun r hr => zMet_cast (Nat.add_assoc d 90 0) (mX12_lies (d := d + 90) hG v1 0 400 r hr)) ?_
    rintro ⟨r_1, D_2⟩ -
    show zO _ _ _ _ _ _ [zI r_1] (F, D_2, n, sl) _ _
    refine zO_if_eq (tgt := 20) dX12_best_8 rfl (fun c8 => ?_) (fun c8 => ?_)
    · refine zO_ldc2 (n := -1) dX12_best_20 wK_X12_344 (by decide) ?_
      exact zO_ret (rv := some (zL (-1))) dX12_best_23 rfl trivial rfl
    · refine zO_iload_n dX12_best_11 rfl ?_
      refine zO_iconst dX12_best_12 (by decide) ?_
      refine zO_iconst dX12_best_13 (by decide) ?_
      refine zO_callS (Y' := YX12_lies) (cw := zcI F n sl) (as := [zI v2, zI 0, zI 2]) (rest := []) (na := 3) dX12_best_14 wC_X12_lies wN_X12 wM_X12_135 wS_X12_lies (by decide) (by decide) rfl rfl (Nat.le_of_ble_eq_true rfl) (fun r hr => zMet_cast (Nat.add_assoc d 90 0) (mX12_lies (d := d + 90) hG v2 0 2 r hr)) ?_
      rintro ⟨r_3, D_4⟩ -
      show zO _ _ _ _ _ _ [zI r_3] (F, D_4, n, sl) _ _
      refine zO_if_ne (tgt := 24) dX12_best_17 rfl (fun c17 => ?_) (fun c17 => ?_)
      · refine zO_ldc2 (n := -1) dX12_best_20 wK_X12_344 (by decide) ?_
        exact zO_ret (rv := some (zL (-1))) dX12_best_23 rfl trivial rfl
      · refine zO_aload_n dX12_best_24 rfl (zR_P _) ?_
        refine zO_iload_n dX12_best_25 rfl ?_
        refine zO_callV (Y' := YX12_bests) (cw := zcV F n sl) (as := [zI v1]) (rest := []) (na := 1) (ci := 12) rfl dX12_best_26 wC_X12_bests wN_X12 wM_X12_406 wI_X12_bests wV_X12_bests (by decide) (by decide) rfl rfl (Nat.le_of_ble_eq_true rfl) rfl (by decide) (gk_91 hG) (fun r hr => zMet_cast (Nat.add_assoc d 0 90) (mX12_bests (d := d + 0) hG v1 r hr)) ?_
        intro D_6 _
        show zO _ _ _ _ _ _ [] (F, D_6, n, sl) _ _
        refine zO_iload_n dX12_best_29 rfl ?_
        refine zO_iconst dX12_best_30 (by decide) ?_
        refine zO_icmp_ne (tgt := 42) dX12_best_31 rfl (fun c31 => ?_) (fun c31 => ?_)
        · refine zO_aload_n dX12_best_34 rfl (zR_P _) ?_
          refine gt12 (k := 37) (v := zI (D_6 91 37)) dX12_best_35 wF_X12_403 (by decide) (gk_91 hG) rfl ?_
          refine zO_i2l dX12_best_38 ?_
          refine zO_goto (tgt := 54) dX12_best_39 rfl ?_
          exact zO_ret (rv := some (zL (D_6 91 37))) dX12_best_54 rfl trivial rfl
        · refine zO_aload_n dX12_best_42 rfl (zR_P _) ?_
          refine gt12 (k := 36) (v := zL (D_6 91 36)) dX12_best_43 wF_X12_400 (by decide) (gk_91 hG) rfl ?_
          refine zO_aload_n dX12_best_46 rfl (zR_P _) ?_
          refine gt12 (k := 34) (v := zL (D_6 91 34)) dX12_best_47 wF_X12_381 (by decide) (gk_91 hG) rfl ?_
          refine zO_iload_n dX12_best_50 rfl ?_
          refine zO_callS (Y' := YX12_reduced) (cw := zcJ F n sl) (as := [zL (D_6 91 36), zL (D_6 91 34), zI v2]) (rest := []) (na := 3) dX12_best_51 wC_X12_reduced wN_X12 wM_X12_354 wS_X12_reduced (by decide) (by decide) rfl rfl (Nat.le_of_ble_eq_true rfl) (fun r hr => zMet_cast (Nat.add_assoc d 89 1) (mX12_reduced (d := d + 89) hG (D_6 91 36) (D_6 91 34) v2 r hr)) ?_
          rintro ⟨r_7, D_8⟩ -
          show zO _ _ _ _ _ _ [zL r_7] (F, D_8, n, sl) _ _
          exact zO_ret (rv := some (zL r_7)) dX12_best_54 rfl trivial rfl
  exact hz r hr
theorem dX12_canBe_0 : decode cX12_canBe 0 = .ok (.iconst 0, 1) := by decide +kernel
theorem dX12_canBe_1 : decode cX12_canBe 1 = .ok (.istore 6, 2) := by decide +kernel
theorem dX12_canBe_3 : decode cX12_canBe 3 = .ok (.iload 6, 2) := by decide +kernel
theorem dX12_canBe_5 : decode cX12_canBe 5 = .ok (.sipush 441, 3) := by decide +kernel
theorem dX12_canBe_8 : decode cX12_canBe 8 = .ok (.if_icmp .ge 92, 3) := by decide +kernel
theorem dX12_canBe_11 : decode cX12_canBe 11 = .ok (.iload 6, 2) := by decide +kernel
theorem dX12_canBe_13 : decode cX12_canBe 13 = .ok (.bipush 21, 2) := by decide +kernel
theorem dX12_canBe_15 : decode cX12_canBe 15 = .ok (.idiv, 1) := by decide +kernel
theorem dX12_canBe_16 : decode cX12_canBe 16 = .ok (.iload_n 3, 1) := by decide +kernel
theorem dX12_canBe_17 : decode cX12_canBe 17 = .ok (.isub, 1) := by decide +kernel
theorem dX12_canBe_18 : decode cX12_canBe 18 = .ok (.istore 7, 2) := by decide +kernel
theorem dX12_canBe_20 : decode cX12_canBe 20 = .ok (.iload 6, 2) := by decide +kernel
theorem dX12_canBe_22 : decode cX12_canBe 22 = .ok (.bipush 21, 2) := by decide +kernel
theorem dX12_canBe_24 : decode cX12_canBe 24 = .ok (.irem, 1) := by decide +kernel
theorem dX12_canBe_25 : decode cX12_canBe 25 = .ok (.iload 4, 2) := by decide +kernel
theorem dX12_canBe_27 : decode cX12_canBe 27 = .ok (.isub, 1) := by decide +kernel
theorem dX12_canBe_28 : decode cX12_canBe 28 = .ok (.istore 8, 2) := by decide +kernel
theorem dX12_canBe_30 : decode cX12_canBe 30 = .ok (.iload 7, 2) := by decide +kernel
theorem dX12_canBe_32 : decode cX12_canBe 32 = .ok (.ifCond .lt 62, 3) := by decide +kernel
theorem dX12_canBe_35 : decode cX12_canBe 35 = .ok (.iload 8, 2) := by decide +kernel
theorem dX12_canBe_37 : decode cX12_canBe 37 = .ok (.ifCond .lt 57, 3) := by decide +kernel
theorem dX12_canBe_40 : decode cX12_canBe 40 = .ok (.iload 6, 2) := by decide +kernel
theorem dX12_canBe_42 : decode cX12_canBe 42 = .ok (.bipush 21, 2) := by decide +kernel
theorem dX12_canBe_44 : decode cX12_canBe 44 = .ok (.idiv, 1) := by decide +kernel
theorem dX12_canBe_45 : decode cX12_canBe 45 = .ok (.iload 6, 2) := by decide +kernel
theorem dX12_canBe_47 : decode cX12_canBe 47 = .ok (.bipush 21, 2) := by decide +kernel
theorem dX12_canBe_49 : decode cX12_canBe 49 = .ok (.irem, 1) := by decide +kernel
theorem dX12_canBe_50 : decode cX12_canBe 50 = .ok (.iadd, 1) := by decide +kernel
theorem dX12_canBe_51 : decode cX12_canBe 51 = .ok (.aload_n 0, 1) := by decide +kernel
theorem dX12_canBe_52 : decode cX12_canBe 52 = .ok (.invokevirtual 362, 3) := by decide +kernel
theorem dX12_canBe_55 : decode cX12_canBe 55 = .ok (.if_icmp .gt 39, 3) := by decide +kernel
theorem dX12_canBe_58 : decode cX12_canBe 58 = .ok (.aload_n 0, 1) := by decide +kernel
theorem dX12_canBe_59 : decode cX12_canBe 59 = .ok (.getfield 78, 3) := by decide +kernel
theorem dX12_canBe_62 : decode cX12_canBe 62 = .ok (.iload 6, 2) := by decide +kernel
theorem dX12_canBe_64 : decode cX12_canBe 64 = .ok (.laload, 1) := by decide +kernel
theorem dX12_canBe_65 : decode cX12_canBe 65 = .ok (.aload_n 0, 1) := by decide +kernel
theorem dX12_canBe_66 : decode cX12_canBe 66 = .ok (.getfield 400, 3) := by decide +kernel
theorem dX12_canBe_69 : decode cX12_canBe 69 = .ok (.lcmp, 1) := by decide +kernel
theorem dX12_canBe_70 : decode cX12_canBe 70 = .ok (.ifCond .ne 24, 3) := by decide +kernel
theorem dX12_canBe_73 : decode cX12_canBe 73 = .ok (.aload_n 0, 1) := by decide +kernel
theorem dX12_canBe_74 : decode cX12_canBe 74 = .ok (.getfield 75, 3) := by decide +kernel
theorem dX12_canBe_77 : decode cX12_canBe 77 = .ok (.iload_n 1, 1) := by decide +kernel
theorem dX12_canBe_78 : decode cX12_canBe 78 = .ok (.iload_n 2, 1) := by decide +kernel
theorem dX12_canBe_79 : decode cX12_canBe 79 = .ok (.iload 7, 2) := by decide +kernel
theorem dX12_canBe_81 : decode cX12_canBe 81 = .ok (.iload 8, 2) := by decide +kernel
theorem dX12_canBe_83 : decode cX12_canBe 83 = .ok (.invokestatic 375, 3) := by decide +kernel
theorem dX12_canBe_86 : decode cX12_canBe 86 = .ok (.iaload, 1) := by decide +kernel
theorem dX12_canBe_87 : decode cX12_canBe 87 = .ok (.iload 5, 2) := by decide +kernel
theorem dX12_canBe_89 : decode cX12_canBe 89 = .ok (.if_icmp .ne 5, 3) := by decide +kernel
theorem dX12_canBe_92 : decode cX12_canBe 92 = .ok (.iconst 1, 1) := by decide +kernel
theorem dX12_canBe_93 : decode cX12_canBe 93 = .ok (.ireturn, 1) := by decide +kernel
theorem dX12_canBe_94 : decode cX12_canBe 94 = .ok (.iinc 6 1, 3) := by decide +kernel
theorem dX12_canBe_97 : decode cX12_canBe 97 = .ok (.goto (-94), 3) := by decide +kernel
theorem dX12_canBe_100 : decode cX12_canBe 100 = .ok (.iconst 0, 1) := by decide +kernel
theorem dX12_canBe_101 : decode cX12_canBe 101 = .ok (.ireturn, 1) := by decide +kernel
abbrev YX12_canBe : zY := (yX12_canBe, cX12_canBe, 9, (Option.some Jvm.ClassFile.FieldType.boolean), [])
def fX12_canBe_94 (F : zFs) (k_3 : Int → zDa → Option (Int × zDa)) (o1 : Int) (o2 : Int) (o3 : Int) (o4 : Int) (o5 : Int) (v6 : Int) (D : zDa) : Option (Int × zDa) :=
  if (-2147483648 ≤ v6 + 1 ∧ v6 + 1 ≤ 2147483647) then
    k_3 (v6 + 1) D
  else none
def fX12_canBe_3 (F : zFs) (o1 : Int) (o2 : Int) (o3 : Int) (o4 : Int) (o5 : Int)  (k_3 : Int → zDa → Option (Int × zDa)) (v6 : Int) (D : zDa) : Option (Int × zDa) :=
  if v6 < 441 then
    if (-2147483648 ≤ (Int.tdiv v6 21) - o3 ∧ (Int.tdiv v6 21) - o3 ≤ 2147483647) then
      zlet (((Int.tdiv v6 21) - o3)) (fun x7_1 =>
        if (-2147483648 ≤ (Int.tmod v6 21) - o4 ∧ (Int.tmod v6 21) - o4 ≤ 2147483647) then
          zlet (((Int.tmod v6 21) - o4)) (fun x8_2 =>
            if x7_1 < 0 then
              fX12_canBe_94 F k_3 o1 o2 o3 o4 o5 v6 D
            else
              if x8_2 < 0 then
                fX12_canBe_94 F k_3 o1 o2 o3 o4 o5 v6 D
              else
                if (-2147483648 ≤ (Int.tdiv v6 21) + (Int.tmod v6 21) ∧ (Int.tdiv v6 21) + (Int.tmod v6 21) ≤ 2147483647) then
                  (fX12_bowl F D).bind (fun (r_3, D_4) =>
                    if r_3 < ((Int.tdiv v6 21) + (Int.tmod v6 21)) then
                      fX12_canBe_94 F k_3 o1 o2 o3 o4 o5 v6 D_4
                    else
                      if (0 ≤ v6 ∧ v6 < 441) then
                        if (D_4 110 v6.toNat) = (D_4 91 36) then
                          (fX12_cell F o1 o2 x7_1 x8_2 D_4).bind (fun (r_5, D_6) =>
                            if (0 ≤ r_5 ∧ r_5 < 148176) then
                              if (D_6 109 r_5.toNat) = o5 then
                                some (1, D_6)
                              else
                                fX12_canBe_94 F k_3 o1 o2 o3 o4 o5 v6 D_6
                            else none)
                        else
                          fX12_canBe_94 F k_3 o1 o2 o3 o4 o5 v6 D_4
                      else none)
                else none)
        else none)
    else none
  else
    some (0, D)
def fX12_canBe (F : zFs) (v1 : Int) (v2 : Int) (v3 : Int) (v4 : Int) (v5 : Int) (D : zDa) : Option (Int × zDa) :=
  zfix (fun _ _ => none) (fX12_canBe_3 F v1 v2 v3 v4 v5) zfu 0 D
set_option maxHeartbeats 20000000 in
theorem sX12_canBe_94 {l : Launch} {E : zE} {d : Nat} {F : zFs} {n sl : Nat} (hG : zG F)  (o1 : Int) (o2 : Int) (o3 : Int) (o4 : Int) (o5 : Int) (v6 : Int) (k_3 : Int → zDa → Option (Int × zDa)) (hk_3 : ∀ (u6 : Int) (D : zDa), zO l E (d + 3) YX12_canBe 3 [(0, zR 91), (1, zI o1), (2, zI o2), (3, zI o3), (4, zI o4), (5, zI o5), (6, zI u6)] [] (F, D, n, sl) (zcI F n sl) (k_3 u6 D)) (D : zDa) : zO l E (d + 3) YX12_canBe 94 [(0, zR 91), (1, zI o1), (2, zI o2), (3, zI o3), (4, zI o4), (5, zI o5), (6, zI v6)] [] (F, D, n, sl) (zcI F n sl) (fX12_canBe_94 F k_3 o1 o2 o3 o4 o5 v6 D) := by
  unfold fX12_canBe_94
  refine zO_chk (fun h3 => ?_)
  refine zO_iinc dX12_canBe_94 rfl h3 (by decide) ?_
  refine zO_ls (ls' := [(0, zR 91), (1, zI o1), (2, zI o2), (3, zI o3), (4, zI o4), (5, zI o5), (6, zI (v6 + 1))]) rfl ?_
  refine zO_goto (tgt := 3) dX12_canBe_97 rfl ?_
  refine zO_live [0, 1, 2, 3, 4, 5, 6] ?_
  exact hk_3 (v6 + 1) D
set_option maxHeartbeats 20000000 in
theorem sX12_canBe_3 {l : Launch} {E : zE} {d : Nat} {F : zFs} {n sl : Nat} (hG : zG F)  (o1 : Int) (o2 : Int) (o3 : Int) (o4 : Int) (o5 : Int)   : ∀ (N : Nat) (v6 : Int) (D : zDa), zO l E (d + 3) YX12_canBe 3 [(0, zR 91), (1, zI o1), (2, zI o2), (3, zI o3), (4, zI o4), (5, zI o5), (6, zI v6)] [] (F, D, n, sl) (zcI F n sl) (zfix (fun _ _ => none) (fX12_canBe_3 F o1 o2 o3 o4 o5) N v6 D) := by
  intro N
  induction N with
  | zero => intro v6 D; exact zO_none
  | succ N hk_3 =>
    intro v6 D
    show zO _ _ _ _ _ _ _ _ _ ((fX12_canBe_3 F o1 o2 o3 o4 o5) (zfix (fun _ _ => none) (fX12_canBe_3 F o1 o2 o3 o4 o5) N) v6 D)
    unfold fX12_canBe_3
    refine zO_iload dX12_canBe_3 rfl ?_
    refine zO_sipush dX12_canBe_5 (by decide) ?_
    refine zO_icmp_ge (tgt := 100) dX12_canBe_8 rfl (fun c8 => ?_) (fun c8 => ?_)
    · refine zO_chk (fun h1 => ?_)
      refine zO_iload dX12_canBe_11 rfl ?_
      refine zO_bipush dX12_canBe_13 (by decide) ?_
      refine zO_idiv dX12_canBe_15 (by decide) (fun q => absurd q.2 (by decide)) ?_
      refine zO_iload_n dX12_canBe_16 rfl ?_
      refine zO_isub dX12_canBe_17 h1 ?_
      refine zO_letI (fun x7_1 ex7_1 => ?_)
      refine zO_istore dX12_canBe_18 (by decide) ?_
      refine zO_ls (ls' := [(0, zR 91), (1, zI o1), (2, zI o2), (3, zI o3), (4, zI o4), (5, zI o5), (6, zI v6), (7, zI x7_1)]) rfl ?_
      refine zO_chk (fun h2 => ?_)
      refine zO_iload dX12_canBe_20 rfl ?_
      refine zO_bipush dX12_canBe_22 (by decide) ?_
      refine zO_irem dX12_canBe_24 (by decide) ?_
      refine zO_iload dX12_canBe_25 rfl ?_
      refine zO_isub dX12_canBe_27 h2 ?_
      refine zO_letI (fun x8_2 ex8_2 => ?_)
      refine zO_istore dX12_canBe_28 (by decide) ?_
      refine zO_ls (ls' := [(0, zR 91), (1, zI o1), (2, zI o2), (3, zI o3), (4, zI o4), (5, zI o5), (6, zI v6), (7, zI x7_1), (8, zI x8_2)]) rfl ?_
      refine zO_iload dX12_canBe_30 rfl ?_
      refine zO_if_lt (tgt := 94) dX12_canBe_32 rfl (fun c32 => ?_) (fun c32 => ?_)
      · refine zO_live [0, 1, 2, 3, 4, 5, 6] ?_
        exact sX12_canBe_94 hG o1 o2 o3 o4 o5 v6 _ hk_3 D
      · refine zO_iload dX12_canBe_35 rfl ?_
        refine zO_if_lt (tgt := 94) dX12_canBe_37 rfl (fun c37 => ?_) (fun c37 => ?_)
        · refine zO_live [0, 1, 2, 3, 4, 5, 6] ?_
          exact sX12_canBe_94 hG o1 o2 o3 o4 o5 v6 _ hk_3 D
        · refine zO_chk (fun h4 => ?_)
          refine zO_iload dX12_canBe_40 rfl ?_
          refine zO_bipush dX12_canBe_42 (by decide) ?_
          refine zO_idiv dX12_canBe_44 (by decide) (fun q => absurd q.2 (by decide)) ?_
          refine zO_iload dX12_canBe_45 rfl ?_
          refine zO_bipush dX12_canBe_47 (by decide) ?_
          refine zO_irem dX12_canBe_49 (by decide) ?_
          refine zO_iadd dX12_canBe_50 h4 ?_
          refine zO_aload_n dX12_canBe_51 rfl (zR_P _) ?_
          refine zO_callV (Y' := YX12_bowl) (cw := zcI F n sl) (as := []) (rest := [zI ((Int.tdiv v6 21) + (Int.tmod v6 21))]) (na := 0) (ci := 12) rfl dX12_canBe_52 wC_X12_bowl wN_X12 wM_X12_362 wI_X12_bowl wV_X12_bowl (by decide) (by decide) rfl rfl (Nat.le_of_ble_eq_true rfl) rfl (by decide) (gk_91 hG) (fun r hr => zMet_cast (Nat.add_assoc d 0 2) (mX12_bowl (d := d + 0) hG  r hr)) ?_
          rintro ⟨r_3, D_4⟩ -
          show zO _ _ _ _ _ _ [zI r_3, zI ((Int.tdiv v6 21) + (Int.tmod v6 21))] (F, D_4, n, sl) _ _
          refine zO_icmp_gt (tgt := 94) dX12_canBe_55 rfl (fun c55 => ?_) (fun c55 => ?_)
          · refine zO_live [0, 1, 2, 3, 4, 5, 6] ?_
            exact sX12_canBe_94 hG o1 o2 o3 o4 o5 v6 _ hk_3 D_4
          · refine zO_chk (fun h5 => ?_)
            refine zO_aload_n dX12_canBe_58 rfl (zR_P _) ?_
            refine gt12 (k := 32) dX12_canBe_59 wF_X12_78 (by decide) (gk_91 hG) (zgv (c := 12) (k := 32) rfl (Or.inl ⟨_, rfl⟩) (gf_91_32 hG)) ?_
            refine zO_iload dX12_canBe_62 rfl ?_
            refine zO_lald dX12_canBe_64 (gk_110 hG) (gl_in (gl_110 hG) h5) ?_
            refine zO_aload_n dX12_canBe_65 rfl (zR_P _) ?_
            refine gt12 (k := 36) (v := zL (D_4 91 36)) dX12_canBe_66 wF_X12_400 (by decide) (gk_91 hG) rfl ?_
            refine zO_lif_ne (tgt := 94) dX12_canBe_69 dX12_canBe_70 rfl (fun c69 => ?_) (fun c69 => ?_)
            · refine zO_aload_n dX12_canBe_73 rfl (zR_P _) ?_
              refine gt12 (k := 31) dX12_canBe_74 wF_X12_75 (by decide) (gk_91 hG) (zgv (c := 12) (k := 31) rfl (Or.inl ⟨_, rfl⟩) (gf_91_31 hG)) ?_
              refine zO_iload_n dX12_canBe_77 rfl ?_
              refine zO_iload_n dX12_canBe_78 rfl ?_
              refine zO_iload dX12_canBe_79 rfl ?_
              refine zO_iload dX12_canBe_81 rfl ?_
              refine zO_callS (Y' := YX12_cell) (cw := zcI F n sl) (as := [zI o1, zI o2, zI x7_1, zI x8_2]) (rest := [zR 109]) (na := 4) dX12_canBe_83 wC_X12_cell wN_X12 wM_X12_375 wS_X12_cell (by decide) (by decide) rfl rfl (Nat.le_of_ble_eq_true rfl) (fun r hr => zMet_cast (Nat.add_assoc d 2 0) (mX12_cell (d := d + 2) hG o1 o2 x7_1 x8_2 r hr)) ?_
              rintro ⟨r_5, D_6⟩ -
              show zO _ _ _ _ _ _ [zI r_5, zR 109] (F, D_6, n, sl) _ _
              refine zO_chk (fun h6 => ?_)
              refine zO_iald dX12_canBe_86 (gk_109 hG) (gl_in (gl_109 hG) h6) ?_
              refine zO_iload dX12_canBe_87 rfl ?_
              refine zO_icmp_ne (tgt := 94) dX12_canBe_89 rfl (fun c89 => ?_) (fun c89 => ?_)
              · refine zO_iconst dX12_canBe_92 (by decide) ?_
                exact zO_ret (rv := some (zI 1)) dX12_canBe_93 rfl rfl rfl
              · refine zO_live [0, 1, 2, 3, 4, 5, 6] ?_
                exact sX12_canBe_94 hG o1 o2 o3 o4 o5 v6 _ hk_3 D_6
            · refine zO_live [0, 1, 2, 3, 4, 5, 6] ?_
              exact sX12_canBe_94 hG o1 o2 o3 o4 o5 v6 _ hk_3 D_4
    · refine zO_iconst dX12_canBe_100 (by decide) ?_
      exact zO_ret (rv := some (zI 0)) dX12_canBe_101 rfl rfl rfl
set_option maxHeartbeats 20000000 in
theorem mX12_canBe {l : Launch} {E : zE} {d : Nat} {F : zFs} {n sl : Nat} (hG : zG F) (v1 : Int) (v2 : Int) (v3 : Int) (v4 : Int) (v5 : Int) {D : zDa} : ∀ r, fX12_canBe F  v1 v2 v3 v4 v5 D = some r → zMet l E (d + 3) YX12_canBe [zR 91, zI v1, zI v2, zI v3, zI v4, zI v5] (F, D, n, sl) (zcI F n sl r) := by
  intro r hr
  refine zMet_of (plainFor_of_name (by decide)) (fun _ h => (nomatch h)) (Nat.le_of_ble_eq_true rfl) ?_
  have hz : zO l E (d + 3) YX12_canBe 0 [(0, zR 91), (1, zI v1), (2, zI v2), (3, zI v3), (4, zI v4), (5, zI v5)] [] (F, D, n, sl) (zcI F n sl) (fX12_canBe F  v1 v2 v3 v4 v5 D) := by
    unfold fX12_canBe
    refine zO_iconst dX12_canBe_0 (by decide) ?_
    refine zO_istore dX12_canBe_1 (by decide) ?_
    refine zO_ls (ls' := [(0, zR 91), (1, zI v1), (2, zI v2), (3, zI v3), (4, zI v4), (5, zI v5), (6, zI 0)]) rfl ?_
    refine zO_live [0, 1, 2, 3, 4, 5, 6] ?_
    exact sX12_canBe_3 hG v1 v2 v3 v4 v5 zfu 0 D
  exact hz r hr
