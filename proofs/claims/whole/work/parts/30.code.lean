/-! printed by wip/gen/emit_all.py: X11_exams X11_image X11_back X11_count X11_status X12_lies X12_refuses X12_good X12_image X12_back X12_term X12_questions X12_isQuestion X12_factOf X12_isBowl X12_bowl X12_replaces X12_question X12_know X12_of X12_leastOf X12_mostOf X12_terms X12_feed X12_end X12_isSmall X12_isDigit -/
theorem dX11_exams_0 : decode cX11_exams 0 = .ok (.iload_n 1, 1) := by decide +kernel
theorem dX11_exams_1 : decode cX11_exams 1 = .ok (.iconst 1, 1) := by decide +kernel
theorem dX11_exams_2 : decode cX11_exams 2 = .ok (.if_icmp .lt 21, 3) := by decide +kernel
theorem dX11_exams_5 : decode cX11_exams 5 = .ok (.iload_n 1, 1) := by decide +kernel
theorem dX11_exams_6 : decode cX11_exams 6 = .ok (.sipush 500, 3) := by decide +kernel
theorem dX11_exams_9 : decode cX11_exams 9 = .ok (.if_icmp .gt 14, 3) := by decide +kernel
theorem dX11_exams_12 : decode cX11_exams 12 = .ok (.iload_n 2, 1) := by decide +kernel
theorem dX11_exams_13 : decode cX11_exams 13 = .ok (.ifCond .lt 10, 3) := by decide +kernel
theorem dX11_exams_16 : decode cX11_exams 16 = .ok (.iload_n 2, 1) := by decide +kernel
theorem dX11_exams_17 : decode cX11_exams 17 = .ok (.ldc_w 350, 3) := by decide +kernel
theorem dX11_exams_20 : decode cX11_exams 20 = .ok (.if_icmp .le 5, 3) := by decide +kernel
theorem dX11_exams_23 : decode cX11_exams 23 = .ok (.iconst (-1), 1) := by decide +kernel
theorem dX11_exams_24 : decode cX11_exams 24 = .ok (.ireturn, 1) := by decide +kernel
theorem dX11_exams_25 : decode cX11_exams 25 = .ok (.aload_n 0, 1) := by decide +kernel
theorem dX11_exams_26 : decode cX11_exams 26 = .ok (.getfield 108, 3) := by decide +kernel
theorem dX11_exams_29 : decode cX11_exams 29 = .ok (.iload_n 2, 1) := by decide +kernel
theorem dX11_exams_30 : decode cX11_exams 30 = .ok (.invokevirtual 351, 3) := by decide +kernel
theorem dX11_exams_33 : decode cX11_exams 33 = .ok (.iconst 0, 1) := by decide +kernel
theorem dX11_exams_34 : decode cX11_exams 34 = .ok (.istore_n 3, 1) := by decide +kernel
theorem dX11_exams_35 : decode cX11_exams 35 = .ok (.iconst 0, 1) := by decide +kernel
theorem dX11_exams_36 : decode cX11_exams 36 = .ok (.istore 4, 2) := by decide +kernel
theorem dX11_exams_38 : decode cX11_exams 38 = .ok (.iload 4, 2) := by decide +kernel
theorem dX11_exams_40 : decode cX11_exams 40 = .ok (.iload_n 1, 1) := by decide +kernel
theorem dX11_exams_41 : decode cX11_exams 41 = .ok (.if_icmp .ge 41, 3) := by decide +kernel
theorem dX11_exams_44 : decode cX11_exams 44 = .ok (.aload_n 0, 1) := by decide +kernel
theorem dX11_exams_45 : decode cX11_exams 45 = .ok (.getfield 108, 3) := by decide +kernel
theorem dX11_exams_48 : decode cX11_exams 48 = .ok (.invokevirtual 354, 3) := by decide +kernel
theorem dX11_exams_51 : decode cX11_exams 51 = .ok (.aload_n 0, 1) := by decide +kernel
theorem dX11_exams_52 : decode cX11_exams 52 = .ok (.getfield 108, 3) := by decide +kernel
theorem dX11_exams_55 : decode cX11_exams 55 = .ok (.getfield 363, 3) := by decide +kernel
theorem dX11_exams_58 : decode cX11_exams 58 = .ok (.invokestatic 366, 3) := by decide +kernel
theorem dX11_exams_61 : decode cX11_exams 61 = .ok (.aload_n 0, 1) := by decide +kernel
theorem dX11_exams_62 : decode cX11_exams 62 = .ok (.getfield 10, 3) := by decide +kernel
theorem dX11_exams_65 : decode cX11_exams 65 = .ok (.getfield 154, 3) := by decide +kernel
theorem dX11_exams_68 : decode cX11_exams 68 = .ok (.iconst 2, 1) := by decide +kernel
theorem dX11_exams_69 : decode cX11_exams 69 = .ok (.iaload, 1) := by decide +kernel
theorem dX11_exams_70 : decode cX11_exams 70 = .ok (.if_icmp .lt 6, 3) := by decide +kernel
theorem dX11_exams_73 : decode cX11_exams 73 = .ok (.iinc 3 1, 3) := by decide +kernel
theorem dX11_exams_76 : decode cX11_exams 76 = .ok (.iinc 4 1, 3) := by decide +kernel
theorem dX11_exams_79 : decode cX11_exams 79 = .ok (.goto (-41), 3) := by decide +kernel
theorem dX11_exams_82 : decode cX11_exams 82 = .ok (.iload_n 3, 1) := by decide +kernel
theorem dX11_exams_83 : decode cX11_exams 83 = .ok (.ireturn, 1) := by decide +kernel
abbrev YX11_exams : zY := (yX11_exams, cX11_exams, 5, (Option.some Jvm.ClassFile.FieldType.int), [])
def fX11_exams_76 (F : zFs) (k_38 : Int → Int → zDa → Option (Int × zDa)) (o1 : Int) (v3 : Int) (v4 : Int) (D : zDa) : Option (Int × zDa) :=
  if (-2147483648 ≤ v4 + 1 ∧ v4 + 1 ≤ 2147483647) then
    k_38 v3 (v4 + 1) D
  else none
def fX11_exams_38 (F : zFs) (o1 : Int)  (k_38 : Int → Int → zDa → Option (Int × zDa)) (v3 : Int) (v4 : Int) (D : zDa) : Option (Int × zDa) :=
  if v4 < o1 then
    (fX8_sit F D).bind (fun D_4 =>
      (fJ6_bitCount_0f7a4 F (D_4 89 8) D_4).bind (fun (r_5, D_6) =>
        if r_5 < (D_6 7 2) then
          fX11_exams_76 F k_38 o1 v3 v4 D_6
        else
          if (-2147483648 ≤ v3 + 1 ∧ v3 + 1 ≤ 2147483647) then
            fX11_exams_76 F k_38 o1 (v3 + 1) v4 D_6
          else none))
  else
    some (v3, D)
def fX11_exams (F : zFs) (v1 : Int) (v2 : Int) (D : zDa) : Option (Int × zDa) :=
  if v1 < 1 then
    some ((-1), D)
  else
    if 500 < v1 then
      some ((-1), D)
    else
      if v2 < 0 then
        some ((-1), D)
      else
        if 1000000 < v2 then
          some ((-1), D)
        else
          (fX8_begin F v2 D).bind (fun D_2 =>
            zfix (fun _ _ _ => none) (fX11_exams_38 F v1) zfu 0 0 D_2)
set_option maxHeartbeats 20000000 in
theorem sX11_exams_76 {l : Launch} {E : zE} {d : Nat} {F : zFs} {n sl : Nat} (hG : zG F)  (o1 : Int) (v3 : Int) (v4 : Int) (k_38 : Int → Int → zDa → Option (Int × zDa)) (hk_38 : ∀ (u3 : Int) (u4 : Int) (D : zDa), zO l E (d + 5) YX11_exams 38 [(0, zR 0), (1, zI o1), (3, zI u3), (4, zI u4)] [] (F, D, n, sl) (zcI F n sl) (k_38 u3 u4 D)) (D : zDa) : zO l E (d + 5) YX11_exams 76 [(0, zR 0), (1, zI o1), (3, zI v3), (4, zI v4)] [] (F, D, n, sl) (zcI F n sl) (fX11_exams_76 F k_38 o1 v3 v4 D) := by
  unfold fX11_exams_76
  refine zO_chk (fun h1 => ?_)
  refine zO_iinc dX11_exams_76 rfl h1 (by decide) ?_
  refine zO_ls (ls' := [(0, zR 0), (1, zI o1), (3, zI v3), (4, zI (v4 + 1))]) rfl ?_
  refine zO_goto (tgt := 38) dX11_exams_79 rfl ?_
  refine zO_live [0, 1, 3, 4] ?_
  exact hk_38 v3 (v4 + 1) D
set_option maxHeartbeats 20000000 in
theorem sX11_exams_38 {l : Launch} {E : zE} {d : Nat} {F : zFs} {n sl : Nat} (hG : zG F)  (o1 : Int)   : ∀ (N : Nat) (v3 : Int) (v4 : Int) (D : zDa), zO l E (d + 5) YX11_exams 38 [(0, zR 0), (1, zI o1), (3, zI v3), (4, zI v4)] [] (F, D, n, sl) (zcI F n sl) (zfix (fun _ _ _ => none) (fX11_exams_38 F o1) N v3 v4 D) := by
  intro N
  induction N with
  | zero => intro v3 v4 D; exact zO_none
  | succ N hk_38 =>
    intro v3 v4 D
    show zO _ _ _ _ _ _ _ _ _ ((fX11_exams_38 F o1) (zfix (fun _ _ _ => none) (fX11_exams_38 F o1) N) v3 v4 D)
    unfold fX11_exams_38
    refine zO_iload dX11_exams_38 rfl ?_
    refine zO_iload_n dX11_exams_40 rfl ?_
    refine zO_icmp_ge (tgt := 82) dX11_exams_41 rfl (fun c41 => ?_) (fun c41 => ?_)
    · refine zO_aload_n dX11_exams_44 rfl (zR_P _) ?_
      refine gt11 (k := 18) dX11_exams_45 wF_X11_108 (by decide) (gk_0 hG) (zgv (c := 11) (k := 18) rfl (Or.inr ⟨_, rfl⟩) (gf_0_18 hG)) ?_
      refine zO_callV (Y' := YX8_sit) (cw := zcV F n sl) (as := []) (rest := []) (na := 0) (ci := 8) rfl dX11_exams_48 wC_X8_sit wN_X8 wM_X11_354 wI_X8_sit wV_X8_sit (by decide) (by decide) rfl rfl (Nat.le_of_ble_eq_true rfl) rfl (by decide) (gk_89 hG) (fun r hr => zMet_cast (Nat.add_assoc d 1 3) (mX8_sit (d := d + 1) hG  r hr)) ?_
      intro D_4 _
      show zO _ _ _ _ _ _ [] (F, D_4, n, sl) _ _
      refine zO_aload_n dX11_exams_51 rfl (zR_P _) ?_
      refine gt11 (k := 18) dX11_exams_52 wF_X11_108 (by decide) (gk_0 hG) (zgv (c := 11) (k := 18) rfl (Or.inr ⟨_, rfl⟩) (gf_0_18 hG)) ?_
      refine gt8 (k := 8) (v := zI (D_4 89 8)) dX11_exams_55 wF_X11_363 (by decide) (gk_89 hG) rfl ?_
      refine zO_callS (Y' := YJ6_bitCount_0f7a4) (cw := zcI F n sl) (as := [zI (D_4 89 8)]) (rest := []) (na := 1) dX11_exams_58 wC_J6_bitCount_0f7a4 wN_J6 wM_X11_366 wS_J6_bitCount_0f7a4 (by decide) (by decide) rfl rfl (Nat.le_of_ble_eq_true rfl) (fun r hr => zMet_cast (Nat.add_assoc d 4 0) (mJ6_bitCount_0f7a4 (d := d + 4) hG (D_4 89 8) r hr)) ?_
      rintro ⟨r_5, D_6⟩ -
      show zO _ _ _ _ _ _ [zI r_5] (F, D_6, n, sl) _ _
      refine zO_aload_n dX11_exams_61 rfl (zR_P _) ?_
      refine gt11 (k := 0) dX11_exams_62 wF_X11_10 (by decide) (gk_0 hG) (zgv (c := 11) (k := 0) rfl (Or.inr ⟨_, rfl⟩) (gf_0_0 hG)) ?_
      refine gt9 (k := 6) dX11_exams_65 wF_X11_154 (by decide) (gk_1 hG) (zgv (c := 9) (k := 6) rfl (Or.inl ⟨_, rfl⟩) (gf_1_6 hG)) ?_
      refine zO_iconst dX11_exams_68 (by decide) ?_
      refine zO_iald dX11_exams_69 (gk_7 hG) (gl_in (gl_7 hG) (by decide)) ?_
      refine zO_icmp_lt (tgt := 76) dX11_exams_70 rfl (fun c70 => ?_) (fun c70 => ?_)
      · refine zO_live [0, 1, 3, 4] ?_
        exact sX11_exams_76 hG o1 v3 v4 _ hk_38 D_6
      · refine zO_chk (fun h2 => ?_)
        refine zO_iinc dX11_exams_73 rfl h2 (by decide) ?_
        refine zO_ls (ls' := [(0, zR 0), (1, zI o1), (3, zI (v3 + 1)), (4, zI v4)]) rfl ?_
        refine zO_live [0, 1, 3, 4] ?_
        exact sX11_exams_76 hG o1 (v3 + 1) v4 _ hk_38 D_6
    · refine zO_iload_n dX11_exams_82 rfl ?_
      exact zO_ret (rv := some (zI v3)) dX11_exams_83 rfl rfl rfl
set_option maxHeartbeats 20000000 in
theorem mX11_exams {l : Launch} {E : zE} {d : Nat} {F : zFs} {n sl : Nat} (hG : zG F) (v1 : Int) (v2 : Int) {D : zDa} : ∀ r, fX11_exams F  v1 v2 D = some r → zMet l E (d + 5) YX11_exams [zR 0, zI v1, zI v2] (F, D, n, sl) (zcI F n sl r) := by
  intro r hr
  refine zMet_of (plainFor_of_name (by decide)) (fun _ h => (nomatch h)) (Nat.le_of_ble_eq_true rfl) ?_
  have hz : zO l E (d + 5) YX11_exams 0 [(0, zR 0), (1, zI v1), (2, zI v2)] [] (F, D, n, sl) (zcI F n sl) (fX11_exams F  v1 v2 D) := by
    unfold fX11_exams
    refine zO_iload_n dX11_exams_0 rfl ?_
    refine zO_iconst dX11_exams_1 (by decide) ?_
    refine zO_icmp_lt (tgt := 23) dX11_exams_2 rfl (fun c2 => ?_) (fun c2 => ?_)
    · refine zO_iconst dX11_exams_23 (by decide) ?_
      exact zO_ret (rv := some (zI (-1))) dX11_exams_24 rfl rfl rfl
    · refine zO_iload_n dX11_exams_5 rfl ?_
      refine zO_sipush dX11_exams_6 (by decide) ?_
      refine zO_icmp_gt (tgt := 23) dX11_exams_9 rfl (fun c9 => ?_) (fun c9 => ?_)
      · refine zO_iconst dX11_exams_23 (by decide) ?_
        exact zO_ret (rv := some (zI (-1))) dX11_exams_24 rfl rfl rfl
      · refine zO_iload_n dX11_exams_12 rfl ?_
        refine zO_if_lt (tgt := 23) dX11_exams_13 rfl (fun c13 => ?_) (fun c13 => ?_)
        · refine zO_iconst dX11_exams_23 (by decide) ?_
          exact zO_ret (rv := some (zI (-1))) dX11_exams_24 rfl rfl rfl
        · refine zO_iload_n dX11_exams_16 rfl ?_
          refine zO_ldcw (n := 1000000) dX11_exams_17 wK_X11_350 (by decide) ?_
          refine zO_icmp_le (tgt := 25) dX11_exams_20 rfl (fun c20 => ?_) (fun c20 => ?_)
          · refine zO_iconst dX11_exams_23 (by decide) ?_
            exact zO_ret (rv := some (zI (-1))) dX11_exams_24 rfl rfl rfl
          · refine zO_aload_n dX11_exams_25 rfl (zR_P _) ?_
            refine gt11 (k := 18) dX11_exams_26 wF_X11_108 (by decide) (gk_0 hG) (zgv (c := 11) (k := 18) rfl (Or.inr ⟨_, rfl⟩) (gf_0_18 hG)) ?_
            refine zO_iload_n dX11_exams_29 rfl ?_
            refine zO_callV (Y' := YX8_begin) (cw := zcV F n sl) (as := [zI v2]) (rest := []) (na := 1) (ci := 8) rfl dX11_exams_30 wC_X8_begin wN_X8 wM_X11_351 wI_X8_begin wV_X8_begin (by decide) (by decide) rfl rfl (Nat.le_of_ble_eq_true rfl) rfl (by decide) (gk_89 hG) (fun r hr => zMet_cast (Nat.add_assoc d 0 4) (mX8_begin (d := d + 0) hG v2 r hr)) ?_
            intro D_2 _
            show zO _ _ _ _ _ _ [] (F, D_2, n, sl) _ _
            refine zO_iconst dX11_exams_33 (by decide) ?_
            refine zO_istore_n dX11_exams_34 (by decide) ?_
            refine zO_ls (ls' := [(0, zR 0), (1, zI v1), (2, zI v2), (3, zI 0)]) rfl ?_
            refine zO_iconst dX11_exams_35 (by decide) ?_
            refine zO_istore dX11_exams_36 (by decide) ?_
            refine zO_ls (ls' := [(0, zR 0), (1, zI v1), (2, zI v2), (3, zI 0), (4, zI 0)]) rfl ?_
            refine zO_live [0, 1, 3, 4] ?_
            exact sX11_exams_38 hG v1 zfu 0 0 D_2
  exact hz r hr
theorem dX11_image_0 : decode cX11_image 0 = .ok (.iload_n 1, 1) := by decide +kernel
theorem dX11_image_1 : decode cX11_image 1 = .ok (.ifCond .lt 8, 3) := by decide +kernel
theorem dX11_image_4 : decode cX11_image 4 = .ok (.iload_n 1, 1) := by decide +kernel
theorem dX11_image_5 : decode cX11_image 5 = .ok (.iconst 2, 1) := by decide +kernel
theorem dX11_image_6 : decode cX11_image 6 = .ok (.if_icmp .lt 9, 3) := by decide +kernel
theorem dX11_image_9 : decode cX11_image 9 = .ok (.aload_n 0, 1) := by decide +kernel
theorem dX11_image_10 : decode cX11_image 10 = .ok (.iconst (-1), 1) := by decide +kernel
theorem dX11_image_11 : decode cX11_image 11 = .ok (.invokevirtual 112, 3) := by decide +kernel
theorem dX11_image_14 : decode cX11_image 14 = .ok (.ireturn, 1) := by decide +kernel
theorem dX11_image_15 : decode cX11_image 15 = .ok (.aload_n 0, 1) := by decide +kernel
theorem dX11_image_16 : decode cX11_image 16 = .ok (.getfield 16, 3) := by decide +kernel
theorem dX11_image_19 : decode cX11_image 19 = .ok (.iload_n 1, 1) := by decide +kernel
theorem dX11_image_20 : decode cX11_image 20 = .ok (.aaload, 1) := by decide +kernel
theorem dX11_image_21 : decode cX11_image 21 = .ok (.aload_n 0, 1) := by decide +kernel
theorem dX11_image_22 : decode cX11_image 22 = .ok (.getfield 10, 3) := by decide +kernel
theorem dX11_image_25 : decode cX11_image 25 = .ok (.invokevirtual 371, 3) := by decide +kernel
theorem dX11_image_28 : decode cX11_image 28 = .ok (.aload_n 0, 1) := by decide +kernel
theorem dX11_image_29 : decode cX11_image 29 = .ok (.getfield 20, 3) := by decide +kernel
theorem dX11_image_32 : decode cX11_image 32 = .ok (.iload_n 1, 1) := by decide +kernel
theorem dX11_image_33 : decode cX11_image 33 = .ok (.iconst 1, 1) := by decide +kernel
theorem dX11_image_34 : decode cX11_image 34 = .ok (.bastore, 1) := by decide +kernel
theorem dX11_image_35 : decode cX11_image 35 = .ok (.aload_n 0, 1) := by decide +kernel
theorem dX11_image_36 : decode cX11_image 36 = .ok (.iconst 0, 1) := by decide +kernel
theorem dX11_image_37 : decode cX11_image 37 = .ok (.invokevirtual 123, 3) := by decide +kernel
theorem dX11_image_40 : decode cX11_image 40 = .ok (.ireturn, 1) := by decide +kernel
abbrev YX11_image : zY := (yX11_image, cX11_image, 2, (Option.some Jvm.ClassFile.FieldType.int), [])
def fX11_image_9 (F : zFs)   (D : zDa) : Option (Int × zDa) :=
  (fX11_refuse F (-1) D).bind (fun (r_1, D_2) =>
    some (r_1, D_2))
def fX11_image (F : zFs) (v1 : Int) (D : zDa) : Option (Int × zDa) :=
  if v1 < 0 then
    fX11_image_9 F D
  else
    if v1 < 2 then
      if (0 ≤ v1 ∧ v1 < 2) ∧ (0 ≤ (D 13 v1.toNat)) ∧ ((F ((D 13 v1.toNat).toNat)).1 = 10) then
        (fX9_copyFrom F ((D 13 v1.toNat).toNat) 1 D).bind (fun D_4 =>
          zlet (zwr D_4 38 v1.toNat 1) (fun D_5 =>
            (fX11_accept F 0 D_5).bind (fun (r_6, D_7) =>
              some (r_6, D_7))))
      else none
    else
      fX11_image_9 F D
set_option maxHeartbeats 20000000 in
theorem sX11_image_9 {l : Launch} {E : zE} {d : Nat} {F : zFs} {n sl : Nat} (hG : zG F)     (D : zDa) : zO l E (d + 2) YX11_image 9 [(0, zR 0)] [] (F, D, n, sl) (zcI F n sl) (fX11_image_9 F D) := by
  unfold fX11_image_9
  refine zO_aload_n dX11_image_9 rfl (zR_P _) ?_
  refine zO_iconst dX11_image_10 (by decide) ?_
  refine zO_callV (Y' := YX11_refuse) (cw := zcI F n sl) (as := [zI (-1)]) (rest := []) (na := 1) (ci := 11) rfl dX11_image_11 wC_X11_refuse wN_X11 wM_X11_112 wI_X11_refuse wV_X11_refuse (by decide) (by decide) rfl rfl (Nat.le_of_ble_eq_true rfl) rfl (by decide) (gk_0 hG) (fun r hr => zMet_cast (Nat.add_assoc d 1 0) (mX11_refuse (d := d + 1) hG (-1) r hr)) ?_
  rintro ⟨r_1, D_2⟩ -
  show zO _ _ _ _ _ _ [zI r_1] (F, D_2, n, sl) _ _
  exact zO_ret (rv := some (zI r_1)) dX11_image_14 rfl rfl rfl
set_option maxHeartbeats 20000000 in
theorem mX11_image {l : Launch} {E : zE} {d : Nat} {F : zFs} {n sl : Nat} (hG : zG F) (v1 : Int) {D : zDa} : ∀ r, fX11_image F  v1 D = some r → zMet l E (d + 2) YX11_image [zR 0, zI v1] (F, D, n, sl) (zcI F n sl r) := by
  intro r hr
  refine zMet_of (plainFor_of_name (by decide)) (fun _ h => (nomatch h)) (Nat.le_of_ble_eq_true rfl) ?_
  have hz : zO l E (d + 2) YX11_image 0 [(0, zR 0), (1, zI v1)] [] (F, D, n, sl) (zcI F n sl) (fX11_image F  v1 D) := by
    unfold fX11_image
    refine zO_iload_n dX11_image_0 rfl ?_
    refine zO_if_lt (tgt := 9) dX11_image_1 rfl (fun c1 => ?_) (fun c1 => ?_)
    · refine zO_live [0] ?_
      exact sX11_image_9 hG D
    · refine zO_iload_n dX11_image_4 rfl ?_
      refine zO_iconst dX11_image_5 (by decide) ?_
      refine zO_icmp_lt (tgt := 15) dX11_image_6 rfl (fun c6 => ?_) (fun c6 => ?_)
      · refine zO_chk (fun h1 => ?_)
        refine zO_aload_n dX11_image_15 rfl (zR_P _) ?_
        refine gt11 (k := 1) dX11_image_16 wF_X11_16 (by decide) (gk_0 hG) (zgv (c := 11) (k := 1) rfl (Or.inl ⟨_, rfl⟩) (gf_0_1 hG)) ?_
        refine zO_iload_n dX11_image_19 rfl ?_
        refine zO_aald (kd := 24) dX11_image_20 (gk_13 hG) (by decide) (gl_in (gl_13 hG) h1.1) ?_
        refine zO_aload_n dX11_image_21 rfl (zR_P _) ?_
        refine gt11 (k := 0) dX11_image_22 wF_X11_10 (by decide) (gk_0 hG) (zgv (c := 11) (k := 0) rfl (Or.inr ⟨_, rfl⟩) (gf_0_0 hG)) ?_
        refine zO_q1 h1.2.1 ?_
        refine zO_callV (Y' := YX9_copyFrom) (cw := zcV F n sl) (as := [zR 1]) (rest := []) (na := 1) (ci := 9) rfl dX11_image_25 wC_X9_copyFrom wN_X9 wM_X11_371 wI_X9_copyFrom wV_X9_copyFrom (by decide) (by decide) rfl rfl (Nat.le_of_ble_eq_true rfl) rfl (by decide) h1.2.2 (fun r hr => zMet_cast (Nat.add_assoc d 0 1) (mX9_copyFrom (d := d + 0) hG ((D 13 v1.toNat).toNat) 1 r hr)) ?_
        intro D_4 _
        show zO _ _ _ _ _ _ [] (F, D_4, n, sl) _ _
        refine zO_aload_n dX11_image_28 rfl (zR_P _) ?_
        refine gt11 (k := 2) dX11_image_29 wF_X11_20 (by decide) (gk_0 hG) (zgv (c := 11) (k := 2) rfl (Or.inl ⟨_, rfl⟩) (gf_0_2 hG)) ?_
        refine zO_iload_n dX11_image_32 rfl ?_
        refine zO_iconst dX11_image_33 (by decide) ?_
        refine zO_zast dX11_image_34 (gk_38 hG) (gl_in (gl_38 hG) h1.1) (Or.inr rfl) ?_
        refine zO_letD (fun D_5 eD_5 => ?_)
        refine zO_aload_n dX11_image_35 rfl (zR_P _) ?_
        refine zO_iconst dX11_image_36 (by decide) ?_
        refine zO_callV (Y' := YX11_accept) (cw := zcI F n sl) (as := [zI 0]) (rest := []) (na := 1) (ci := 11) rfl dX11_image_37 wC_X11_accept wN_X11 wM_X11_123 wI_X11_accept wV_X11_accept (by decide) (by decide) rfl rfl (Nat.le_of_ble_eq_true rfl) rfl (by decide) (gk_0 hG) (fun r hr => zMet_cast (Nat.add_assoc d 1 0) (mX11_accept (d := d + 1) hG 0 r hr)) ?_
        rintro ⟨r_6, D_7⟩ -
        show zO _ _ _ _ _ _ [zI r_6] (F, D_7, n, sl) _ _
        exact zO_ret (rv := some (zI r_6)) dX11_image_40 rfl rfl rfl
      · refine zO_live [0] ?_
        exact sX11_image_9 hG D
  exact hz r hr
theorem dX11_back_0 : decode cX11_back 0 = .ok (.iload_n 1, 1) := by decide +kernel
theorem dX11_back_1 : decode cX11_back 1 = .ok (.ifCond .lt 8, 3) := by decide +kernel
theorem dX11_back_4 : decode cX11_back 4 = .ok (.iload_n 1, 1) := by decide +kernel
theorem dX11_back_5 : decode cX11_back 5 = .ok (.iconst 2, 1) := by decide +kernel
theorem dX11_back_6 : decode cX11_back 6 = .ok (.if_icmp .lt 9, 3) := by decide +kernel
theorem dX11_back_9 : decode cX11_back 9 = .ok (.aload_n 0, 1) := by decide +kernel
theorem dX11_back_10 : decode cX11_back 10 = .ok (.iconst (-1), 1) := by decide +kernel
theorem dX11_back_11 : decode cX11_back 11 = .ok (.invokevirtual 112, 3) := by decide +kernel
theorem dX11_back_14 : decode cX11_back 14 = .ok (.ireturn, 1) := by decide +kernel
theorem dX11_back_15 : decode cX11_back 15 = .ok (.aload_n 0, 1) := by decide +kernel
theorem dX11_back_16 : decode cX11_back 16 = .ok (.getfield 20, 3) := by decide +kernel
theorem dX11_back_19 : decode cX11_back 19 = .ok (.iload_n 1, 1) := by decide +kernel
theorem dX11_back_20 : decode cX11_back 20 = .ok (.baload, 1) := by decide +kernel
theorem dX11_back_21 : decode cX11_back 21 = .ok (.ifCond .ne 10, 3) := by decide +kernel
theorem dX11_back_24 : decode cX11_back 24 = .ok (.aload_n 0, 1) := by decide +kernel
theorem dX11_back_25 : decode cX11_back 25 = .ok (.bipush (-2), 2) := by decide +kernel
theorem dX11_back_27 : decode cX11_back 27 = .ok (.invokevirtual 112, 3) := by decide +kernel
theorem dX11_back_30 : decode cX11_back 30 = .ok (.ireturn, 1) := by decide +kernel
theorem dX11_back_31 : decode cX11_back 31 = .ok (.aload_n 0, 1) := by decide +kernel
theorem dX11_back_32 : decode cX11_back 32 = .ok (.getfield 10, 3) := by decide +kernel
theorem dX11_back_35 : decode cX11_back 35 = .ok (.aload_n 0, 1) := by decide +kernel
theorem dX11_back_36 : decode cX11_back 36 = .ok (.getfield 16, 3) := by decide +kernel
theorem dX11_back_39 : decode cX11_back 39 = .ok (.iload_n 1, 1) := by decide +kernel
theorem dX11_back_40 : decode cX11_back 40 = .ok (.aaload, 1) := by decide +kernel
theorem dX11_back_41 : decode cX11_back 41 = .ok (.invokevirtual 371, 3) := by decide +kernel
theorem dX11_back_44 : decode cX11_back 44 = .ok (.aload_n 0, 1) := by decide +kernel
theorem dX11_back_45 : decode cX11_back 45 = .ok (.iconst 0, 1) := by decide +kernel
theorem dX11_back_46 : decode cX11_back 46 = .ok (.invokevirtual 123, 3) := by decide +kernel
theorem dX11_back_49 : decode cX11_back 49 = .ok (.ireturn, 1) := by decide +kernel
abbrev YX11_back : zY := (yX11_back, cX11_back, 2, (Option.some Jvm.ClassFile.FieldType.int), [])
def fX11_back_9 (F : zFs)   (D : zDa) : Option (Int × zDa) :=
  (fX11_refuse F (-1) D).bind (fun (r_1, D_2) =>
    some (r_1, D_2))
def fX11_back (F : zFs) (v1 : Int) (D : zDa) : Option (Int × zDa) :=
  if v1 < 0 then
    fX11_back_9 F D
  else
    if v1 < 2 then
      if (0 ≤ v1 ∧ v1 < 2) then
        if (D 38 v1.toNat) = 0 then
          (fX11_refuse F (-2) D).bind (fun (r_3, D_4) =>
            some (r_3, D_4))
        else
          if (0 ≤ (D 13 v1.toNat)) then
            (fX9_copyFrom F 1 ((D 13 v1.toNat).toNat) D).bind (fun D_6 =>
              (fX11_accept F 0 D_6).bind (fun (r_7, D_8) =>
                some (r_7, D_8)))
          else none
      else none
    else
      fX11_back_9 F D
set_option maxHeartbeats 20000000 in
theorem sX11_back_9 {l : Launch} {E : zE} {d : Nat} {F : zFs} {n sl : Nat} (hG : zG F)     (D : zDa) : zO l E (d + 2) YX11_back 9 [(0, zR 0)] [] (F, D, n, sl) (zcI F n sl) (fX11_back_9 F D) := by
  unfold fX11_back_9
  refine zO_aload_n dX11_back_9 rfl (zR_P _) ?_
  refine zO_iconst dX11_back_10 (by decide) ?_
  refine zO_callV (Y' := YX11_refuse) (cw := zcI F n sl) (as := [zI (-1)]) (rest := []) (na := 1) (ci := 11) rfl dX11_back_11 wC_X11_refuse wN_X11 wM_X11_112 wI_X11_refuse wV_X11_refuse (by decide) (by decide) rfl rfl (Nat.le_of_ble_eq_true rfl) rfl (by decide) (gk_0 hG) (fun r hr => zMet_cast (Nat.add_assoc d 1 0) (mX11_refuse (d := d + 1) hG (-1) r hr)) ?_
  rintro ⟨r_1, D_2⟩ -
  show zO _ _ _ _ _ _ [zI r_1] (F, D_2, n, sl) _ _
  exact zO_ret (rv := some (zI r_1)) dX11_back_14 rfl rfl rfl
set_option maxHeartbeats 20000000 in
theorem mX11_back {l : Launch} {E : zE} {d : Nat} {F : zFs} {n sl : Nat} (hG : zG F) (v1 : Int) {D : zDa} : ∀ r, fX11_back F  v1 D = some r → zMet l E (d + 2) YX11_back [zR 0, zI v1] (F, D, n, sl) (zcI F n sl r) := by
  intro r hr
  refine zMet_of (plainFor_of_name (by decide)) (fun _ h => (nomatch h)) (Nat.le_of_ble_eq_true rfl) ?_
  have hz : zO l E (d + 2) YX11_back 0 [(0, zR 0), (1, zI v1)] [] (F, D, n, sl) (zcI F n sl) (fX11_back F  v1 D) := by
    unfold fX11_back
    refine zO_iload_n dX11_back_0 rfl ?_
    refine zO_if_lt (tgt := 9) dX11_back_1 rfl (fun c1 => ?_) (fun c1 => ?_)
    · refine zO_live [0] ?_
      exact sX11_back_9 hG D
    · refine zO_iload_n dX11_back_4 rfl ?_
      refine zO_iconst dX11_back_5 (by decide) ?_
      refine zO_icmp_lt (tgt := 15) dX11_back_6 rfl (fun c6 => ?_) (fun c6 => ?_)
      · refine zO_chk (fun h1 => ?_)
        refine zO_aload_n dX11_back_15 rfl (zR_P _) ?_
        refine gt11 (k := 2) dX11_back_16 wF_X11_20 (by decide) (gk_0 hG) (zgv (c := 11) (k := 2) rfl (Or.inl ⟨_, rfl⟩) (gf_0_2 hG)) ?_
        refine zO_iload_n dX11_back_19 rfl ?_
        refine zO_zald dX11_back_20 (gk_38 hG) (gl_in (gl_38 hG) h1) ?_
        refine zO_if_ne (tgt := 31) dX11_back_21 rfl (fun c21 => ?_) (fun c21 => ?_)
        · refine zO_aload_n dX11_back_24 rfl (zR_P _) ?_
          refine zO_bipush dX11_back_25 (by decide) ?_
          refine zO_callV (Y' := YX11_refuse) (cw := zcI F n sl) (as := [zI (-2)]) (rest := []) (na := 1) (ci := 11) rfl dX11_back_27 wC_X11_refuse wN_X11 wM_X11_112 wI_X11_refuse wV_X11_refuse (by decide) (by decide) rfl rfl (Nat.le_of_ble_eq_true rfl) rfl (by decide) (gk_0 hG) (fun r hr => zMet_cast (Nat.add_assoc d 1 0) (mX11_refuse (d := d + 1) hG (-2) r hr)) ?_
          rintro ⟨r_3, D_4⟩ -
          show zO _ _ _ _ _ _ [zI r_3] (F, D_4, n, sl) _ _
          exact zO_ret (rv := some (zI r_3)) dX11_back_30 rfl rfl rfl
        · refine zO_chk (fun h2 => ?_)
          refine zO_aload_n dX11_back_31 rfl (zR_P _) ?_
          refine gt11 (k := 0) dX11_back_32 wF_X11_10 (by decide) (gk_0 hG) (zgv (c := 11) (k := 0) rfl (Or.inr ⟨_, rfl⟩) (gf_0_0 hG)) ?_
          refine zO_aload_n dX11_back_35 rfl (zR_P _) ?_
          refine gt11 (k := 1) dX11_back_36 wF_X11_16 (by decide) (gk_0 hG) (zgv (c := 11) (k := 1) rfl (Or.inl ⟨_, rfl⟩) (gf_0_1 hG)) ?_
          refine zO_iload_n dX11_back_39 rfl ?_
          refine zO_aald (kd := 24) dX11_back_40 (gk_13 hG) (by decide) (gl_in (gl_13 hG) h1) ?_
          refine zO_q0 h2 ?_
          refine zO_callV (Y' := YX9_copyFrom) (cw := zcV F n sl) (as := [zR ((D 13 v1.toNat).toNat)]) (rest := []) (na := 1) (ci := 9) rfl dX11_back_41 wC_X9_copyFrom wN_X9 wM_X11_371 wI_X9_copyFrom wV_X9_copyFrom (by decide) (by decide) rfl rfl (Nat.le_of_ble_eq_true rfl) rfl (by decide) (gk_1 hG) (fun r hr => zMet_cast (Nat.add_assoc d 0 1) (mX9_copyFrom (d := d + 0) hG 1 ((D 13 v1.toNat).toNat) r hr)) ?_
          intro D_6 _
          show zO _ _ _ _ _ _ [] (F, D_6, n, sl) _ _
          refine zO_aload_n dX11_back_44 rfl (zR_P _) ?_
          refine zO_iconst dX11_back_45 (by decide) ?_
          refine zO_callV (Y' := YX11_accept) (cw := zcI F n sl) (as := [zI 0]) (rest := []) (na := 1) (ci := 11) rfl dX11_back_46 wC_X11_accept wN_X11 wM_X11_123 wI_X11_accept wV_X11_accept (by decide) (by decide) rfl rfl (Nat.le_of_ble_eq_true rfl) rfl (by decide) (gk_0 hG) (fun r hr => zMet_cast (Nat.add_assoc d 1 0) (mX11_accept (d := d + 1) hG 0 r hr)) ?_
          rintro ⟨r_7, D_8⟩ -
          show zO _ _ _ _ _ _ [zI r_7] (F, D_8, n, sl) _ _
          exact zO_ret (rv := some (zI r_7)) dX11_back_49 rfl rfl rfl
      · refine zO_live [0] ?_
        exact sX11_back_9 hG D
  exact hz r hr
theorem dX11_count_0 : decode cX11_count 0 = .ok (.iload_n 1, 1) := by decide +kernel
theorem dX11_count_1 : decode cX11_count 1 = .ok (.tableswitch 164 0 12 #[67, 75, 83, 91, 99, 107, 115, 120, 127, 134, 141, 148, 156], 67) := by decide +kernel
theorem dX11_count_68 : decode cX11_count 68 = .ok (.aload_n 0, 1) := by decide +kernel
theorem dX11_count_69 : decode cX11_count 69 = .ok (.getfield 10, 3) := by decide +kernel
theorem dX11_count_72 : decode cX11_count 72 = .ok (.getfield 116, 3) := by decide +kernel
theorem dX11_count_75 : decode cX11_count 75 = .ok (.ireturn, 1) := by decide +kernel
theorem dX11_count_76 : decode cX11_count 76 = .ok (.aload_n 0, 1) := by decide +kernel
theorem dX11_count_77 : decode cX11_count 77 = .ok (.getfield 10, 3) := by decide +kernel
theorem dX11_count_80 : decode cX11_count 80 = .ok (.invokevirtual 215, 3) := by decide +kernel
theorem dX11_count_83 : decode cX11_count 83 = .ok (.ireturn, 1) := by decide +kernel
theorem dX11_count_84 : decode cX11_count 84 = .ok (.aload_n 0, 1) := by decide +kernel
theorem dX11_count_85 : decode cX11_count 85 = .ok (.getfield 10, 3) := by decide +kernel
theorem dX11_count_88 : decode cX11_count 88 = .ok (.getfield 167, 3) := by decide +kernel
theorem dX11_count_91 : decode cX11_count 91 = .ok (.ireturn, 1) := by decide +kernel
theorem dX11_count_92 : decode cX11_count 92 = .ok (.aload_n 0, 1) := by decide +kernel
theorem dX11_count_93 : decode cX11_count 93 = .ok (.getfield 10, 3) := by decide +kernel
theorem dX11_count_96 : decode cX11_count 96 = .ok (.getfield 264, 3) := by decide +kernel
theorem dX11_count_99 : decode cX11_count 99 = .ok (.ireturn, 1) := by decide +kernel
theorem dX11_count_100 : decode cX11_count 100 = .ok (.aload_n 0, 1) := by decide +kernel
theorem dX11_count_101 : decode cX11_count 101 = .ok (.getfield 10, 3) := by decide +kernel
theorem dX11_count_104 : decode cX11_count 104 = .ok (.getfield 323, 3) := by decide +kernel
theorem dX11_count_107 : decode cX11_count 107 = .ok (.ireturn, 1) := by decide +kernel
theorem dX11_count_108 : decode cX11_count 108 = .ok (.aload_n 0, 1) := by decide +kernel
theorem dX11_count_109 : decode cX11_count 109 = .ok (.getfield 10, 3) := by decide +kernel
theorem dX11_count_112 : decode cX11_count 112 = .ok (.invokevirtual 289, 3) := by decide +kernel
theorem dX11_count_115 : decode cX11_count 115 = .ok (.ireturn, 1) := by decide +kernel
theorem dX11_count_116 : decode cX11_count 116 = .ok (.aload_n 0, 1) := by decide +kernel
theorem dX11_count_117 : decode cX11_count 117 = .ok (.getfield 160, 3) := by decide +kernel
theorem dX11_count_120 : decode cX11_count 120 = .ok (.ireturn, 1) := by decide +kernel
theorem dX11_count_121 : decode cX11_count 121 = .ok (.aload_n 0, 1) := by decide +kernel
theorem dX11_count_122 : decode cX11_count 122 = .ok (.getfield 35, 3) := by decide +kernel
theorem dX11_count_125 : decode cX11_count 125 = .ok (.iconst 1, 1) := by decide +kernel
theorem dX11_count_126 : decode cX11_count 126 = .ok (.iaload, 1) := by decide +kernel
theorem dX11_count_127 : decode cX11_count 127 = .ok (.ireturn, 1) := by decide +kernel
theorem dX11_count_128 : decode cX11_count 128 = .ok (.aload_n 0, 1) := by decide +kernel
theorem dX11_count_129 : decode cX11_count 129 = .ok (.getfield 35, 3) := by decide +kernel
theorem dX11_count_132 : decode cX11_count 132 = .ok (.iconst 2, 1) := by decide +kernel
theorem dX11_count_133 : decode cX11_count 133 = .ok (.iaload, 1) := by decide +kernel
theorem dX11_count_134 : decode cX11_count 134 = .ok (.ireturn, 1) := by decide +kernel
theorem dX11_count_135 : decode cX11_count 135 = .ok (.aload_n 0, 1) := by decide +kernel
theorem dX11_count_136 : decode cX11_count 136 = .ok (.getfield 35, 3) := by decide +kernel
theorem dX11_count_139 : decode cX11_count 139 = .ok (.iconst 3, 1) := by decide +kernel
theorem dX11_count_140 : decode cX11_count 140 = .ok (.iaload, 1) := by decide +kernel
theorem dX11_count_141 : decode cX11_count 141 = .ok (.ireturn, 1) := by decide +kernel
theorem dX11_count_142 : decode cX11_count 142 = .ok (.aload_n 0, 1) := by decide +kernel
theorem dX11_count_143 : decode cX11_count 143 = .ok (.getfield 35, 3) := by decide +kernel
theorem dX11_count_146 : decode cX11_count 146 = .ok (.iconst 5, 1) := by decide +kernel
theorem dX11_count_147 : decode cX11_count 147 = .ok (.iaload, 1) := by decide +kernel
theorem dX11_count_148 : decode cX11_count 148 = .ok (.ireturn, 1) := by decide +kernel
theorem dX11_count_149 : decode cX11_count 149 = .ok (.aload_n 0, 1) := by decide +kernel
theorem dX11_count_150 : decode cX11_count 150 = .ok (.getfield 35, 3) := by decide +kernel
theorem dX11_count_153 : decode cX11_count 153 = .ok (.bipush 6, 2) := by decide +kernel
theorem dX11_count_155 : decode cX11_count 155 = .ok (.iaload, 1) := by decide +kernel
theorem dX11_count_156 : decode cX11_count 156 = .ok (.ireturn, 1) := by decide +kernel
theorem dX11_count_157 : decode cX11_count 157 = .ok (.aload_n 0, 1) := by decide +kernel
theorem dX11_count_158 : decode cX11_count 158 = .ok (.getfield 10, 3) := by decide +kernel
theorem dX11_count_161 : decode cX11_count 161 = .ok (.getfield 181, 3) := by decide +kernel
theorem dX11_count_164 : decode cX11_count 164 = .ok (.ireturn, 1) := by decide +kernel
theorem dX11_count_165 : decode cX11_count 165 = .ok (.iconst (-1), 1) := by decide +kernel
theorem dX11_count_166 : decode cX11_count 166 = .ok (.ireturn, 1) := by decide +kernel
abbrev YX11_count : zY := (yX11_count, cX11_count, 2, (Option.some Jvm.ClassFile.FieldType.int), [])
def fX11_count (F : zFs) (v1 : Int) (D : zDa) : Option (Int × zDa) :=
  if v1 = 0 then
    some ((D 1 5), D)
  else
    if v1 = 1 then
      (fX9_bowlSize F D).bind (fun (r_1, D_2) =>
        some (r_1, D_2))
    else
      if v1 = 2 then
        some ((D 1 8), D)
      else
        if v1 = 3 then
          some ((D 1 12), D)
        else
          if v1 = 4 then
            some ((D 1 15), D)
          else
            if v1 = 5 then
              (fX9_knownCount F D).bind (fun (r_3, D_4) =>
                some (r_3, D_4))
            else
              if v1 = 6 then
                some ((D 0 4), D)
              else
                if v1 = 7 then
                  some ((D 41 1), D)
                else
                  if v1 = 8 then
                    some ((D 41 2), D)
                  else
                    if v1 = 9 then
                      some ((D 41 3), D)
                    else
                      if v1 = 10 then
                        some ((D 41 5), D)
                      else
                        if v1 = 11 then
                          some ((D 41 6), D)
                        else
                          if v1 = 12 then
                            some ((D 1 9), D)
                          else
                            some ((-1), D)
set_option maxHeartbeats 20000000 in
theorem mX11_count {l : Launch} {E : zE} {d : Nat} {F : zFs} {n sl : Nat} (hG : zG F) (v1 : Int) {D : zDa} : ∀ r, fX11_count F  v1 D = some r → zMet l E (d + 1) YX11_count [zR 0, zI v1] (F, D, n, sl) (zcI F n sl r) := by
  intro r hr
  refine zMet_of (plainFor_of_name (by decide)) (fun _ h => (nomatch h)) (Nat.le_of_ble_eq_true rfl) ?_
  have hz : zO l E (d + 1) YX11_count 0 [(0, zR 0), (1, zI v1)] [] (F, D, n, sl) (zcI F n sl) (fX11_count F  v1 D) := by
    unfold fX11_count
    refine zO_iload_n dX11_count_0 rfl ?_
    refine zO_ite (fun c1_0 => ?_) (fun c1_0 => ?_)
    · refine zO_tableIn (tgt := 68) dX11_count_1 ⟨0, c1_0, by decide, by decide, rfl⟩ rfl ?_
      refine zO_aload_n dX11_count_68 rfl (zR_P _) ?_
      refine gt11 (k := 0) dX11_count_69 wF_X11_10 (by decide) (gk_0 hG) (zgv (c := 11) (k := 0) rfl (Or.inr ⟨_, rfl⟩) (gf_0_0 hG)) ?_
      refine gt9 (k := 5) (v := zI (D 1 5)) dX11_count_72 wF_X11_116 (by decide) (gk_1 hG) rfl ?_
      exact zO_ret (rv := some (zI (D 1 5))) dX11_count_75 rfl rfl rfl
    · refine zO_ite (fun c1_1 => ?_) (fun c1_1 => ?_)
      · refine zO_tableIn (tgt := 76) dX11_count_1 ⟨1, c1_1, by decide, by decide, rfl⟩ rfl ?_
        refine zO_aload_n dX11_count_76 rfl (zR_P _) ?_
        refine gt11 (k := 0) dX11_count_77 wF_X11_10 (by decide) (gk_0 hG) (zgv (c := 11) (k := 0) rfl (Or.inr ⟨_, rfl⟩) (gf_0_0 hG)) ?_
        refine zO_callV (Y' := YX9_bowlSize) (cw := zcI F n sl) (as := []) (rest := []) (na := 0) (ci := 9) rfl dX11_count_80 wC_X9_bowlSize wN_X9 wM_X11_215 wI_X9_bowlSize wV_X9_bowlSize (by decide) (by decide) rfl rfl (Nat.le_of_ble_eq_true rfl) rfl (by decide) (gk_1 hG) (fun r hr => zMet_cast (Nat.add_assoc d 0 0) (mX9_bowlSize (d := d + 0) hG  r hr)) ?_
        rintro ⟨r_1, D_2⟩ -
        show zO _ _ _ _ _ _ [zI r_1] (F, D_2, n, sl) _ _
        exact zO_ret (rv := some (zI r_1)) dX11_count_83 rfl rfl rfl
      · refine zO_ite (fun c1_2 => ?_) (fun c1_2 => ?_)
        · refine zO_tableIn (tgt := 84) dX11_count_1 ⟨2, c1_2, by decide, by decide, rfl⟩ rfl ?_
          refine zO_aload_n dX11_count_84 rfl (zR_P _) ?_
          refine gt11 (k := 0) dX11_count_85 wF_X11_10 (by decide) (gk_0 hG) (zgv (c := 11) (k := 0) rfl (Or.inr ⟨_, rfl⟩) (gf_0_0 hG)) ?_
          refine gt9 (k := 8) (v := zI (D 1 8)) dX11_count_88 wF_X11_167 (by decide) (gk_1 hG) rfl ?_
          exact zO_ret (rv := some (zI (D 1 8))) dX11_count_91 rfl rfl rfl
        · refine zO_ite (fun c1_3 => ?_) (fun c1_3 => ?_)
          · refine zO_tableIn (tgt := 92) dX11_count_1 ⟨3, c1_3, by decide, by decide, rfl⟩ rfl ?_
            refine zO_aload_n dX11_count_92 rfl (zR_P _) ?_
            refine gt11 (k := 0) dX11_count_93 wF_X11_10 (by decide) (gk_0 hG) (zgv (c := 11) (k := 0) rfl (Or.inr ⟨_, rfl⟩) (gf_0_0 hG)) ?_
            refine gt9 (k := 12) (v := zI (D 1 12)) dX11_count_96 wF_X11_264 (by decide) (gk_1 hG) rfl ?_
            exact zO_ret (rv := some (zI (D 1 12))) dX11_count_99 rfl rfl rfl
          · refine zO_ite (fun c1_4 => ?_) (fun c1_4 => ?_)
            · refine zO_tableIn (tgt := 100) dX11_count_1 ⟨4, c1_4, by decide, by decide, rfl⟩ rfl ?_
              refine zO_aload_n dX11_count_100 rfl (zR_P _) ?_
              refine gt11 (k := 0) dX11_count_101 wF_X11_10 (by decide) (gk_0 hG) (zgv (c := 11) (k := 0) rfl (Or.inr ⟨_, rfl⟩) (gf_0_0 hG)) ?_
              refine gt9 (k := 15) (v := zI (D 1 15)) dX11_count_104 wF_X11_323 (by decide) (gk_1 hG) rfl ?_
              exact zO_ret (rv := some (zI (D 1 15))) dX11_count_107 rfl rfl rfl
            · refine zO_ite (fun c1_5 => ?_) (fun c1_5 => ?_)
              · refine zO_tableIn (tgt := 108) dX11_count_1 ⟨5, c1_5, by decide, by decide, rfl⟩ rfl ?_
                refine zO_aload_n dX11_count_108 rfl (zR_P _) ?_
                refine gt11 (k := 0) dX11_count_109 wF_X11_10 (by decide) (gk_0 hG) (zgv (c := 11) (k := 0) rfl (Or.inr ⟨_, rfl⟩) (gf_0_0 hG)) ?_
                refine zO_callV (Y' := YX9_knownCount) (cw := zcI F n sl) (as := []) (rest := []) (na := 0) (ci := 9) rfl dX11_count_112 wC_X9_knownCount wN_X9 wM_X11_289 wI_X9_knownCount wV_X9_knownCount (by decide) (by decide) rfl rfl (Nat.le_of_ble_eq_true rfl) rfl (by decide) (gk_1 hG) (fun r hr => zMet_cast (Nat.add_assoc d 0 0) (mX9_knownCount (d := d + 0) hG  r hr)) ?_
                rintro ⟨r_3, D_4⟩ -
                show zO _ _ _ _ _ _ [zI r_3] (F, D_4, n, sl) _ _
                exact zO_ret (rv := some (zI r_3)) dX11_count_115 rfl rfl rfl
              · refine zO_ite (fun c1_6 => ?_) (fun c1_6 => ?_)
                · refine zO_tableIn (tgt := 116) dX11_count_1 ⟨6, c1_6, by decide, by decide, rfl⟩ rfl ?_
                  refine zO_aload_n dX11_count_116 rfl (zR_P _) ?_
                  refine gt11 (k := 4) (v := zI (D 0 4)) dX11_count_117 wF_X11_160 (by decide) (gk_0 hG) rfl ?_
                  exact zO_ret (rv := some (zI (D 0 4))) dX11_count_120 rfl rfl rfl
                · refine zO_ite (fun c1_7 => ?_) (fun c1_7 => ?_)
                  · refine zO_tableIn (tgt := 121) dX11_count_1 ⟨7, c1_7, by decide, by decide, rfl⟩ rfl ?_
                    refine zO_aload_n dX11_count_121 rfl (zR_P _) ?_
                    refine gt11 (k := 8) dX11_count_122 wF_X11_35 (by decide) (gk_0 hG) (zgv (c := 11) (k := 8) rfl (Or.inl ⟨_, rfl⟩) (gf_0_8 hG)) ?_
                    refine zO_iconst dX11_count_125 (by decide) ?_
                    refine zO_iald dX11_count_126 (gk_41 hG) (gl_in (gl_41 hG) (by decide)) ?_
                    exact zO_ret (rv := some (zI (D 41 1))) dX11_count_127 rfl rfl rfl
                  · refine zO_ite (fun c1_8 => ?_) (fun c1_8 => ?_)
                    · refine zO_tableIn (tgt := 128) dX11_count_1 ⟨8, c1_8, by decide, by decide, rfl⟩ rfl ?_
                      refine zO_aload_n dX11_count_128 rfl (zR_P _) ?_
                      refine gt11 (k := 8) dX11_count_129 wF_X11_35 (by decide) (gk_0 hG) (zgv (c := 11) (k := 8) rfl (Or.inl ⟨_, rfl⟩) (gf_0_8 hG)) ?_
                      refine zO_iconst dX11_count_132 (by decide) ?_
                      refine zO_iald dX11_count_133 (gk_41 hG) (gl_in (gl_41 hG) (by decide)) ?_
                      exact zO_ret (rv := some (zI (D 41 2))) dX11_count_134 rfl rfl rfl
                    · refine zO_ite (fun c1_9 => ?_) (fun c1_9 => ?_)
                      · refine zO_tableIn (tgt := 135) dX11_count_1 ⟨9, c1_9, by decide, by decide, rfl⟩ rfl ?_
                        refine zO_aload_n dX11_count_135 rfl (zR_P _) ?_
                        refine gt11 (k := 8) dX11_count_136 wF_X11_35 (by decide) (gk_0 hG) (zgv (c := 11) (k := 8) rfl (Or.inl ⟨_, rfl⟩) (gf_0_8 hG)) ?_
                        refine zO_iconst dX11_count_139 (by decide) ?_
                        refine zO_iald dX11_count_140 (gk_41 hG) (gl_in (gl_41 hG) (by decide)) ?_
                        exact zO_ret (rv := some (zI (D 41 3))) dX11_count_141 rfl rfl rfl
                      · refine zO_ite (fun c1_10 => ?_) (fun c1_10 => ?_)
                        · refine zO_tableIn (tgt := 142) dX11_count_1 ⟨10, c1_10, by decide, by decide, rfl⟩ rfl ?_
                          refine zO_aload_n dX11_count_142 rfl (zR_P _) ?_
                          refine gt11 (k := 8) dX11_count_143 wF_X11_35 (by decide) (gk_0 hG) (zgv (c := 11) (k := 8) rfl (Or.inl ⟨_, rfl⟩) (gf_0_8 hG)) ?_
                          refine zO_iconst dX11_count_146 (by decide) ?_
                          refine zO_iald dX11_count_147 (gk_41 hG) (gl_in (gl_41 hG) (by decide)) ?_
                          exact zO_ret (rv := some (zI (D 41 5))) dX11_count_148 rfl rfl rfl
                        · refine zO_ite (fun c1_11 => ?_) (fun c1_11 => ?_)
                          · refine zO_tableIn (tgt := 149) dX11_count_1 ⟨11, c1_11, by decide, by decide, rfl⟩ rfl ?_
                            refine zO_aload_n dX11_count_149 rfl (zR_P _) ?_
                            refine gt11 (k := 8) dX11_count_150 wF_X11_35 (by decide) (gk_0 hG) (zgv (c := 11) (k := 8) rfl (Or.inl ⟨_, rfl⟩) (gf_0_8 hG)) ?_
                            refine zO_bipush dX11_count_153 (by decide) ?_
                            refine zO_iald dX11_count_155 (gk_41 hG) (gl_in (gl_41 hG) (by decide)) ?_
                            exact zO_ret (rv := some (zI (D 41 6))) dX11_count_156 rfl rfl rfl
                          · refine zO_ite (fun c1_12 => ?_) (fun c1_12 => ?_)
                            · refine zO_tableIn (tgt := 157) dX11_count_1 ⟨12, c1_12, by decide, by decide, rfl⟩ rfl ?_
                              refine zO_aload_n dX11_count_157 rfl (zR_P _) ?_
                              refine gt11 (k := 0) dX11_count_158 wF_X11_10 (by decide) (gk_0 hG) (zgv (c := 11) (k := 0) rfl (Or.inr ⟨_, rfl⟩) (gf_0_0 hG)) ?_
                              refine gt9 (k := 9) (v := zI (D 1 9)) dX11_count_161 wF_X11_181 (by decide) (gk_1 hG) rfl ?_
                              exact zO_ret (rv := some (zI (D 1 9))) dX11_count_164 rfl rfl rfl
                            · refine zO_tableOut (tgt := 165) dX11_count_1 (by omega) rfl ?_
                              refine zO_iconst dX11_count_165 (by decide) ?_
                              exact zO_ret (rv := some (zI (-1))) dX11_count_166 rfl rfl rfl
  exact hz r hr
theorem dX11_status_0 : decode cX11_status 0 = .ok (.aload_n 0, 1) := by decide +kernel
theorem dX11_status_1 : decode cX11_status 1 = .ok (.getfield 38, 3) := by decide +kernel
theorem dX11_status_4 : decode cX11_status 4 = .ok (.ireturn, 1) := by decide +kernel
abbrev YX11_status : zY := (yX11_status, cX11_status, 1, (Option.some Jvm.ClassFile.FieldType.int), [])
def fX11_status (F : zFs)  (D : zDa) : Option (Int × zDa) :=
  some ((D 0 9), D)
set_option maxHeartbeats 20000000 in
theorem mX11_status {l : Launch} {E : zE} {d : Nat} {F : zFs} {n sl : Nat} (hG : zG F)  {D : zDa} : ∀ r, fX11_status F   D = some r → zMet l E (d + 0) YX11_status [zR 0] (F, D, n, sl) (zcI F n sl r) := by
  intro r hr
  refine zMet_of (plainFor_of_name (by decide)) (fun _ h => (nomatch h)) (Nat.le_of_ble_eq_true rfl) ?_
  have hz : zO l E (d + 0) YX11_status 0 [(0, zR 0)] [] (F, D, n, sl) (zcI F n sl) (fX11_status F   D) := by
    unfold fX11_status
    refine zO_aload_n dX11_status_0 rfl (zR_P _) ?_
    refine gt11 (k := 9) (v := zI (D 0 9)) dX11_status_1 wF_X11_38 (by decide) (gk_0 hG) rfl ?_
    exact zO_ret (rv := some (zI (D 0 9))) dX11_status_4 rfl rfl rfl
  exact hz r hr
theorem dX12_lies_0 : decode cX12_lies 0 = .ok (.iload_n 0, 1) := by decide +kernel
theorem dX12_lies_1 : decode cX12_lies 1 = .ok (.iload_n 1, 1) := by decide +kernel
theorem dX12_lies_2 : decode cX12_lies 2 = .ok (.if_icmp .lt 12, 3) := by decide +kernel
theorem dX12_lies_5 : decode cX12_lies 5 = .ok (.iload_n 0, 1) := by decide +kernel
theorem dX12_lies_6 : decode cX12_lies 6 = .ok (.iload_n 2, 1) := by decide +kernel
theorem dX12_lies_7 : decode cX12_lies 7 = .ok (.if_icmp .gt 7, 3) := by decide +kernel
theorem dX12_lies_10 : decode cX12_lies 10 = .ok (.iconst 1, 1) := by decide +kernel
theorem dX12_lies_11 : decode cX12_lies 11 = .ok (.goto 4, 3) := by decide +kernel
theorem dX12_lies_14 : decode cX12_lies 14 = .ok (.iconst 0, 1) := by decide +kernel
theorem dX12_lies_15 : decode cX12_lies 15 = .ok (.ireturn, 1) := by decide +kernel
abbrev YX12_lies : zY := (yX12_lies, cX12_lies, 3, (Option.some Jvm.ClassFile.FieldType.boolean), [])
def fX12_lies (F : zFs) (v0 : Int) (v1 : Int) (v2 : Int) (D : zDa) : Option (Int × zDa) :=
  if v0 < v1 then
    some (0, D)
  else
    if v2 < v0 then
      some (0, D)
    else
      some (1, D)
set_option maxHeartbeats 20000000 in
theorem mX12_lies {l : Launch} {E : zE} {d : Nat} {F : zFs} {n sl : Nat} (hG : zG F) (v0 : Int) (v1 : Int) (v2 : Int) {D : zDa} : ∀ r, fX12_lies F  v0 v1 v2 D = some r → zMet l E (d + 0) YX12_lies [zI v0, zI v1, zI v2] (F, D, n, sl) (zcI F n sl r) := by
  intro r hr
  refine zMet_of (plainFor_of_name (by decide)) (fun _ h => (nomatch h)) (Nat.le_of_ble_eq_true rfl) ?_
  have hz : zO l E (d + 0) YX12_lies 0 [(0, zI v0), (1, zI v1), (2, zI v2)] [] (F, D, n, sl) (zcI F n sl) (fX12_lies F  v0 v1 v2 D) := by
    unfold fX12_lies
    refine zO_iload_n dX12_lies_0 rfl ?_
    refine zO_iload_n dX12_lies_1 rfl ?_
    refine zO_icmp_lt (tgt := 14) dX12_lies_2 rfl (fun c2 => ?_) (fun c2 => ?_)
    · refine zO_iconst dX12_lies_14 (by decide) ?_
      exact zO_ret (rv := some (zI 0)) dX12_lies_15 rfl rfl rfl
    · refine zO_iload_n dX12_lies_5 rfl ?_
      refine zO_iload_n dX12_lies_6 rfl ?_
      refine zO_icmp_gt (tgt := 14) dX12_lies_7 rfl (fun c7 => ?_) (fun c7 => ?_)
      · refine zO_iconst dX12_lies_14 (by decide) ?_
        exact zO_ret (rv := some (zI 0)) dX12_lies_15 rfl rfl rfl
      · refine zO_iconst dX12_lies_10 (by decide) ?_
        refine zO_goto (tgt := 15) dX12_lies_11 rfl ?_
        exact zO_ret (rv := some (zI 1)) dX12_lies_15 rfl rfl rfl
  exact hz r hr
theorem dX12_refuses_0 : decode cX12_refuses 0 = .ok (.aload_n 0, 1) := by decide +kernel
theorem dX12_refuses_1 : decode cX12_refuses 1 = .ok (.iload_n 1, 1) := by decide +kernel
theorem dX12_refuses_2 : decode cX12_refuses 2 = .ok (.putfield 3, 3) := by decide +kernel
theorem dX12_refuses_5 : decode cX12_refuses 5 = .ok (.aload_n 0, 1) := by decide +kernel
theorem dX12_refuses_6 : decode cX12_refuses 6 = .ok (.getfield 7, 3) := by decide +kernel
theorem dX12_refuses_9 : decode cX12_refuses 9 = .ok (.iload_n 1, 1) := by decide +kernel
theorem dX12_refuses_10 : decode cX12_refuses 10 = .ok (.ineg, 1) := by decide +kernel
theorem dX12_refuses_11 : decode cX12_refuses 11 = .ok (.dup2, 1) := by decide +kernel
theorem dX12_refuses_12 : decode cX12_refuses 12 = .ok (.iaload, 1) := by decide +kernel
theorem dX12_refuses_13 : decode cX12_refuses 13 = .ok (.iconst 1, 1) := by decide +kernel
theorem dX12_refuses_14 : decode cX12_refuses 14 = .ok (.iadd, 1) := by decide +kernel
theorem dX12_refuses_15 : decode cX12_refuses 15 = .ok (.iastore, 1) := by decide +kernel
theorem dX12_refuses_16 : decode cX12_refuses 16 = .ok (.iload_n 1, 1) := by decide +kernel
theorem dX12_refuses_17 : decode cX12_refuses 17 = .ok (.ireturn, 1) := by decide +kernel
abbrev YX12_refuses : zY := (yX12_refuses, cX12_refuses, 2, (Option.some Jvm.ClassFile.FieldType.int), [])
def fX12_refuses (F : zFs) (v1 : Int) (D : zDa) : Option (Int × zDa) :=
  zlet (zwr D 91 0 v1) (fun D_1 =>
    if (-2147483648 ≤ -v1 ∧ -v1 ≤ 2147483647) ∧ (0 ≤ (-v1) ∧ (-v1) < 7) ∧ (-2147483648 ≤ (D_1 92 (-v1).toNat) + 1 ∧ (D_1 92 (-v1).toNat) + 1 ≤ 2147483647) then
      zlet (zwr D_1 92 (-v1).toNat ((D_1 92 (-v1).toNat) + 1)) (fun D_2 =>
        some (v1, D_2))
    else none)
set_option maxHeartbeats 20000000 in
theorem mX12_refuses {l : Launch} {E : zE} {d : Nat} {F : zFs} {n sl : Nat} (hG : zG F) (v1 : Int) {D : zDa} : ∀ r, fX12_refuses F  v1 D = some r → zMet l E (d + 0) YX12_refuses [zR 91, zI v1] (F, D, n, sl) (zcI F n sl r) := by
  intro r hr
  refine zMet_of (plainFor_of_name (by decide)) (fun _ h => (nomatch h)) (Nat.le_of_ble_eq_true rfl) ?_
  have hz : zO l E (d + 0) YX12_refuses 0 [(0, zR 91), (1, zI v1)] [] (F, D, n, sl) (zcI F n sl) (fX12_refuses F  v1 D) := by
    unfold fX12_refuses
    refine zO_aload_n dX12_refuses_0 rfl (zR_P _) ?_
    refine zO_iload_n dX12_refuses_1 rfl ?_
    refine ptI12 (k := 0) (z := v1) dX12_refuses_2 wF_X12_3 (by decide) rfl (gk_91 hG) rfl ?_
    refine zO_letD (fun D_1 eD_1 => ?_)
    refine zO_chk (fun h1 => ?_)
    refine zO_aload_n dX12_refuses_5 rfl (zR_P _) ?_
    refine gt12 (k := 2) dX12_refuses_6 wF_X12_7 (by decide) (gk_91 hG) (zgv (c := 12) (k := 2) rfl (Or.inl ⟨_, rfl⟩) (gf_91_2 hG)) ?_
    refine zO_iload_n dX12_refuses_9 rfl ?_
    refine zO_ineg dX12_refuses_10 h1.1 ?_
    refine zO_dup2a dX12_refuses_11 (rfl) (rfl) ?_
    refine zO_iald dX12_refuses_12 (gk_92 hG) (gl_in (gl_92 hG) h1.2.1) ?_
    refine zO_iconst dX12_refuses_13 (by decide) ?_
    refine zO_iadd dX12_refuses_14 h1.2.2 ?_
    refine zO_iast dX12_refuses_15 (gk_92 hG) (gl_in (gl_92 hG) h1.2.1) ?_
    refine zO_letD (fun D_2 eD_2 => ?_)
    refine zO_iload_n dX12_refuses_16 rfl ?_
    exact zO_ret (rv := some (zI v1)) dX12_refuses_17 rfl rfl rfl
  exact hz r hr
theorem dX12_good_0 : decode cX12_good 0 = .ok (.aload_n 0, 1) := by decide +kernel
theorem dX12_good_1 : decode cX12_good 1 = .ok (.iconst 0, 1) := by decide +kernel
theorem dX12_good_2 : decode cX12_good 2 = .ok (.putfield 3, 3) := by decide +kernel
theorem dX12_good_5 : decode cX12_good 5 = .ok (.aload_n 0, 1) := by decide +kernel
theorem dX12_good_6 : decode cX12_good 6 = .ok (.dup, 1) := by decide +kernel
theorem dX12_good_7 : decode cX12_good 7 = .ok (.getfield 11, 3) := by decide +kernel
theorem dX12_good_10 : decode cX12_good 10 = .ok (.iconst 1, 1) := by decide +kernel
theorem dX12_good_11 : decode cX12_good 11 = .ok (.iadd, 1) := by decide +kernel
theorem dX12_good_12 : decode cX12_good 12 = .ok (.putfield 11, 3) := by decide +kernel
theorem dX12_good_15 : decode cX12_good 15 = .ok (.iload_n 1, 1) := by decide +kernel
theorem dX12_good_16 : decode cX12_good 16 = .ok (.ireturn, 1) := by decide +kernel
abbrev YX12_good : zY := (yX12_good, cX12_good, 2, (Option.some Jvm.ClassFile.FieldType.int), [])
def fX12_good (F : zFs) (v1 : Int) (D : zDa) : Option (Int × zDa) :=
  zlet (zwr D 91 0 0) (fun D_1 =>
    if (-2147483648 ≤ (D_1 91 1) + 1 ∧ (D_1 91 1) + 1 ≤ 2147483647) then
      zlet (zwr D_1 91 1 ((D_1 91 1) + 1)) (fun D_2 =>
        some (v1, D_2))
    else none)
set_option maxHeartbeats 20000000 in
theorem mX12_good {l : Launch} {E : zE} {d : Nat} {F : zFs} {n sl : Nat} (hG : zG F) (v1 : Int) {D : zDa} : ∀ r, fX12_good F  v1 D = some r → zMet l E (d + 0) YX12_good [zR 91, zI v1] (F, D, n, sl) (zcI F n sl r) := by
  intro r hr
  refine zMet_of (plainFor_of_name (by decide)) (fun _ h => (nomatch h)) (Nat.le_of_ble_eq_true rfl) ?_
  have hz : zO l E (d + 0) YX12_good 0 [(0, zR 91), (1, zI v1)] [] (F, D, n, sl) (zcI F n sl) (fX12_good F  v1 D) := by
    unfold fX12_good
    refine zO_aload_n dX12_good_0 rfl (zR_P _) ?_
    refine zO_iconst dX12_good_1 (by decide) ?_
    refine ptI12 (k := 0) (z := 0) dX12_good_2 wF_X12_3 (by decide) rfl (gk_91 hG) rfl ?_
    refine zO_letD (fun D_1 eD_1 => ?_)
    refine zO_chk (fun h1 => ?_)
    refine zO_aload_n dX12_good_5 rfl (zR_P _) ?_
    refine zO_dup dX12_good_6 (rfl) ?_
    refine gt12 (k := 1) (v := zI (D_1 91 1)) dX12_good_7 wF_X12_11 (by decide) (gk_91 hG) rfl ?_
    refine zO_iconst dX12_good_10 (by decide) ?_
    refine zO_iadd dX12_good_11 h1 ?_
    refine ptI12 (k := 1) (z := ((D_1 91 1) + 1)) dX12_good_12 wF_X12_11 (by decide) rfl (gk_91 hG) rfl ?_
    refine zO_letD (fun D_2 eD_2 => ?_)
    refine zO_iload_n dX12_good_15 rfl ?_
    exact zO_ret (rv := some (zI v1)) dX12_good_16 rfl rfl rfl
  exact hz r hr
theorem dX12_image_0 : decode cX12_image 0 = .ok (.iload_n 1, 1) := by decide +kernel
theorem dX12_image_1 : decode cX12_image 1 = .ok (.iconst 0, 1) := by decide +kernel
theorem dX12_image_2 : decode cX12_image 2 = .ok (.iconst 1, 1) := by decide +kernel
theorem dX12_image_3 : decode cX12_image 3 = .ok (.invokestatic 135, 3) := by decide +kernel
theorem dX12_image_6 : decode cX12_image 6 = .ok (.ifCond .ne 9, 3) := by decide +kernel
theorem dX12_image_9 : decode cX12_image 9 = .ok (.aload_n 0, 1) := by decide +kernel
theorem dX12_image_10 : decode cX12_image 10 = .ok (.iconst (-1), 1) := by decide +kernel
theorem dX12_image_11 : decode cX12_image 11 = .ok (.invokevirtual 139, 3) := by decide +kernel
theorem dX12_image_14 : decode cX12_image 14 = .ok (.ireturn, 1) := by decide +kernel
theorem dX12_image_15 : decode cX12_image 15 = .ok (.iconst 0, 1) := by decide +kernel
theorem dX12_image_16 : decode cX12_image 16 = .ok (.istore_n 2, 1) := by decide +kernel
theorem dX12_image_17 : decode cX12_image 17 = .ok (.iload_n 2, 1) := by decide +kernel
theorem dX12_image_18 : decode cX12_image 18 = .ok (.sipush 5201, 3) := by decide +kernel
theorem dX12_image_21 : decode cX12_image 21 = .ok (.if_icmp .ge 27, 3) := by decide +kernel
theorem dX12_image_24 : decode cX12_image 24 = .ok (.aload_n 0, 1) := by decide +kernel
theorem dX12_image_25 : decode cX12_image 25 = .ok (.getfield 23, 3) := by decide +kernel
theorem dX12_image_28 : decode cX12_image 28 = .ok (.sipush 5201, 3) := by decide +kernel
theorem dX12_image_31 : decode cX12_image 31 = .ok (.iload_n 1, 1) := by decide +kernel
theorem dX12_image_32 : decode cX12_image 32 = .ok (.imul, 1) := by decide +kernel
theorem dX12_image_33 : decode cX12_image 33 = .ok (.iload_n 2, 1) := by decide +kernel
theorem dX12_image_34 : decode cX12_image 34 = .ok (.iadd, 1) := by decide +kernel
theorem dX12_image_35 : decode cX12_image 35 = .ok (.aload_n 0, 1) := by decide +kernel
theorem dX12_image_36 : decode cX12_image 36 = .ok (.getfield 20, 3) := by decide +kernel
theorem dX12_image_39 : decode cX12_image 39 = .ok (.iload_n 2, 1) := by decide +kernel
theorem dX12_image_40 : decode cX12_image 40 = .ok (.iaload, 1) := by decide +kernel
theorem dX12_image_41 : decode cX12_image 41 = .ok (.iastore, 1) := by decide +kernel
theorem dX12_image_42 : decode cX12_image 42 = .ok (.iinc 2 1, 3) := by decide +kernel
theorem dX12_image_45 : decode cX12_image 45 = .ok (.goto (-28), 3) := by decide +kernel
theorem dX12_image_48 : decode cX12_image 48 = .ok (.aload_n 0, 1) := by decide +kernel
theorem dX12_image_49 : decode cX12_image 49 = .ok (.getfield 26, 3) := by decide +kernel
theorem dX12_image_52 : decode cX12_image 52 = .ok (.iload_n 1, 1) := by decide +kernel
theorem dX12_image_53 : decode cX12_image 53 = .ok (.iconst 1, 1) := by decide +kernel
theorem dX12_image_54 : decode cX12_image 54 = .ok (.bastore, 1) := by decide +kernel
theorem dX12_image_55 : decode cX12_image 55 = .ok (.aload_n 0, 1) := by decide +kernel
theorem dX12_image_56 : decode cX12_image 56 = .ok (.iconst 0, 1) := by decide +kernel
theorem dX12_image_57 : decode cX12_image 57 = .ok (.invokevirtual 143, 3) := by decide +kernel
theorem dX12_image_60 : decode cX12_image 60 = .ok (.ireturn, 1) := by decide +kernel
abbrev YX12_image : zY := (yX12_image, cX12_image, 3, (Option.some Jvm.ClassFile.FieldType.int), [])
def fX12_image_17 (F : zFs) (o1 : Int)  (k_17 : Int → zDa → Option (Int × zDa)) (v2 : Int) (D : zDa) : Option (Int × zDa) :=
  if v2 < 5201 then
    if (-2147483648 ≤ 5201 * o1 ∧ 5201 * o1 ≤ 2147483647) ∧ (-2147483648 ≤ (5201 * o1) + v2 ∧ (5201 * o1) + v2 ≤ 2147483647) ∧ (0 ≤ v2 ∧ v2 < 5201) ∧ (0 ≤ ((5201 * o1) + v2) ∧ ((5201 * o1) + v2) < 10402) then
      zlet (zwr D 94 ((5201 * o1) + v2).toNat (D 93 v2.toNat)) (fun D_5 =>
        if (-2147483648 ≤ v2 + 1 ∧ v2 + 1 ≤ 2147483647) then
          k_17 (v2 + 1) D_5
        else none)
    else none
  else
    if (0 ≤ o1 ∧ o1 < 2) then
      zlet (zwr D 95 o1.toNat 1) (fun D_6 =>
        (fX12_good F 0 D_6).bind (fun (r_7, D_8) =>
          some (r_7, D_8)))
    else none
def fX12_image (F : zFs) (v1 : Int) (D : zDa) : Option (Int × zDa) :=
  (fX12_lies F v1 0 1 D).bind (fun (r_1, D_2) =>
    if r_1 = 0 then
      (fX12_refuses F (-1) D_2).bind (fun (r_3, D_4) =>
        some (r_3, D_4))
    else
      zfix (fun _ _ => none) (fX12_image_17 F v1) zfu 0 D_2)
set_option maxHeartbeats 20000000 in
theorem sX12_image_17 {l : Launch} {E : zE} {d : Nat} {F : zFs} {n sl : Nat} (hG : zG F)  (o1 : Int)   : ∀ (N : Nat) (v2 : Int) (D : zDa), zO l E (d + 1) YX12_image 17 [(0, zR 91), (1, zI o1), (2, zI v2)] [] (F, D, n, sl) (zcI F n sl) (zfix (fun _ _ => none) (fX12_image_17 F o1) N v2 D) := by
  intro N
  induction N with
  | zero => intro v2 D; exact zO_none
  | succ N hk_17 =>
    intro v2 D
    show zO _ _ _ _ _ _ _ _ _ ((fX12_image_17 F o1) (zfix (fun _ _ => none) (fX12_image_17 F o1) N) v2 D)
    unfold fX12_image_17
    refine zO_iload_n dX12_image_17 rfl ?_
    refine zO_sipush dX12_image_18 (by decide) ?_
    refine zO_icmp_ge (tgt := 48) dX12_image_21 rfl (fun c21 => ?_) (fun c21 => ?_)
    · refine zO_chk (fun h1 => ?_)
      refine zO_aload_n dX12_image_24 rfl (zR_P _) ?_
      refine gt12 (k := 4) dX12_image_25 wF_X12_23 (by decide) (gk_91 hG) (zgv (c := 12) (k := 4) rfl (Or.inl ⟨_, rfl⟩) (gf_91_4 hG)) ?_
      refine zO_sipush dX12_image_28 (by decide) ?_
      refine zO_iload_n dX12_image_31 rfl ?_
      refine zO_imul dX12_image_32 h1.1 ?_
      refine zO_iload_n dX12_image_33 rfl ?_
      refine zO_iadd dX12_image_34 h1.2.1 ?_
      refine zO_aload_n dX12_image_35 rfl (zR_P _) ?_
      refine gt12 (k := 3) dX12_image_36 wF_X12_20 (by decide) (gk_91 hG) (zgv (c := 12) (k := 3) rfl (Or.inl ⟨_, rfl⟩) (gf_91_3 hG)) ?_
      refine zO_iload_n dX12_image_39 rfl ?_
      refine zO_iald dX12_image_40 (gk_93 hG) (gl_in (gl_93 hG) h1.2.2.1) ?_
      refine zO_iast dX12_image_41 (gk_94 hG) (gl_in (gl_94 hG) h1.2.2.2) ?_
      refine zO_letD (fun D_5 eD_5 => ?_)
      refine zO_chk (fun h2 => ?_)
      refine zO_iinc dX12_image_42 rfl h2 (by decide) ?_
      refine zO_ls (ls' := [(0, zR 91), (1, zI o1), (2, zI (v2 + 1))]) rfl ?_
      refine zO_goto (tgt := 17) dX12_image_45 rfl ?_
      refine zO_live [0, 1, 2] ?_
      exact hk_17 (v2 + 1) D_5
    · refine zO_chk (fun h3 => ?_)
      refine zO_aload_n dX12_image_48 rfl (zR_P _) ?_
      refine gt12 (k := 5) dX12_image_49 wF_X12_26 (by decide) (gk_91 hG) (zgv (c := 12) (k := 5) rfl (Or.inl ⟨_, rfl⟩) (gf_91_5 hG)) ?_
      refine zO_iload_n dX12_image_52 rfl ?_
      refine zO_iconst dX12_image_53 (by decide) ?_
      refine zO_zast dX12_image_54 (gk_95 hG) (gl_in (gl_95 hG) h3) (Or.inr rfl) ?_
      refine zO_letD (fun D_6 eD_6 => ?_)
      refine zO_aload_n dX12_image_55 rfl (zR_P _) ?_
      refine zO_iconst dX12_image_56 (by decide) ?_
      refine zO_callV (Y' := YX12_good) (cw := zcI F n sl) (as := [zI 0]) (rest := []) (na := 1) (ci := 12) rfl dX12_image_57 wC_X12_good wN_X12 wM_X12_143 wI_X12_good wV_X12_good (by decide) (by decide) rfl rfl (Nat.le_of_ble_eq_true rfl) rfl (by decide) (gk_91 hG) (fun r hr => zMet_cast (Nat.add_assoc d 0 0) (mX12_good (d := d + 0) hG 0 r hr)) ?_
      rintro ⟨r_7, D_8⟩ -
      show zO _ _ _ _ _ _ [zI r_7] (F, D_8, n, sl) _ _
      exact zO_ret (rv := some (zI r_7)) dX12_image_60 rfl rfl rfl
set_option maxHeartbeats 20000000 in
theorem mX12_image {l : Launch} {E : zE} {d : Nat} {F : zFs} {n sl : Nat} (hG : zG F) (v1 : Int) {D : zDa} : ∀ r, fX12_image F  v1 D = some r → zMet l E (d + 1) YX12_image [zR 91, zI v1] (F, D, n, sl) (zcI F n sl r) := by
  intro r hr
  refine zMet_of (plainFor_of_name (by decide)) (fun _ h => (nomatch h)) (Nat.le_of_ble_eq_true rfl) ?_
  have hz : zO l E (d + 1) YX12_image 0 [(0, zR 91), (1, zI v1)] [] (F, D, n, sl) (zcI F n sl) (fX12_image F  v1 D) := by
    unfold fX12_image
    refine zO_iload_n dX12_image_0 rfl ?_
    refine zO_iconst dX12_image_1 (by decide) ?_
    refine zO_iconst dX12_image_2 (by decide) ?_
    refine zO_callS (Y' := YX12_lies) (cw := zcI F n sl) (as := [zI v1, zI 0, zI 1]) (rest := []) (na := 3) dX12_image_3 wC_X12_lies wN_X12 wM_X12_135 wS_X12_lies (by decide) (by decide) rfl rfl (Nat.le_of_ble_eq_true rfl) (fun r hr => zMet_cast (Nat.add_assoc d 0 0) (mX12_lies (d := d + 0) hG v1 0 1 r hr)) ?_
    rintro ⟨r_1, D_2⟩ -
    show zO _ _ _ _ _ _ [zI r_1] (F, D_2, n, sl) _ _
    refine zO_if_ne (tgt := 15) dX12_image_6 rfl (fun c6 => ?_) (fun c6 => ?_)
    · refine zO_aload_n dX12_image_9 rfl (zR_P _) ?_
      refine zO_iconst dX12_image_10 (by decide) ?_
      refine zO_callV (Y' := YX12_refuses) (cw := zcI F n sl) (as := [zI (-1)]) (rest := []) (na := 1) (ci := 12) rfl dX12_image_11 wC_X12_refuses wN_X12 wM_X12_139 wI_X12_refuses wV_X12_refuses (by decide) (by decide) rfl rfl (Nat.le_of_ble_eq_true rfl) rfl (by decide) (gk_91 hG) (fun r hr => zMet_cast (Nat.add_assoc d 0 0) (mX12_refuses (d := d + 0) hG (-1) r hr)) ?_
      rintro ⟨r_3, D_4⟩ -
      show zO _ _ _ _ _ _ [zI r_3] (F, D_4, n, sl) _ _
      exact zO_ret (rv := some (zI r_3)) dX12_image_14 rfl rfl rfl
    · refine zO_iconst dX12_image_15 (by decide) ?_
      refine zO_istore_n dX12_image_16 (by decide) ?_
      refine zO_ls (ls' := [(0, zR 91), (1, zI v1), (2, zI 0)]) rfl ?_
      refine zO_live [0, 1, 2] ?_
      exact sX12_image_17 hG v1 zfu 0 D_2
  exact hz r hr
theorem dX12_back_0 : decode cX12_back 0 = .ok (.iload_n 1, 1) := by decide +kernel
theorem dX12_back_1 : decode cX12_back 1 = .ok (.iconst 0, 1) := by decide +kernel
theorem dX12_back_2 : decode cX12_back 2 = .ok (.iconst 1, 1) := by decide +kernel
theorem dX12_back_3 : decode cX12_back 3 = .ok (.invokestatic 135, 3) := by decide +kernel
theorem dX12_back_6 : decode cX12_back 6 = .ok (.ifCond .ne 9, 3) := by decide +kernel
theorem dX12_back_9 : decode cX12_back 9 = .ok (.aload_n 0, 1) := by decide +kernel
theorem dX12_back_10 : decode cX12_back 10 = .ok (.iconst (-1), 1) := by decide +kernel
theorem dX12_back_11 : decode cX12_back 11 = .ok (.invokevirtual 139, 3) := by decide +kernel
theorem dX12_back_14 : decode cX12_back 14 = .ok (.ireturn, 1) := by decide +kernel
theorem dX12_back_15 : decode cX12_back 15 = .ok (.aload_n 0, 1) := by decide +kernel
theorem dX12_back_16 : decode cX12_back 16 = .ok (.getfield 26, 3) := by decide +kernel
theorem dX12_back_19 : decode cX12_back 19 = .ok (.iload_n 1, 1) := by decide +kernel
theorem dX12_back_20 : decode cX12_back 20 = .ok (.baload, 1) := by decide +kernel
theorem dX12_back_21 : decode cX12_back 21 = .ok (.ifCond .ne 10, 3) := by decide +kernel
theorem dX12_back_24 : decode cX12_back 24 = .ok (.aload_n 0, 1) := by decide +kernel
theorem dX12_back_25 : decode cX12_back 25 = .ok (.bipush (-2), 2) := by decide +kernel
theorem dX12_back_27 : decode cX12_back 27 = .ok (.invokevirtual 139, 3) := by decide +kernel
theorem dX12_back_30 : decode cX12_back 30 = .ok (.ireturn, 1) := by decide +kernel
theorem dX12_back_31 : decode cX12_back 31 = .ok (.iconst 0, 1) := by decide +kernel
theorem dX12_back_32 : decode cX12_back 32 = .ok (.istore_n 2, 1) := by decide +kernel
theorem dX12_back_33 : decode cX12_back 33 = .ok (.iload_n 2, 1) := by decide +kernel
theorem dX12_back_34 : decode cX12_back 34 = .ok (.sipush 5201, 3) := by decide +kernel
theorem dX12_back_37 : decode cX12_back 37 = .ok (.if_icmp .ge 27, 3) := by decide +kernel
theorem dX12_back_40 : decode cX12_back 40 = .ok (.aload_n 0, 1) := by decide +kernel
theorem dX12_back_41 : decode cX12_back 41 = .ok (.getfield 20, 3) := by decide +kernel
theorem dX12_back_44 : decode cX12_back 44 = .ok (.iload_n 2, 1) := by decide +kernel
theorem dX12_back_45 : decode cX12_back 45 = .ok (.aload_n 0, 1) := by decide +kernel
theorem dX12_back_46 : decode cX12_back 46 = .ok (.getfield 23, 3) := by decide +kernel
theorem dX12_back_49 : decode cX12_back 49 = .ok (.sipush 5201, 3) := by decide +kernel
theorem dX12_back_52 : decode cX12_back 52 = .ok (.iload_n 1, 1) := by decide +kernel
theorem dX12_back_53 : decode cX12_back 53 = .ok (.imul, 1) := by decide +kernel
theorem dX12_back_54 : decode cX12_back 54 = .ok (.iload_n 2, 1) := by decide +kernel
theorem dX12_back_55 : decode cX12_back 55 = .ok (.iadd, 1) := by decide +kernel
theorem dX12_back_56 : decode cX12_back 56 = .ok (.iaload, 1) := by decide +kernel
theorem dX12_back_57 : decode cX12_back 57 = .ok (.iastore, 1) := by decide +kernel
theorem dX12_back_58 : decode cX12_back 58 = .ok (.iinc 2 1, 3) := by decide +kernel
theorem dX12_back_61 : decode cX12_back 61 = .ok (.goto (-28), 3) := by decide +kernel
theorem dX12_back_64 : decode cX12_back 64 = .ok (.aload_n 0, 1) := by decide +kernel
theorem dX12_back_65 : decode cX12_back 65 = .ok (.iconst 0, 1) := by decide +kernel
theorem dX12_back_66 : decode cX12_back 66 = .ok (.invokevirtual 143, 3) := by decide +kernel
theorem dX12_back_69 : decode cX12_back 69 = .ok (.ireturn, 1) := by decide +kernel
abbrev YX12_back : zY := (yX12_back, cX12_back, 3, (Option.some Jvm.ClassFile.FieldType.int), [])
def fX12_back_33 (F : zFs) (o1 : Int)  (k_33 : Int → zDa → Option (Int × zDa)) (v2 : Int) (D : zDa) : Option (Int × zDa) :=
  if v2 < 5201 then
    if (-2147483648 ≤ 5201 * o1 ∧ 5201 * o1 ≤ 2147483647) ∧ (-2147483648 ≤ (5201 * o1) + v2 ∧ (5201 * o1) + v2 ≤ 2147483647) ∧ (0 ≤ ((5201 * o1) + v2) ∧ ((5201 * o1) + v2) < 10402) ∧ (0 ≤ v2 ∧ v2 < 5201) then
      zlet (zwr D 93 v2.toNat (D 94 ((5201 * o1) + v2).toNat)) (fun D_7 =>
        if (-2147483648 ≤ v2 + 1 ∧ v2 + 1 ≤ 2147483647) then
          k_33 (v2 + 1) D_7
        else none)
    else none
  else
    (fX12_good F 0 D).bind (fun (r_8, D_9) =>
      some (r_8, D_9))
def fX12_back (F : zFs) (v1 : Int) (D : zDa) : Option (Int × zDa) :=
  (fX12_lies F v1 0 1 D).bind (fun (r_1, D_2) =>
    if r_1 = 0 then
      (fX12_refuses F (-1) D_2).bind (fun (r_3, D_4) =>
        some (r_3, D_4))
    else
      if (0 ≤ v1 ∧ v1 < 2) then
        if (D_2 95 v1.toNat) = 0 then
          (fX12_refuses F (-2) D_2).bind (fun (r_5, D_6) =>
            some (r_5, D_6))
        else
          zfix (fun _ _ => none) (fX12_back_33 F v1) zfu 0 D_2
      else none)
set_option maxHeartbeats 20000000 in
theorem sX12_back_33 {l : Launch} {E : zE} {d : Nat} {F : zFs} {n sl : Nat} (hG : zG F)  (o1 : Int)   : ∀ (N : Nat) (v2 : Int) (D : zDa), zO l E (d + 1) YX12_back 33 [(0, zR 91), (1, zI o1), (2, zI v2)] [] (F, D, n, sl) (zcI F n sl) (zfix (fun _ _ => none) (fX12_back_33 F o1) N v2 D) := by
  intro N
  induction N with
  | zero => intro v2 D; exact zO_none
  | succ N hk_33 =>
    intro v2 D
    show zO _ _ _ _ _ _ _ _ _ ((fX12_back_33 F o1) (zfix (fun _ _ => none) (fX12_back_33 F o1) N) v2 D)
    unfold fX12_back_33
    refine zO_iload_n dX12_back_33 rfl ?_
    refine zO_sipush dX12_back_34 (by decide) ?_
    refine zO_icmp_ge (tgt := 64) dX12_back_37 rfl (fun c37 => ?_) (fun c37 => ?_)
    · refine zO_chk (fun h2 => ?_)
      refine zO_aload_n dX12_back_40 rfl (zR_P _) ?_
      refine gt12 (k := 3) dX12_back_41 wF_X12_20 (by decide) (gk_91 hG) (zgv (c := 12) (k := 3) rfl (Or.inl ⟨_, rfl⟩) (gf_91_3 hG)) ?_
      refine zO_iload_n dX12_back_44 rfl ?_
      refine zO_aload_n dX12_back_45 rfl (zR_P _) ?_
      refine gt12 (k := 4) dX12_back_46 wF_X12_23 (by decide) (gk_91 hG) (zgv (c := 12) (k := 4) rfl (Or.inl ⟨_, rfl⟩) (gf_91_4 hG)) ?_
      refine zO_sipush dX12_back_49 (by decide) ?_
      refine zO_iload_n dX12_back_52 rfl ?_
      refine zO_imul dX12_back_53 h2.1 ?_
      refine zO_iload_n dX12_back_54 rfl ?_
      refine zO_iadd dX12_back_55 h2.2.1 ?_
      refine zO_iald dX12_back_56 (gk_94 hG) (gl_in (gl_94 hG) h2.2.2.1) ?_
      refine zO_iast dX12_back_57 (gk_93 hG) (gl_in (gl_93 hG) h2.2.2.2) ?_
      refine zO_letD (fun D_7 eD_7 => ?_)
      refine zO_chk (fun h3 => ?_)
      refine zO_iinc dX12_back_58 rfl h3 (by decide) ?_
      refine zO_ls (ls' := [(0, zR 91), (1, zI o1), (2, zI (v2 + 1))]) rfl ?_
      refine zO_goto (tgt := 33) dX12_back_61 rfl ?_
      refine zO_live [0, 1, 2] ?_
      exact hk_33 (v2 + 1) D_7
    · refine zO_aload_n dX12_back_64 rfl (zR_P _) ?_
      refine zO_iconst dX12_back_65 (by decide) ?_
      refine zO_callV (Y' := YX12_good) (cw := zcI F n sl) (as := [zI 0]) (rest := []) (na := 1) (ci := 12) rfl dX12_back_66 wC_X12_good wN_X12 wM_X12_143 wI_X12_good wV_X12_good (by decide) (by decide) rfl rfl (Nat.le_of_ble_eq_true rfl) rfl (by decide) (gk_91 hG) (fun r hr => zMet_cast (Nat.add_assoc d 0 0) (mX12_good (d := d + 0) hG 0 r hr)) ?_
      rintro ⟨r_8, D_9⟩ -
      show zO _ _ _ _ _ _ [zI r_8] (F, D_9, n, sl) _ _
      exact zO_ret (rv := some (zI r_8)) dX12_back_69 rfl rfl rfl
set_option maxHeartbeats 20000000 in
theorem mX12_back {l : Launch} {E : zE} {d : Nat} {F : zFs} {n sl : Nat} (hG : zG F) (v1 : Int) {D : zDa} : ∀ r, fX12_back F  v1 D = some r → zMet l E (d + 1) YX12_back [zR 91, zI v1] (F, D, n, sl) (zcI F n sl r) := by
  intro r hr
  refine zMet_of (plainFor_of_name (by decide)) (fun _ h => (nomatch h)) (Nat.le_of_ble_eq_true rfl) ?_
  have hz : zO l E (d + 1) YX12_back 0 [(0, zR 91), (1, zI v1)] [] (F, D, n, sl) (zcI F n sl) (fX12_back F  v1 D) := by
    unfold fX12_back
    refine zO_iload_n dX12_back_0 rfl ?_
    refine zO_iconst dX12_back_1 (by decide) ?_
    refine zO_iconst dX12_back_2 (by decide) ?_
    refine zO_callS (Y' := YX12_lies) (cw := zcI F n sl) (as := [zI v1, zI 0, zI 1]) (rest := []) (na := 3) dX12_back_3 wC_X12_lies wN_X12 wM_X12_135 wS_X12_lies (by decide) (by decide) rfl rfl (Nat.le_of_ble_eq_true rfl) (fun r hr => zMet_cast (Nat.add_assoc d 0 0) (mX12_lies (d := d + 0) hG v1 0 1 r hr)) ?_
    rintro ⟨r_1, D_2⟩ -
    show zO _ _ _ _ _ _ [zI r_1] (F, D_2, n, sl) _ _
    refine zO_if_ne (tgt := 15) dX12_back_6 rfl (fun c6 => ?_) (fun c6 => ?_)
    · refine zO_aload_n dX12_back_9 rfl (zR_P _) ?_
      refine zO_iconst dX12_back_10 (by decide) ?_
      refine zO_callV (Y' := YX12_refuses) (cw := zcI F n sl) (as := [zI (-1)]) (rest := []) (na := 1) (ci := 12) rfl dX12_back_11 wC_X12_refuses wN_X12 wM_X12_139 wI_X12_refuses wV_X12_refuses (by decide) (by decide) rfl rfl (Nat.le_of_ble_eq_true rfl) rfl (by decide) (gk_91 hG) (fun r hr => zMet_cast (Nat.add_assoc d 0 0) (mX12_refuses (d := d + 0) hG (-1) r hr)) ?_
      rintro ⟨r_3, D_4⟩ -
      show zO _ _ _ _ _ _ [zI r_3] (F, D_4, n, sl) _ _
      exact zO_ret (rv := some (zI r_3)) dX12_back_14 rfl rfl rfl
    · refine zO_chk (fun h1 => ?_)
      refine zO_aload_n dX12_back_15 rfl (zR_P _) ?_
      refine gt12 (k := 5) dX12_back_16 wF_X12_26 (by decide) (gk_91 hG) (zgv (c := 12) (k := 5) rfl (Or.inl ⟨_, rfl⟩) (gf_91_5 hG)) ?_
      refine zO_iload_n dX12_back_19 rfl ?_
      refine zO_zald dX12_back_20 (gk_95 hG) (gl_in (gl_95 hG) h1) ?_
      refine zO_if_ne (tgt := 31) dX12_back_21 rfl (fun c21 => ?_) (fun c21 => ?_)
      · refine zO_aload_n dX12_back_24 rfl (zR_P _) ?_
        refine zO_bipush dX12_back_25 (by decide) ?_
        refine zO_callV (Y' := YX12_refuses) (cw := zcI F n sl) (as := [zI (-2)]) (rest := []) (na := 1) (ci := 12) rfl dX12_back_27 wC_X12_refuses wN_X12 wM_X12_139 wI_X12_refuses wV_X12_refuses (by decide) (by decide) rfl rfl (Nat.le_of_ble_eq_true rfl) rfl (by decide) (gk_91 hG) (fun r hr => zMet_cast (Nat.add_assoc d 0 0) (mX12_refuses (d := d + 0) hG (-2) r hr)) ?_
        rintro ⟨r_5, D_6⟩ -
        show zO _ _ _ _ _ _ [zI r_5] (F, D_6, n, sl) _ _
        exact zO_ret (rv := some (zI r_5)) dX12_back_30 rfl rfl rfl
      · refine zO_iconst dX12_back_31 (by decide) ?_
        refine zO_istore_n dX12_back_32 (by decide) ?_
        refine zO_ls (ls' := [(0, zR 91), (1, zI v1), (2, zI 0)]) rfl ?_
        refine zO_live [0, 1, 2] ?_
        exact sX12_back_33 hG v1 zfu 0 D_2
  exact hz r hr
theorem dX12_term_0 : decode cX12_term 0 = .ok (.aload_n 0, 1) := by decide +kernel
theorem dX12_term_1 : decode cX12_term 1 = .ok (.getfield 20, 3) := by decide +kernel
theorem dX12_term_4 : decode cX12_term 4 = .ok (.bipush 100, 2) := by decide +kernel
theorem dX12_term_6 : decode cX12_term 6 = .ok (.iload_n 1, 1) := by decide +kernel
theorem dX12_term_7 : decode cX12_term 7 = .ok (.iadd, 1) := by decide +kernel
theorem dX12_term_8 : decode cX12_term 8 = .ok (.iaload, 1) := by decide +kernel
theorem dX12_term_9 : decode cX12_term 9 = .ok (.ireturn, 1) := by decide +kernel
abbrev YX12_term : zY := (yX12_term, cX12_term, 2, (Option.some Jvm.ClassFile.FieldType.int), [])
def fX12_term (F : zFs) (v1 : Int) (D : zDa) : Option (Int × zDa) :=
  if (-2147483648 ≤ 100 + v1 ∧ 100 + v1 ≤ 2147483647) ∧ (0 ≤ (100 + v1) ∧ (100 + v1) < 5201) then
    some ((D 93 (100 + v1).toNat), D)
  else none
set_option maxHeartbeats 20000000 in
theorem mX12_term {l : Launch} {E : zE} {d : Nat} {F : zFs} {n sl : Nat} (hG : zG F) (v1 : Int) {D : zDa} : ∀ r, fX12_term F  v1 D = some r → zMet l E (d + 0) YX12_term [zR 91, zI v1] (F, D, n, sl) (zcI F n sl r) := by
  intro r hr
  refine zMet_of (plainFor_of_name (by decide)) (fun _ h => (nomatch h)) (Nat.le_of_ble_eq_true rfl) ?_
  have hz : zO l E (d + 0) YX12_term 0 [(0, zR 91), (1, zI v1)] [] (F, D, n, sl) (zcI F n sl) (fX12_term F  v1 D) := by
    unfold fX12_term
    refine zO_chk (fun h1 => ?_)
    refine zO_aload_n dX12_term_0 rfl (zR_P _) ?_
    refine gt12 (k := 3) dX12_term_1 wF_X12_20 (by decide) (gk_91 hG) (zgv (c := 12) (k := 3) rfl (Or.inl ⟨_, rfl⟩) (gf_91_3 hG)) ?_
    refine zO_bipush dX12_term_4 (by decide) ?_
    refine zO_iload_n dX12_term_6 rfl ?_
    refine zO_iadd dX12_term_7 h1.1 ?_
    refine zO_iald dX12_term_8 (gk_93 hG) (gl_in (gl_93 hG) h1.2) ?_
    exact zO_ret (rv := some (zI (D 93 (100 + v1).toNat))) dX12_term_9 rfl rfl rfl
  exact hz r hr
theorem dX12_questions_0 : decode cX12_questions 0 = .ok (.aload_n 0, 1) := by decide +kernel
theorem dX12_questions_1 : decode cX12_questions 1 = .ok (.getfield 20, 3) := by decide +kernel
theorem dX12_questions_4 : decode cX12_questions 4 = .ok (.sipush 390, 3) := by decide +kernel
theorem dX12_questions_7 : decode cX12_questions 7 = .ok (.iaload, 1) := by decide +kernel
theorem dX12_questions_8 : decode cX12_questions 8 = .ok (.ireturn, 1) := by decide +kernel
abbrev YX12_questions : zY := (yX12_questions, cX12_questions, 1, (Option.some Jvm.ClassFile.FieldType.int), [])
def fX12_questions (F : zFs)  (D : zDa) : Option (Int × zDa) :=
  some ((D 93 390), D)
set_option maxHeartbeats 20000000 in
theorem mX12_questions {l : Launch} {E : zE} {d : Nat} {F : zFs} {n sl : Nat} (hG : zG F)  {D : zDa} : ∀ r, fX12_questions F   D = some r → zMet l E (d + 0) YX12_questions [zR 91] (F, D, n, sl) (zcI F n sl r) := by
  intro r hr
  refine zMet_of (plainFor_of_name (by decide)) (fun _ h => (nomatch h)) (Nat.le_of_ble_eq_true rfl) ?_
  have hz : zO l E (d + 0) YX12_questions 0 [(0, zR 91)] [] (F, D, n, sl) (zcI F n sl) (fX12_questions F   D) := by
    unfold fX12_questions
    refine zO_aload_n dX12_questions_0 rfl (zR_P _) ?_
    refine gt12 (k := 3) dX12_questions_1 wF_X12_20 (by decide) (gk_91 hG) (zgv (c := 12) (k := 3) rfl (Or.inl ⟨_, rfl⟩) (gf_91_3 hG)) ?_
    refine zO_sipush dX12_questions_4 (by decide) ?_
    refine zO_iald dX12_questions_7 (gk_93 hG) (gl_in (gl_93 hG) (by decide)) ?_
    exact zO_ret (rv := some (zI (D 93 390))) dX12_questions_8 rfl rfl rfl
  exact hz r hr
theorem dX12_isQuestion_0 : decode cX12_isQuestion 0 = .ok (.iload_n 1, 1) := by decide +kernel
theorem dX12_isQuestion_1 : decode cX12_isQuestion 1 = .ok (.iconst 0, 1) := by decide +kernel
theorem dX12_isQuestion_2 : decode cX12_isQuestion 2 = .ok (.aload_n 0, 1) := by decide +kernel
theorem dX12_isQuestion_3 : decode cX12_isQuestion 3 = .ok (.invokevirtual 146, 3) := by decide +kernel
theorem dX12_isQuestion_6 : decode cX12_isQuestion 6 = .ok (.iconst 1, 1) := by decide +kernel
theorem dX12_isQuestion_7 : decode cX12_isQuestion 7 = .ok (.isub, 1) := by decide +kernel
theorem dX12_isQuestion_8 : decode cX12_isQuestion 8 = .ok (.invokestatic 135, 3) := by decide +kernel
theorem dX12_isQuestion_11 : decode cX12_isQuestion 11 = .ok (.ireturn, 1) := by decide +kernel
abbrev YX12_isQuestion : zY := (yX12_isQuestion, cX12_isQuestion, 2, (Option.some Jvm.ClassFile.FieldType.boolean), [])
def fX12_isQuestion (F : zFs) (v1 : Int) (D : zDa) : Option (Int × zDa) :=
  (fX12_questions F D).bind (fun (r_1, D_2) =>
    if (-2147483648 ≤ r_1 - 1 ∧ r_1 - 1 ≤ 2147483647) then
      (fX12_lies F v1 0 (r_1 - 1) D_2).bind (fun (r_3, D_4) =>
        if (r_3 = 0 ∨ r_3 = 1) then
          some (r_3, D_4)
        else none)
    else none)
set_option maxHeartbeats 20000000 in
theorem mX12_isQuestion {l : Launch} {E : zE} {d : Nat} {F : zFs} {n sl : Nat} (hG : zG F) (v1 : Int) {D : zDa} : ∀ r, fX12_isQuestion F  v1 D = some r → zMet l E (d + 1) YX12_isQuestion [zR 91, zI v1] (F, D, n, sl) (zcI F n sl r) := by
  intro r hr
  refine zMet_of (plainFor_of_name (by decide)) (fun _ h => (nomatch h)) (Nat.le_of_ble_eq_true rfl) ?_
  have hz : zO l E (d + 1) YX12_isQuestion 0 [(0, zR 91), (1, zI v1)] [] (F, D, n, sl) (zcI F n sl) (fX12_isQuestion F  v1 D) := by
    unfold fX12_isQuestion
    refine zO_iload_n dX12_isQuestion_0 rfl ?_
    refine zO_iconst dX12_isQuestion_1 (by decide) ?_
    refine zO_aload_n dX12_isQuestion_2 rfl (zR_P _) ?_
    refine zO_callV (Y' := YX12_questions) (cw := zcI F n sl) (as := []) (rest := [zI 0, zI v1]) (na := 0) (ci := 12) rfl dX12_isQuestion_3 wC_X12_questions wN_X12 wM_X12_146 wI_X12_questions wV_X12_questions (by decide) (by decide) rfl rfl (Nat.le_of_ble_eq_true rfl) rfl (by decide) (gk_91 hG) (fun r hr => zMet_cast (Nat.add_assoc d 0 0) (mX12_questions (d := d + 0) hG  r hr)) ?_
    rintro ⟨r_1, D_2⟩ -
    show zO _ _ _ _ _ _ [zI r_1, zI 0, zI v1] (F, D_2, n, sl) _ _
    refine zO_chk (fun h1 => ?_)
    refine zO_iconst dX12_isQuestion_6 (by decide) ?_
    refine zO_isub dX12_isQuestion_7 h1 ?_
    refine zO_callS (Y' := YX12_lies) (cw := zcI F n sl) (as := [zI v1, zI 0, zI (r_1 - 1)]) (rest := []) (na := 3) dX12_isQuestion_8 wC_X12_lies wN_X12 wM_X12_135 wS_X12_lies (by decide) (by decide) rfl rfl (Nat.le_of_ble_eq_true rfl) (fun r hr => zMet_cast (Nat.add_assoc d 0 0) (mX12_lies (d := d + 0) hG v1 0 (r_1 - 1) r hr)) ?_
    rintro ⟨r_3, D_4⟩ -
    show zO _ _ _ _ _ _ [zI r_3] (F, D_4, n, sl) _ _
    refine zO_chk (fun h2 => ?_)
    exact zO_ret (rv := some (zI r_3)) dX12_isQuestion_11 rfl (zretok_z h2) rfl
  exact hz r hr
theorem dX12_factOf_0 : decode cX12_factOf 0 = .ok (.aload_n 0, 1) := by decide +kernel
theorem dX12_factOf_1 : decode cX12_factOf 1 = .ok (.getfield 20, 3) := by decide +kernel
theorem dX12_factOf_4 : decode cX12_factOf 4 = .ok (.iconst 0, 1) := by decide +kernel
theorem dX12_factOf_5 : decode cX12_factOf 5 = .ok (.iconst 5, 1) := by decide +kernel
theorem dX12_factOf_6 : decode cX12_factOf 6 = .ok (.iload_n 1, 1) := by decide +kernel
theorem dX12_factOf_7 : decode cX12_factOf 7 = .ok (.imul, 1) := by decide +kernel
theorem dX12_factOf_8 : decode cX12_factOf 8 = .ok (.iadd, 1) := by decide +kernel
theorem dX12_factOf_9 : decode cX12_factOf 9 = .ok (.iload_n 2, 1) := by decide +kernel
theorem dX12_factOf_10 : decode cX12_factOf 10 = .ok (.iadd, 1) := by decide +kernel
theorem dX12_factOf_11 : decode cX12_factOf 11 = .ok (.iaload, 1) := by decide +kernel
theorem dX12_factOf_12 : decode cX12_factOf 12 = .ok (.ireturn, 1) := by decide +kernel
abbrev YX12_factOf : zY := (yX12_factOf, cX12_factOf, 3, (Option.some Jvm.ClassFile.FieldType.int), [])
def fX12_factOf (F : zFs) (v1 : Int) (v2 : Int) (D : zDa) : Option (Int × zDa) :=
  if (-2147483648 ≤ 5 * v1 ∧ 5 * v1 ≤ 2147483647) ∧ (-2147483648 ≤ 0 + (5 * v1) ∧ 0 + (5 * v1) ≤ 2147483647) ∧ (-2147483648 ≤ (0 + (5 * v1)) + v2 ∧ (0 + (5 * v1)) + v2 ≤ 2147483647) ∧ (0 ≤ ((0 + (5 * v1)) + v2) ∧ ((0 + (5 * v1)) + v2) < 5201) then
    some ((D 93 ((0 + (5 * v1)) + v2).toNat), D)
  else none
set_option maxHeartbeats 20000000 in
theorem mX12_factOf {l : Launch} {E : zE} {d : Nat} {F : zFs} {n sl : Nat} (hG : zG F) (v1 : Int) (v2 : Int) {D : zDa} : ∀ r, fX12_factOf F  v1 v2 D = some r → zMet l E (d + 0) YX12_factOf [zR 91, zI v1, zI v2] (F, D, n, sl) (zcI F n sl r) := by
  intro r hr
  refine zMet_of (plainFor_of_name (by decide)) (fun _ h => (nomatch h)) (Nat.le_of_ble_eq_true rfl) ?_
  have hz : zO l E (d + 0) YX12_factOf 0 [(0, zR 91), (1, zI v1), (2, zI v2)] [] (F, D, n, sl) (zcI F n sl) (fX12_factOf F  v1 v2 D) := by
    unfold fX12_factOf
    refine zO_chk (fun h1 => ?_)
    refine zO_aload_n dX12_factOf_0 rfl (zR_P _) ?_
    refine gt12 (k := 3) dX12_factOf_1 wF_X12_20 (by decide) (gk_91 hG) (zgv (c := 12) (k := 3) rfl (Or.inl ⟨_, rfl⟩) (gf_91_3 hG)) ?_
    refine zO_iconst dX12_factOf_4 (by decide) ?_
    refine zO_iconst dX12_factOf_5 (by decide) ?_
    refine zO_iload_n dX12_factOf_6 rfl ?_
    refine zO_imul dX12_factOf_7 h1.1 ?_
    refine zO_iadd dX12_factOf_8 h1.2.1 ?_
    refine zO_iload_n dX12_factOf_9 rfl ?_
    refine zO_iadd dX12_factOf_10 h1.2.2.1 ?_
    refine zO_iald dX12_factOf_11 (gk_93 hG) (gl_in (gl_93 hG) h1.2.2.2) ?_
    exact zO_ret (rv := some (zI (D 93 ((0 + (5 * v1)) + v2).toNat))) dX12_factOf_12 rfl rfl rfl
  exact hz r hr
theorem dX12_isBowl_0 : decode cX12_isBowl 0 = .ok (.aload_n 0, 1) := by decide +kernel
theorem dX12_isBowl_1 : decode cX12_isBowl 1 = .ok (.iload_n 1, 1) := by decide +kernel
theorem dX12_isBowl_2 : decode cX12_isBowl 2 = .ok (.iconst 4, 1) := by decide +kernel
theorem dX12_isBowl_3 : decode cX12_isBowl 3 = .ok (.invokevirtual 150, 3) := by decide +kernel
theorem dX12_isBowl_6 : decode cX12_isBowl 6 = .ok (.ifCond .ne 7, 3) := by decide +kernel
theorem dX12_isBowl_9 : decode cX12_isBowl 9 = .ok (.iconst 1, 1) := by decide +kernel
theorem dX12_isBowl_10 : decode cX12_isBowl 10 = .ok (.goto 4, 3) := by decide +kernel
theorem dX12_isBowl_13 : decode cX12_isBowl 13 = .ok (.iconst 0, 1) := by decide +kernel
theorem dX12_isBowl_14 : decode cX12_isBowl 14 = .ok (.ireturn, 1) := by decide +kernel
abbrev YX12_isBowl : zY := (yX12_isBowl, cX12_isBowl, 2, (Option.some Jvm.ClassFile.FieldType.boolean), [])
def fX12_isBowl (F : zFs) (v1 : Int) (D : zDa) : Option (Int × zDa) :=
  (fX12_factOf F v1 4 D).bind (fun (r_1, D_2) =>
    if r_1 = 0 then
      some (1, D_2)
    else
      some (0, D_2))
set_option maxHeartbeats 20000000 in
theorem mX12_isBowl {l : Launch} {E : zE} {d : Nat} {F : zFs} {n sl : Nat} (hG : zG F) (v1 : Int) {D : zDa} : ∀ r, fX12_isBowl F  v1 D = some r → zMet l E (d + 1) YX12_isBowl [zR 91, zI v1] (F, D, n, sl) (zcI F n sl r) := by
  intro r hr
  refine zMet_of (plainFor_of_name (by decide)) (fun _ h => (nomatch h)) (Nat.le_of_ble_eq_true rfl) ?_
  have hz : zO l E (d + 1) YX12_isBowl 0 [(0, zR 91), (1, zI v1)] [] (F, D, n, sl) (zcI F n sl) (fX12_isBowl F  v1 D) := by
    unfold fX12_isBowl
    refine zO_aload_n dX12_isBowl_0 rfl (zR_P _) ?_
    refine zO_iload_n dX12_isBowl_1 rfl ?_
    refine zO_iconst dX12_isBowl_2 (by decide) ?_
    refine zO_callV (Y' := YX12_factOf) (cw := zcI F n sl) (as := [zI v1, zI 4]) (rest := []) (na := 2) (ci := 12) rfl dX12_isBowl_3 wC_X12_factOf wN_X12 wM_X12_150 wI_X12_factOf wV_X12_factOf (by decide) (by decide) rfl rfl (Nat.le_of_ble_eq_true rfl) rfl (by decide) (gk_91 hG) (fun r hr => zMet_cast (Nat.add_assoc d 0 0) (mX12_factOf (d := d + 0) hG v1 4 r hr)) ?_
    rintro ⟨r_1, D_2⟩ -
    show zO _ _ _ _ _ _ [zI r_1] (F, D_2, n, sl) _ _
    refine zO_if_ne (tgt := 13) dX12_isBowl_6 rfl (fun c6 => ?_) (fun c6 => ?_)
    · refine zO_iconst dX12_isBowl_9 (by decide) ?_
      refine zO_goto (tgt := 14) dX12_isBowl_10 rfl ?_
      exact zO_ret (rv := some (zI 1)) dX12_isBowl_14 rfl rfl rfl
    · refine zO_iconst dX12_isBowl_13 (by decide) ?_
      exact zO_ret (rv := some (zI 0)) dX12_isBowl_14 rfl rfl rfl
  exact hz r hr
theorem dX12_bowl_0 : decode cX12_bowl 0 = .ok (.iconst 0, 1) := by decide +kernel
theorem dX12_bowl_1 : decode cX12_bowl 1 = .ok (.istore_n 1, 1) := by decide +kernel
theorem dX12_bowl_2 : decode cX12_bowl 2 = .ok (.iconst 0, 1) := by decide +kernel
theorem dX12_bowl_3 : decode cX12_bowl 3 = .ok (.istore_n 2, 1) := by decide +kernel
theorem dX12_bowl_4 : decode cX12_bowl 4 = .ok (.iload_n 2, 1) := by decide +kernel
theorem dX12_bowl_5 : decode cX12_bowl 5 = .ok (.aload_n 0, 1) := by decide +kernel
theorem dX12_bowl_6 : decode cX12_bowl 6 = .ok (.invokevirtual 146, 3) := by decide +kernel
theorem dX12_bowl_9 : decode cX12_bowl 9 = .ok (.if_icmp .ge 25, 3) := by decide +kernel
theorem dX12_bowl_12 : decode cX12_bowl 12 = .ok (.iload_n 1, 1) := by decide +kernel
theorem dX12_bowl_13 : decode cX12_bowl 13 = .ok (.aload_n 0, 1) := by decide +kernel
theorem dX12_bowl_14 : decode cX12_bowl 14 = .ok (.iload_n 2, 1) := by decide +kernel
theorem dX12_bowl_15 : decode cX12_bowl 15 = .ok (.invokevirtual 154, 3) := by decide +kernel
theorem dX12_bowl_18 : decode cX12_bowl 18 = .ok (.ifCond .eq 7, 3) := by decide +kernel
theorem dX12_bowl_21 : decode cX12_bowl 21 = .ok (.iconst 1, 1) := by decide +kernel
theorem dX12_bowl_22 : decode cX12_bowl 22 = .ok (.goto 4, 3) := by decide +kernel
theorem dX12_bowl_25 : decode cX12_bowl 25 = .ok (.iconst 0, 1) := by decide +kernel
theorem dX12_bowl_26 : decode cX12_bowl 26 = .ok (.iadd, 1) := by decide +kernel
theorem dX12_bowl_27 : decode cX12_bowl 27 = .ok (.istore_n 1, 1) := by decide +kernel
theorem dX12_bowl_28 : decode cX12_bowl 28 = .ok (.iinc 2 1, 3) := by decide +kernel
theorem dX12_bowl_31 : decode cX12_bowl 31 = .ok (.goto (-27), 3) := by decide +kernel
theorem dX12_bowl_34 : decode cX12_bowl 34 = .ok (.iload_n 1, 1) := by decide +kernel
theorem dX12_bowl_35 : decode cX12_bowl 35 = .ok (.ireturn, 1) := by decide +kernel
abbrev YX12_bowl : zY := (yX12_bowl, cX12_bowl, 3, (Option.some Jvm.ClassFile.FieldType.int), [])
def fX12_bowl_26 (F : zFs) (k_4 : Int → Int → zDa → Option (Int × zDa)) (v2 : Int) (s0 : Int) (s1 : Int) (D : zDa) : Option (Int × zDa) :=
  if (-2147483648 ≤ s1 + s0 ∧ s1 + s0 ≤ 2147483647) then
    zlet ((s1 + s0)) (fun x1_5 =>
      if (-2147483648 ≤ v2 + 1 ∧ v2 + 1 ≤ 2147483647) then
        k_4 x1_5 (v2 + 1) D
      else none)
  else none
def fX12_bowl_4 (F : zFs)   (k_4 : Int → Int → zDa → Option (Int × zDa)) (v1 : Int) (v2 : Int) (D : zDa) : Option (Int × zDa) :=
  (fX12_questions F D).bind (fun (r_1, D_2) =>
    if v2 < r_1 then
      (fX12_isBowl F v2 D_2).bind (fun (r_3, D_4) =>
        if r_3 = 0 then
          fX12_bowl_26 F k_4 v2 0 v1 D_4
        else
          fX12_bowl_26 F k_4 v2 1 v1 D_4)
    else
      some (v1, D_2))
def fX12_bowl (F : zFs)  (D : zDa) : Option (Int × zDa) :=
  zfix (fun _ _ _ => none) (fX12_bowl_4 F) zfu 0 0 D
set_option maxHeartbeats 20000000 in
theorem sX12_bowl_26 {l : Launch} {E : zE} {d : Nat} {F : zFs} {n sl : Nat} (hG : zG F)  (v2 : Int) (s0 : Int) (s1 : Int) (k_4 : Int → Int → zDa → Option (Int × zDa)) (hk_4 : ∀ (u1 : Int) (u2 : Int) (D : zDa), zO l E (d + 2) YX12_bowl 4 [(0, zR 91), (1, zI u1), (2, zI u2)] [] (F, D, n, sl) (zcI F n sl) (k_4 u1 u2 D)) (D : zDa) : zO l E (d + 2) YX12_bowl 26 [(0, zR 91), (2, zI v2)] [zI s0, zI s1] (F, D, n, sl) (zcI F n sl) (fX12_bowl_26 F k_4 v2 s0 s1 D) := by
  unfold fX12_bowl_26
  refine zO_chk (fun h1 => ?_)
  refine zO_iadd dX12_bowl_26 h1 ?_
  refine zO_letI (fun x1_5 ex1_5 => ?_)
  refine zO_istore_n dX12_bowl_27 (by decide) ?_
  refine zO_ls (ls' := [(0, zR 91), (1, zI x1_5), (2, zI v2)]) rfl ?_
  refine zO_chk (fun h2 => ?_)
  refine zO_iinc dX12_bowl_28 rfl h2 (by decide) ?_
  refine zO_ls (ls' := [(0, zR 91), (1, zI x1_5), (2, zI (v2 + 1))]) rfl ?_
  refine zO_goto (tgt := 4) dX12_bowl_31 rfl ?_
  refine zO_live [0, 1, 2] ?_
  exact hk_4 x1_5 (v2 + 1) D
set_option maxHeartbeats 20000000 in
theorem sX12_bowl_4 {l : Launch} {E : zE} {d : Nat} {F : zFs} {n sl : Nat} (hG : zG F)     : ∀ (N : Nat) (v1 : Int) (v2 : Int) (D : zDa), zO l E (d + 2) YX12_bowl 4 [(0, zR 91), (1, zI v1), (2, zI v2)] [] (F, D, n, sl) (zcI F n sl) (zfix (fun _ _ _ => none) (fX12_bowl_4 F) N v1 v2 D) := by
  intro N
  induction N with
  | zero => intro v1 v2 D; exact zO_none
  | succ N hk_4 =>
    intro v1 v2 D
    show zO _ _ _ _ _ _ _ _ _ ((fX12_bowl_4 F) (zfix (fun _ _ _ => none) (fX12_bowl_4 F) N) v1 v2 D)
    unfold fX12_bowl_4
    refine zO_iload_n dX12_bowl_4 rfl ?_
    refine zO_aload_n dX12_bowl_5 rfl (zR_P _) ?_
    refine zO_callV (Y' := YX12_questions) (cw := zcI F n sl) (as := []) (rest := [zI v2]) (na := 0) (ci := 12) rfl dX12_bowl_6 wC_X12_questions wN_X12 wM_X12_146 wI_X12_questions wV_X12_questions (by decide) (by decide) rfl rfl (Nat.le_of_ble_eq_true rfl) rfl (by decide) (gk_91 hG) (fun r hr => zMet_cast (Nat.add_assoc d 1 0) (mX12_questions (d := d + 1) hG  r hr)) ?_
    rintro ⟨r_1, D_2⟩ -
    show zO _ _ _ _ _ _ [zI r_1, zI v2] (F, D_2, n, sl) _ _
    refine zO_icmp_ge (tgt := 34) dX12_bowl_9 rfl (fun c9 => ?_) (fun c9 => ?_)
    · refine zO_iload_n dX12_bowl_12 rfl ?_
      refine zO_aload_n dX12_bowl_13 rfl (zR_P _) ?_
      refine zO_iload_n dX12_bowl_14 rfl ?_
      refine zO_callV (Y' := YX12_isBowl) (cw := zcI F n sl) (as := [zI v2]) (rest := [zI v1]) (na := 1) (ci := 12) rfl dX12_bowl_15 wC_X12_isBowl wN_X12 wM_X12_154 wI_X12_isBowl wV_X12_isBowl (by decide) (by decide) rfl rfl (Nat.le_of_ble_eq_true rfl) rfl (by decide) (gk_91 hG) (fun r hr => zMet_cast (Nat.add_assoc d 0 1) (mX12_isBowl (d := d + 0) hG v2 r hr)) ?_
      rintro ⟨r_3, D_4⟩ -
      show zO _ _ _ _ _ _ [zI r_3, zI v1] (F, D_4, n, sl) _ _
      refine zO_if_eq (tgt := 25) dX12_bowl_18 rfl (fun c18 => ?_) (fun c18 => ?_)
      · refine zO_iconst dX12_bowl_25 (by decide) ?_
        refine zO_live [0, 2] ?_
        exact sX12_bowl_26 hG v2 0 v1 _ hk_4 D_4
      · refine zO_iconst dX12_bowl_21 (by decide) ?_
        refine zO_goto (tgt := 26) dX12_bowl_22 rfl ?_
        refine zO_live [0, 2] ?_
        exact sX12_bowl_26 hG v2 1 v1 _ hk_4 D_4
    · refine zO_iload_n dX12_bowl_34 rfl ?_
      exact zO_ret (rv := some (zI v1)) dX12_bowl_35 rfl rfl rfl
set_option maxHeartbeats 20000000 in
theorem mX12_bowl {l : Launch} {E : zE} {d : Nat} {F : zFs} {n sl : Nat} (hG : zG F)  {D : zDa} : ∀ r, fX12_bowl F   D = some r → zMet l E (d + 2) YX12_bowl [zR 91] (F, D, n, sl) (zcI F n sl r) := by
  intro r hr
  refine zMet_of (plainFor_of_name (by decide)) (fun _ h => (nomatch h)) (Nat.le_of_ble_eq_true rfl) ?_
  have hz : zO l E (d + 2) YX12_bowl 0 [(0, zR 91)] [] (F, D, n, sl) (zcI F n sl) (fX12_bowl F   D) := by
    unfold fX12_bowl
    refine zO_iconst dX12_bowl_0 (by decide) ?_
    refine zO_istore_n dX12_bowl_1 (by decide) ?_
    refine zO_ls (ls' := [(0, zR 91), (1, zI 0)]) rfl ?_
    refine zO_iconst dX12_bowl_2 (by decide) ?_
    refine zO_istore_n dX12_bowl_3 (by decide) ?_
    refine zO_ls (ls' := [(0, zR 91), (1, zI 0), (2, zI 0)]) rfl ?_
    refine zO_live [0, 1, 2] ?_
    exact sX12_bowl_4 hG zfu 0 0 D
  exact hz r hr
theorem dX12_replaces_0 : decode cX12_replaces 0 = .ok (.aload_n 0, 1) := by decide +kernel
theorem dX12_replaces_1 : decode cX12_replaces 1 = .ok (.getfield 20, 3) := by decide +kernel
theorem dX12_replaces_4 : decode cX12_replaces 4 = .ok (.iload_n 1, 1) := by decide +kernel
theorem dX12_replaces_5 : decode cX12_replaces 5 = .ok (.iaload, 1) := by decide +kernel
theorem dX12_replaces_6 : decode cX12_replaces 6 = .ok (.istore_n 3, 1) := by decide +kernel
theorem dX12_replaces_7 : decode cX12_replaces 7 = .ok (.aload_n 0, 1) := by decide +kernel
theorem dX12_replaces_8 : decode cX12_replaces 8 = .ok (.getfield 20, 3) := by decide +kernel
theorem dX12_replaces_11 : decode cX12_replaces 11 = .ok (.iload_n 1, 1) := by decide +kernel
theorem dX12_replaces_12 : decode cX12_replaces 12 = .ok (.iload_n 2, 1) := by decide +kernel
theorem dX12_replaces_13 : decode cX12_replaces 13 = .ok (.iastore, 1) := by decide +kernel
theorem dX12_replaces_14 : decode cX12_replaces 14 = .ok (.aload_n 0, 1) := by decide +kernel
theorem dX12_replaces_15 : decode cX12_replaces 15 = .ok (.iload_n 3, 1) := by decide +kernel
theorem dX12_replaces_16 : decode cX12_replaces 16 = .ok (.invokevirtual 143, 3) := by decide +kernel
theorem dX12_replaces_19 : decode cX12_replaces 19 = .ok (.ireturn, 1) := by decide +kernel
abbrev YX12_replaces : zY := (yX12_replaces, cX12_replaces, 4, (Option.some Jvm.ClassFile.FieldType.int), [])
def fX12_replaces (F : zFs) (v1 : Int) (v2 : Int) (D : zDa) : Option (Int × zDa) :=
  if (0 ≤ v1 ∧ v1 < 5201) then
    zlet ((D 93 v1.toNat)) (fun x3_1 =>
      zlet (zwr D 93 v1.toNat v2) (fun D_2 =>
        (fX12_good F x3_1 D_2).bind (fun (r_3, D_4) =>
          some (r_3, D_4))))
  else none
set_option maxHeartbeats 20000000 in
theorem mX12_replaces {l : Launch} {E : zE} {d : Nat} {F : zFs} {n sl : Nat} (hG : zG F) (v1 : Int) (v2 : Int) {D : zDa} : ∀ r, fX12_replaces F  v1 v2 D = some r → zMet l E (d + 1) YX12_replaces [zR 91, zI v1, zI v2] (F, D, n, sl) (zcI F n sl r) := by
  intro r hr
  refine zMet_of (plainFor_of_name (by decide)) (fun _ h => (nomatch h)) (Nat.le_of_ble_eq_true rfl) ?_
  have hz : zO l E (d + 1) YX12_replaces 0 [(0, zR 91), (1, zI v1), (2, zI v2)] [] (F, D, n, sl) (zcI F n sl) (fX12_replaces F  v1 v2 D) := by
    unfold fX12_replaces
    refine zO_chk (fun h1 => ?_)
    refine zO_aload_n dX12_replaces_0 rfl (zR_P _) ?_
    refine gt12 (k := 3) dX12_replaces_1 wF_X12_20 (by decide) (gk_91 hG) (zgv (c := 12) (k := 3) rfl (Or.inl ⟨_, rfl⟩) (gf_91_3 hG)) ?_
    refine zO_iload_n dX12_replaces_4 rfl ?_
    refine zO_iald dX12_replaces_5 (gk_93 hG) (gl_in (gl_93 hG) h1) ?_
    refine zO_letI (fun x3_1 ex3_1 => ?_)
    refine zO_istore_n dX12_replaces_6 (by decide) ?_
    refine zO_ls (ls' := [(0, zR 91), (1, zI v1), (2, zI v2), (3, zI x3_1)]) rfl ?_
    refine zO_aload_n dX12_replaces_7 rfl (zR_P _) ?_
    refine gt12 (k := 3) dX12_replaces_8 wF_X12_20 (by decide) (gk_91 hG) (zgv (c := 12) (k := 3) rfl (Or.inl ⟨_, rfl⟩) (gf_91_3 hG)) ?_
    refine zO_iload_n dX12_replaces_11 rfl ?_
    refine zO_iload_n dX12_replaces_12 rfl ?_
    refine zO_iast dX12_replaces_13 (gk_93 hG) (gl_in (gl_93 hG) h1) ?_
    refine zO_letD (fun D_2 eD_2 => ?_)
    refine zO_aload_n dX12_replaces_14 rfl (zR_P _) ?_
    refine zO_iload_n dX12_replaces_15 rfl ?_
    refine zO_callV (Y' := YX12_good) (cw := zcI F n sl) (as := [zI x3_1]) (rest := []) (na := 1) (ci := 12) rfl dX12_replaces_16 wC_X12_good wN_X12 wM_X12_143 wI_X12_good wV_X12_good (by decide) (by decide) rfl rfl (Nat.le_of_ble_eq_true rfl) rfl (by decide) (gk_91 hG) (fun r hr => zMet_cast (Nat.add_assoc d 0 0) (mX12_good (d := d + 0) hG x3_1 r hr)) ?_
    rintro ⟨r_3, D_4⟩ -
    show zO _ _ _ _ _ _ [zI r_3] (F, D_4, n, sl) _ _
    exact zO_ret (rv := some (zI r_3)) dX12_replaces_19 rfl rfl rfl
  exact hz r hr
theorem dX12_question_0 : decode cX12_question 0 = .ok (.iload_n 1, 1) := by decide +kernel
theorem dX12_question_1 : decode cX12_question 1 = .ok (.iconst 0, 1) := by decide +kernel
theorem dX12_question_2 : decode cX12_question 2 = .ok (.iconst 4, 1) := by decide +kernel
theorem dX12_question_3 : decode cX12_question 3 = .ok (.invokestatic 135, 3) := by decide +kernel
theorem dX12_question_6 : decode cX12_question 6 = .ok (.ifCond .eq 13, 3) := by decide +kernel
theorem dX12_question_9 : decode cX12_question 9 = .ok (.iload_n 2, 1) := by decide +kernel
theorem dX12_question_10 : decode cX12_question 10 = .ok (.iconst 1, 1) := by decide +kernel
theorem dX12_question_11 : decode cX12_question 11 = .ok (.bipush 99, 2) := by decide +kernel
theorem dX12_question_13 : decode cX12_question 13 = .ok (.invokestatic 135, 3) := by decide +kernel
theorem dX12_question_16 : decode cX12_question 16 = .ok (.ifCond .ne 9, 3) := by decide +kernel
theorem dX12_question_19 : decode cX12_question 19 = .ok (.aload_n 0, 1) := by decide +kernel
theorem dX12_question_20 : decode cX12_question 20 = .ok (.iconst (-1), 1) := by decide +kernel
theorem dX12_question_21 : decode cX12_question 21 = .ok (.invokevirtual 139, 3) := by decide +kernel
theorem dX12_question_24 : decode cX12_question 24 = .ok (.ireturn, 1) := by decide +kernel
theorem dX12_question_25 : decode cX12_question 25 = .ok (.aload_n 0, 1) := by decide +kernel
theorem dX12_question_26 : decode cX12_question 26 = .ok (.invokevirtual 146, 3) := by decide +kernel
theorem dX12_question_29 : decode cX12_question 29 = .ok (.istore_n 3, 1) := by decide +kernel
theorem dX12_question_30 : decode cX12_question 30 = .ok (.iload_n 3, 1) := by decide +kernel
theorem dX12_question_31 : decode cX12_question 31 = .ok (.bipush 20, 2) := by decide +kernel
theorem dX12_question_33 : decode cX12_question 33 = .ok (.if_icmp .ne 10, 3) := by decide +kernel
theorem dX12_question_36 : decode cX12_question 36 = .ok (.aload_n 0, 1) := by decide +kernel
theorem dX12_question_37 : decode cX12_question 37 = .ok (.bipush (-5), 2) := by decide +kernel
theorem dX12_question_39 : decode cX12_question 39 = .ok (.invokevirtual 139, 3) := by decide +kernel
theorem dX12_question_42 : decode cX12_question 42 = .ok (.ireturn, 1) := by decide +kernel
theorem dX12_question_43 : decode cX12_question 43 = .ok (.iconst 0, 1) := by decide +kernel
theorem dX12_question_44 : decode cX12_question 44 = .ok (.istore 4, 2) := by decide +kernel
theorem dX12_question_46 : decode cX12_question 46 = .ok (.iload 4, 2) := by decide +kernel
theorem dX12_question_48 : decode cX12_question 48 = .ok (.iconst 5, 1) := by decide +kernel
theorem dX12_question_49 : decode cX12_question 49 = .ok (.if_icmp .ge 23, 3) := by decide +kernel
theorem dX12_question_52 : decode cX12_question 52 = .ok (.aload_n 0, 1) := by decide +kernel
theorem dX12_question_53 : decode cX12_question 53 = .ok (.getfield 20, 3) := by decide +kernel
theorem dX12_question_56 : decode cX12_question 56 = .ok (.iconst 0, 1) := by decide +kernel
theorem dX12_question_57 : decode cX12_question 57 = .ok (.iconst 5, 1) := by decide +kernel
theorem dX12_question_58 : decode cX12_question 58 = .ok (.iload_n 3, 1) := by decide +kernel
theorem dX12_question_59 : decode cX12_question 59 = .ok (.imul, 1) := by decide +kernel
theorem dX12_question_60 : decode cX12_question 60 = .ok (.iadd, 1) := by decide +kernel
theorem dX12_question_61 : decode cX12_question 61 = .ok (.iload 4, 2) := by decide +kernel
theorem dX12_question_63 : decode cX12_question 63 = .ok (.iadd, 1) := by decide +kernel
theorem dX12_question_64 : decode cX12_question 64 = .ok (.iconst 0, 1) := by decide +kernel
theorem dX12_question_65 : decode cX12_question 65 = .ok (.iastore, 1) := by decide +kernel
theorem dX12_question_66 : decode cX12_question 66 = .ok (.iinc 4 1, 3) := by decide +kernel
theorem dX12_question_69 : decode cX12_question 69 = .ok (.goto (-23), 3) := by decide +kernel
theorem dX12_question_72 : decode cX12_question 72 = .ok (.aload_n 0, 1) := by decide +kernel
theorem dX12_question_73 : decode cX12_question 73 = .ok (.getfield 20, 3) := by decide +kernel
theorem dX12_question_76 : decode cX12_question 76 = .ok (.iconst 0, 1) := by decide +kernel
theorem dX12_question_77 : decode cX12_question 77 = .ok (.iconst 5, 1) := by decide +kernel
theorem dX12_question_78 : decode cX12_question 78 = .ok (.iload_n 3, 1) := by decide +kernel
theorem dX12_question_79 : decode cX12_question 79 = .ok (.imul, 1) := by decide +kernel
theorem dX12_question_80 : decode cX12_question 80 = .ok (.iadd, 1) := by decide +kernel
theorem dX12_question_81 : decode cX12_question 81 = .ok (.iload_n 1, 1) := by decide +kernel
theorem dX12_question_82 : decode cX12_question 82 = .ok (.iastore, 1) := by decide +kernel
theorem dX12_question_83 : decode cX12_question 83 = .ok (.aload_n 0, 1) := by decide +kernel
theorem dX12_question_84 : decode cX12_question 84 = .ok (.getfield 20, 3) := by decide +kernel
theorem dX12_question_87 : decode cX12_question 87 = .ok (.iconst 0, 1) := by decide +kernel
theorem dX12_question_88 : decode cX12_question 88 = .ok (.iconst 5, 1) := by decide +kernel
theorem dX12_question_89 : decode cX12_question 89 = .ok (.iload_n 3, 1) := by decide +kernel
theorem dX12_question_90 : decode cX12_question 90 = .ok (.imul, 1) := by decide +kernel
theorem dX12_question_91 : decode cX12_question 91 = .ok (.iadd, 1) := by decide +kernel
theorem dX12_question_92 : decode cX12_question 92 = .ok (.iconst 1, 1) := by decide +kernel
theorem dX12_question_93 : decode cX12_question 93 = .ok (.iadd, 1) := by decide +kernel
theorem dX12_question_94 : decode cX12_question 94 = .ok (.iload_n 2, 1) := by decide +kernel
theorem dX12_question_95 : decode cX12_question 95 = .ok (.iastore, 1) := by decide +kernel
theorem dX12_question_96 : decode cX12_question 96 = .ok (.aload_n 0, 1) := by decide +kernel
theorem dX12_question_97 : decode cX12_question 97 = .ok (.getfield 20, 3) := by decide +kernel
theorem dX12_question_100 : decode cX12_question 100 = .ok (.sipush 390, 3) := by decide +kernel
theorem dX12_question_103 : decode cX12_question 103 = .ok (.dup2, 1) := by decide +kernel
theorem dX12_question_104 : decode cX12_question 104 = .ok (.iaload, 1) := by decide +kernel
theorem dX12_question_105 : decode cX12_question 105 = .ok (.iconst 1, 1) := by decide +kernel
theorem dX12_question_106 : decode cX12_question 106 = .ok (.iadd, 1) := by decide +kernel
theorem dX12_question_107 : decode cX12_question 107 = .ok (.iastore, 1) := by decide +kernel
theorem dX12_question_108 : decode cX12_question 108 = .ok (.aload_n 0, 1) := by decide +kernel
theorem dX12_question_109 : decode cX12_question 109 = .ok (.iload_n 3, 1) := by decide +kernel
theorem dX12_question_110 : decode cX12_question 110 = .ok (.invokevirtual 143, 3) := by decide +kernel
theorem dX12_question_113 : decode cX12_question 113 = .ok (.ireturn, 1) := by decide +kernel
abbrev YX12_question : zY := (yX12_question, cX12_question, 5, (Option.some Jvm.ClassFile.FieldType.int), [])
def fX12_question_19 (F : zFs)   (D : zDa) : Option (Int × zDa) :=
  (fX12_refuses F (-1) D).bind (fun (r_3, D_4) =>
    some (r_3, D_4))
def fX12_question_46 (F : zFs) (o1 : Int) (o2 : Int) (o3 : Int)  (k_46 : Int → zDa → Option (Int × zDa)) (v4 : Int) (D : zDa) : Option (Int × zDa) :=
  if v4 < 5 then
    if (-2147483648 ≤ 5 * o3 ∧ 5 * o3 ≤ 2147483647) ∧ (-2147483648 ≤ 0 + (5 * o3) ∧ 0 + (5 * o3) ≤ 2147483647) ∧ (-2147483648 ≤ (0 + (5 * o3)) + v4 ∧ (0 + (5 * o3)) + v4 ≤ 2147483647) ∧ (0 ≤ ((0 + (5 * o3)) + v4) ∧ ((0 + (5 * o3)) + v4) < 5201) then
      zlet (zwr D 93 ((0 + (5 * o3)) + v4).toNat 0) (fun D_11 =>
        if (-2147483648 ≤ v4 + 1 ∧ v4 + 1 ≤ 2147483647) then
          k_46 (v4 + 1) D_11
        else none)
    else none
  else
    if (-2147483648 ≤ 5 * o3 ∧ 5 * o3 ≤ 2147483647) ∧ (-2147483648 ≤ 0 + (5 * o3) ∧ 0 + (5 * o3) ≤ 2147483647) ∧ (0 ≤ (0 + (5 * o3)) ∧ (0 + (5 * o3)) < 5201) then
      zlet (zwr D 93 (0 + (5 * o3)).toNat o1) (fun D_12 =>
        if (-2147483648 ≤ (0 + (5 * o3)) + 1 ∧ (0 + (5 * o3)) + 1 ≤ 2147483647) ∧ (0 ≤ ((0 + (5 * o3)) + 1) ∧ ((0 + (5 * o3)) + 1) < 5201) then
          zlet (zwr D_12 93 ((0 + (5 * o3)) + 1).toNat o2) (fun D_13 =>
            if (-2147483648 ≤ (D_13 93 390) + 1 ∧ (D_13 93 390) + 1 ≤ 2147483647) then
              zlet (zwr D_13 93 390 ((D_13 93 390) + 1)) (fun D_14 =>
                (fX12_good F o3 D_14).bind (fun (r_15, D_16) =>
                  some (r_15, D_16)))
            else none)
        else none)
    else none
def fX12_question (F : zFs) (v1 : Int) (v2 : Int) (D : zDa) : Option (Int × zDa) :=
  (fX12_lies F v1 0 4 D).bind (fun (r_1, D_2) =>
    if r_1 = 0 then
      fX12_question_19 F D_2
    else
      (fX12_lies F v2 1 99 D_2).bind (fun (r_5, D_6) =>
        if r_5 = 0 then
          fX12_question_19 F D_6
        else
          (fX12_questions F D_6).bind (fun (r_7, D_8) =>
            if r_7 = 20 then
              (fX12_refuses F (-5) D_8).bind (fun (r_9, D_10) =>
                some (r_9, D_10))
            else
              zfix (fun _ _ => none) (fX12_question_46 F v1 v2 r_7) zfu 0 D_8)))
set_option maxHeartbeats 20000000 in
theorem sX12_question_19 {l : Launch} {E : zE} {d : Nat} {F : zFs} {n sl : Nat} (hG : zG F)     (D : zDa) : zO l E (d + 1) YX12_question 19 [(0, zR 91)] [] (F, D, n, sl) (zcI F n sl) (fX12_question_19 F D) := by
  unfold fX12_question_19
  refine zO_aload_n dX12_question_19 rfl (zR_P _) ?_
  refine zO_iconst dX12_question_20 (by decide) ?_
  refine zO_callV (Y' := YX12_refuses) (cw := zcI F n sl) (as := [zI (-1)]) (rest := []) (na := 1) (ci := 12) rfl dX12_question_21 wC_X12_refuses wN_X12 wM_X12_139 wI_X12_refuses wV_X12_refuses (by decide) (by decide) rfl rfl (Nat.le_of_ble_eq_true rfl) rfl (by decide) (gk_91 hG) (fun r hr => zMet_cast (Nat.add_assoc d 0 0) (mX12_refuses (d := d + 0) hG (-1) r hr)) ?_
  rintro ⟨r_3, D_4⟩ -
  show zO _ _ _ _ _ _ [zI r_3] (F, D_4, n, sl) _ _
  exact zO_ret (rv := some (zI r_3)) dX12_question_24 rfl rfl rfl
set_option maxHeartbeats 20000000 in
theorem sX12_question_46 {l : Launch} {E : zE} {d : Nat} {F : zFs} {n sl : Nat} (hG : zG F)  (o1 : Int) (o2 : Int) (o3 : Int)   : ∀ (N : Nat) (v4 : Int) (D : zDa), zO l E (d + 1) YX12_question 46 [(0, zR 91), (1, zI o1), (2, zI o2), (3, zI o3), (4, zI v4)] [] (F, D, n, sl) (zcI F n sl) (zfix (fun _ _ => none) (fX12_question_46 F o1 o2 o3) N v4 D) := by
  intro N
  induction N with
  | zero => intro v4 D; exact zO_none
  | succ N hk_46 =>
    intro v4 D
    show zO _ _ _ _ _ _ _ _ _ ((fX12_question_46 F o1 o2 o3) (zfix (fun _ _ => none) (fX12_question_46 F o1 o2 o3) N) v4 D)
    unfold fX12_question_46
    refine zO_iload dX12_question_46 rfl ?_
    refine zO_iconst dX12_question_48 (by decide) ?_
    refine zO_icmp_ge (tgt := 72) dX12_question_49 rfl (fun c49 => ?_) (fun c49 => ?_)
    · refine zO_chk (fun h1 => ?_)
      refine zO_aload_n dX12_question_52 rfl (zR_P _) ?_
      refine gt12 (k := 3) dX12_question_53 wF_X12_20 (by decide) (gk_91 hG) (zgv (c := 12) (k := 3) rfl (Or.inl ⟨_, rfl⟩) (gf_91_3 hG)) ?_
      refine zO_iconst dX12_question_56 (by decide) ?_
      refine zO_iconst dX12_question_57 (by decide) ?_
      refine zO_iload_n dX12_question_58 rfl ?_
      refine zO_imul dX12_question_59 h1.1 ?_
      refine zO_iadd dX12_question_60 h1.2.1 ?_
      refine zO_iload dX12_question_61 rfl ?_
      refine zO_iadd dX12_question_63 h1.2.2.1 ?_
      refine zO_iconst dX12_question_64 (by decide) ?_
      refine zO_iast dX12_question_65 (gk_93 hG) (gl_in (gl_93 hG) h1.2.2.2) ?_
      refine zO_letD (fun D_11 eD_11 => ?_)
      refine zO_chk (fun h2 => ?_)
      refine zO_iinc dX12_question_66 rfl h2 (by decide) ?_
      refine zO_ls (ls' := [(0, zR 91), (1, zI o1), (2, zI o2), (3, zI o3), (4, zI (v4 + 1))]) rfl ?_
      refine zO_goto (tgt := 46) dX12_question_69 rfl ?_
      refine zO_live [0, 1, 2, 3, 4] ?_
      exact hk_46 (v4 + 1) D_11
    · refine zO_chk (fun h3 => ?_)
      refine zO_aload_n dX12_question_72 rfl (zR_P _) ?_
      refine gt12 (k := 3) dX12_question_73 wF_X12_20 (by decide) (gk_91 hG) (zgv (c := 12) (k := 3) rfl (Or.inl ⟨_, rfl⟩) (gf_91_3 hG)) ?_
      refine zO_iconst dX12_question_76 (by decide) ?_
      refine zO_iconst dX12_question_77 (by decide) ?_
      refine zO_iload_n dX12_question_78 rfl ?_
      refine zO_imul dX12_question_79 h3.1 ?_
      refine zO_iadd dX12_question_80 h3.2.1 ?_
      refine zO_iload_n dX12_question_81 rfl ?_
      refine zO_iast dX12_question_82 (gk_93 hG) (gl_in (gl_93 hG) h3.2.2) ?_
      refine zO_letD (fun D_12 eD_12 => ?_)
      refine zO_chk (fun h4 => ?_)
      refine zO_aload_n dX12_question_83 rfl (zR_P _) ?_
      refine gt12 (k := 3) dX12_question_84 wF_X12_20 (by decide) (gk_91 hG) (zgv (c := 12) (k := 3) rfl (Or.inl ⟨_, rfl⟩) (gf_91_3 hG)) ?_
      refine zO_iconst dX12_question_87 (by decide) ?_
      refine zO_iconst dX12_question_88 (by decide) ?_
      refine zO_iload_n dX12_question_89 rfl ?_
      refine zO_imul dX12_question_90 h3.1 ?_
      refine zO_iadd dX12_question_91 h3.2.1 ?_
      refine zO_iconst dX12_question_92 (by decide) ?_
      refine zO_iadd dX12_question_93 h4.1 ?_
      refine zO_iload_n dX12_question_94 rfl ?_
      refine zO_iast dX12_question_95 (gk_93 hG) (gl_in (gl_93 hG) h4.2) ?_
      refine zO_letD (fun D_13 eD_13 => ?_)
      refine zO_chk (fun h5 => ?_)
      refine zO_aload_n dX12_question_96 rfl (zR_P _) ?_
      refine gt12 (k := 3) dX12_question_97 wF_X12_20 (by decide) (gk_91 hG) (zgv (c := 12) (k := 3) rfl (Or.inl ⟨_, rfl⟩) (gf_91_3 hG)) ?_
      refine zO_sipush dX12_question_100 (by decide) ?_
      refine zO_dup2a dX12_question_103 (rfl) (rfl) ?_
      refine zO_iald dX12_question_104 (gk_93 hG) (gl_in (gl_93 hG) (by decide)) ?_
      refine zO_iconst dX12_question_105 (by decide) ?_
      refine zO_iadd dX12_question_106 h5 ?_
      refine zO_iast dX12_question_107 (gk_93 hG) (gl_in (gl_93 hG) (by decide)) ?_
      refine zO_letD (fun D_14 eD_14 => ?_)
      refine zO_aload_n dX12_question_108 rfl (zR_P _) ?_
      refine zO_iload_n dX12_question_109 rfl ?_
      refine zO_callV (Y' := YX12_good) (cw := zcI F n sl) (as := [zI o3]) (rest := []) (na := 1) (ci := 12) rfl dX12_question_110 wC_X12_good wN_X12 wM_X12_143 wI_X12_good wV_X12_good (by decide) (by decide) rfl rfl (Nat.le_of_ble_eq_true rfl) rfl (by decide) (gk_91 hG) (fun r hr => zMet_cast (Nat.add_assoc d 0 0) (mX12_good (d := d + 0) hG o3 r hr)) ?_
      rintro ⟨r_15, D_16⟩ -
      show zO _ _ _ _ _ _ [zI r_15] (F, D_16, n, sl) _ _
      exact zO_ret (rv := some (zI r_15)) dX12_question_113 rfl rfl rfl
set_option maxHeartbeats 20000000 in
theorem mX12_question {l : Launch} {E : zE} {d : Nat} {F : zFs} {n sl : Nat} (hG : zG F) (v1 : Int) (v2 : Int) {D : zDa} : ∀ r, fX12_question F  v1 v2 D = some r → zMet l E (d + 1) YX12_question [zR 91, zI v1, zI v2] (F, D, n, sl) (zcI F n sl r) := by
  intro r hr
  refine zMet_of (plainFor_of_name (by decide)) (fun _ h => (nomatch h)) (Nat.le_of_ble_eq_true rfl) ?_
  have hz : zO l E (d + 1) YX12_question 0 [(0, zR 91), (1, zI v1), (2, zI v2)] [] (F, D, n, sl) (zcI F n sl) (fX12_question F  v1 v2 D) := by
    unfold fX12_question
    refine zO_iload_n dX12_question_0 rfl ?_
    refine zO_iconst dX12_question_1 (by decide) ?_
    refine zO_iconst dX12_question_2 (by decide) ?_
    refine zO_callS (Y' := YX12_lies) (cw := zcI F n sl) (as := [zI v1, zI 0, zI 4]) (rest := []) (na := 3) dX12_question_3 wC_X12_lies wN_X12 wM_X12_135 wS_X12_lies (by decide) (by decide) rfl rfl (Nat.le_of_ble_eq_true rfl) (fun r hr => zMet_cast (Nat.add_assoc d 0 0) (mX12_lies (d := d + 0) hG v1 0 4 r hr)) ?_
    rintro ⟨r_1, D_2⟩ -
    show zO _ _ _ _ _ _ [zI r_1] (F, D_2, n, sl) _ _
    refine zO_if_eq (tgt := 19) dX12_question_6 rfl (fun c6 => ?_) (fun c6 => ?_)
    · refine zO_live [0] ?_
      exact sX12_question_19 hG D_2
    · refine zO_iload_n dX12_question_9 rfl ?_
      refine zO_iconst dX12_question_10 (by decide) ?_
      refine zO_bipush dX12_question_11 (by decide) ?_
      refine zO_callS (Y' := YX12_lies) (cw := zcI F n sl) (as := [zI v2, zI 1, zI 99]) (rest := []) (na := 3) dX12_question_13 wC_X12_lies wN_X12 wM_X12_135 wS_X12_lies (by decide) (by decide) rfl rfl (Nat.le_of_ble_eq_true rfl) (fun r hr => zMet_cast (Nat.add_assoc d 0 0) (mX12_lies (d := d + 0) hG v2 1 99 r hr)) ?_
      rintro ⟨r_5, D_6⟩ -
      show zO _ _ _ _ _ _ [zI r_5] (F, D_6, n, sl) _ _
      refine zO_if_ne (tgt := 25) dX12_question_16 rfl (fun c16 => ?_) (fun c16 => ?_)
      · refine zO_live [0] ?_
        exact sX12_question_19 hG D_6
      · refine zO_aload_n dX12_question_25 rfl (zR_P _) ?_
        refine zO_callV (Y' := YX12_questions) (cw := zcI F n sl) (as := []) (rest := []) (na := 0) (ci := 12) rfl dX12_question_26 wC_X12_questions wN_X12 wM_X12_146 wI_X12_questions wV_X12_questions (by decide) (by decide) rfl rfl (Nat.le_of_ble_eq_true rfl) rfl (by decide) (gk_91 hG) (fun r hr => zMet_cast (Nat.add_assoc d 0 0) (mX12_questions (d := d + 0) hG  r hr)) ?_
        rintro ⟨r_7, D_8⟩ -
        show zO _ _ _ _ _ _ [zI r_7] (F, D_8, n, sl) _ _
        refine zO_istore_n dX12_question_29 (by decide) ?_
        refine zO_ls (ls' := [(0, zR 91), (1, zI v1), (2, zI v2), (3, zI r_7)]) rfl ?_
        refine zO_iload_n dX12_question_30 rfl ?_
        refine zO_bipush dX12_question_31 (by decide) ?_
        refine zO_icmp_ne (tgt := 43) dX12_question_33 rfl (fun c33 => ?_) (fun c33 => ?_)
        · refine zO_aload_n dX12_question_36 rfl (zR_P _) ?_
          refine zO_bipush dX12_question_37 (by decide) ?_
          refine zO_callV (Y' := YX12_refuses) (cw := zcI F n sl) (as := [zI (-5)]) (rest := []) (na := 1) (ci := 12) rfl dX12_question_39 wC_X12_refuses wN_X12 wM_X12_139 wI_X12_refuses wV_X12_refuses (by decide) (by decide) rfl rfl (Nat.le_of_ble_eq_true rfl) rfl (by decide) (gk_91 hG) (fun r hr => zMet_cast (Nat.add_assoc d 0 0) (mX12_refuses (d := d + 0) hG (-5) r hr)) ?_
          rintro ⟨r_9, D_10⟩ -
          show zO _ _ _ _ _ _ [zI r_9] (F, D_10, n, sl) _ _
          exact zO_ret (rv := some (zI r_9)) dX12_question_42 rfl rfl rfl
        · refine zO_iconst dX12_question_43 (by decide) ?_
          refine zO_istore dX12_question_44 (by decide) ?_
          refine zO_ls (ls' := [(0, zR 91), (1, zI v1), (2, zI v2), (3, zI r_7), (4, zI 0)]) rfl ?_
          refine zO_live [0, 1, 2, 3, 4] ?_
          exact sX12_question_46 hG v1 v2 r_7 zfu 0 D_8
  exact hz r hr
theorem dX12_know_0 : decode cX12_know 0 = .ok (.iload_n 2, 1) := by decide +kernel
theorem dX12_know_1 : decode cX12_know 1 = .ok (.iconst 0, 1) := by decide +kernel
theorem dX12_know_2 : decode cX12_know 2 = .ok (.iconst 2, 1) := by decide +kernel
theorem dX12_know_3 : decode cX12_know 3 = .ok (.invokestatic 135, 3) := by decide +kernel
theorem dX12_know_6 : decode cX12_know 6 = .ok (.ifCond .eq 20, 3) := by decide +kernel
theorem dX12_know_9 : decode cX12_know 9 = .ok (.iload_n 3, 1) := by decide +kernel
theorem dX12_know_10 : decode cX12_know 10 = .ok (.iconst 0, 1) := by decide +kernel
theorem dX12_know_11 : decode cX12_know 11 = .ok (.iload_n 2, 1) := by decide +kernel
theorem dX12_know_12 : decode cX12_know 12 = .ok (.ifCond .ne 7, 3) := by decide +kernel
theorem dX12_know_15 : decode cX12_know 15 = .ok (.iconst 2, 1) := by decide +kernel
theorem dX12_know_16 : decode cX12_know 16 = .ok (.goto 4, 3) := by decide +kernel
theorem dX12_know_19 : decode cX12_know 19 = .ok (.iconst 1, 1) := by decide +kernel
theorem dX12_know_20 : decode cX12_know 20 = .ok (.invokestatic 135, 3) := by decide +kernel
theorem dX12_know_23 : decode cX12_know 23 = .ok (.ifCond .ne 9, 3) := by decide +kernel
theorem dX12_know_26 : decode cX12_know 26 = .ok (.aload_n 0, 1) := by decide +kernel
theorem dX12_know_27 : decode cX12_know 27 = .ok (.iconst (-1), 1) := by decide +kernel
theorem dX12_know_28 : decode cX12_know 28 = .ok (.invokevirtual 139, 3) := by decide +kernel
theorem dX12_know_31 : decode cX12_know 31 = .ok (.ireturn, 1) := by decide +kernel
theorem dX12_know_32 : decode cX12_know 32 = .ok (.aload_n 0, 1) := by decide +kernel
theorem dX12_know_33 : decode cX12_know 33 = .ok (.iload_n 1, 1) := by decide +kernel
theorem dX12_know_34 : decode cX12_know 34 = .ok (.invokevirtual 158, 3) := by decide +kernel
theorem dX12_know_37 : decode cX12_know 37 = .ok (.ifCond .ne 10, 3) := by decide +kernel
theorem dX12_know_40 : decode cX12_know 40 = .ok (.aload_n 0, 1) := by decide +kernel
theorem dX12_know_41 : decode cX12_know 41 = .ok (.bipush (-2), 2) := by decide +kernel
theorem dX12_know_43 : decode cX12_know 43 = .ok (.invokevirtual 139, 3) := by decide +kernel
theorem dX12_know_46 : decode cX12_know 46 = .ok (.ireturn, 1) := by decide +kernel
theorem dX12_know_47 : decode cX12_know 47 = .ok (.aload_n 0, 1) := by decide +kernel
theorem dX12_know_48 : decode cX12_know 48 = .ok (.iconst 0, 1) := by decide +kernel
theorem dX12_know_49 : decode cX12_know 49 = .ok (.iconst 5, 1) := by decide +kernel
theorem dX12_know_50 : decode cX12_know 50 = .ok (.iload_n 1, 1) := by decide +kernel
theorem dX12_know_51 : decode cX12_know 51 = .ok (.imul, 1) := by decide +kernel
theorem dX12_know_52 : decode cX12_know 52 = .ok (.iadd, 1) := by decide +kernel
theorem dX12_know_53 : decode cX12_know 53 = .ok (.iconst 2, 1) := by decide +kernel
theorem dX12_know_54 : decode cX12_know 54 = .ok (.iadd, 1) := by decide +kernel
theorem dX12_know_55 : decode cX12_know 55 = .ok (.iload_n 2, 1) := by decide +kernel
theorem dX12_know_56 : decode cX12_know 56 = .ok (.iadd, 1) := by decide +kernel
theorem dX12_know_57 : decode cX12_know 57 = .ok (.iload_n 3, 1) := by decide +kernel
theorem dX12_know_58 : decode cX12_know 58 = .ok (.invokevirtual 161, 3) := by decide +kernel
theorem dX12_know_61 : decode cX12_know 61 = .ok (.ireturn, 1) := by decide +kernel
abbrev YX12_know : zY := (yX12_know, cX12_know, 4, (Option.some Jvm.ClassFile.FieldType.int), [])
def fX12_know_26 (F : zFs)   (D : zDa) : Option (Int × zDa) :=
  (fX12_refuses F (-1) D).bind (fun (r_3, D_4) =>
    some (r_3, D_4))
def fX12_know_20 (F : zFs)  (v1 : Int) (v2 : Int) (v3 : Int) (s0 : Int) (s1 : Int) (s2 : Int) (D : zDa) : Option (Int × zDa) :=
  (fX12_lies F s2 s1 s0 D).bind (fun (r_5, D_6) =>
    if r_5 = 0 then
      fX12_know_26 F D_6
    else
      (fX12_isQuestion F v1 D_6).bind (fun (r_7, D_8) =>
        if r_7 = 0 then
          (fX12_refuses F (-2) D_8).bind (fun (r_9, D_10) =>
            some (r_9, D_10))
        else
          if (-2147483648 ≤ 5 * v1 ∧ 5 * v1 ≤ 2147483647) ∧ (-2147483648 ≤ 0 + (5 * v1) ∧ 0 + (5 * v1) ≤ 2147483647) ∧ (-2147483648 ≤ (0 + (5 * v1)) + 2 ∧ (0 + (5 * v1)) + 2 ≤ 2147483647) ∧ (-2147483648 ≤ ((0 + (5 * v1)) + 2) + v2 ∧ ((0 + (5 * v1)) + 2) + v2 ≤ 2147483647) then
            (fX12_replaces F (((0 + (5 * v1)) + 2) + v2) v3 D_8).bind (fun (r_11, D_12) =>
              some (r_11, D_12))
          else none))
def fX12_know (F : zFs) (v1 : Int) (v2 : Int) (v3 : Int) (D : zDa) : Option (Int × zDa) :=
  (fX12_lies F v2 0 2 D).bind (fun (r_1, D_2) =>
    if r_1 = 0 then
      fX12_know_26 F D_2
    else
      if v2 = 0 then
        fX12_know_20 F v1 v2 v3 2 0 v3 D_2
      else
        fX12_know_20 F v1 v2 v3 1 0 v3 D_2)
set_option maxHeartbeats 20000000 in
theorem sX12_know_26 {l : Launch} {E : zE} {d : Nat} {F : zFs} {n sl : Nat} (hG : zG F)     (D : zDa) : zO l E (d + 2) YX12_know 26 [(0, zR 91)] [] (F, D, n, sl) (zcI F n sl) (fX12_know_26 F D) := by
  unfold fX12_know_26
  refine zO_aload_n dX12_know_26 rfl (zR_P _) ?_
  refine zO_iconst dX12_know_27 (by decide) ?_
  refine zO_callV (Y' := YX12_refuses) (cw := zcI F n sl) (as := [zI (-1)]) (rest := []) (na := 1) (ci := 12) rfl dX12_know_28 wC_X12_refuses wN_X12 wM_X12_139 wI_X12_refuses wV_X12_refuses (by decide) (by decide) rfl rfl (Nat.le_of_ble_eq_true rfl) rfl (by decide) (gk_91 hG) (fun r hr => zMet_cast (Nat.add_assoc d 1 0) (mX12_refuses (d := d + 1) hG (-1) r hr)) ?_
  rintro ⟨r_3, D_4⟩ -
  show zO _ _ _ _ _ _ [zI r_3] (F, D_4, n, sl) _ _
  exact zO_ret (rv := some (zI r_3)) dX12_know_31 rfl rfl rfl
set_option maxHeartbeats 20000000 in
theorem sX12_know_20 {l : Launch} {E : zE} {d : Nat} {F : zFs} {n sl : Nat} (hG : zG F)  (v1 : Int) (v2 : Int) (v3 : Int) (s0 : Int) (s1 : Int) (s2 : Int)   (D : zDa) : zO l E (d + 2) YX12_know 20 [(0, zR 91), (1, zI v1), (2, zI v2), (3, zI v3)] [zI s0, zI s1, zI s2] (F, D, n, sl) (zcI F n sl) (fX12_know_20 F v1 v2 v3 s0 s1 s2 D) := by
  unfold fX12_know_20
  refine zO_callS (Y' := YX12_lies) (cw := zcI F n sl) (as := [zI s2, zI s1, zI s0]) (rest := []) (na := 3) dX12_know_20 wC_X12_lies wN_X12 wM_X12_135 wS_X12_lies (by decide) (by decide) rfl rfl (Nat.le_of_ble_eq_true rfl) (fun r hr => zMet_cast (Nat.add_assoc d 1 0) (mX12_lies (d := d + 1) hG s2 s1 s0 r hr)) ?_
  rintro ⟨r_5, D_6⟩ -
  show zO _ _ _ _ _ _ [zI r_5] (F, D_6, n, sl) _ _
  refine zO_if_ne (tgt := 32) dX12_know_23 rfl (fun c23 => ?_) (fun c23 => ?_)
  · refine zO_live [0] ?_
    exact sX12_know_26 hG D_6
  · refine zO_aload_n dX12_know_32 rfl (zR_P _) ?_
    refine zO_iload_n dX12_know_33 rfl ?_
    refine zO_callV (Y' := YX12_isQuestion) (cw := zcI F n sl) (as := [zI v1]) (rest := []) (na := 1) (ci := 12) rfl dX12_know_34 wC_X12_isQuestion wN_X12 wM_X12_158 wI_X12_isQuestion wV_X12_isQuestion (by decide) (by decide) rfl rfl (Nat.le_of_ble_eq_true rfl) rfl (by decide) (gk_91 hG) (fun r hr => zMet_cast (Nat.add_assoc d 0 1) (mX12_isQuestion (d := d + 0) hG v1 r hr)) ?_
    rintro ⟨r_7, D_8⟩ -
    show zO _ _ _ _ _ _ [zI r_7] (F, D_8, n, sl) _ _
    refine zO_if_ne (tgt := 47) dX12_know_37 rfl (fun c37 => ?_) (fun c37 => ?_)
    · refine zO_aload_n dX12_know_40 rfl (zR_P _) ?_
      refine zO_bipush dX12_know_41 (by decide) ?_
      refine zO_callV (Y' := YX12_refuses) (cw := zcI F n sl) (as := [zI (-2)]) (rest := []) (na := 1) (ci := 12) rfl dX12_know_43 wC_X12_refuses wN_X12 wM_X12_139 wI_X12_refuses wV_X12_refuses (by decide) (by decide) rfl rfl (Nat.le_of_ble_eq_true rfl) rfl (by decide) (gk_91 hG) (fun r hr => zMet_cast (Nat.add_assoc d 1 0) (mX12_refuses (d := d + 1) hG (-2) r hr)) ?_
      rintro ⟨r_9, D_10⟩ -
      show zO _ _ _ _ _ _ [zI r_9] (F, D_10, n, sl) _ _
      exact zO_ret (rv := some (zI r_9)) dX12_know_46 rfl rfl rfl
    · refine zO_chk (fun h1 => ?_)
      refine zO_aload_n dX12_know_47 rfl (zR_P _) ?_
      refine zO_iconst dX12_know_48 (by decide) ?_
      refine zO_iconst dX12_know_49 (by decide) ?_
      refine zO_iload_n dX12_know_50 rfl ?_
      refine zO_imul dX12_know_51 h1.1 ?_
      refine zO_iadd dX12_know_52 h1.2.1 ?_
      refine zO_iconst dX12_know_53 (by decide) ?_
      refine zO_iadd dX12_know_54 h1.2.2.1 ?_
      refine zO_iload_n dX12_know_55 rfl ?_
      refine zO_iadd dX12_know_56 h1.2.2.2 ?_
      refine zO_iload_n dX12_know_57 rfl ?_
      refine zO_callV (Y' := YX12_replaces) (cw := zcI F n sl) (as := [zI (((0 + (5 * v1)) + 2) + v2), zI v3]) (rest := []) (na := 2) (ci := 12) rfl dX12_know_58 wC_X12_replaces wN_X12 wM_X12_161 wI_X12_replaces wV_X12_replaces (by decide) (by decide) rfl rfl (Nat.le_of_ble_eq_true rfl) rfl (by decide) (gk_91 hG) (fun r hr => zMet_cast (Nat.add_assoc d 0 1) (mX12_replaces (d := d + 0) hG (((0 + (5 * v1)) + 2) + v2) v3 r hr)) ?_
      rintro ⟨r_11, D_12⟩ -
      show zO _ _ _ _ _ _ [zI r_11] (F, D_12, n, sl) _ _
      exact zO_ret (rv := some (zI r_11)) dX12_know_61 rfl rfl rfl
set_option maxHeartbeats 20000000 in
theorem mX12_know {l : Launch} {E : zE} {d : Nat} {F : zFs} {n sl : Nat} (hG : zG F) (v1 : Int) (v2 : Int) (v3 : Int) {D : zDa} : ∀ r, fX12_know F  v1 v2 v3 D = some r → zMet l E (d + 2) YX12_know [zR 91, zI v1, zI v2, zI v3] (F, D, n, sl) (zcI F n sl r) := by
  intro r hr
  refine zMet_of (plainFor_of_name (by decide)) (fun _ h => (nomatch h)) (Nat.le_of_ble_eq_true rfl) ?_
  have hz : zO l E (d + 2) YX12_know 0 [(0, zR 91), (1, zI v1), (2, zI v2), (3, zI v3)] [] (F, D, n, sl) (zcI F n sl) (fX12_know F  v1 v2 v3 D) := by
    unfold fX12_know
    refine zO_iload_n dX12_know_0 rfl ?_
    refine zO_iconst dX12_know_1 (by decide) ?_
    refine zO_iconst dX12_know_2 (by decide) ?_
    refine zO_callS (Y' := YX12_lies) (cw := zcI F n sl) (as := [zI v2, zI 0, zI 2]) (rest := []) (na := 3) dX12_know_3 wC_X12_lies wN_X12 wM_X12_135 wS_X12_lies (by decide) (by decide) rfl rfl (Nat.le_of_ble_eq_true rfl) (fun r hr => zMet_cast (Nat.add_assoc d 1 0) (mX12_lies (d := d + 1) hG v2 0 2 r hr)) ?_
    rintro ⟨r_1, D_2⟩ -
    show zO _ _ _ _ _ _ [zI r_1] (F, D_2, n, sl) _ _
    refine zO_if_eq (tgt := 26) dX12_know_6 rfl (fun c6 => ?_) (fun c6 => ?_)
    · refine zO_live [0] ?_
      exact sX12_know_26 hG D_2
    · refine zO_iload_n dX12_know_9 rfl ?_
      refine zO_iconst dX12_know_10 (by decide) ?_
      refine zO_iload_n dX12_know_11 rfl ?_
      refine zO_if_ne (tgt := 19) dX12_know_12 rfl (fun c12 => ?_) (fun c12 => ?_)
      · refine zO_iconst dX12_know_15 (by decide) ?_
        refine zO_goto (tgt := 20) dX12_know_16 rfl ?_
        refine zO_live [0, 1, 2, 3] ?_
        exact sX12_know_20 hG v1 v2 v3 2 0 v3 D_2
      · refine zO_iconst dX12_know_19 (by decide) ?_
        refine zO_live [0, 1, 2, 3] ?_
        exact sX12_know_20 hG v1 v2 v3 1 0 v3 D_2
  exact hz r hr
theorem dX12_of_0 : decode cX12_of 0 = .ok (.aload_n 0, 1) := by decide +kernel
theorem dX12_of_1 : decode cX12_of 1 = .ok (.iload_n 1, 1) := by decide +kernel
theorem dX12_of_2 : decode cX12_of 2 = .ok (.invokevirtual 158, 3) := by decide +kernel
theorem dX12_of_5 : decode cX12_of 5 = .ok (.ifCond .eq 21, 3) := by decide +kernel
theorem dX12_of_8 : decode cX12_of 8 = .ok (.iload_n 2, 1) := by decide +kernel
theorem dX12_of_9 : decode cX12_of 9 = .ok (.iconst 0, 1) := by decide +kernel
theorem dX12_of_10 : decode cX12_of 10 = .ok (.iconst 4, 1) := by decide +kernel
theorem dX12_of_11 : decode cX12_of 11 = .ok (.invokestatic 135, 3) := by decide +kernel
theorem dX12_of_14 : decode cX12_of 14 = .ok (.ifCond .eq 12, 3) := by decide +kernel
theorem dX12_of_17 : decode cX12_of 17 = .ok (.aload_n 0, 1) := by decide +kernel
theorem dX12_of_18 : decode cX12_of 18 = .ok (.iload_n 1, 1) := by decide +kernel
theorem dX12_of_19 : decode cX12_of 19 = .ok (.iload_n 2, 1) := by decide +kernel
theorem dX12_of_20 : decode cX12_of 20 = .ok (.invokevirtual 150, 3) := by decide +kernel
theorem dX12_of_23 : decode cX12_of 23 = .ok (.goto 4, 3) := by decide +kernel
theorem dX12_of_26 : decode cX12_of 26 = .ok (.iconst (-1), 1) := by decide +kernel
theorem dX12_of_27 : decode cX12_of 27 = .ok (.ireturn, 1) := by decide +kernel
abbrev YX12_of : zY := (yX12_of, cX12_of, 3, (Option.some Jvm.ClassFile.FieldType.int), [])
def fX12_of (F : zFs) (v1 : Int) (v2 : Int) (D : zDa) : Option (Int × zDa) :=
  (fX12_isQuestion F v1 D).bind (fun (r_1, D_2) =>
    if r_1 = 0 then
      some ((-1), D_2)
    else
      (fX12_lies F v2 0 4 D_2).bind (fun (r_3, D_4) =>
        if r_3 = 0 then
          some ((-1), D_4)
        else
          (fX12_factOf F v1 v2 D_4).bind (fun (r_5, D_6) =>
            some (r_5, D_6))))
set_option maxHeartbeats 20000000 in
theorem mX12_of {l : Launch} {E : zE} {d : Nat} {F : zFs} {n sl : Nat} (hG : zG F) (v1 : Int) (v2 : Int) {D : zDa} : ∀ r, fX12_of F  v1 v2 D = some r → zMet l E (d + 2) YX12_of [zR 91, zI v1, zI v2] (F, D, n, sl) (zcI F n sl r) := by
  intro r hr
  refine zMet_of (plainFor_of_name (by decide)) (fun _ h => (nomatch h)) (Nat.le_of_ble_eq_true rfl) ?_
  have hz : zO l E (d + 2) YX12_of 0 [(0, zR 91), (1, zI v1), (2, zI v2)] [] (F, D, n, sl) (zcI F n sl) (fX12_of F  v1 v2 D) := by
    unfold fX12_of
    refine zO_aload_n dX12_of_0 rfl (zR_P _) ?_
    refine zO_iload_n dX12_of_1 rfl ?_
    refine zO_callV (Y' := YX12_isQuestion) (cw := zcI F n sl) (as := [zI v1]) (rest := []) (na := 1) (ci := 12) rfl dX12_of_2 wC_X12_isQuestion wN_X12 wM_X12_158 wI_X12_isQuestion wV_X12_isQuestion (by decide) (by decide) rfl rfl (Nat.le_of_ble_eq_true rfl) rfl (by decide) (gk_91 hG) (fun r hr => zMet_cast (Nat.add_assoc d 0 1) (mX12_isQuestion (d := d + 0) hG v1 r hr)) ?_
    rintro ⟨r_1, D_2⟩ -
    show zO _ _ _ _ _ _ [zI r_1] (F, D_2, n, sl) _ _
    refine zO_if_eq (tgt := 26) dX12_of_5 rfl (fun c5 => ?_) (fun c5 => ?_)
    · refine zO_iconst dX12_of_26 (by decide) ?_
      exact zO_ret (rv := some (zI (-1))) dX12_of_27 rfl rfl rfl
    · refine zO_iload_n dX12_of_8 rfl ?_
      refine zO_iconst dX12_of_9 (by decide) ?_
      refine zO_iconst dX12_of_10 (by decide) ?_
      refine zO_callS (Y' := YX12_lies) (cw := zcI F n sl) (as := [zI v2, zI 0, zI 4]) (rest := []) (na := 3) dX12_of_11 wC_X12_lies wN_X12 wM_X12_135 wS_X12_lies (by decide) (by decide) rfl rfl (Nat.le_of_ble_eq_true rfl) (fun r hr => zMet_cast (Nat.add_assoc d 1 0) (mX12_lies (d := d + 1) hG v2 0 4 r hr)) ?_
      rintro ⟨r_3, D_4⟩ -
      show zO _ _ _ _ _ _ [zI r_3] (F, D_4, n, sl) _ _
      refine zO_if_eq (tgt := 26) dX12_of_14 rfl (fun c14 => ?_) (fun c14 => ?_)
      · refine zO_iconst dX12_of_26 (by decide) ?_
        exact zO_ret (rv := some (zI (-1))) dX12_of_27 rfl rfl rfl
      · refine zO_aload_n dX12_of_17 rfl (zR_P _) ?_
        refine zO_iload_n dX12_of_18 rfl ?_
        refine zO_iload_n dX12_of_19 rfl ?_
        refine zO_callV (Y' := YX12_factOf) (cw := zcI F n sl) (as := [zI v1, zI v2]) (rest := []) (na := 2) (ci := 12) rfl dX12_of_20 wC_X12_factOf wN_X12 wM_X12_150 wI_X12_factOf wV_X12_factOf (by decide) (by decide) rfl rfl (Nat.le_of_ble_eq_true rfl) rfl (by decide) (gk_91 hG) (fun r hr => zMet_cast (Nat.add_assoc d 1 0) (mX12_factOf (d := d + 1) hG v1 v2 r hr)) ?_
        rintro ⟨r_5, D_6⟩ -
        show zO _ _ _ _ _ _ [zI r_5] (F, D_6, n, sl) _ _
        refine zO_goto (tgt := 27) dX12_of_23 rfl ?_
        exact zO_ret (rv := some (zI r_5)) dX12_of_27 rfl rfl rfl
  exact hz r hr
theorem dX12_leastOf_0 : decode cX12_leastOf 0 = .ok (.iload_n 0, 1) := by decide +kernel
theorem dX12_leastOf_1 : decode cX12_leastOf 1 = .ok (.iconst 3, 1) := by decide +kernel
theorem dX12_leastOf_2 : decode cX12_leastOf 2 = .ok (.if_icmp .lt 8, 3) := by decide +kernel
theorem dX12_leastOf_5 : decode cX12_leastOf 5 = .ok (.iload_n 0, 1) := by decide +kernel
theorem dX12_leastOf_6 : decode cX12_leastOf 6 = .ok (.iconst 5, 1) := by decide +kernel
theorem dX12_leastOf_7 : decode cX12_leastOf 7 = .ok (.if_icmp .ne 7, 3) := by decide +kernel
theorem dX12_leastOf_10 : decode cX12_leastOf 10 = .ok (.iconst 1, 1) := by decide +kernel
theorem dX12_leastOf_11 : decode cX12_leastOf 11 = .ok (.goto 4, 3) := by decide +kernel
theorem dX12_leastOf_14 : decode cX12_leastOf 14 = .ok (.iconst 0, 1) := by decide +kernel
theorem dX12_leastOf_15 : decode cX12_leastOf 15 = .ok (.ireturn, 1) := by decide +kernel
abbrev YX12_leastOf : zY := (yX12_leastOf, cX12_leastOf, 1, (Option.some Jvm.ClassFile.FieldType.int), [])
def fX12_leastOf (F : zFs) (v0 : Int) (D : zDa) : Option (Int × zDa) :=
  if v0 < 3 then
    some (1, D)
  else
    if v0 = 5 then
      some (1, D)
    else
      some (0, D)
set_option maxHeartbeats 20000000 in
theorem mX12_leastOf {l : Launch} {E : zE} {d : Nat} {F : zFs} {n sl : Nat} (hG : zG F) (v0 : Int) {D : zDa} : ∀ r, fX12_leastOf F  v0 D = some r → zMet l E (d + 0) YX12_leastOf [zI v0] (F, D, n, sl) (zcI F n sl r) := by
  intro r hr
  refine zMet_of (plainFor_of_name (by decide)) (fun _ h => (nomatch h)) (Nat.le_of_ble_eq_true rfl) ?_
  have hz : zO l E (d + 0) YX12_leastOf 0 [(0, zI v0)] [] (F, D, n, sl) (zcI F n sl) (fX12_leastOf F  v0 D) := by
    unfold fX12_leastOf
    refine zO_iload_n dX12_leastOf_0 rfl ?_
    refine zO_iconst dX12_leastOf_1 (by decide) ?_
    refine zO_icmp_lt (tgt := 10) dX12_leastOf_2 rfl (fun c2 => ?_) (fun c2 => ?_)
    · refine zO_iconst dX12_leastOf_10 (by decide) ?_
      refine zO_goto (tgt := 15) dX12_leastOf_11 rfl ?_
      exact zO_ret (rv := some (zI 1)) dX12_leastOf_15 rfl rfl rfl
    · refine zO_iload_n dX12_leastOf_5 rfl ?_
      refine zO_iconst dX12_leastOf_6 (by decide) ?_
      refine zO_icmp_ne (tgt := 14) dX12_leastOf_7 rfl (fun c7 => ?_) (fun c7 => ?_)
      · refine zO_iconst dX12_leastOf_10 (by decide) ?_
        refine zO_goto (tgt := 15) dX12_leastOf_11 rfl ?_
        exact zO_ret (rv := some (zI 1)) dX12_leastOf_15 rfl rfl rfl
      · refine zO_iconst dX12_leastOf_14 (by decide) ?_
        exact zO_ret (rv := some (zI 0)) dX12_leastOf_15 rfl rfl rfl
  exact hz r hr
theorem dX12_mostOf_0 : decode cX12_mostOf 0 = .ok (.iload_n 0, 1) := by decide +kernel
theorem dX12_mostOf_1 : decode cX12_mostOf 1 = .ok (.ifCond .ne 8, 3) := by decide +kernel
theorem dX12_mostOf_4 : decode cX12_mostOf 4 = .ok (.bipush 10, 2) := by decide +kernel
theorem dX12_mostOf_6 : decode cX12_mostOf 6 = .ok (.goto 34, 3) := by decide +kernel
theorem dX12_mostOf_9 : decode cX12_mostOf 9 = .ok (.iload_n 0, 1) := by decide +kernel
theorem dX12_mostOf_10 : decode cX12_mostOf 10 = .ok (.iconst 3, 1) := by decide +kernel
theorem dX12_mostOf_11 : decode cX12_mostOf 11 = .ok (.if_icmp .ge 7, 3) := by decide +kernel
theorem dX12_mostOf_14 : decode cX12_mostOf 14 = .ok (.iconst 3, 1) := by decide +kernel
theorem dX12_mostOf_15 : decode cX12_mostOf 15 = .ok (.goto 25, 3) := by decide +kernel
theorem dX12_mostOf_18 : decode cX12_mostOf 18 = .ok (.iload_n 0, 1) := by decide +kernel
theorem dX12_mostOf_19 : decode cX12_mostOf 19 = .ok (.iconst 5, 1) := by decide +kernel
theorem dX12_mostOf_20 : decode cX12_mostOf 20 = .ok (.if_icmp .ge 8, 3) := by decide +kernel
theorem dX12_mostOf_23 : decode cX12_mostOf 23 = .ok (.bipush 100, 2) := by decide +kernel
theorem dX12_mostOf_25 : decode cX12_mostOf 25 = .ok (.goto 15, 3) := by decide +kernel
theorem dX12_mostOf_28 : decode cX12_mostOf 28 = .ok (.iload_n 0, 1) := by decide +kernel
theorem dX12_mostOf_29 : decode cX12_mostOf 29 = .ok (.iconst 5, 1) := by decide +kernel
theorem dX12_mostOf_30 : decode cX12_mostOf 30 = .ok (.if_icmp .ne 8, 3) := by decide +kernel
theorem dX12_mostOf_33 : decode cX12_mostOf 33 = .ok (.bipush 20, 2) := by decide +kernel
theorem dX12_mostOf_35 : decode cX12_mostOf 35 = .ok (.goto 5, 3) := by decide +kernel
theorem dX12_mostOf_38 : decode cX12_mostOf 38 = .ok (.bipush 16, 2) := by decide +kernel
theorem dX12_mostOf_40 : decode cX12_mostOf 40 = .ok (.ireturn, 1) := by decide +kernel
abbrev YX12_mostOf : zY := (yX12_mostOf, cX12_mostOf, 1, (Option.some Jvm.ClassFile.FieldType.int), [])
def fX12_mostOf (F : zFs) (v0 : Int) (D : zDa) : Option (Int × zDa) :=
  if v0 = 0 then
    some (10, D)
  else
    if v0 < 3 then
      some (3, D)
    else
      if v0 < 5 then
        some (100, D)
      else
        if v0 = 5 then
          some (20, D)
        else
          some (16, D)
set_option maxHeartbeats 20000000 in
theorem mX12_mostOf {l : Launch} {E : zE} {d : Nat} {F : zFs} {n sl : Nat} (hG : zG F) (v0 : Int) {D : zDa} : ∀ r, fX12_mostOf F  v0 D = some r → zMet l E (d + 0) YX12_mostOf [zI v0] (F, D, n, sl) (zcI F n sl r) := by
  intro r hr
  refine zMet_of (plainFor_of_name (by decide)) (fun _ h => (nomatch h)) (Nat.le_of_ble_eq_true rfl) ?_
  have hz : zO l E (d + 0) YX12_mostOf 0 [(0, zI v0)] [] (F, D, n, sl) (zcI F n sl) (fX12_mostOf F  v0 D) := by
    unfold fX12_mostOf
    refine zO_iload_n dX12_mostOf_0 rfl ?_
    refine zO_if_ne (tgt := 9) dX12_mostOf_1 rfl (fun c1 => ?_) (fun c1 => ?_)
    · refine zO_bipush dX12_mostOf_4 (by decide) ?_
      refine zO_goto (tgt := 40) dX12_mostOf_6 rfl ?_
      exact zO_ret (rv := some (zI 10)) dX12_mostOf_40 rfl rfl rfl
    · refine zO_iload_n dX12_mostOf_9 rfl ?_
      refine zO_iconst dX12_mostOf_10 (by decide) ?_
      refine zO_icmp_ge (tgt := 18) dX12_mostOf_11 rfl (fun c11 => ?_) (fun c11 => ?_)
      · refine zO_iconst dX12_mostOf_14 (by decide) ?_
        refine zO_goto (tgt := 40) dX12_mostOf_15 rfl ?_
        exact zO_ret (rv := some (zI 3)) dX12_mostOf_40 rfl rfl rfl
      · refine zO_iload_n dX12_mostOf_18 rfl ?_
        refine zO_iconst dX12_mostOf_19 (by decide) ?_
        refine zO_icmp_ge (tgt := 28) dX12_mostOf_20 rfl (fun c20 => ?_) (fun c20 => ?_)
        · refine zO_bipush dX12_mostOf_23 (by decide) ?_
          refine zO_goto (tgt := 40) dX12_mostOf_25 rfl ?_
          exact zO_ret (rv := some (zI 100)) dX12_mostOf_40 rfl rfl rfl
        · refine zO_iload_n dX12_mostOf_28 rfl ?_
          refine zO_iconst dX12_mostOf_29 (by decide) ?_
          refine zO_icmp_ne (tgt := 38) dX12_mostOf_30 rfl (fun c30 => ?_) (fun c30 => ?_)
          · refine zO_bipush dX12_mostOf_33 (by decide) ?_
            refine zO_goto (tgt := 40) dX12_mostOf_35 rfl ?_
            exact zO_ret (rv := some (zI 20)) dX12_mostOf_40 rfl rfl rfl
          · refine zO_bipush dX12_mostOf_38 (by decide) ?_
            exact zO_ret (rv := some (zI 16)) dX12_mostOf_40 rfl rfl rfl
  exact hz r hr
theorem dX12_terms_0 : decode cX12_terms 0 = .ok (.iload_n 1, 1) := by decide +kernel
theorem dX12_terms_1 : decode cX12_terms 1 = .ok (.iconst 0, 1) := by decide +kernel
theorem dX12_terms_2 : decode cX12_terms 2 = .ok (.bipush 6, 2) := by decide +kernel
theorem dX12_terms_4 : decode cX12_terms 4 = .ok (.invokestatic 135, 3) := by decide +kernel
theorem dX12_terms_7 : decode cX12_terms 7 = .ok (.ifCond .eq 18, 3) := by decide +kernel
theorem dX12_terms_10 : decode cX12_terms 10 = .ok (.iload_n 2, 1) := by decide +kernel
theorem dX12_terms_11 : decode cX12_terms 11 = .ok (.iload_n 1, 1) := by decide +kernel
theorem dX12_terms_12 : decode cX12_terms 12 = .ok (.invokestatic 164, 3) := by decide +kernel
theorem dX12_terms_15 : decode cX12_terms 15 = .ok (.iload_n 1, 1) := by decide +kernel
theorem dX12_terms_16 : decode cX12_terms 16 = .ok (.invokestatic 167, 3) := by decide +kernel
theorem dX12_terms_19 : decode cX12_terms 19 = .ok (.invokestatic 135, 3) := by decide +kernel
theorem dX12_terms_22 : decode cX12_terms 22 = .ok (.ifCond .ne 9, 3) := by decide +kernel
theorem dX12_terms_25 : decode cX12_terms 25 = .ok (.aload_n 0, 1) := by decide +kernel
theorem dX12_terms_26 : decode cX12_terms 26 = .ok (.iconst (-1), 1) := by decide +kernel
theorem dX12_terms_27 : decode cX12_terms 27 = .ok (.invokevirtual 139, 3) := by decide +kernel
theorem dX12_terms_30 : decode cX12_terms 30 = .ok (.ireturn, 1) := by decide +kernel
theorem dX12_terms_31 : decode cX12_terms 31 = .ok (.aload_n 0, 1) := by decide +kernel
theorem dX12_terms_32 : decode cX12_terms 32 = .ok (.bipush 100, 2) := by decide +kernel
theorem dX12_terms_34 : decode cX12_terms 34 = .ok (.iload_n 1, 1) := by decide +kernel
theorem dX12_terms_35 : decode cX12_terms 35 = .ok (.iadd, 1) := by decide +kernel
theorem dX12_terms_36 : decode cX12_terms 36 = .ok (.iload_n 2, 1) := by decide +kernel
theorem dX12_terms_37 : decode cX12_terms 37 = .ok (.invokevirtual 161, 3) := by decide +kernel
theorem dX12_terms_40 : decode cX12_terms 40 = .ok (.ireturn, 1) := by decide +kernel
abbrev YX12_terms : zY := (yX12_terms, cX12_terms, 3, (Option.some Jvm.ClassFile.FieldType.int), [])
def fX12_terms_25 (F : zFs)   (D : zDa) : Option (Int × zDa) :=
  (fX12_refuses F (-1) D).bind (fun (r_3, D_4) =>
    some (r_3, D_4))
def fX12_terms (F : zFs) (v1 : Int) (v2 : Int) (D : zDa) : Option (Int × zDa) :=
  (fX12_lies F v1 0 6 D).bind (fun (r_1, D_2) =>
    if r_1 = 0 then
      fX12_terms_25 F D_2
    else
      (fX12_leastOf F v1 D_2).bind (fun (r_5, D_6) =>
        (fX12_mostOf F v1 D_6).bind (fun (r_7, D_8) =>
          (fX12_lies F v2 r_5 r_7 D_8).bind (fun (r_9, D_10) =>
            if r_9 = 0 then
              fX12_terms_25 F D_10
            else
              if (-2147483648 ≤ 100 + v1 ∧ 100 + v1 ≤ 2147483647) then
                (fX12_replaces F (100 + v1) v2 D_10).bind (fun (r_11, D_12) =>
                  some (r_11, D_12))
              else none))))
set_option maxHeartbeats 20000000 in
theorem sX12_terms_25 {l : Launch} {E : zE} {d : Nat} {F : zFs} {n sl : Nat} (hG : zG F)     (D : zDa) : zO l E (d + 2) YX12_terms 25 [(0, zR 91)] [] (F, D, n, sl) (zcI F n sl) (fX12_terms_25 F D) := by
  unfold fX12_terms_25
  refine zO_aload_n dX12_terms_25 rfl (zR_P _) ?_
  refine zO_iconst dX12_terms_26 (by decide) ?_
  refine zO_callV (Y' := YX12_refuses) (cw := zcI F n sl) (as := [zI (-1)]) (rest := []) (na := 1) (ci := 12) rfl dX12_terms_27 wC_X12_refuses wN_X12 wM_X12_139 wI_X12_refuses wV_X12_refuses (by decide) (by decide) rfl rfl (Nat.le_of_ble_eq_true rfl) rfl (by decide) (gk_91 hG) (fun r hr => zMet_cast (Nat.add_assoc d 1 0) (mX12_refuses (d := d + 1) hG (-1) r hr)) ?_
  rintro ⟨r_3, D_4⟩ -
  show zO _ _ _ _ _ _ [zI r_3] (F, D_4, n, sl) _ _
  exact zO_ret (rv := some (zI r_3)) dX12_terms_30 rfl rfl rfl
set_option maxHeartbeats 20000000 in
theorem mX12_terms {l : Launch} {E : zE} {d : Nat} {F : zFs} {n sl : Nat} (hG : zG F) (v1 : Int) (v2 : Int) {D : zDa} : ∀ r, fX12_terms F  v1 v2 D = some r → zMet l E (d + 2) YX12_terms [zR 91, zI v1, zI v2] (F, D, n, sl) (zcI F n sl r) := by
  intro r hr
  refine zMet_of (plainFor_of_name (by decide)) (fun _ h => (nomatch h)) (Nat.le_of_ble_eq_true rfl) ?_
  have hz : zO l E (d + 2) YX12_terms 0 [(0, zR 91), (1, zI v1), (2, zI v2)] [] (F, D, n, sl) (zcI F n sl) (fX12_terms F  v1 v2 D) := by
    unfold fX12_terms
    refine zO_iload_n dX12_terms_0 rfl ?_
    refine zO_iconst dX12_terms_1 (by decide) ?_
    refine zO_bipush dX12_terms_2 (by decide) ?_
    refine zO_callS (Y' := YX12_lies) (cw := zcI F n sl) (as := [zI v1, zI 0, zI 6]) (rest := []) (na := 3) dX12_terms_4 wC_X12_lies wN_X12 wM_X12_135 wS_X12_lies (by decide) (by decide) rfl rfl (Nat.le_of_ble_eq_true rfl) (fun r hr => zMet_cast (Nat.add_assoc d 1 0) (mX12_lies (d := d + 1) hG v1 0 6 r hr)) ?_
    rintro ⟨r_1, D_2⟩ -
    show zO _ _ _ _ _ _ [zI r_1] (F, D_2, n, sl) _ _
    refine zO_if_eq (tgt := 25) dX12_terms_7 rfl (fun c7 => ?_) (fun c7 => ?_)
    · refine zO_live [0] ?_
      exact sX12_terms_25 hG D_2
    · refine zO_iload_n dX12_terms_10 rfl ?_
      refine zO_iload_n dX12_terms_11 rfl ?_
      refine zO_callS (Y' := YX12_leastOf) (cw := zcI F n sl) (as := [zI v1]) (rest := [zI v2]) (na := 1) dX12_terms_12 wC_X12_leastOf wN_X12 wM_X12_164 wS_X12_leastOf (by decide) (by decide) rfl rfl (Nat.le_of_ble_eq_true rfl) (fun r hr => zMet_cast (Nat.add_assoc d 1 0) (mX12_leastOf (d := d + 1) hG v1 r hr)) ?_
      rintro ⟨r_5, D_6⟩ -
      show zO _ _ _ _ _ _ [zI r_5, zI v2] (F, D_6, n, sl) _ _
      refine zO_iload_n dX12_terms_15 rfl ?_
      refine zO_callS (Y' := YX12_mostOf) (cw := zcI F n sl) (as := [zI v1]) (rest := [zI r_5, zI v2]) (na := 1) dX12_terms_16 wC_X12_mostOf wN_X12 wM_X12_167 wS_X12_mostOf (by decide) (by decide) rfl rfl (Nat.le_of_ble_eq_true rfl) (fun r hr => zMet_cast (Nat.add_assoc d 1 0) (mX12_mostOf (d := d + 1) hG v1 r hr)) ?_
      rintro ⟨r_7, D_8⟩ -
      show zO _ _ _ _ _ _ [zI r_7, zI r_5, zI v2] (F, D_8, n, sl) _ _
      refine zO_callS (Y' := YX12_lies) (cw := zcI F n sl) (as := [zI v2, zI r_5, zI r_7]) (rest := []) (na := 3) dX12_terms_19 wC_X12_lies wN_X12 wM_X12_135 wS_X12_lies (by decide) (by decide) rfl rfl (Nat.le_of_ble_eq_true rfl) (fun r hr => zMet_cast (Nat.add_assoc d 1 0) (mX12_lies (d := d + 1) hG v2 r_5 r_7 r hr)) ?_
      rintro ⟨r_9, D_10⟩ -
      show zO _ _ _ _ _ _ [zI r_9] (F, D_10, n, sl) _ _
      refine zO_if_ne (tgt := 31) dX12_terms_22 rfl (fun c22 => ?_) (fun c22 => ?_)
      · refine zO_live [0] ?_
        exact sX12_terms_25 hG D_10
      · refine zO_chk (fun h1 => ?_)
        refine zO_aload_n dX12_terms_31 rfl (zR_P _) ?_
        refine zO_bipush dX12_terms_32 (by decide) ?_
        refine zO_iload_n dX12_terms_34 rfl ?_
        refine zO_iadd dX12_terms_35 h1 ?_
        refine zO_iload_n dX12_terms_36 rfl ?_
        refine zO_callV (Y' := YX12_replaces) (cw := zcI F n sl) (as := [zI (100 + v1), zI v2]) (rest := []) (na := 2) (ci := 12) rfl dX12_terms_37 wC_X12_replaces wN_X12 wM_X12_161 wI_X12_replaces wV_X12_replaces (by decide) (by decide) rfl rfl (Nat.le_of_ble_eq_true rfl) rfl (by decide) (gk_91 hG) (fun r hr => zMet_cast (Nat.add_assoc d 0 1) (mX12_replaces (d := d + 0) hG (100 + v1) v2 r hr)) ?_
        rintro ⟨r_11, D_12⟩ -
        show zO _ _ _ _ _ _ [zI r_11] (F, D_12, n, sl) _ _
        exact zO_ret (rv := some (zI r_11)) dX12_terms_40 rfl rfl rfl
  exact hz r hr
theorem dX12_feed_0 : decode cX12_feed 0 = .ok (.aload_n 0, 1) := by decide +kernel
theorem dX12_feed_1 : decode cX12_feed 1 = .ok (.getfield 170, 3) := by decide +kernel
theorem dX12_feed_4 : decode cX12_feed 4 = .ok (.bipush 20, 2) := by decide +kernel
theorem dX12_feed_6 : decode cX12_feed 6 = .ok (.iadd, 1) := by decide +kernel
theorem dX12_feed_7 : decode cX12_feed 7 = .ok (.sipush 400, 3) := by decide +kernel
theorem dX12_feed_10 : decode cX12_feed 10 = .ok (.if_icmp .le 5, 3) := by decide +kernel
theorem dX12_feed_13 : decode cX12_feed 13 = .ok (.iconst (-1), 1) := by decide +kernel
theorem dX12_feed_14 : decode cX12_feed 14 = .ok (.ireturn, 1) := by decide +kernel
theorem dX12_feed_15 : decode cX12_feed 15 = .ok (.aload_n 0, 1) := by decide +kernel
theorem dX12_feed_16 : decode cX12_feed 16 = .ok (.getfield 37, 3) := by decide +kernel
theorem dX12_feed_19 : decode cX12_feed 19 = .ok (.iconst 0, 1) := by decide +kernel
theorem dX12_feed_20 : decode cX12_feed 20 = .ok (.iload_n 1, 1) := by decide +kernel
theorem dX12_feed_21 : decode cX12_feed 21 = .ok (.iastore, 1) := by decide +kernel
theorem dX12_feed_22 : decode cX12_feed 22 = .ok (.aload_n 0, 1) := by decide +kernel
theorem dX12_feed_23 : decode cX12_feed 23 = .ok (.getfield 37, 3) := by decide +kernel
theorem dX12_feed_26 : decode cX12_feed 26 = .ok (.iconst 1, 1) := by decide +kernel
theorem dX12_feed_27 : decode cX12_feed 27 = .ok (.iload_n 2, 1) := by decide +kernel
theorem dX12_feed_28 : decode cX12_feed 28 = .ok (.iastore, 1) := by decide +kernel
theorem dX12_feed_29 : decode cX12_feed 29 = .ok (.aload_n 0, 1) := by decide +kernel
theorem dX12_feed_30 : decode cX12_feed 30 = .ok (.getfield 37, 3) := by decide +kernel
theorem dX12_feed_33 : decode cX12_feed 33 = .ok (.iconst 2, 1) := by decide +kernel
theorem dX12_feed_34 : decode cX12_feed 34 = .ok (.iload_n 3, 1) := by decide +kernel
theorem dX12_feed_35 : decode cX12_feed 35 = .ok (.iastore, 1) := by decide +kernel
theorem dX12_feed_36 : decode cX12_feed 36 = .ok (.aload_n 0, 1) := by decide +kernel
theorem dX12_feed_37 : decode cX12_feed 37 = .ok (.getfield 37, 3) := by decide +kernel
theorem dX12_feed_40 : decode cX12_feed 40 = .ok (.iconst 3, 1) := by decide +kernel
theorem dX12_feed_41 : decode cX12_feed 41 = .ok (.iload 4, 2) := by decide +kernel
theorem dX12_feed_43 : decode cX12_feed 43 = .ok (.iastore, 1) := by decide +kernel
theorem dX12_feed_44 : decode cX12_feed 44 = .ok (.aload_n 0, 1) := by decide +kernel
theorem dX12_feed_45 : decode cX12_feed 45 = .ok (.getfield 37, 3) := by decide +kernel
theorem dX12_feed_48 : decode cX12_feed 48 = .ok (.iconst 4, 1) := by decide +kernel
theorem dX12_feed_49 : decode cX12_feed 49 = .ok (.iload 5, 2) := by decide +kernel
theorem dX12_feed_51 : decode cX12_feed 51 = .ok (.iastore, 1) := by decide +kernel
theorem dX12_feed_52 : decode cX12_feed 52 = .ok (.iconst 0, 1) := by decide +kernel
theorem dX12_feed_53 : decode cX12_feed 53 = .ok (.istore 6, 2) := by decide +kernel
theorem dX12_feed_55 : decode cX12_feed 55 = .ok (.iload 6, 2) := by decide +kernel
theorem dX12_feed_57 : decode cX12_feed 57 = .ok (.bipush 20, 2) := by decide +kernel
theorem dX12_feed_59 : decode cX12_feed 59 = .ok (.if_icmp .ge 42, 3) := by decide +kernel
theorem dX12_feed_62 : decode cX12_feed 62 = .ok (.aload_n 0, 1) := by decide +kernel
theorem dX12_feed_63 : decode cX12_feed 63 = .ok (.getfield 34, 3) := by decide +kernel
theorem dX12_feed_66 : decode cX12_feed 66 = .ok (.aload_n 0, 1) := by decide +kernel
theorem dX12_feed_67 : decode cX12_feed 67 = .ok (.getfield 170, 3) := by decide +kernel
theorem dX12_feed_70 : decode cX12_feed 70 = .ok (.iload 6, 2) := by decide +kernel
theorem dX12_feed_72 : decode cX12_feed 72 = .ok (.iadd, 1) := by decide +kernel
theorem dX12_feed_73 : decode cX12_feed 73 = .ok (.aload_n 0, 1) := by decide +kernel
theorem dX12_feed_74 : decode cX12_feed 74 = .ok (.getfield 37, 3) := by decide +kernel
theorem dX12_feed_77 : decode cX12_feed 77 = .ok (.iload 6, 2) := by decide +kernel
theorem dX12_feed_79 : decode cX12_feed 79 = .ok (.iconst 4, 1) := by decide +kernel
theorem dX12_feed_80 : decode cX12_feed 80 = .ok (.idiv, 1) := by decide +kernel
theorem dX12_feed_81 : decode cX12_feed 81 = .ok (.iaload, 1) := by decide +kernel
theorem dX12_feed_82 : decode cX12_feed 82 = .ok (.bipush 24, 2) := by decide +kernel
theorem dX12_feed_84 : decode cX12_feed 84 = .ok (.bipush 8, 2) := by decide +kernel
theorem dX12_feed_86 : decode cX12_feed 86 = .ok (.iload 6, 2) := by decide +kernel
theorem dX12_feed_88 : decode cX12_feed 88 = .ok (.iconst 4, 1) := by decide +kernel
theorem dX12_feed_89 : decode cX12_feed 89 = .ok (.irem, 1) := by decide +kernel
theorem dX12_feed_90 : decode cX12_feed 90 = .ok (.imul, 1) := by decide +kernel
theorem dX12_feed_91 : decode cX12_feed 91 = .ok (.isub, 1) := by decide +kernel
theorem dX12_feed_92 : decode cX12_feed 92 = .ok (.ishr, 1) := by decide +kernel
theorem dX12_feed_93 : decode cX12_feed 93 = .ok (.i2b, 1) := by decide +kernel
theorem dX12_feed_94 : decode cX12_feed 94 = .ok (.bastore, 1) := by decide +kernel
theorem dX12_feed_95 : decode cX12_feed 95 = .ok (.iinc 6 1, 3) := by decide +kernel
theorem dX12_feed_98 : decode cX12_feed 98 = .ok (.goto (-43), 3) := by decide +kernel
theorem dX12_feed_101 : decode cX12_feed 101 = .ok (.aload_n 0, 1) := by decide +kernel
theorem dX12_feed_102 : decode cX12_feed 102 = .ok (.dup, 1) := by decide +kernel
theorem dX12_feed_103 : decode cX12_feed 103 = .ok (.getfield 170, 3) := by decide +kernel
theorem dX12_feed_106 : decode cX12_feed 106 = .ok (.bipush 20, 2) := by decide +kernel
theorem dX12_feed_108 : decode cX12_feed 108 = .ok (.iadd, 1) := by decide +kernel
theorem dX12_feed_109 : decode cX12_feed 109 = .ok (.putfield 170, 3) := by decide +kernel
theorem dX12_feed_112 : decode cX12_feed 112 = .ok (.aload_n 0, 1) := by decide +kernel
theorem dX12_feed_113 : decode cX12_feed 113 = .ok (.getfield 170, 3) := by decide +kernel
theorem dX12_feed_116 : decode cX12_feed 116 = .ok (.ireturn, 1) := by decide +kernel
abbrev YX12_feed : zY := (yX12_feed, cX12_feed, 7, (Option.some Jvm.ClassFile.FieldType.int), [])
def fX12_feed_55 (F : zFs)   (k_55 : Int → zDa → Option (Int × zDa)) (v6 : Int) (D : zDa) : Option (Int × zDa) :=
  if v6 < 20 then
    if (-2147483648 ≤ (D 91 9) + v6 ∧ (D 91 9) + v6 ≤ 2147483647) ∧ (0 ≤ (Int.tdiv v6 4) ∧ (Int.tdiv v6 4) < 5) ∧ (-2147483648 ≤ 8 * (Int.tmod v6 4) ∧ 8 * (Int.tmod v6 4) ≤ 2147483647) ∧ (-2147483648 ≤ 24 - (8 * (Int.tmod v6 4)) ∧ 24 - (8 * (Int.tmod v6 4)) ≤ 2147483647) ∧ (0 ≤ ((D 91 9) + v6) ∧ ((D 91 9) + v6) < 400) ∧ (-128 ≤ (zi2b (zshr (D 98 (Int.tdiv v6 4).toNat) (24 - (8 * (Int.tmod v6 4))))) ∧ (zi2b (zshr (D 98 (Int.tdiv v6 4).toNat) (24 - (8 * (Int.tmod v6 4))))) ≤ 127) then
      zlet (zwr D 97 ((D 91 9) + v6).toNat (zi2b (zshr (D 98 (Int.tdiv v6 4).toNat) (24 - (8 * (Int.tmod v6 4)))))) (fun D_6 =>
        if (-2147483648 ≤ v6 + 1 ∧ v6 + 1 ≤ 2147483647) then
          k_55 (v6 + 1) D_6
        else none)
    else none
  else
    if (-2147483648 ≤ (D 91 9) + 20 ∧ (D 91 9) + 20 ≤ 2147483647) then
      zlet (zwr D 91 9 ((D 91 9) + 20)) (fun D_7 =>
        some ((D_7 91 9), D_7))
    else none
def fX12_feed (F : zFs) (v1 : Int) (v2 : Int) (v3 : Int) (v4 : Int) (v5 : Int) (D : zDa) : Option (Int × zDa) :=
  if (-2147483648 ≤ (D 91 9) + 20 ∧ (D 91 9) + 20 ≤ 2147483647) then
    if 400 < ((D 91 9) + 20) then
      some ((-1), D)
    else
      zlet (zwr D 98 0 v1) (fun D_1 =>
        zlet (zwr D_1 98 1 v2) (fun D_2 =>
          zlet (zwr D_2 98 2 v3) (fun D_3 =>
            zlet (zwr D_3 98 3 v4) (fun D_4 =>
              zlet (zwr D_4 98 4 v5) (fun D_5 =>
                zfix (fun _ _ => none) (fX12_feed_55 F) zfu 0 D_5)))))
  else none
set_option maxHeartbeats 20000000 in
theorem sX12_feed_55 {l : Launch} {E : zE} {d : Nat} {F : zFs} {n sl : Nat} (hG : zG F)     : ∀ (N : Nat) (v6 : Int) (D : zDa), zO l E (d + 0) YX12_feed 55 [(0, zR 91), (6, zI v6)] [] (F, D, n, sl) (zcI F n sl) (zfix (fun _ _ => none) (fX12_feed_55 F) N v6 D) := by
  intro N
  induction N with
  | zero => intro v6 D; exact zO_none
  | succ N hk_55 =>
    intro v6 D
    show zO _ _ _ _ _ _ _ _ _ ((fX12_feed_55 F) (zfix (fun _ _ => none) (fX12_feed_55 F) N) v6 D)
    unfold fX12_feed_55
    refine zO_iload dX12_feed_55 rfl ?_
    refine zO_bipush dX12_feed_57 (by decide) ?_
    refine zO_icmp_ge (tgt := 101) dX12_feed_59 rfl (fun c59 => ?_) (fun c59 => ?_)
    · refine zO_chk (fun h2 => ?_)
      refine zO_aload_n dX12_feed_62 rfl (zR_P _) ?_
      refine gt12 (k := 7) dX12_feed_63 wF_X12_34 (by decide) (gk_91 hG) (zgv (c := 12) (k := 7) rfl (Or.inl ⟨_, rfl⟩) (gf_91_7 hG)) ?_
      refine zO_aload_n dX12_feed_66 rfl (zR_P _) ?_
      refine gt12 (k := 9) (v := zI (D 91 9)) dX12_feed_67 wF_X12_170 (by decide) (gk_91 hG) rfl ?_
      refine zO_iload dX12_feed_70 rfl ?_
      refine zO_iadd dX12_feed_72 h2.1 ?_
      refine zO_aload_n dX12_feed_73 rfl (zR_P _) ?_
      refine gt12 (k := 8) dX12_feed_74 wF_X12_37 (by decide) (gk_91 hG) (zgv (c := 12) (k := 8) rfl (Or.inl ⟨_, rfl⟩) (gf_91_8 hG)) ?_
      refine zO_iload dX12_feed_77 rfl ?_
      refine zO_iconst dX12_feed_79 (by decide) ?_
      refine zO_idiv dX12_feed_80 (by decide) (fun q => absurd q.2 (by decide)) ?_
      refine zO_iald dX12_feed_81 (gk_98 hG) (gl_in (gl_98 hG) h2.2.1) ?_
      refine zO_bipush dX12_feed_82 (by decide) ?_
      refine zO_bipush dX12_feed_84 (by decide) ?_
      refine zO_iload dX12_feed_86 rfl ?_
      refine zO_iconst dX12_feed_88 (by decide) ?_
      refine zO_irem dX12_feed_89 (by decide) ?_
      refine zO_imul dX12_feed_90 h2.2.2.1 ?_
      refine zO_isub dX12_feed_91 h2.2.2.2.1 ?_
      refine zO_ishr dX12_feed_92 ?_
      refine zO_i2b dX12_feed_93 ?_
      refine zO_bast dX12_feed_94 (gk_97 hG) (gl_in (gl_97 hG) h2.2.2.2.2.1) h2.2.2.2.2.2 ?_
      refine zO_letD (fun D_6 eD_6 => ?_)
      refine zO_chk (fun h3 => ?_)
      refine zO_iinc dX12_feed_95 rfl h3 (by decide) ?_
      refine zO_ls (ls' := [(0, zR 91), (6, zI (v6 + 1))]) rfl ?_
      refine zO_goto (tgt := 55) dX12_feed_98 rfl ?_
      refine zO_live [0, 6] ?_
      exact hk_55 (v6 + 1) D_6
    · refine zO_chk (fun h4 => ?_)
      refine zO_aload_n dX12_feed_101 rfl (zR_P _) ?_
      refine zO_dup dX12_feed_102 (rfl) ?_
      refine gt12 (k := 9) (v := zI (D 91 9)) dX12_feed_103 wF_X12_170 (by decide) (gk_91 hG) rfl ?_
      refine zO_bipush dX12_feed_106 (by decide) ?_
      refine zO_iadd dX12_feed_108 h4 ?_
      refine ptI12 (k := 9) (z := ((D 91 9) + 20)) dX12_feed_109 wF_X12_170 (by decide) rfl (gk_91 hG) rfl ?_
      refine zO_letD (fun D_7 eD_7 => ?_)
      refine zO_aload_n dX12_feed_112 rfl (zR_P _) ?_
      refine gt12 (k := 9) (v := zI (D_7 91 9)) dX12_feed_113 wF_X12_170 (by decide) (gk_91 hG) rfl ?_
      exact zO_ret (rv := some (zI (D_7 91 9))) dX12_feed_116 rfl rfl rfl
set_option maxHeartbeats 20000000 in
theorem mX12_feed {l : Launch} {E : zE} {d : Nat} {F : zFs} {n sl : Nat} (hG : zG F) (v1 : Int) (v2 : Int) (v3 : Int) (v4 : Int) (v5 : Int) {D : zDa} : ∀ r, fX12_feed F  v1 v2 v3 v4 v5 D = some r → zMet l E (d + 0) YX12_feed [zR 91, zI v1, zI v2, zI v3, zI v4, zI v5] (F, D, n, sl) (zcI F n sl r) := by
  intro r hr
  refine zMet_of (plainFor_of_name (by decide)) (fun _ h => (nomatch h)) (Nat.le_of_ble_eq_true rfl) ?_
  have hz : zO l E (d + 0) YX12_feed 0 [(0, zR 91), (1, zI v1), (2, zI v2), (3, zI v3), (4, zI v4), (5, zI v5)] [] (F, D, n, sl) (zcI F n sl) (fX12_feed F  v1 v2 v3 v4 v5 D) := by
    unfold fX12_feed
    refine zO_chk (fun h1 => ?_)
    refine zO_aload_n dX12_feed_0 rfl (zR_P _) ?_
    refine gt12 (k := 9) (v := zI (D 91 9)) dX12_feed_1 wF_X12_170 (by decide) (gk_91 hG) rfl ?_
    refine zO_bipush dX12_feed_4 (by decide) ?_
    refine zO_iadd dX12_feed_6 h1 ?_
    refine zO_sipush dX12_feed_7 (by decide) ?_
    refine zO_icmp_le (tgt := 15) dX12_feed_10 rfl (fun c10 => ?_) (fun c10 => ?_)
    · refine zO_iconst dX12_feed_13 (by decide) ?_
      exact zO_ret (rv := some (zI (-1))) dX12_feed_14 rfl rfl rfl
    · refine zO_aload_n dX12_feed_15 rfl (zR_P _) ?_
      refine gt12 (k := 8) dX12_feed_16 wF_X12_37 (by decide) (gk_91 hG) (zgv (c := 12) (k := 8) rfl (Or.inl ⟨_, rfl⟩) (gf_91_8 hG)) ?_
      refine zO_iconst dX12_feed_19 (by decide) ?_
      refine zO_iload_n dX12_feed_20 rfl ?_
      refine zO_iast dX12_feed_21 (gk_98 hG) (gl_in (gl_98 hG) (by decide)) ?_
      refine zO_letD (fun D_1 eD_1 => ?_)
      refine zO_aload_n dX12_feed_22 rfl (zR_P _) ?_
      refine gt12 (k := 8) dX12_feed_23 wF_X12_37 (by decide) (gk_91 hG) (zgv (c := 12) (k := 8) rfl (Or.inl ⟨_, rfl⟩) (gf_91_8 hG)) ?_
      refine zO_iconst dX12_feed_26 (by decide) ?_
      refine zO_iload_n dX12_feed_27 rfl ?_
      refine zO_iast dX12_feed_28 (gk_98 hG) (gl_in (gl_98 hG) (by decide)) ?_
      refine zO_letD (fun D_2 eD_2 => ?_)
      refine zO_aload_n dX12_feed_29 rfl (zR_P _) ?_
      refine gt12 (k := 8) dX12_feed_30 wF_X12_37 (by decide) (gk_91 hG) (zgv (c := 12) (k := 8) rfl (Or.inl ⟨_, rfl⟩) (gf_91_8 hG)) ?_
      refine zO_iconst dX12_feed_33 (by decide) ?_
      refine zO_iload_n dX12_feed_34 rfl ?_
      refine zO_iast dX12_feed_35 (gk_98 hG) (gl_in (gl_98 hG) (by decide)) ?_
      refine zO_letD (fun D_3 eD_3 => ?_)
      refine zO_aload_n dX12_feed_36 rfl (zR_P _) ?_
      refine gt12 (k := 8) dX12_feed_37 wF_X12_37 (by decide) (gk_91 hG) (zgv (c := 12) (k := 8) rfl (Or.inl ⟨_, rfl⟩) (gf_91_8 hG)) ?_
      refine zO_iconst dX12_feed_40 (by decide) ?_
      refine zO_iload dX12_feed_41 rfl ?_
      refine zO_iast dX12_feed_43 (gk_98 hG) (gl_in (gl_98 hG) (by decide)) ?_
      refine zO_letD (fun D_4 eD_4 => ?_)
      refine zO_aload_n dX12_feed_44 rfl (zR_P _) ?_
      refine gt12 (k := 8) dX12_feed_45 wF_X12_37 (by decide) (gk_91 hG) (zgv (c := 12) (k := 8) rfl (Or.inl ⟨_, rfl⟩) (gf_91_8 hG)) ?_
      refine zO_iconst dX12_feed_48 (by decide) ?_
      refine zO_iload dX12_feed_49 rfl ?_
      refine zO_iast dX12_feed_51 (gk_98 hG) (gl_in (gl_98 hG) (by decide)) ?_
      refine zO_letD (fun D_5 eD_5 => ?_)
      refine zO_iconst dX12_feed_52 (by decide) ?_
      refine zO_istore dX12_feed_53 (by decide) ?_
      refine zO_ls (ls' := [(0, zR 91), (1, zI v1), (2, zI v2), (3, zI v3), (4, zI v4), (5, zI v5), (6, zI 0)]) rfl ?_
      refine zO_live [0, 6] ?_
      exact sX12_feed_55 hG zfu 0 D_5
  exact hz r hr
theorem dX12_end_0 : decode cX12_end 0 = .ok (.iload_n 1, 1) := by decide +kernel
theorem dX12_end_1 : decode cX12_end 1 = .ok (.iconst 0, 1) := by decide +kernel
theorem dX12_end_2 : decode cX12_end 2 = .ok (.aload_n 0, 1) := by decide +kernel
theorem dX12_end_3 : decode cX12_end 3 = .ok (.getfield 170, 3) := by decide +kernel
theorem dX12_end_6 : decode cX12_end 6 = .ok (.invokestatic 135, 3) := by decide +kernel
theorem dX12_end_9 : decode cX12_end 9 = .ok (.ifCond .ne 5, 3) := by decide +kernel
theorem dX12_end_12 : decode cX12_end 12 = .ok (.iconst (-1), 1) := by decide +kernel
theorem dX12_end_13 : decode cX12_end 13 = .ok (.ireturn, 1) := by decide +kernel
theorem dX12_end_14 : decode cX12_end 14 = .ok (.aload_n 0, 1) := by decide +kernel
theorem dX12_end_15 : decode cX12_end 15 = .ok (.iload_n 1, 1) := by decide +kernel
theorem dX12_end_16 : decode cX12_end 16 = .ok (.putfield 170, 3) := by decide +kernel
theorem dX12_end_19 : decode cX12_end 19 = .ok (.iload_n 1, 1) := by decide +kernel
theorem dX12_end_20 : decode cX12_end 20 = .ok (.ireturn, 1) := by decide +kernel
abbrev YX12_end : zY := (yX12_end, cX12_end, 2, (Option.some Jvm.ClassFile.FieldType.int), [])
def fX12_end (F : zFs) (v1 : Int) (D : zDa) : Option (Int × zDa) :=
  (fX12_lies F v1 0 (D 91 9) D).bind (fun (r_1, D_2) =>
    if r_1 = 0 then
      some ((-1), D_2)
    else
      zlet (zwr D_2 91 9 v1) (fun D_3 =>
        some (v1, D_3)))
set_option maxHeartbeats 20000000 in
theorem mX12_end {l : Launch} {E : zE} {d : Nat} {F : zFs} {n sl : Nat} (hG : zG F) (v1 : Int) {D : zDa} : ∀ r, fX12_end F  v1 D = some r → zMet l E (d + 1) YX12_end [zR 91, zI v1] (F, D, n, sl) (zcI F n sl r) := by
  intro r hr
  refine zMet_of (plainFor_of_name (by decide)) (fun _ h => (nomatch h)) (Nat.le_of_ble_eq_true rfl) ?_
  have hz : zO l E (d + 1) YX12_end 0 [(0, zR 91), (1, zI v1)] [] (F, D, n, sl) (zcI F n sl) (fX12_end F  v1 D) := by
    unfold fX12_end
    refine zO_iload_n dX12_end_0 rfl ?_
    refine zO_iconst dX12_end_1 (by decide) ?_
    refine zO_aload_n dX12_end_2 rfl (zR_P _) ?_
    refine gt12 (k := 9) (v := zI (D 91 9)) dX12_end_3 wF_X12_170 (by decide) (gk_91 hG) rfl ?_
    refine zO_callS (Y' := YX12_lies) (cw := zcI F n sl) (as := [zI v1, zI 0, zI (D 91 9)]) (rest := []) (na := 3) dX12_end_6 wC_X12_lies wN_X12 wM_X12_135 wS_X12_lies (by decide) (by decide) rfl rfl (Nat.le_of_ble_eq_true rfl) (fun r hr => zMet_cast (Nat.add_assoc d 0 0) (mX12_lies (d := d + 0) hG v1 0 (D 91 9) r hr)) ?_
    rintro ⟨r_1, D_2⟩ -
    show zO _ _ _ _ _ _ [zI r_1] (F, D_2, n, sl) _ _
    refine zO_if_ne (tgt := 14) dX12_end_9 rfl (fun c9 => ?_) (fun c9 => ?_)
    · refine zO_iconst dX12_end_12 (by decide) ?_
      exact zO_ret (rv := some (zI (-1))) dX12_end_13 rfl rfl rfl
    · refine zO_aload_n dX12_end_14 rfl (zR_P _) ?_
      refine zO_iload_n dX12_end_15 rfl ?_
      refine ptI12 (k := 9) (z := v1) dX12_end_16 wF_X12_170 (by decide) rfl (gk_91 hG) rfl ?_
      refine zO_letD (fun D_3 eD_3 => ?_)
      refine zO_iload_n dX12_end_19 rfl ?_
      exact zO_ret (rv := some (zI v1)) dX12_end_20 rfl rfl rfl
  exact hz r hr
theorem dX12_isSmall_0 : decode cX12_isSmall 0 = .ok (.iload_n 0, 1) := by decide +kernel
theorem dX12_isSmall_1 : decode cX12_isSmall 1 = .ok (.bipush 97, 2) := by decide +kernel
theorem dX12_isSmall_3 : decode cX12_isSmall 3 = .ok (.if_icmp .lt 13, 3) := by decide +kernel
theorem dX12_isSmall_6 : decode cX12_isSmall 6 = .ok (.iload_n 0, 1) := by decide +kernel
theorem dX12_isSmall_7 : decode cX12_isSmall 7 = .ok (.bipush 122, 2) := by decide +kernel
theorem dX12_isSmall_9 : decode cX12_isSmall 9 = .ok (.if_icmp .gt 7, 3) := by decide +kernel
theorem dX12_isSmall_12 : decode cX12_isSmall 12 = .ok (.iconst 1, 1) := by decide +kernel
theorem dX12_isSmall_13 : decode cX12_isSmall 13 = .ok (.goto 4, 3) := by decide +kernel
theorem dX12_isSmall_16 : decode cX12_isSmall 16 = .ok (.iconst 0, 1) := by decide +kernel
theorem dX12_isSmall_17 : decode cX12_isSmall 17 = .ok (.ireturn, 1) := by decide +kernel
abbrev YX12_isSmall : zY := (yX12_isSmall, cX12_isSmall, 1, (Option.some Jvm.ClassFile.FieldType.boolean), [])
def fX12_isSmall (F : zFs) (v0 : Int) (D : zDa) : Option (Int × zDa) :=
  if v0 < 97 then
    some (0, D)
  else
    if 122 < v0 then
      some (0, D)
    else
      some (1, D)
set_option maxHeartbeats 20000000 in
theorem mX12_isSmall {l : Launch} {E : zE} {d : Nat} {F : zFs} {n sl : Nat} (hG : zG F) (v0 : Int) {D : zDa} : ∀ r, fX12_isSmall F  v0 D = some r → zMet l E (d + 0) YX12_isSmall [zI v0] (F, D, n, sl) (zcI F n sl r) := by
  intro r hr
  refine zMet_of (plainFor_of_name (by decide)) (fun _ h => (nomatch h)) (Nat.le_of_ble_eq_true rfl) ?_
  have hz : zO l E (d + 0) YX12_isSmall 0 [(0, zI v0)] [] (F, D, n, sl) (zcI F n sl) (fX12_isSmall F  v0 D) := by
    unfold fX12_isSmall
    refine zO_iload_n dX12_isSmall_0 rfl ?_
    refine zO_bipush dX12_isSmall_1 (by decide) ?_
    refine zO_icmp_lt (tgt := 16) dX12_isSmall_3 rfl (fun c3 => ?_) (fun c3 => ?_)
    · refine zO_iconst dX12_isSmall_16 (by decide) ?_
      exact zO_ret (rv := some (zI 0)) dX12_isSmall_17 rfl rfl rfl
    · refine zO_iload_n dX12_isSmall_6 rfl ?_
      refine zO_bipush dX12_isSmall_7 (by decide) ?_
      refine zO_icmp_gt (tgt := 16) dX12_isSmall_9 rfl (fun c9 => ?_) (fun c9 => ?_)
      · refine zO_iconst dX12_isSmall_16 (by decide) ?_
        exact zO_ret (rv := some (zI 0)) dX12_isSmall_17 rfl rfl rfl
      · refine zO_iconst dX12_isSmall_12 (by decide) ?_
        refine zO_goto (tgt := 17) dX12_isSmall_13 rfl ?_
        exact zO_ret (rv := some (zI 1)) dX12_isSmall_17 rfl rfl rfl
  exact hz r hr
theorem dX12_isDigit_0 : decode cX12_isDigit 0 = .ok (.iload_n 0, 1) := by decide +kernel
theorem dX12_isDigit_1 : decode cX12_isDigit 1 = .ok (.bipush 48, 2) := by decide +kernel
theorem dX12_isDigit_3 : decode cX12_isDigit 3 = .ok (.if_icmp .lt 13, 3) := by decide +kernel
theorem dX12_isDigit_6 : decode cX12_isDigit 6 = .ok (.iload_n 0, 1) := by decide +kernel
theorem dX12_isDigit_7 : decode cX12_isDigit 7 = .ok (.bipush 57, 2) := by decide +kernel
theorem dX12_isDigit_9 : decode cX12_isDigit 9 = .ok (.if_icmp .gt 7, 3) := by decide +kernel
theorem dX12_isDigit_12 : decode cX12_isDigit 12 = .ok (.iconst 1, 1) := by decide +kernel
theorem dX12_isDigit_13 : decode cX12_isDigit 13 = .ok (.goto 4, 3) := by decide +kernel
theorem dX12_isDigit_16 : decode cX12_isDigit 16 = .ok (.iconst 0, 1) := by decide +kernel
theorem dX12_isDigit_17 : decode cX12_isDigit 17 = .ok (.ireturn, 1) := by decide +kernel
abbrev YX12_isDigit : zY := (yX12_isDigit, cX12_isDigit, 1, (Option.some Jvm.ClassFile.FieldType.boolean), [])
def fX12_isDigit (F : zFs) (v0 : Int) (D : zDa) : Option (Int × zDa) :=
  if v0 < 48 then
    some (0, D)
  else
    if 57 < v0 then
      some (0, D)
    else
      some (1, D)
set_option maxHeartbeats 20000000 in
theorem mX12_isDigit {l : Launch} {E : zE} {d : Nat} {F : zFs} {n sl : Nat} (hG : zG F) (v0 : Int) {D : zDa} : ∀ r, fX12_isDigit F  v0 D = some r → zMet l E (d + 0) YX12_isDigit [zI v0] (F, D, n, sl) (zcI F n sl r) := by
  intro r hr
  refine zMet_of (plainFor_of_name (by decide)) (fun _ h => (nomatch h)) (Nat.le_of_ble_eq_true rfl) ?_
  have hz : zO l E (d + 0) YX12_isDigit 0 [(0, zI v0)] [] (F, D, n, sl) (zcI F n sl) (fX12_isDigit F  v0 D) := by
    unfold fX12_isDigit
    refine zO_iload_n dX12_isDigit_0 rfl ?_
    refine zO_bipush dX12_isDigit_1 (by decide) ?_
    refine zO_icmp_lt (tgt := 16) dX12_isDigit_3 rfl (fun c3 => ?_) (fun c3 => ?_)
    · refine zO_iconst dX12_isDigit_16 (by decide) ?_
      exact zO_ret (rv := some (zI 0)) dX12_isDigit_17 rfl rfl rfl
    · refine zO_iload_n dX12_isDigit_6 rfl ?_
      refine zO_bipush dX12_isDigit_7 (by decide) ?_
      refine zO_icmp_gt (tgt := 16) dX12_isDigit_9 rfl (fun c9 => ?_) (fun c9 => ?_)
      · refine zO_iconst dX12_isDigit_16 (by decide) ?_
        exact zO_ret (rv := some (zI 0)) dX12_isDigit_17 rfl rfl rfl
      · refine zO_iconst dX12_isDigit_12 (by decide) ?_
        refine zO_goto (tgt := 17) dX12_isDigit_13 rfl ?_
        exact zO_ret (rv := some (zI 1)) dX12_isDigit_17 rfl rfl rfl
  exact hz r hr
