/-! printed by wip/gen/emit_all.py: X8_drawnOf X8_layOut X8_surest X8_sit X9_pricesChanged X9_copyFrom X9_addQuestion X9_addYear X9_inBowl X9_allThere X9_bowlSize X9_knownCount X9_timesDrawn X9_yearsAgo X11_refuse X11_accept X11_question X11_know X11_of -/
theorem dX8_drawnOf_0 : decode cX8_drawnOf 0 = .ok (.iload_n 1, 1) := by decide +kernel
theorem dX8_drawnOf_1 : decode cX8_drawnOf 1 = .ok (.istore_n 2, 1) := by decide +kernel
theorem dX8_drawnOf_2 : decode cX8_drawnOf 2 = .ok (.aload_n 0, 1) := by decide +kernel
theorem dX8_drawnOf_3 : decode cX8_drawnOf 3 = .ok (.iload_n 1, 1) := by decide +kernel
theorem dX8_drawnOf_4 : decode cX8_drawnOf 4 = .ok (.invokestatic 73, 3) := by decide +kernel
theorem dX8_drawnOf_7 : decode cX8_drawnOf 7 = .ok (.invokevirtual 67, 3) := by decide +kernel
theorem dX8_drawnOf_10 : decode cX8_drawnOf 10 = .ok (.istore_n 3, 1) := by decide +kernel
theorem dX8_drawnOf_11 : decode cX8_drawnOf 11 = .ok (.iconst 0, 1) := by decide +kernel
theorem dX8_drawnOf_12 : decode cX8_drawnOf 12 = .ok (.istore 4, 2) := by decide +kernel
theorem dX8_drawnOf_14 : decode cX8_drawnOf 14 = .ok (.iload 4, 2) := by decide +kernel
theorem dX8_drawnOf_16 : decode cX8_drawnOf 16 = .ok (.iload_n 3, 1) := by decide +kernel
theorem dX8_drawnOf_17 : decode cX8_drawnOf 17 = .ok (.if_icmp .ge 15, 3) := by decide +kernel
theorem dX8_drawnOf_20 : decode cX8_drawnOf 20 = .ok (.iload_n 2, 1) := by decide +kernel
theorem dX8_drawnOf_21 : decode cX8_drawnOf 21 = .ok (.iload_n 2, 1) := by decide +kernel
theorem dX8_drawnOf_22 : decode cX8_drawnOf 22 = .ok (.iconst 1, 1) := by decide +kernel
theorem dX8_drawnOf_23 : decode cX8_drawnOf 23 = .ok (.isub, 1) := by decide +kernel
theorem dX8_drawnOf_24 : decode cX8_drawnOf 24 = .ok (.iand, 1) := by decide +kernel
theorem dX8_drawnOf_25 : decode cX8_drawnOf 25 = .ok (.istore_n 2, 1) := by decide +kernel
theorem dX8_drawnOf_26 : decode cX8_drawnOf 26 = .ok (.iinc 4 1, 3) := by decide +kernel
theorem dX8_drawnOf_29 : decode cX8_drawnOf 29 = .ok (.goto (-15), 3) := by decide +kernel
theorem dX8_drawnOf_32 : decode cX8_drawnOf 32 = .ok (.iload_n 2, 1) := by decide +kernel
theorem dX8_drawnOf_33 : decode cX8_drawnOf 33 = .ok (.iload_n 2, 1) := by decide +kernel
theorem dX8_drawnOf_34 : decode cX8_drawnOf 34 = .ok (.ineg, 1) := by decide +kernel
theorem dX8_drawnOf_35 : decode cX8_drawnOf 35 = .ok (.iand, 1) := by decide +kernel
theorem dX8_drawnOf_36 : decode cX8_drawnOf 36 = .ok (.ireturn, 1) := by decide +kernel
abbrev YX8_drawnOf : zY := (yX8_drawnOf, cX8_drawnOf, 5, (Option.some Jvm.ClassFile.FieldType.int), [])
def fX8_drawnOf_14 (F : zFs) (o3 : Int)  (k_14 : Int → Int → zDa → Option (Int × zDa)) (v2 : Int) (v4 : Int) (D : zDa) : Option (Int × zDa) :=
  if v4 < o3 then
    if (-2147483648 ≤ v2 - 1 ∧ v2 - 1 ≤ 2147483647) then
      zlet ((zand v2 (v2 - 1))) (fun x2_5 =>
        if (-2147483648 ≤ v4 + 1 ∧ v4 + 1 ≤ 2147483647) then
          k_14 x2_5 (v4 + 1) D
        else none)
    else none
  else
    if (-2147483648 ≤ -v2 ∧ -v2 ≤ 2147483647) then
      some ((zand v2 (-v2)), D)
    else none
def fX8_drawnOf (F : zFs) (v1 : Int) (D : zDa) : Option (Int × zDa) :=
  (fJ6_bitCount_0f7a4 F v1 D).bind (fun (r_1, D_2) =>
    (fX8_lots F r_1 D_2).bind (fun (r_3, D_4) =>
      zfix (fun _ _ _ => none) (fX8_drawnOf_14 F r_3) zfu v1 0 D_4))
set_option maxHeartbeats 20000000 in
theorem sX8_drawnOf_14 {l : Launch} {E : zE} {d : Nat} {F : zFs} {n sl : Nat} (hG : zG F)  (o3 : Int)   : ∀ (N : Nat) (v2 : Int) (v4 : Int) (D : zDa), zO l E (d + 1) YX8_drawnOf 14 [(2, zI v2), (3, zI o3), (4, zI v4)] [] (F, D, n, sl) (zcI F n sl) (zfix (fun _ _ _ => none) (fX8_drawnOf_14 F o3) N v2 v4 D) := by
  intro N
  induction N with
  | zero => intro v2 v4 D; exact zO_none
  | succ N hk_14 =>
    intro v2 v4 D
    show zO _ _ _ _ _ _ _ _ _ ((fX8_drawnOf_14 F o3) (zfix (fun _ _ _ => none) (fX8_drawnOf_14 F o3) N) v2 v4 D)
    unfold fX8_drawnOf_14
    refine zO_iload dX8_drawnOf_14 rfl ?_
    refine zO_iload_n dX8_drawnOf_16 rfl ?_
    refine zO_icmp_ge (tgt := 32) dX8_drawnOf_17 rfl (fun c17 => ?_) (fun c17 => ?_)
    · refine zO_chk (fun h1 => ?_)
      refine zO_iload_n dX8_drawnOf_20 rfl ?_
      refine zO_iload_n dX8_drawnOf_21 rfl ?_
      refine zO_iconst dX8_drawnOf_22 (by decide) ?_
      refine zO_isub dX8_drawnOf_23 h1 ?_
      refine zO_iand dX8_drawnOf_24 ?_
      refine zO_letI (fun x2_5 ex2_5 => ?_)
      refine zO_istore_n dX8_drawnOf_25 (by decide) ?_
      refine zO_ls (ls' := [(2, zI x2_5), (3, zI o3), (4, zI v4)]) rfl ?_
      refine zO_chk (fun h2 => ?_)
      refine zO_iinc dX8_drawnOf_26 rfl h2 (by decide) ?_
      refine zO_ls (ls' := [(2, zI x2_5), (3, zI o3), (4, zI (v4 + 1))]) rfl ?_
      refine zO_goto (tgt := 14) dX8_drawnOf_29 rfl ?_
      refine zO_live [2, 3, 4] ?_
      exact hk_14 x2_5 (v4 + 1) D
    · refine zO_chk (fun h3 => ?_)
      refine zO_iload_n dX8_drawnOf_32 rfl ?_
      refine zO_iload_n dX8_drawnOf_33 rfl ?_
      refine zO_ineg dX8_drawnOf_34 h3 ?_
      refine zO_iand dX8_drawnOf_35 ?_
      exact zO_ret (rv := some (zI (zand v2 (-v2)))) dX8_drawnOf_36 rfl rfl rfl
set_option maxHeartbeats 20000000 in
theorem mX8_drawnOf {l : Launch} {E : zE} {d : Nat} {F : zFs} {n sl : Nat} (hG : zG F) (v1 : Int) {D : zDa} : ∀ r, fX8_drawnOf F  v1 D = some r → zMet l E (d + 1) YX8_drawnOf [zR 89, zI v1] (F, D, n, sl) (zcI F n sl r) := by
  intro r hr
  refine zMet_of (plainFor_of_name (by decide)) (fun _ h => (nomatch h)) (Nat.le_of_ble_eq_true rfl) ?_
  have hz : zO l E (d + 1) YX8_drawnOf 0 [(0, zR 89), (1, zI v1)] [] (F, D, n, sl) (zcI F n sl) (fX8_drawnOf F  v1 D) := by
    unfold fX8_drawnOf
    refine zO_iload_n dX8_drawnOf_0 rfl ?_
    refine zO_istore_n dX8_drawnOf_1 (by decide) ?_
    refine zO_ls (ls' := [(0, zR 89), (1, zI v1), (2, zI v1)]) rfl ?_
    refine zO_aload_n dX8_drawnOf_2 rfl (zR_P _) ?_
    refine zO_iload_n dX8_drawnOf_3 rfl ?_
    refine zO_callS (Y' := YJ6_bitCount_0f7a4) (cw := zcI F n sl) (as := [zI v1]) (rest := [zR 89]) (na := 1) dX8_drawnOf_4 wC_J6_bitCount_0f7a4 wN_J6 wM_X8_73 wS_J6_bitCount_0f7a4 (by decide) (by decide) rfl rfl (Nat.le_of_ble_eq_true rfl) (fun r hr => zMet_cast (Nat.add_assoc d 0 0) (mJ6_bitCount_0f7a4 (d := d + 0) hG v1 r hr)) ?_
    rintro ⟨r_1, D_2⟩ -
    show zO _ _ _ _ _ _ [zI r_1, zR 89] (F, D_2, n, sl) _ _
    refine zO_callV (Y' := YX8_lots) (cw := zcI F n sl) (as := [zI r_1]) (rest := []) (na := 1) (ci := 8) rfl dX8_drawnOf_7 wC_X8_lots wN_X8 wM_X8_67 wI_X8_lots wV_X8_lots (by decide) (by decide) rfl rfl (Nat.le_of_ble_eq_true rfl) rfl (by decide) (gk_89 hG) (fun r hr => zMet_cast (Nat.add_assoc d 0 0) (mX8_lots (d := d + 0) hG r_1 r hr)) ?_
    rintro ⟨r_3, D_4⟩ -
    show zO _ _ _ _ _ _ [zI r_3] (F, D_4, n, sl) _ _
    refine zO_istore_n dX8_drawnOf_10 (by decide) ?_
    refine zO_ls (ls' := [(0, zR 89), (1, zI v1), (2, zI v1), (3, zI r_3)]) rfl ?_
    refine zO_iconst dX8_drawnOf_11 (by decide) ?_
    refine zO_istore dX8_drawnOf_12 (by decide) ?_
    refine zO_ls (ls' := [(0, zR 89), (1, zI v1), (2, zI v1), (3, zI r_3), (4, zI 0)]) rfl ?_
    refine zO_live [2, 3, 4] ?_
    exact sX8_drawnOf_14 hG r_3 zfu v1 0 D_4
  exact hz r hr
theorem dX8_layOut_0 : decode cX8_layOut 0 = .ok (.aload_n 0, 1) := by decide +kernel
theorem dX8_layOut_1 : decode cX8_layOut 1 = .ok (.getfield 15, 3) := by decide +kernel
theorem dX8_layOut_4 : decode cX8_layOut 4 = .ok (.getfield 58, 3) := by decide +kernel
theorem dX8_layOut_7 : decode cX8_layOut 7 = .ok (.iconst 0, 1) := by decide +kernel
theorem dX8_layOut_8 : decode cX8_layOut 8 = .ok (.iaload, 1) := by decide +kernel
theorem dX8_layOut_9 : decode cX8_layOut 9 = .ok (.istore_n 1, 1) := by decide +kernel
theorem dX8_layOut_10 : decode cX8_layOut 10 = .ok (.aload_n 0, 1) := by decide +kernel
theorem dX8_layOut_11 : decode cX8_layOut 11 = .ok (.aload_n 0, 1) := by decide +kernel
theorem dX8_layOut_12 : decode cX8_layOut 12 = .ok (.getfield 33, 3) := by decide +kernel
theorem dX8_layOut_15 : decode cX8_layOut 15 = .ok (.putfield 61, 3) := by decide +kernel
theorem dX8_layOut_18 : decode cX8_layOut 18 = .ok (.aload_n 0, 1) := by decide +kernel
theorem dX8_layOut_19 : decode cX8_layOut 19 = .ok (.getfield 33, 3) := by decide +kernel
theorem dX8_layOut_22 : decode cX8_layOut 22 = .ok (.invokestatic 73, 3) := by decide +kernel
theorem dX8_layOut_25 : decode cX8_layOut 25 = .ok (.iload_n 1, 1) := by decide +kernel
theorem dX8_layOut_26 : decode cX8_layOut 26 = .ok (.if_icmp .gt 4, 3) := by decide +kernel
theorem dX8_layOut_29 : decode cX8_layOut 29 = .ok (.return_, 1) := by decide +kernel
theorem dX8_layOut_30 : decode cX8_layOut 30 = .ok (.aload_n 0, 1) := by decide +kernel
theorem dX8_layOut_31 : decode cX8_layOut 31 = .ok (.iconst 0, 1) := by decide +kernel
theorem dX8_layOut_32 : decode cX8_layOut 32 = .ok (.putfield 61, 3) := by decide +kernel
theorem dX8_layOut_35 : decode cX8_layOut 35 = .ok (.aload_n 0, 1) := by decide +kernel
theorem dX8_layOut_36 : decode cX8_layOut 36 = .ok (.getfield 36, 3) := by decide +kernel
theorem dX8_layOut_39 : decode cX8_layOut 39 = .ok (.ifCond .eq 33, 3) := by decide +kernel
theorem dX8_layOut_42 : decode cX8_layOut 42 = .ok (.aload_n 0, 1) := by decide +kernel
theorem dX8_layOut_43 : decode cX8_layOut 43 = .ok (.bipush 100, 2) := by decide +kernel
theorem dX8_layOut_45 : decode cX8_layOut 45 = .ok (.invokevirtual 67, 3) := by decide +kernel
theorem dX8_layOut_48 : decode cX8_layOut 48 = .ok (.aload_n 0, 1) := by decide +kernel
theorem dX8_layOut_49 : decode cX8_layOut 49 = .ok (.getfield 15, 3) := by decide +kernel
theorem dX8_layOut_52 : decode cX8_layOut 52 = .ok (.getfield 58, 3) := by decide +kernel
theorem dX8_layOut_55 : decode cX8_layOut 55 = .ok (.iconst 3, 1) := by decide +kernel
theorem dX8_layOut_56 : decode cX8_layOut 56 = .ok (.iaload, 1) := by decide +kernel
theorem dX8_layOut_57 : decode cX8_layOut 57 = .ok (.if_icmp .ge 15, 3) := by decide +kernel
theorem dX8_layOut_60 : decode cX8_layOut 60 = .ok (.aload_n 0, 1) := by decide +kernel
theorem dX8_layOut_61 : decode cX8_layOut 61 = .ok (.aload_n 0, 1) := by decide +kernel
theorem dX8_layOut_62 : decode cX8_layOut 62 = .ok (.aload_n 0, 1) := by decide +kernel
theorem dX8_layOut_63 : decode cX8_layOut 63 = .ok (.getfield 36, 3) := by decide +kernel
theorem dX8_layOut_66 : decode cX8_layOut 66 = .ok (.invokevirtual 78, 3) := by decide +kernel
theorem dX8_layOut_69 : decode cX8_layOut 69 = .ok (.putfield 61, 3) := by decide +kernel
theorem dX8_layOut_72 : decode cX8_layOut 72 = .ok (.aload_n 0, 1) := by decide +kernel
theorem dX8_layOut_73 : decode cX8_layOut 73 = .ok (.getfield 61, 3) := by decide +kernel
theorem dX8_layOut_76 : decode cX8_layOut 76 = .ok (.invokestatic 73, 3) := by decide +kernel
theorem dX8_layOut_79 : decode cX8_layOut 79 = .ok (.istore_n 2, 1) := by decide +kernel
theorem dX8_layOut_80 : decode cX8_layOut 80 = .ok (.iload_n 2, 1) := by decide +kernel
theorem dX8_layOut_81 : decode cX8_layOut 81 = .ok (.iload_n 1, 1) := by decide +kernel
theorem dX8_layOut_82 : decode cX8_layOut 82 = .ok (.if_icmp .ge 33, 3) := by decide +kernel
theorem dX8_layOut_85 : decode cX8_layOut 85 = .ok (.aload_n 0, 1) := by decide +kernel
theorem dX8_layOut_86 : decode cX8_layOut 86 = .ok (.aload_n 0, 1) := by decide +kernel
theorem dX8_layOut_87 : decode cX8_layOut 87 = .ok (.getfield 61, 3) := by decide +kernel
theorem dX8_layOut_90 : decode cX8_layOut 90 = .ok (.aload_n 0, 1) := by decide +kernel
theorem dX8_layOut_91 : decode cX8_layOut 91 = .ok (.aload_n 0, 1) := by decide +kernel
theorem dX8_layOut_92 : decode cX8_layOut 92 = .ok (.getfield 33, 3) := by decide +kernel
theorem dX8_layOut_95 : decode cX8_layOut 95 = .ok (.aload_n 0, 1) := by decide +kernel
theorem dX8_layOut_96 : decode cX8_layOut 96 = .ok (.getfield 61, 3) := by decide +kernel
theorem dX8_layOut_99 : decode cX8_layOut 99 = .ok (.iconst (-1), 1) := by decide +kernel
theorem dX8_layOut_100 : decode cX8_layOut 100 = .ok (.ixor, 1) := by decide +kernel
theorem dX8_layOut_101 : decode cX8_layOut 101 = .ok (.iand, 1) := by decide +kernel
theorem dX8_layOut_102 : decode cX8_layOut 102 = .ok (.invokevirtual 78, 3) := by decide +kernel
theorem dX8_layOut_105 : decode cX8_layOut 105 = .ok (.ior, 1) := by decide +kernel
theorem dX8_layOut_106 : decode cX8_layOut 106 = .ok (.putfield 61, 3) := by decide +kernel
theorem dX8_layOut_109 : decode cX8_layOut 109 = .ok (.iinc 2 1, 3) := by decide +kernel
theorem dX8_layOut_112 : decode cX8_layOut 112 = .ok (.goto (-32), 3) := by decide +kernel
theorem dX8_layOut_115 : decode cX8_layOut 115 = .ok (.return_, 1) := by decide +kernel
abbrev YX8_layOut : zY := (yX8_layOut, cX8_layOut, 3, none, [])
def fX8_layOut_80 (F : zFs) (o1 : Int)  (k_80 : Int → zDa → Option zDa) (v2 : Int) (D : zDa) : Option zDa :=
  if v2 < o1 then
    (fX8_drawnOf F (zand (D 89 4) (zxor (D 89 6) (-1))) D).bind (fun (r_8, D_9) =>
      zlet (zwr D_9 89 6 (zor (D 89 6) r_8)) (fun D_10 =>
        if (-2147483648 ≤ v2 + 1 ∧ v2 + 1 ≤ 2147483647) then
          k_80 (v2 + 1) D_10
        else none))
  else
    some D
def fX8_layOut_72 (F : zFs)  (v1 : Int) (D : zDa) : Option zDa :=
  (fJ6_bitCount_0f7a4 F (D 89 6) D).bind (fun (r_6, D_7) =>
    zfix (fun _ _ => none) (fX8_layOut_80 F v1) zfu r_6 D_7)
def fX8_layOut (F : zFs)  (D : zDa) : Option zDa :=
  zlet ((D 7 0)) (fun x1_1 =>
    zlet (zwr D 89 6 (D 89 4)) (fun D_2 =>
      (fJ6_bitCount_0f7a4 F (D_2 89 4) D_2).bind (fun (r_3, D_4) =>
        if x1_1 < r_3 then
          zlet (zwr D_4 89 6 0) (fun D_5 =>
            if (D_5 89 5) = 0 then
              fX8_layOut_72 F x1_1 D_5
            else
              (fX8_lots F 100 D_5).bind (fun (r_11, D_12) =>
                if r_11 < (D_12 7 3) then
                  (fX8_drawnOf F (D_12 89 5) D_12).bind (fun (r_13, D_14) =>
                    zlet (zwr D_14 89 6 r_13) (fun D_15 =>
                      fX8_layOut_72 F x1_1 D_15))
                else
                  fX8_layOut_72 F x1_1 D_12))
        else
          some D_4)))
set_option maxHeartbeats 20000000 in
theorem sX8_layOut_80 {l : Launch} {E : zE} {d : Nat} {F : zFs} {n sl : Nat} (hG : zG F)  (o1 : Int)   : ∀ (N : Nat) (v2 : Int) (D : zDa), zO l E (d + 2) YX8_layOut 80 [(0, zR 89), (1, zI o1), (2, zI v2)] [] (F, D, n, sl) (zcV F n sl) (zfix (fun _ _ => none) (fX8_layOut_80 F o1) N v2 D) := by
  intro N
  induction N with
  | zero => intro v2 D; exact zO_none
  | succ N hk_80 =>
    intro v2 D
    show zO _ _ _ _ _ _ _ _ _ ((fX8_layOut_80 F o1) (zfix (fun _ _ => none) (fX8_layOut_80 F o1) N) v2 D)
    unfold fX8_layOut_80
    refine zO_iload_n dX8_layOut_80 rfl ?_
    refine zO_iload_n dX8_layOut_81 rfl ?_
    refine zO_icmp_ge (tgt := 115) dX8_layOut_82 rfl (fun c82 => ?_) (fun c82 => ?_)
    · refine zO_aload_n dX8_layOut_85 rfl (zR_P _) ?_
      refine zO_aload_n dX8_layOut_86 rfl (zR_P _) ?_
      refine gt8 (k := 6) (v := zI (D 89 6)) dX8_layOut_87 wF_X8_61 (by decide) (gk_89 hG) rfl ?_
      refine zO_aload_n dX8_layOut_90 rfl (zR_P _) ?_
      refine zO_aload_n dX8_layOut_91 rfl (zR_P _) ?_
      refine gt8 (k := 4) (v := zI (D 89 4)) dX8_layOut_92 wF_X8_33 (by decide) (gk_89 hG) rfl ?_
      refine zO_aload_n dX8_layOut_95 rfl (zR_P _) ?_
      refine gt8 (k := 6) (v := zI (D 89 6)) dX8_layOut_96 wF_X8_61 (by decide) (gk_89 hG) rfl ?_
      refine zO_iconst dX8_layOut_99 (by decide) ?_
      refine zO_ixor dX8_layOut_100 ?_
      refine zO_iand dX8_layOut_101 ?_
      refine zO_callV (Y' := YX8_drawnOf) (cw := zcI F n sl) (as := [zI (zand (D 89 4) (zxor (D 89 6) (-1)))]) (rest := [zI (D 89 6), zR 89]) (na := 1) (ci := 8) rfl dX8_layOut_102 wC_X8_drawnOf wN_X8 wM_X8_78 wI_X8_drawnOf wV_X8_drawnOf (by decide) (by decide) rfl rfl (Nat.le_of_ble_eq_true rfl) rfl (by decide) (gk_89 hG) (fun r hr => zMet_cast (Nat.add_assoc d 0 1) (mX8_drawnOf (d := d + 0) hG (zand (D 89 4) (zxor (D 89 6) (-1))) r hr)) ?_
      rintro ⟨r_8, D_9⟩ -
      show zO _ _ _ _ _ _ [zI r_8, zI (D 89 6), zR 89] (F, D_9, n, sl) _ _
      refine zO_ior dX8_layOut_105 ?_
      refine ptI8 (k := 6) (z := (zor (D 89 6) r_8)) dX8_layOut_106 wF_X8_61 (by decide) rfl (gk_89 hG) rfl ?_
      refine zO_letD (fun D_10 eD_10 => ?_)
      refine zO_chk (fun h1 => ?_)
      refine zO_iinc dX8_layOut_109 rfl h1 (by decide) ?_
      refine zO_ls (ls' := [(0, zR 89), (1, zI o1), (2, zI (v2 + 1))]) rfl ?_
      refine zO_goto (tgt := 80) dX8_layOut_112 rfl ?_
      refine zO_live [0, 1, 2] ?_
      exact hk_80 (v2 + 1) D_10
    · exact zO_ret (rv := none) dX8_layOut_115 rfl trivial rfl
set_option maxHeartbeats 20000000 in
theorem sX8_layOut_72 {l : Launch} {E : zE} {d : Nat} {F : zFs} {n sl : Nat} (hG : zG F)  (v1 : Int)   (D : zDa) : zO l E (d + 2) YX8_layOut 72 [(0, zR 89), (1, zI v1)] [] (F, D, n, sl) (zcV F n sl) (fX8_layOut_72 F v1 D) := by
  unfold fX8_layOut_72
  refine zO_aload_n dX8_layOut_72 rfl (zR_P _) ?_
  refine gt8 (k := 6) (v := zI (D 89 6)) dX8_layOut_73 wF_X8_61 (by decide) (gk_89 hG) rfl ?_
  refine zO_callS (Y' := YJ6_bitCount_0f7a4) (cw := zcI F n sl) (as := [zI (D 89 6)]) (rest := []) (na := 1) dX8_layOut_76 wC_J6_bitCount_0f7a4 wN_J6 wM_X8_73 wS_J6_bitCount_0f7a4 (by decide) (by decide) rfl rfl (Nat.le_of_ble_eq_true rfl) (fun r hr => zMet_cast (Nat.add_assoc d 1 0) (mJ6_bitCount_0f7a4 (d := d + 1) hG (D 89 6) r hr)) ?_
  rintro ⟨r_6, D_7⟩ -
  show zO _ _ _ _ _ _ [zI r_6] (F, D_7, n, sl) _ _
  refine zO_istore_n dX8_layOut_79 (by decide) ?_
  refine zO_ls (ls' := [(0, zR 89), (1, zI v1), (2, zI r_6)]) rfl ?_
  refine zO_live [0, 1, 2] ?_
  exact sX8_layOut_80 hG v1 zfu r_6 D_7
set_option maxHeartbeats 20000000 in
theorem mX8_layOut {l : Launch} {E : zE} {d : Nat} {F : zFs} {n sl : Nat} (hG : zG F)  {D : zDa} : ∀ r, fX8_layOut F   D = some r → zMet l E (d + 2) YX8_layOut [zR 89] (F, D, n, sl) (zcV F n sl r) := by
  intro r hr
  refine zMet_of (plainFor_of_name (by decide)) (fun _ h => (nomatch h)) (Nat.le_of_ble_eq_true rfl) ?_
  have hz : zO l E (d + 2) YX8_layOut 0 [(0, zR 89)] [] (F, D, n, sl) (zcV F n sl) (fX8_layOut F   D) := by
    unfold fX8_layOut
    refine zO_aload_n dX8_layOut_0 rfl (zR_P _) ?_
    refine gt8 (k := 0) dX8_layOut_1 wF_X8_15 (by decide) (gk_89 hG) (zgv (c := 8) (k := 0) rfl (Or.inr ⟨_, rfl⟩) (gf_89_0 hG)) ?_
    refine gt9 (k := 6) dX8_layOut_4 wF_X8_58 (by decide) (gk_1 hG) (zgv (c := 9) (k := 6) rfl (Or.inl ⟨_, rfl⟩) (gf_1_6 hG)) ?_
    refine zO_iconst dX8_layOut_7 (by decide) ?_
    refine zO_iald dX8_layOut_8 (gk_7 hG) (gl_in (gl_7 hG) (by decide)) ?_
    refine zO_letI (fun x1_1 ex1_1 => ?_)
    refine zO_istore_n dX8_layOut_9 (by decide) ?_
    refine zO_ls (ls' := [(0, zR 89), (1, zI x1_1)]) rfl ?_
    refine zO_aload_n dX8_layOut_10 rfl (zR_P _) ?_
    refine zO_aload_n dX8_layOut_11 rfl (zR_P _) ?_
    refine gt8 (k := 4) (v := zI (D 89 4)) dX8_layOut_12 wF_X8_33 (by decide) (gk_89 hG) rfl ?_
    refine ptI8 (k := 6) (z := (D 89 4)) dX8_layOut_15 wF_X8_61 (by decide) rfl (gk_89 hG) rfl ?_
    refine zO_letD (fun D_2 eD_2 => ?_)
    refine zO_aload_n dX8_layOut_18 rfl (zR_P _) ?_
    refine gt8 (k := 4) (v := zI (D_2 89 4)) dX8_layOut_19 wF_X8_33 (by decide) (gk_89 hG) rfl ?_
    refine zO_callS (Y' := YJ6_bitCount_0f7a4) (cw := zcI F n sl) (as := [zI (D_2 89 4)]) (rest := []) (na := 1) dX8_layOut_22 wC_J6_bitCount_0f7a4 wN_J6 wM_X8_73 wS_J6_bitCount_0f7a4 (by decide) (by decide) rfl rfl (Nat.le_of_ble_eq_true rfl) (fun r hr => zMet_cast (Nat.add_assoc d 1 0) (mJ6_bitCount_0f7a4 (d := d + 1) hG (D_2 89 4) r hr)) ?_
    rintro ⟨r_3, D_4⟩ -
    show zO _ _ _ _ _ _ [zI r_3] (F, D_4, n, sl) _ _
    refine zO_iload_n dX8_layOut_25 rfl ?_
    refine zO_icmp_gt (tgt := 30) dX8_layOut_26 rfl (fun c26 => ?_) (fun c26 => ?_)
    · refine zO_aload_n dX8_layOut_30 rfl (zR_P _) ?_
      refine zO_iconst dX8_layOut_31 (by decide) ?_
      refine ptI8 (k := 6) (z := 0) dX8_layOut_32 wF_X8_61 (by decide) rfl (gk_89 hG) rfl ?_
      refine zO_letD (fun D_5 eD_5 => ?_)
      refine zO_aload_n dX8_layOut_35 rfl (zR_P _) ?_
      refine gt8 (k := 5) (v := zI (D_5 89 5)) dX8_layOut_36 wF_X8_36 (by decide) (gk_89 hG) rfl ?_
      refine zO_if_eq (tgt := 72) dX8_layOut_39 rfl (fun c39 => ?_) (fun c39 => ?_)
      · refine zO_live [0, 1] ?_
        exact sX8_layOut_72 hG x1_1 D_5
      · refine zO_aload_n dX8_layOut_42 rfl (zR_P _) ?_
        refine zO_bipush dX8_layOut_43 (by decide) ?_
        refine zO_callV (Y' := YX8_lots) (cw := zcI F n sl) (as := [zI 100]) (rest := []) (na := 1) (ci := 8) rfl dX8_layOut_45 wC_X8_lots wN_X8 wM_X8_67 wI_X8_lots wV_X8_lots (by decide) (by decide) rfl rfl (Nat.le_of_ble_eq_true rfl) rfl (by decide) (gk_89 hG) (fun r hr => zMet_cast (Nat.add_assoc d 1 0) (mX8_lots (d := d + 1) hG 100 r hr)) ?_
        rintro ⟨r_11, D_12⟩ -
        show zO _ _ _ _ _ _ [zI r_11] (F, D_12, n, sl) _ _
        refine zO_aload_n dX8_layOut_48 rfl (zR_P _) ?_
        refine gt8 (k := 0) dX8_layOut_49 wF_X8_15 (by decide) (gk_89 hG) (zgv (c := 8) (k := 0) rfl (Or.inr ⟨_, rfl⟩) (gf_89_0 hG)) ?_
        refine gt9 (k := 6) dX8_layOut_52 wF_X8_58 (by decide) (gk_1 hG) (zgv (c := 9) (k := 6) rfl (Or.inl ⟨_, rfl⟩) (gf_1_6 hG)) ?_
        refine zO_iconst dX8_layOut_55 (by decide) ?_
        refine zO_iald dX8_layOut_56 (gk_7 hG) (gl_in (gl_7 hG) (by decide)) ?_
        refine zO_icmp_ge (tgt := 72) dX8_layOut_57 rfl (fun c57 => ?_) (fun c57 => ?_)
        · refine zO_aload_n dX8_layOut_60 rfl (zR_P _) ?_
          refine zO_aload_n dX8_layOut_61 rfl (zR_P _) ?_
          refine zO_aload_n dX8_layOut_62 rfl (zR_P _) ?_
          refine gt8 (k := 5) (v := zI (D_12 89 5)) dX8_layOut_63 wF_X8_36 (by decide) (gk_89 hG) rfl ?_
          refine zO_callV (Y' := YX8_drawnOf) (cw := zcI F n sl) (as := [zI (D_12 89 5)]) (rest := [zR 89]) (na := 1) (ci := 8) rfl dX8_layOut_66 wC_X8_drawnOf wN_X8 wM_X8_78 wI_X8_drawnOf wV_X8_drawnOf (by decide) (by decide) rfl rfl (Nat.le_of_ble_eq_true rfl) rfl (by decide) (gk_89 hG) (fun r hr => zMet_cast (Nat.add_assoc d 0 1) (mX8_drawnOf (d := d + 0) hG (D_12 89 5) r hr)) ?_
          rintro ⟨r_13, D_14⟩ -
          show zO _ _ _ _ _ _ [zI r_13, zR 89] (F, D_14, n, sl) _ _
          refine ptI8 (k := 6) (z := r_13) dX8_layOut_69 wF_X8_61 (by decide) rfl (gk_89 hG) rfl ?_
          refine zO_letD (fun D_15 eD_15 => ?_)
          refine zO_live [0, 1] ?_
          exact sX8_layOut_72 hG x1_1 D_15
        · refine zO_live [0, 1] ?_
          exact sX8_layOut_72 hG x1_1 D_12
    · exact zO_ret (rv := none) dX8_layOut_29 rfl trivial rfl
  exact hz r hr
theorem dX8_surest_0 : decode cX8_surest 0 = .ok (.iconst (-1), 1) := by decide +kernel
theorem dX8_surest_1 : decode cX8_surest 1 = .ok (.istore_n 2, 1) := by decide +kernel
theorem dX8_surest_2 : decode cX8_surest 2 = .ok (.iconst 0, 1) := by decide +kernel
theorem dX8_surest_3 : decode cX8_surest 3 = .ok (.istore_n 3, 1) := by decide +kernel
theorem dX8_surest_4 : decode cX8_surest 4 = .ok (.iload_n 3, 1) := by decide +kernel
theorem dX8_surest_5 : decode cX8_surest 5 = .ok (.aload_n 0, 1) := by decide +kernel
theorem dX8_surest_6 : decode cX8_surest 6 = .ok (.getfield 15, 3) := by decide +kernel
theorem dX8_surest_9 : decode cX8_surest 9 = .ok (.getfield 39, 3) := by decide +kernel
theorem dX8_surest_12 : decode cX8_surest 12 = .ok (.if_icmp .ge 56, 3) := by decide +kernel
theorem dX8_surest_15 : decode cX8_surest 15 = .ok (.iload_n 1, 1) := by decide +kernel
theorem dX8_surest_16 : decode cX8_surest 16 = .ok (.iload_n 3, 1) := by decide +kernel
theorem dX8_surest_17 : decode cX8_surest 17 = .ok (.iushr, 1) := by decide +kernel
theorem dX8_surest_18 : decode cX8_surest 18 = .ok (.iconst 1, 1) := by decide +kernel
theorem dX8_surest_19 : decode cX8_surest 19 = .ok (.iand, 1) := by decide +kernel
theorem dX8_surest_20 : decode cX8_surest 20 = .ok (.iconst 1, 1) := by decide +kernel
theorem dX8_surest_21 : decode cX8_surest 21 = .ok (.if_icmp .ne 41, 3) := by decide +kernel
theorem dX8_surest_24 : decode cX8_surest 24 = .ok (.iload_n 2, 1) := by decide +kernel
theorem dX8_surest_25 : decode cX8_surest 25 = .ok (.iconst (-1), 1) := by decide +kernel
theorem dX8_surest_26 : decode cX8_surest 26 = .ok (.if_icmp .eq 34, 3) := by decide +kernel
theorem dX8_surest_29 : decode cX8_surest 29 = .ok (.aload_n 0, 1) := by decide +kernel
theorem dX8_surest_30 : decode cX8_surest 30 = .ok (.getfield 9, 3) := by decide +kernel
theorem dX8_surest_33 : decode cX8_surest 33 = .ok (.aload_n 0, 1) := by decide +kernel
theorem dX8_surest_34 : decode cX8_surest 34 = .ok (.getfield 15, 3) := by decide +kernel
theorem dX8_surest_37 : decode cX8_surest 37 = .ok (.getfield 70, 3) := by decide +kernel
theorem dX8_surest_40 : decode cX8_surest 40 = .ok (.iload_n 3, 1) := by decide +kernel
theorem dX8_surest_41 : decode cX8_surest 41 = .ok (.iaload, 1) := by decide +kernel
theorem dX8_surest_42 : decode cX8_surest 42 = .ok (.iaload, 1) := by decide +kernel
theorem dX8_surest_43 : decode cX8_surest 43 = .ok (.aload_n 0, 1) := by decide +kernel
theorem dX8_surest_44 : decode cX8_surest 44 = .ok (.getfield 9, 3) := by decide +kernel
theorem dX8_surest_47 : decode cX8_surest 47 = .ok (.aload_n 0, 1) := by decide +kernel
theorem dX8_surest_48 : decode cX8_surest 48 = .ok (.getfield 15, 3) := by decide +kernel
theorem dX8_surest_51 : decode cX8_surest 51 = .ok (.getfield 70, 3) := by decide +kernel
theorem dX8_surest_54 : decode cX8_surest 54 = .ok (.iload_n 2, 1) := by decide +kernel
theorem dX8_surest_55 : decode cX8_surest 55 = .ok (.iaload, 1) := by decide +kernel
theorem dX8_surest_56 : decode cX8_surest 56 = .ok (.iaload, 1) := by decide +kernel
theorem dX8_surest_57 : decode cX8_surest 57 = .ok (.if_icmp .le 5, 3) := by decide +kernel
theorem dX8_surest_60 : decode cX8_surest 60 = .ok (.iload_n 3, 1) := by decide +kernel
theorem dX8_surest_61 : decode cX8_surest 61 = .ok (.istore_n 2, 1) := by decide +kernel
theorem dX8_surest_62 : decode cX8_surest 62 = .ok (.iinc 3 1, 3) := by decide +kernel
theorem dX8_surest_65 : decode cX8_surest 65 = .ok (.goto (-61), 3) := by decide +kernel
theorem dX8_surest_68 : decode cX8_surest 68 = .ok (.iload_n 2, 1) := by decide +kernel
theorem dX8_surest_69 : decode cX8_surest 69 = .ok (.iconst 0, 1) := by decide +kernel
theorem dX8_surest_70 : decode cX8_surest 70 = .ok (.invokestatic 82, 3) := by decide +kernel
theorem dX8_surest_73 : decode cX8_surest 73 = .ok (.ireturn, 1) := by decide +kernel
abbrev YX8_surest : zY := (yX8_surest, cX8_surest, 4, (Option.some Jvm.ClassFile.FieldType.int), [])
def fX8_surest_62 (F : zFs) (k_4 : Int → Int → zDa → Option (Int × zDa)) (o1 : Int) (v2 : Int) (v3 : Int) (D : zDa) : Option (Int × zDa) :=
  if (-2147483648 ≤ v3 + 1 ∧ v3 + 1 ≤ 2147483647) then
    k_4 v2 (v3 + 1) D
  else none
def fX8_surest_60 (F : zFs) (k_4 : Int → Int → zDa → Option (Int × zDa)) (o1 : Int) (v3 : Int) (D : zDa) : Option (Int × zDa) :=
  fX8_surest_62 F k_4 o1 v3 v3 D
def fX8_surest_4 (F : zFs) (o1 : Int)  (k_4 : Int → Int → zDa → Option (Int × zDa)) (v2 : Int) (v3 : Int) (D : zDa) : Option (Int × zDa) :=
  if v3 < (D 1 5) then
    if (zand (zushr o1 v3) 1) = 1 then
      if v2 = (-1) then
        fX8_surest_60 F k_4 o1 v3 D
      else
        if (0 ≤ v3 ∧ v3 < 20) ∧ (0 ≤ (D 4 v3.toNat) ∧ (D 4 v3.toNat) < 3) ∧ (0 ≤ v2 ∧ v2 < 20) ∧ (0 ≤ (D 4 v2.toNat) ∧ (D 4 v2.toNat) < 3) then
          if (D 90 (D 4 v2.toNat).toNat) < (D 90 (D 4 v3.toNat).toNat) then
            fX8_surest_60 F k_4 o1 v3 D
          else
            fX8_surest_62 F k_4 o1 v2 v3 D
        else none
    else
      fX8_surest_62 F k_4 o1 v2 v3 D
  else
    (fJ9_max_7cf53 F v2 0 D).bind (fun (r_1, D_2) =>
      some (r_1, D_2))
def fX8_surest (F : zFs) (v1 : Int) (D : zDa) : Option (Int × zDa) :=
  zfix (fun _ _ _ => none) (fX8_surest_4 F v1) zfu (-1) 0 D
set_option maxHeartbeats 20000000 in
theorem sX8_surest_62 {l : Launch} {E : zE} {d : Nat} {F : zFs} {n sl : Nat} (hG : zG F)  (o1 : Int) (v2 : Int) (v3 : Int) (k_4 : Int → Int → zDa → Option (Int × zDa)) (hk_4 : ∀ (u2 : Int) (u3 : Int) (D : zDa), zO l E (d + 1) YX8_surest 4 [(0, zR 89), (1, zI o1), (2, zI u2), (3, zI u3)] [] (F, D, n, sl) (zcI F n sl) (k_4 u2 u3 D)) (D : zDa) : zO l E (d + 1) YX8_surest 62 [(0, zR 89), (1, zI o1), (2, zI v2), (3, zI v3)] [] (F, D, n, sl) (zcI F n sl) (fX8_surest_62 F k_4 o1 v2 v3 D) := by
  unfold fX8_surest_62
  refine zO_chk (fun h1 => ?_)
  refine zO_iinc dX8_surest_62 rfl h1 (by decide) ?_
  refine zO_ls (ls' := [(0, zR 89), (1, zI o1), (2, zI v2), (3, zI (v3 + 1))]) rfl ?_
  refine zO_goto (tgt := 4) dX8_surest_65 rfl ?_
  refine zO_live [0, 1, 2, 3] ?_
  exact hk_4 v2 (v3 + 1) D
set_option maxHeartbeats 20000000 in
theorem sX8_surest_60 {l : Launch} {E : zE} {d : Nat} {F : zFs} {n sl : Nat} (hG : zG F)  (o1 : Int) (v3 : Int) (k_4 : Int → Int → zDa → Option (Int × zDa)) (hk_4 : ∀ (u2 : Int) (u3 : Int) (D : zDa), zO l E (d + 1) YX8_surest 4 [(0, zR 89), (1, zI o1), (2, zI u2), (3, zI u3)] [] (F, D, n, sl) (zcI F n sl) (k_4 u2 u3 D)) (D : zDa) : zO l E (d + 1) YX8_surest 60 [(0, zR 89), (1, zI o1), (3, zI v3)] [] (F, D, n, sl) (zcI F n sl) (fX8_surest_60 F k_4 o1 v3 D) := by
  unfold fX8_surest_60
  refine zO_iload_n dX8_surest_60 rfl ?_
  refine zO_istore_n dX8_surest_61 (by decide) ?_
  refine zO_ls (ls' := [(0, zR 89), (1, zI o1), (2, zI v3), (3, zI v3)]) rfl ?_
  refine zO_live [0, 1, 2, 3] ?_
  exact sX8_surest_62 hG o1 v3 v3 _ hk_4 D
set_option maxHeartbeats 20000000 in
theorem sX8_surest_4 {l : Launch} {E : zE} {d : Nat} {F : zFs} {n sl : Nat} (hG : zG F)  (o1 : Int)   : ∀ (N : Nat) (v2 : Int) (v3 : Int) (D : zDa), zO l E (d + 1) YX8_surest 4 [(0, zR 89), (1, zI o1), (2, zI v2), (3, zI v3)] [] (F, D, n, sl) (zcI F n sl) (zfix (fun _ _ _ => none) (fX8_surest_4 F o1) N v2 v3 D) := by
  intro N
  induction N with
  | zero => intro v2 v3 D; exact zO_none
  | succ N hk_4 =>
    intro v2 v3 D
    show zO _ _ _ _ _ _ _ _ _ ((fX8_surest_4 F o1) (zfix (fun _ _ _ => none) (fX8_surest_4 F o1) N) v2 v3 D)
    unfold fX8_surest_4
    refine zO_iload_n dX8_surest_4 rfl ?_
    refine zO_aload_n dX8_surest_5 rfl (zR_P _) ?_
    refine gt8 (k := 0) dX8_surest_6 wF_X8_15 (by decide) (gk_89 hG) (zgv (c := 8) (k := 0) rfl (Or.inr ⟨_, rfl⟩) (gf_89_0 hG)) ?_
    refine gt9 (k := 5) (v := zI (D 1 5)) dX8_surest_9 wF_X8_39 (by decide) (gk_1 hG) rfl ?_
    refine zO_icmp_ge (tgt := 68) dX8_surest_12 rfl (fun c12 => ?_) (fun c12 => ?_)
    · refine zO_iload_n dX8_surest_15 rfl ?_
      refine zO_iload_n dX8_surest_16 rfl ?_
      refine zO_iushr dX8_surest_17 ?_
      refine zO_iconst dX8_surest_18 (by decide) ?_
      refine zO_iand dX8_surest_19 ?_
      refine zO_iconst dX8_surest_20 (by decide) ?_
      refine zO_icmp_ne (tgt := 62) dX8_surest_21 rfl (fun c21 => ?_) (fun c21 => ?_)
      · refine zO_iload_n dX8_surest_24 rfl ?_
        refine zO_iconst dX8_surest_25 (by decide) ?_
        refine zO_icmp_eq (tgt := 60) dX8_surest_26 rfl (fun c26 => ?_) (fun c26 => ?_)
        · refine zO_live [0, 1, 3] ?_
          exact sX8_surest_60 hG o1 v3 _ hk_4 D
        · refine zO_chk (fun h2 => ?_)
          refine zO_aload_n dX8_surest_29 rfl (zR_P _) ?_
          refine gt8 (k := 2) dX8_surest_30 wF_X8_9 (by decide) (gk_89 hG) (zgv (c := 8) (k := 2) rfl (Or.inl ⟨_, rfl⟩) (gf_89_2 hG)) ?_
          refine zO_aload_n dX8_surest_33 rfl (zR_P _) ?_
          refine gt8 (k := 0) dX8_surest_34 wF_X8_15 (by decide) (gk_89 hG) (zgv (c := 8) (k := 0) rfl (Or.inr ⟨_, rfl⟩) (gf_89_0 hG)) ?_
          refine gt9 (k := 2) dX8_surest_37 wF_X8_70 (by decide) (gk_1 hG) (zgv (c := 9) (k := 2) rfl (Or.inl ⟨_, rfl⟩) (gf_1_2 hG)) ?_
          refine zO_iload_n dX8_surest_40 rfl ?_
          refine zO_iald dX8_surest_41 (gk_4 hG) (gl_in (gl_4 hG) h2.1) ?_
          refine zO_iald dX8_surest_42 (gk_90 hG) (gl_in (gl_90 hG) h2.2.1) ?_
          refine zO_aload_n dX8_surest_43 rfl (zR_P _) ?_
          refine gt8 (k := 2) dX8_surest_44 wF_X8_9 (by decide) (gk_89 hG) (zgv (c := 8) (k := 2) rfl (Or.inl ⟨_, rfl⟩) (gf_89_2 hG)) ?_
          refine zO_aload_n dX8_surest_47 rfl (zR_P _) ?_
          refine gt8 (k := 0) dX8_surest_48 wF_X8_15 (by decide) (gk_89 hG) (zgv (c := 8) (k := 0) rfl (Or.inr ⟨_, rfl⟩) (gf_89_0 hG)) ?_
          refine gt9 (k := 2) dX8_surest_51 wF_X8_70 (by decide) (gk_1 hG) (zgv (c := 9) (k := 2) rfl (Or.inl ⟨_, rfl⟩) (gf_1_2 hG)) ?_
          refine zO_iload_n dX8_surest_54 rfl ?_
          refine zO_iald dX8_surest_55 (gk_4 hG) (gl_in (gl_4 hG) h2.2.2.1) ?_
          refine zO_iald dX8_surest_56 (gk_90 hG) (gl_in (gl_90 hG) h2.2.2.2) ?_
          refine zO_icmp_le (tgt := 62) dX8_surest_57 rfl (fun c57 => ?_) (fun c57 => ?_)
          · refine zO_live [0, 1, 3] ?_
            exact sX8_surest_60 hG o1 v3 _ hk_4 D
          · refine zO_live [0, 1, 2, 3] ?_
            exact sX8_surest_62 hG o1 v2 v3 _ hk_4 D
      · refine zO_live [0, 1, 2, 3] ?_
        exact sX8_surest_62 hG o1 v2 v3 _ hk_4 D
    · refine zO_iload_n dX8_surest_68 rfl ?_
      refine zO_iconst dX8_surest_69 (by decide) ?_
      refine zO_callS (Y' := YJ9_max_7cf53) (cw := zcI F n sl) (as := [zI v2, zI 0]) (rest := []) (na := 2) dX8_surest_70 wC_J9_max_7cf53 wN_J9 wM_X8_82 wS_J9_max_7cf53 (by decide) (by decide) rfl rfl (Nat.le_of_ble_eq_true rfl) (fun r hr => zMet_cast (Nat.add_assoc d 0 0) (mJ9_max_7cf53 (d := d + 0) hG v2 0 r hr)) ?_
      rintro ⟨r_1, D_2⟩ -
      show zO _ _ _ _ _ _ [zI r_1] (F, D_2, n, sl) _ _
      exact zO_ret (rv := some (zI r_1)) dX8_surest_73 rfl rfl rfl
set_option maxHeartbeats 20000000 in
theorem mX8_surest {l : Launch} {E : zE} {d : Nat} {F : zFs} {n sl : Nat} (hG : zG F) (v1 : Int) {D : zDa} : ∀ r, fX8_surest F  v1 D = some r → zMet l E (d + 1) YX8_surest [zR 89, zI v1] (F, D, n, sl) (zcI F n sl r) := by
  intro r hr
  refine zMet_of (plainFor_of_name (by decide)) (fun _ h => (nomatch h)) (Nat.le_of_ble_eq_true rfl) ?_
  have hz : zO l E (d + 1) YX8_surest 0 [(0, zR 89), (1, zI v1)] [] (F, D, n, sl) (zcI F n sl) (fX8_surest F  v1 D) := by
    unfold fX8_surest
    refine zO_iconst dX8_surest_0 (by decide) ?_
    refine zO_istore_n dX8_surest_1 (by decide) ?_
    refine zO_ls (ls' := [(0, zR 89), (1, zI v1), (2, zI (-1))]) rfl ?_
    refine zO_iconst dX8_surest_2 (by decide) ?_
    refine zO_istore_n dX8_surest_3 (by decide) ?_
    refine zO_ls (ls' := [(0, zR 89), (1, zI v1), (2, zI (-1)), (3, zI 0)]) rfl ?_
    refine zO_live [0, 1, 2, 3] ?_
    exact sX8_surest_4 hG v1 zfu (-1) 0 D
  exact hz r hr
theorem dX8_sit_0 : decode cX8_sit 0 = .ok (.aload_n 0, 1) := by decide +kernel
theorem dX8_sit_1 : decode cX8_sit 1 = .ok (.invokevirtual 49, 3) := by decide +kernel
theorem dX8_sit_4 : decode cX8_sit 4 = .ok (.aload_n 0, 1) := by decide +kernel
theorem dX8_sit_5 : decode cX8_sit 5 = .ok (.iconst 0, 1) := by decide +kernel
theorem dX8_sit_6 : decode cX8_sit 6 = .ok (.putfield 52, 3) := by decide +kernel
theorem dX8_sit_9 : decode cX8_sit 9 = .ok (.aload_n 0, 1) := by decide +kernel
theorem dX8_sit_10 : decode cX8_sit 10 = .ok (.iconst 0, 1) := by decide +kernel
theorem dX8_sit_11 : decode cX8_sit 11 = .ok (.putfield 55, 3) := by decide +kernel
theorem dX8_sit_14 : decode cX8_sit 14 = .ok (.iconst 0, 1) := by decide +kernel
theorem dX8_sit_15 : decode cX8_sit 15 = .ok (.istore_n 1, 1) := by decide +kernel
theorem dX8_sit_16 : decode cX8_sit 16 = .ok (.iload_n 1, 1) := by decide +kernel
theorem dX8_sit_17 : decode cX8_sit 17 = .ok (.aload_n 0, 1) := by decide +kernel
theorem dX8_sit_18 : decode cX8_sit 18 = .ok (.getfield 15, 3) := by decide +kernel
theorem dX8_sit_21 : decode cX8_sit 21 = .ok (.getfield 58, 3) := by decide +kernel
theorem dX8_sit_24 : decode cX8_sit 24 = .ok (.iconst 1, 1) := by decide +kernel
theorem dX8_sit_25 : decode cX8_sit 25 = .ok (.iaload, 1) := by decide +kernel
theorem dX8_sit_26 : decode cX8_sit 26 = .ok (.if_icmp .ge 83, 3) := by decide +kernel
theorem dX8_sit_29 : decode cX8_sit 29 = .ok (.aload_n 0, 1) := by decide +kernel
theorem dX8_sit_30 : decode cX8_sit 30 = .ok (.getfield 52, 3) := by decide +kernel
theorem dX8_sit_33 : decode cX8_sit 33 = .ok (.aload_n 0, 1) := by decide +kernel
theorem dX8_sit_34 : decode cX8_sit 34 = .ok (.getfield 61, 3) := by decide +kernel
theorem dX8_sit_37 : decode cX8_sit 37 = .ok (.if_icmp .eq 72, 3) := by decide +kernel
theorem dX8_sit_40 : decode cX8_sit 40 = .ok (.aload_n 0, 1) := by decide +kernel
theorem dX8_sit_41 : decode cX8_sit 41 = .ok (.aload_n 0, 1) := by decide +kernel
theorem dX8_sit_42 : decode cX8_sit 42 = .ok (.getfield 61, 3) := by decide +kernel
theorem dX8_sit_45 : decode cX8_sit 45 = .ok (.aload_n 0, 1) := by decide +kernel
theorem dX8_sit_46 : decode cX8_sit 46 = .ok (.getfield 52, 3) := by decide +kernel
theorem dX8_sit_49 : decode cX8_sit 49 = .ok (.iconst (-1), 1) := by decide +kernel
theorem dX8_sit_50 : decode cX8_sit 50 = .ok (.ixor, 1) := by decide +kernel
theorem dX8_sit_51 : decode cX8_sit 51 = .ok (.iand, 1) := by decide +kernel
theorem dX8_sit_52 : decode cX8_sit 52 = .ok (.invokevirtual 64, 3) := by decide +kernel
theorem dX8_sit_55 : decode cX8_sit 55 = .ok (.istore_n 2, 1) := by decide +kernel
theorem dX8_sit_56 : decode cX8_sit 56 = .ok (.aload_n 0, 1) := by decide +kernel
theorem dX8_sit_57 : decode cX8_sit 57 = .ok (.dup, 1) := by decide +kernel
theorem dX8_sit_58 : decode cX8_sit 58 = .ok (.getfield 52, 3) := by decide +kernel
theorem dX8_sit_61 : decode cX8_sit 61 = .ok (.iconst 1, 1) := by decide +kernel
theorem dX8_sit_62 : decode cX8_sit 62 = .ok (.iload_n 2, 1) := by decide +kernel
theorem dX8_sit_63 : decode cX8_sit 63 = .ok (.ishl, 1) := by decide +kernel
theorem dX8_sit_64 : decode cX8_sit 64 = .ok (.ior, 1) := by decide +kernel
theorem dX8_sit_65 : decode cX8_sit 65 = .ok (.putfield 52, 3) := by decide +kernel
theorem dX8_sit_68 : decode cX8_sit 68 = .ok (.aload_n 0, 1) := by decide +kernel
theorem dX8_sit_69 : decode cX8_sit 69 = .ok (.bipush 100, 2) := by decide +kernel
theorem dX8_sit_71 : decode cX8_sit 71 = .ok (.invokevirtual 67, 3) := by decide +kernel
theorem dX8_sit_74 : decode cX8_sit 74 = .ok (.aload_n 0, 1) := by decide +kernel
theorem dX8_sit_75 : decode cX8_sit 75 = .ok (.getfield 9, 3) := by decide +kernel
theorem dX8_sit_78 : decode cX8_sit 78 = .ok (.aload_n 0, 1) := by decide +kernel
theorem dX8_sit_79 : decode cX8_sit 79 = .ok (.getfield 15, 3) := by decide +kernel
theorem dX8_sit_82 : decode cX8_sit 82 = .ok (.getfield 70, 3) := by decide +kernel
theorem dX8_sit_85 : decode cX8_sit 85 = .ok (.iload_n 2, 1) := by decide +kernel
theorem dX8_sit_86 : decode cX8_sit 86 = .ok (.iaload, 1) := by decide +kernel
theorem dX8_sit_87 : decode cX8_sit 87 = .ok (.iaload, 1) := by decide +kernel
theorem dX8_sit_88 : decode cX8_sit 88 = .ok (.if_icmp .ge 15, 3) := by decide +kernel
theorem dX8_sit_91 : decode cX8_sit 91 = .ok (.aload_n 0, 1) := by decide +kernel
theorem dX8_sit_92 : decode cX8_sit 92 = .ok (.dup, 1) := by decide +kernel
theorem dX8_sit_93 : decode cX8_sit 93 = .ok (.getfield 55, 3) := by decide +kernel
theorem dX8_sit_96 : decode cX8_sit 96 = .ok (.iconst 1, 1) := by decide +kernel
theorem dX8_sit_97 : decode cX8_sit 97 = .ok (.iload_n 2, 1) := by decide +kernel
theorem dX8_sit_98 : decode cX8_sit 98 = .ok (.ishl, 1) := by decide +kernel
theorem dX8_sit_99 : decode cX8_sit 99 = .ok (.ior, 1) := by decide +kernel
theorem dX8_sit_100 : decode cX8_sit 100 = .ok (.putfield 55, 3) := by decide +kernel
theorem dX8_sit_103 : decode cX8_sit 103 = .ok (.iinc 1 1, 3) := by decide +kernel
theorem dX8_sit_106 : decode cX8_sit 106 = .ok (.goto (-90), 3) := by decide +kernel
theorem dX8_sit_109 : decode cX8_sit 109 = .ok (.return_, 1) := by decide +kernel
abbrev YX8_sit : zY := (yX8_sit, cX8_sit, 3, none, [])
def fX8_sit_103 (F : zFs) (k_16 : Int → zDa → Option zDa) (v1 : Int) (D : zDa) : Option zDa :=
  if (-2147483648 ≤ v1 + 1 ∧ v1 + 1 ≤ 2147483647) then
    k_16 (v1 + 1) D
  else none
def fX8_sit_16 (F : zFs)   (k_16 : Int → zDa → Option zDa) (v1 : Int) (D : zDa) : Option zDa :=
  if v1 < (D 7 1) then
    if (D 89 7) = (D 89 6) then
      some D
    else
      (fX8_surest F (zand (D 89 6) (zxor (D 89 7) (-1))) D).bind (fun (r_5, D_6) =>
        zlet (zwr D_6 89 7 (zor (D_6 89 7) (zshl 1 r_5))) (fun D_7 =>
          (fX8_lots F 100 D_7).bind (fun (r_8, D_9) =>
            if (0 ≤ r_5 ∧ r_5 < 20) ∧ (0 ≤ (D_9 4 r_5.toNat) ∧ (D_9 4 r_5.toNat) < 3) then
              if r_8 < (D_9 90 (D_9 4 r_5.toNat).toNat) then
                zlet (zwr D_9 89 8 (zor (D_9 89 8) (zshl 1 r_5))) (fun D_10 =>
                  fX8_sit_103 F k_16 v1 D_10)
              else
                fX8_sit_103 F k_16 v1 D_9
            else none)))
  else
    some D
def fX8_sit (F : zFs)  (D : zDa) : Option zDa :=
  (fX8_layOut F D).bind (fun D_2 =>
    zlet (zwr D_2 89 7 0) (fun D_3 =>
      zlet (zwr D_3 89 8 0) (fun D_4 =>
        zfix (fun _ _ => none) (fX8_sit_16 F) zfu 0 D_4)))
set_option maxHeartbeats 20000000 in
theorem sX8_sit_103 {l : Launch} {E : zE} {d : Nat} {F : zFs} {n sl : Nat} (hG : zG F)  (v1 : Int) (k_16 : Int → zDa → Option zDa) (hk_16 : ∀ (u1 : Int) (D : zDa), zO l E (d + 3) YX8_sit 16 [(0, zR 89), (1, zI u1)] [] (F, D, n, sl) (zcV F n sl) (k_16 u1 D)) (D : zDa) : zO l E (d + 3) YX8_sit 103 [(0, zR 89), (1, zI v1)] [] (F, D, n, sl) (zcV F n sl) (fX8_sit_103 F k_16 v1 D) := by
  unfold fX8_sit_103
  refine zO_chk (fun h2 => ?_)
  refine zO_iinc dX8_sit_103 rfl h2 (by decide) ?_
  refine zO_ls (ls' := [(0, zR 89), (1, zI (v1 + 1))]) rfl ?_
  refine zO_goto (tgt := 16) dX8_sit_106 rfl ?_
  refine zO_live [0, 1] ?_
  exact hk_16 (v1 + 1) D
set_option maxHeartbeats 20000000 in
theorem sX8_sit_16 {l : Launch} {E : zE} {d : Nat} {F : zFs} {n sl : Nat} (hG : zG F)     : ∀ (N : Nat) (v1 : Int) (D : zDa), zO l E (d + 3) YX8_sit 16 [(0, zR 89), (1, zI v1)] [] (F, D, n, sl) (zcV F n sl) (zfix (fun _ _ => none) (fX8_sit_16 F) N v1 D) := by
  intro N
  induction N with
  | zero => intro v1 D; exact zO_none
  | succ N hk_16 =>
    intro v1 D
    show zO _ _ _ _ _ _ _ _ _ ((fX8_sit_16 F) (zfix (fun _ _ => none) (fX8_sit_16 F) N) v1 D)
    unfold fX8_sit_16
    refine zO_iload_n dX8_sit_16 rfl ?_
    refine zO_aload_n dX8_sit_17 rfl (zR_P _) ?_
    refine gt8 (k := 0) dX8_sit_18 wF_X8_15 (by decide) (gk_89 hG) (zgv (c := 8) (k := 0) rfl (Or.inr ⟨_, rfl⟩) (gf_89_0 hG)) ?_
    refine gt9 (k := 6) dX8_sit_21 wF_X8_58 (by decide) (gk_1 hG) (zgv (c := 9) (k := 6) rfl (Or.inl ⟨_, rfl⟩) (gf_1_6 hG)) ?_
    refine zO_iconst dX8_sit_24 (by decide) ?_
    refine zO_iald dX8_sit_25 (gk_7 hG) (gl_in (gl_7 hG) (by decide)) ?_
    refine zO_icmp_ge (tgt := 109) dX8_sit_26 rfl (fun c26 => ?_) (fun c26 => ?_)
    · refine zO_aload_n dX8_sit_29 rfl (zR_P _) ?_
      refine gt8 (k := 7) (v := zI (D 89 7)) dX8_sit_30 wF_X8_52 (by decide) (gk_89 hG) rfl ?_
      refine zO_aload_n dX8_sit_33 rfl (zR_P _) ?_
      refine gt8 (k := 6) (v := zI (D 89 6)) dX8_sit_34 wF_X8_61 (by decide) (gk_89 hG) rfl ?_
      refine zO_icmp_eq (tgt := 109) dX8_sit_37 rfl (fun c37 => ?_) (fun c37 => ?_)
      · exact zO_ret (rv := none) dX8_sit_109 rfl trivial rfl
      · refine zO_aload_n dX8_sit_40 rfl (zR_P _) ?_
        refine zO_aload_n dX8_sit_41 rfl (zR_P _) ?_
        refine gt8 (k := 6) (v := zI (D 89 6)) dX8_sit_42 wF_X8_61 (by decide) (gk_89 hG) rfl ?_
        refine zO_aload_n dX8_sit_45 rfl (zR_P _) ?_
        refine gt8 (k := 7) (v := zI (D 89 7)) dX8_sit_46 wF_X8_52 (by decide) (gk_89 hG) rfl ?_
        refine zO_iconst dX8_sit_49 (by decide) ?_
        refine zO_ixor dX8_sit_50 ?_
        refine zO_iand dX8_sit_51 ?_
        refine zO_callV (Y' := YX8_surest) (cw := zcI F n sl) (as := [zI (zand (D 89 6) (zxor (D 89 7) (-1)))]) (rest := []) (na := 1) (ci := 8) rfl dX8_sit_52 wC_X8_surest wN_X8 wM_X8_64 wI_X8_surest wV_X8_surest (by decide) (by decide) rfl rfl (Nat.le_of_ble_eq_true rfl) rfl (by decide) (gk_89 hG) (fun r hr => zMet_cast (Nat.add_assoc d 1 1) (mX8_surest (d := d + 1) hG (zand (D 89 6) (zxor (D 89 7) (-1))) r hr)) ?_
        rintro ⟨r_5, D_6⟩ -
        show zO _ _ _ _ _ _ [zI r_5] (F, D_6, n, sl) _ _
        refine zO_istore_n dX8_sit_55 (by decide) ?_
        refine zO_ls (ls' := [(0, zR 89), (1, zI v1), (2, zI r_5)]) rfl ?_
        refine zO_aload_n dX8_sit_56 rfl (zR_P _) ?_
        refine zO_dup dX8_sit_57 (rfl) ?_
        refine gt8 (k := 7) (v := zI (D_6 89 7)) dX8_sit_58 wF_X8_52 (by decide) (gk_89 hG) rfl ?_
        refine zO_iconst dX8_sit_61 (by decide) ?_
        refine zO_iload_n dX8_sit_62 rfl ?_
        refine zO_ishl dX8_sit_63 ?_
        refine zO_ior dX8_sit_64 ?_
        refine ptI8 (k := 7) (z := (zor (D_6 89 7) (zshl 1 r_5))) dX8_sit_65 wF_X8_52 (by decide) rfl (gk_89 hG) rfl ?_
        refine zO_letD (fun D_7 eD_7 => ?_)
        refine zO_aload_n dX8_sit_68 rfl (zR_P _) ?_
        refine zO_bipush dX8_sit_69 (by decide) ?_
        refine zO_callV (Y' := YX8_lots) (cw := zcI F n sl) (as := [zI 100]) (rest := []) (na := 1) (ci := 8) rfl dX8_sit_71 wC_X8_lots wN_X8 wM_X8_67 wI_X8_lots wV_X8_lots (by decide) (by decide) rfl rfl (Nat.le_of_ble_eq_true rfl) rfl (by decide) (gk_89 hG) (fun r hr => zMet_cast (Nat.add_assoc d 2 0) (mX8_lots (d := d + 2) hG 100 r hr)) ?_
        rintro ⟨r_8, D_9⟩ -
        show zO _ _ _ _ _ _ [zI r_8] (F, D_9, n, sl) _ _
        refine zO_chk (fun h1 => ?_)
        refine zO_aload_n dX8_sit_74 rfl (zR_P _) ?_
        refine gt8 (k := 2) dX8_sit_75 wF_X8_9 (by decide) (gk_89 hG) (zgv (c := 8) (k := 2) rfl (Or.inl ⟨_, rfl⟩) (gf_89_2 hG)) ?_
        refine zO_aload_n dX8_sit_78 rfl (zR_P _) ?_
        refine gt8 (k := 0) dX8_sit_79 wF_X8_15 (by decide) (gk_89 hG) (zgv (c := 8) (k := 0) rfl (Or.inr ⟨_, rfl⟩) (gf_89_0 hG)) ?_
        refine gt9 (k := 2) dX8_sit_82 wF_X8_70 (by decide) (gk_1 hG) (zgv (c := 9) (k := 2) rfl (Or.inl ⟨_, rfl⟩) (gf_1_2 hG)) ?_
        refine zO_iload_n dX8_sit_85 rfl ?_
        refine zO_iald dX8_sit_86 (gk_4 hG) (gl_in (gl_4 hG) h1.1) ?_
        refine zO_iald dX8_sit_87 (gk_90 hG) (gl_in (gl_90 hG) h1.2) ?_
        refine zO_icmp_ge (tgt := 103) dX8_sit_88 rfl (fun c88 => ?_) (fun c88 => ?_)
        · refine zO_aload_n dX8_sit_91 rfl (zR_P _) ?_
          refine zO_dup dX8_sit_92 (rfl) ?_
          refine gt8 (k := 8) (v := zI (D_9 89 8)) dX8_sit_93 wF_X8_55 (by decide) (gk_89 hG) rfl ?_
          refine zO_iconst dX8_sit_96 (by decide) ?_
          refine zO_iload_n dX8_sit_97 rfl ?_
          refine zO_ishl dX8_sit_98 ?_
          refine zO_ior dX8_sit_99 ?_
          refine ptI8 (k := 8) (z := (zor (D_9 89 8) (zshl 1 r_5))) dX8_sit_100 wF_X8_55 (by decide) rfl (gk_89 hG) rfl ?_
          refine zO_letD (fun D_10 eD_10 => ?_)
          refine zO_live [0, 1] ?_
          exact sX8_sit_103 hG v1 _ hk_16 D_10
        · refine zO_live [0, 1] ?_
          exact sX8_sit_103 hG v1 _ hk_16 D_9
    · exact zO_ret (rv := none) dX8_sit_109 rfl trivial rfl
set_option maxHeartbeats 20000000 in
theorem mX8_sit {l : Launch} {E : zE} {d : Nat} {F : zFs} {n sl : Nat} (hG : zG F)  {D : zDa} : ∀ r, fX8_sit F   D = some r → zMet l E (d + 3) YX8_sit [zR 89] (F, D, n, sl) (zcV F n sl r) := by
  intro r hr
  refine zMet_of (plainFor_of_name (by decide)) (fun _ h => (nomatch h)) (Nat.le_of_ble_eq_true rfl) ?_
  have hz : zO l E (d + 3) YX8_sit 0 [(0, zR 89)] [] (F, D, n, sl) (zcV F n sl) (fX8_sit F   D) := by
    unfold fX8_sit
    refine zO_aload_n dX8_sit_0 rfl (zR_P _) ?_
    refine zO_callV (Y' := YX8_layOut) (cw := zcV F n sl) (as := []) (rest := []) (na := 0) (ci := 8) rfl dX8_sit_1 wC_X8_layOut wN_X8 wM_X8_49 wI_X8_layOut wV_X8_layOut (by decide) (by decide) rfl rfl (Nat.le_of_ble_eq_true rfl) rfl (by decide) (gk_89 hG) (fun r hr => zMet_cast (Nat.add_assoc d 0 2) (mX8_layOut (d := d + 0) hG  r hr)) ?_
    intro D_2 _
    show zO _ _ _ _ _ _ [] (F, D_2, n, sl) _ _
    refine zO_aload_n dX8_sit_4 rfl (zR_P _) ?_
    refine zO_iconst dX8_sit_5 (by decide) ?_
    refine ptI8 (k := 7) (z := 0) dX8_sit_6 wF_X8_52 (by decide) rfl (gk_89 hG) rfl ?_
    refine zO_letD (fun D_3 eD_3 => ?_)
    refine zO_aload_n dX8_sit_9 rfl (zR_P _) ?_
    refine zO_iconst dX8_sit_10 (by decide) ?_
    refine ptI8 (k := 8) (z := 0) dX8_sit_11 wF_X8_55 (by decide) rfl (gk_89 hG) rfl ?_
    refine zO_letD (fun D_4 eD_4 => ?_)
    refine zO_iconst dX8_sit_14 (by decide) ?_
    refine zO_istore_n dX8_sit_15 (by decide) ?_
    refine zO_ls (ls' := [(0, zR 89), (1, zI 0)]) rfl ?_
    refine zO_live [0, 1] ?_
    exact sX8_sit_16 hG zfu 0 D_4
  exact hz r hr
theorem dX9_pricesChanged_0 : decode cX9_pricesChanged 0 = .ok (.aload_n 0, 1) := by decide +kernel
theorem dX9_pricesChanged_1 : decode cX9_pricesChanged 1 = .ok (.dup, 1) := by decide +kernel
theorem dX9_pricesChanged_2 : decode cX9_pricesChanged 2 = .ok (.getfield 81, 3) := by decide +kernel
theorem dX9_pricesChanged_5 : decode cX9_pricesChanged 5 = .ok (.iconst 1, 1) := by decide +kernel
theorem dX9_pricesChanged_6 : decode cX9_pricesChanged 6 = .ok (.iadd, 1) := by decide +kernel
theorem dX9_pricesChanged_7 : decode cX9_pricesChanged 7 = .ok (.putfield 81, 3) := by decide +kernel
theorem dX9_pricesChanged_10 : decode cX9_pricesChanged 10 = .ok (.aload_n 0, 1) := by decide +kernel
theorem dX9_pricesChanged_11 : decode cX9_pricesChanged 11 = .ok (.dup, 1) := by decide +kernel
theorem dX9_pricesChanged_12 : decode cX9_pricesChanged 12 = .ok (.getfield 84, 3) := by decide +kernel
theorem dX9_pricesChanged_15 : decode cX9_pricesChanged 15 = .ok (.iconst 1, 1) := by decide +kernel
theorem dX9_pricesChanged_16 : decode cX9_pricesChanged 16 = .ok (.iadd, 1) := by decide +kernel
theorem dX9_pricesChanged_17 : decode cX9_pricesChanged 17 = .ok (.putfield 84, 3) := by decide +kernel
theorem dX9_pricesChanged_20 : decode cX9_pricesChanged 20 = .ok (.return_, 1) := by decide +kernel
abbrev YX9_pricesChanged : zY := (yX9_pricesChanged, cX9_pricesChanged, 1, none, [])
def fX9_pricesChanged (F : zFs) (a0 : Nat) (D : zDa) : Option zDa :=
  if ((F a0).1 = 10) ∧ (-2147483648 ≤ (D a0 16) + 1 ∧ (D a0 16) + 1 ≤ 2147483647) then
    zlet (zwr D a0 16 ((D a0 16) + 1)) (fun D_1 =>
      if (-2147483648 ≤ (D_1 a0 17) + 1 ∧ (D_1 a0 17) + 1 ≤ 2147483647) then
        zlet (zwr D_1 a0 17 ((D_1 a0 17) + 1)) (fun D_2 =>
          some D_2)
      else none)
  else none
set_option maxHeartbeats 20000000 in
theorem mX9_pricesChanged {l : Launch} {E : zE} {d : Nat} {F : zFs} {n sl : Nat} (hG : zG F) (a0 : Nat) {D : zDa} : ∀ r, fX9_pricesChanged F  a0 D = some r → zMet l E (d + 0) YX9_pricesChanged [zR a0] (F, D, n, sl) (zcV F n sl r) := by
  intro r hr
  refine zMet_of (plainFor_of_name (by decide)) (fun _ h => (nomatch h)) (Nat.le_of_ble_eq_true rfl) ?_
  have hz : zO l E (d + 0) YX9_pricesChanged 0 [(0, zR a0)] [] (F, D, n, sl) (zcV F n sl) (fX9_pricesChanged F  a0 D) := by
    unfold fX9_pricesChanged
    refine zO_chk (fun h1 => ?_)
    refine zO_aload_n dX9_pricesChanged_0 rfl (zR_P _) ?_
    refine zO_dup dX9_pricesChanged_1 (rfl) ?_
    refine gt9 (k := 16) (v := zI (D a0 16)) dX9_pricesChanged_2 wF_X9_81 (by decide) h1.1 rfl ?_
    refine zO_iconst dX9_pricesChanged_5 (by decide) ?_
    refine zO_iadd dX9_pricesChanged_6 h1.2 ?_
    refine ptI9 (k := 16) (z := ((D a0 16) + 1)) dX9_pricesChanged_7 wF_X9_81 (by decide) rfl h1.1 rfl ?_
    refine zO_letD (fun D_1 eD_1 => ?_)
    refine zO_chk (fun h2 => ?_)
    refine zO_aload_n dX9_pricesChanged_10 rfl (zR_P _) ?_
    refine zO_dup dX9_pricesChanged_11 (rfl) ?_
    refine gt9 (k := 17) (v := zI (D_1 a0 17)) dX9_pricesChanged_12 wF_X9_84 (by decide) h1.1 rfl ?_
    refine zO_iconst dX9_pricesChanged_15 (by decide) ?_
    refine zO_iadd dX9_pricesChanged_16 h2 ?_
    refine ptI9 (k := 17) (z := ((D_1 a0 17) + 1)) dX9_pricesChanged_17 wF_X9_84 (by decide) rfl h1.1 rfl ?_
    refine zO_letD (fun D_2 eD_2 => ?_)
    exact zO_ret (rv := none) dX9_pricesChanged_20 rfl trivial rfl
  exact hz r hr
theorem dX9_copyFrom_0 : decode cX9_copyFrom 0 = .ok (.aload_n 1, 1) := by decide +kernel
theorem dX9_copyFrom_1 : decode cX9_copyFrom 1 = .ok (.getfield 9, 3) := by decide +kernel
theorem dX9_copyFrom_4 : decode cX9_copyFrom 4 = .ok (.iconst 0, 1) := by decide +kernel
theorem dX9_copyFrom_5 : decode cX9_copyFrom 5 = .ok (.aload_n 0, 1) := by decide +kernel
theorem dX9_copyFrom_6 : decode cX9_copyFrom 6 = .ok (.getfield 9, 3) := by decide +kernel
theorem dX9_copyFrom_9 : decode cX9_copyFrom 9 = .ok (.iconst 0, 1) := by decide +kernel
theorem dX9_copyFrom_10 : decode cX9_copyFrom 10 = .ok (.bipush 20, 2) := by decide +kernel
theorem dX9_copyFrom_12 : decode cX9_copyFrom 12 = .ok (.invokestatic 60, 3) := by decide +kernel
theorem dX9_copyFrom_15 : decode cX9_copyFrom 15 = .ok (.aload_n 1, 1) := by decide +kernel
theorem dX9_copyFrom_16 : decode cX9_copyFrom 16 = .ok (.getfield 15, 3) := by decide +kernel
theorem dX9_copyFrom_19 : decode cX9_copyFrom 19 = .ok (.iconst 0, 1) := by decide +kernel
theorem dX9_copyFrom_20 : decode cX9_copyFrom 20 = .ok (.aload_n 0, 1) := by decide +kernel
theorem dX9_copyFrom_21 : decode cX9_copyFrom 21 = .ok (.getfield 15, 3) := by decide +kernel
theorem dX9_copyFrom_24 : decode cX9_copyFrom 24 = .ok (.iconst 0, 1) := by decide +kernel
theorem dX9_copyFrom_25 : decode cX9_copyFrom 25 = .ok (.bipush 20, 2) := by decide +kernel
theorem dX9_copyFrom_27 : decode cX9_copyFrom 27 = .ok (.invokestatic 60, 3) := by decide +kernel
theorem dX9_copyFrom_30 : decode cX9_copyFrom 30 = .ok (.aload_n 1, 1) := by decide +kernel
theorem dX9_copyFrom_31 : decode cX9_copyFrom 31 = .ok (.getfield 18, 3) := by decide +kernel
theorem dX9_copyFrom_34 : decode cX9_copyFrom 34 = .ok (.iconst 0, 1) := by decide +kernel
theorem dX9_copyFrom_35 : decode cX9_copyFrom 35 = .ok (.aload_n 0, 1) := by decide +kernel
theorem dX9_copyFrom_36 : decode cX9_copyFrom 36 = .ok (.getfield 18, 3) := by decide +kernel
theorem dX9_copyFrom_39 : decode cX9_copyFrom 39 = .ok (.iconst 0, 1) := by decide +kernel
theorem dX9_copyFrom_40 : decode cX9_copyFrom 40 = .ok (.bipush 20, 2) := by decide +kernel
theorem dX9_copyFrom_42 : decode cX9_copyFrom 42 = .ok (.invokestatic 60, 3) := by decide +kernel
theorem dX9_copyFrom_45 : decode cX9_copyFrom 45 = .ok (.aload_n 1, 1) := by decide +kernel
theorem dX9_copyFrom_46 : decode cX9_copyFrom 46 = .ok (.getfield 21, 3) := by decide +kernel
theorem dX9_copyFrom_49 : decode cX9_copyFrom 49 = .ok (.iconst 0, 1) := by decide +kernel
theorem dX9_copyFrom_50 : decode cX9_copyFrom 50 = .ok (.aload_n 0, 1) := by decide +kernel
theorem dX9_copyFrom_51 : decode cX9_copyFrom 51 = .ok (.getfield 21, 3) := by decide +kernel
theorem dX9_copyFrom_54 : decode cX9_copyFrom 54 = .ok (.iconst 0, 1) := by decide +kernel
theorem dX9_copyFrom_55 : decode cX9_copyFrom 55 = .ok (.bipush 20, 2) := by decide +kernel
theorem dX9_copyFrom_57 : decode cX9_copyFrom 57 = .ok (.invokestatic 60, 3) := by decide +kernel
theorem dX9_copyFrom_60 : decode cX9_copyFrom 60 = .ok (.aload_n 1, 1) := by decide +kernel
theorem dX9_copyFrom_61 : decode cX9_copyFrom 61 = .ok (.getfield 24, 3) := by decide +kernel
theorem dX9_copyFrom_64 : decode cX9_copyFrom 64 = .ok (.iconst 0, 1) := by decide +kernel
theorem dX9_copyFrom_65 : decode cX9_copyFrom 65 = .ok (.aload_n 0, 1) := by decide +kernel
theorem dX9_copyFrom_66 : decode cX9_copyFrom 66 = .ok (.getfield 24, 3) := by decide +kernel
theorem dX9_copyFrom_69 : decode cX9_copyFrom 69 = .ok (.iconst 0, 1) := by decide +kernel
theorem dX9_copyFrom_70 : decode cX9_copyFrom 70 = .ok (.bipush 20, 2) := by decide +kernel
theorem dX9_copyFrom_72 : decode cX9_copyFrom 72 = .ok (.invokestatic 60, 3) := by decide +kernel
theorem dX9_copyFrom_75 : decode cX9_copyFrom 75 = .ok (.aload_n 0, 1) := by decide +kernel
theorem dX9_copyFrom_76 : decode cX9_copyFrom 76 = .ok (.aload_n 1, 1) := by decide +kernel
theorem dX9_copyFrom_77 : decode cX9_copyFrom 77 = .ok (.getfield 66, 3) := by decide +kernel
theorem dX9_copyFrom_80 : decode cX9_copyFrom 80 = .ok (.putfield 66, 3) := by decide +kernel
theorem dX9_copyFrom_83 : decode cX9_copyFrom 83 = .ok (.aload_n 1, 1) := by decide +kernel
theorem dX9_copyFrom_84 : decode cX9_copyFrom 84 = .ok (.getfield 35, 3) := by decide +kernel
theorem dX9_copyFrom_87 : decode cX9_copyFrom 87 = .ok (.iconst 0, 1) := by decide +kernel
theorem dX9_copyFrom_88 : decode cX9_copyFrom 88 = .ok (.aload_n 0, 1) := by decide +kernel
theorem dX9_copyFrom_89 : decode cX9_copyFrom 89 = .ok (.getfield 35, 3) := by decide +kernel
theorem dX9_copyFrom_92 : decode cX9_copyFrom 92 = .ok (.iconst 0, 1) := by decide +kernel
theorem dX9_copyFrom_93 : decode cX9_copyFrom 93 = .ok (.bipush 7, 2) := by decide +kernel
theorem dX9_copyFrom_95 : decode cX9_copyFrom 95 = .ok (.invokestatic 60, 3) := by decide +kernel
theorem dX9_copyFrom_98 : decode cX9_copyFrom 98 = .ok (.iconst 0, 1) := by decide +kernel
theorem dX9_copyFrom_99 : decode cX9_copyFrom 99 = .ok (.istore_n 2, 1) := by decide +kernel
theorem dX9_copyFrom_100 : decode cX9_copyFrom 100 = .ok (.iload_n 2, 1) := by decide +kernel
theorem dX9_copyFrom_101 : decode cX9_copyFrom 101 = .ok (.bipush 6, 2) := by decide +kernel
theorem dX9_copyFrom_103 : decode cX9_copyFrom 103 = .ok (.if_icmp .ge 21, 3) := by decide +kernel
theorem dX9_copyFrom_106 : decode cX9_copyFrom 106 = .ok (.aload_n 0, 1) := by decide +kernel
theorem dX9_copyFrom_107 : decode cX9_copyFrom 107 = .ok (.getfield 40, 3) := by decide +kernel
theorem dX9_copyFrom_110 : decode cX9_copyFrom 110 = .ok (.iload_n 2, 1) := by decide +kernel
theorem dX9_copyFrom_111 : decode cX9_copyFrom 111 = .ok (.aload_n 1, 1) := by decide +kernel
theorem dX9_copyFrom_112 : decode cX9_copyFrom 112 = .ok (.getfield 40, 3) := by decide +kernel
theorem dX9_copyFrom_115 : decode cX9_copyFrom 115 = .ok (.iload_n 2, 1) := by decide +kernel
theorem dX9_copyFrom_116 : decode cX9_copyFrom 116 = .ok (.aaload, 1) := by decide +kernel
theorem dX9_copyFrom_117 : decode cX9_copyFrom 117 = .ok (.aastore, 1) := by decide +kernel
theorem dX9_copyFrom_118 : decode cX9_copyFrom 118 = .ok (.iinc 2 1, 3) := by decide +kernel
theorem dX9_copyFrom_121 : decode cX9_copyFrom 121 = .ok (.goto (-21), 3) := by decide +kernel
theorem dX9_copyFrom_124 : decode cX9_copyFrom 124 = .ok (.aload_n 0, 1) := by decide +kernel
theorem dX9_copyFrom_125 : decode cX9_copyFrom 125 = .ok (.aload_n 1, 1) := by decide +kernel
theorem dX9_copyFrom_126 : decode cX9_copyFrom 126 = .ok (.getfield 69, 3) := by decide +kernel
theorem dX9_copyFrom_129 : decode cX9_copyFrom 129 = .ok (.putfield 69, 3) := by decide +kernel
theorem dX9_copyFrom_132 : decode cX9_copyFrom 132 = .ok (.aload_n 0, 1) := by decide +kernel
theorem dX9_copyFrom_133 : decode cX9_copyFrom 133 = .ok (.aload_n 1, 1) := by decide +kernel
theorem dX9_copyFrom_134 : decode cX9_copyFrom 134 = .ok (.getfield 44, 3) := by decide +kernel
theorem dX9_copyFrom_137 : decode cX9_copyFrom 137 = .ok (.putfield 44, 3) := by decide +kernel
theorem dX9_copyFrom_140 : decode cX9_copyFrom 140 = .ok (.aload_n 1, 1) := by decide +kernel
theorem dX9_copyFrom_141 : decode cX9_copyFrom 141 = .ok (.getfield 48, 3) := by decide +kernel
theorem dX9_copyFrom_144 : decode cX9_copyFrom 144 = .ok (.iconst 0, 1) := by decide +kernel
theorem dX9_copyFrom_145 : decode cX9_copyFrom 145 = .ok (.aload_n 0, 1) := by decide +kernel
theorem dX9_copyFrom_146 : decode cX9_copyFrom 146 = .ok (.getfield 48, 3) := by decide +kernel
theorem dX9_copyFrom_149 : decode cX9_copyFrom 149 = .ok (.iconst 0, 1) := by decide +kernel
theorem dX9_copyFrom_150 : decode cX9_copyFrom 150 = .ok (.bipush 120, 2) := by decide +kernel
theorem dX9_copyFrom_152 : decode cX9_copyFrom 152 = .ok (.invokestatic 60, 3) := by decide +kernel
theorem dX9_copyFrom_155 : decode cX9_copyFrom 155 = .ok (.aload_n 1, 1) := by decide +kernel
theorem dX9_copyFrom_156 : decode cX9_copyFrom 156 = .ok (.getfield 51, 3) := by decide +kernel
theorem dX9_copyFrom_159 : decode cX9_copyFrom 159 = .ok (.iconst 0, 1) := by decide +kernel
theorem dX9_copyFrom_160 : decode cX9_copyFrom 160 = .ok (.aload_n 0, 1) := by decide +kernel
theorem dX9_copyFrom_161 : decode cX9_copyFrom 161 = .ok (.getfield 51, 3) := by decide +kernel
theorem dX9_copyFrom_164 : decode cX9_copyFrom 164 = .ok (.iconst 0, 1) := by decide +kernel
theorem dX9_copyFrom_165 : decode cX9_copyFrom 165 = .ok (.bipush 120, 2) := by decide +kernel
theorem dX9_copyFrom_167 : decode cX9_copyFrom 167 = .ok (.invokestatic 60, 3) := by decide +kernel
theorem dX9_copyFrom_170 : decode cX9_copyFrom 170 = .ok (.aload_n 0, 1) := by decide +kernel
theorem dX9_copyFrom_171 : decode cX9_copyFrom 171 = .ok (.aload_n 1, 1) := by decide +kernel
theorem dX9_copyFrom_172 : decode cX9_copyFrom 172 = .ok (.getfield 72, 3) := by decide +kernel
theorem dX9_copyFrom_175 : decode cX9_copyFrom 175 = .ok (.putfield 72, 3) := by decide +kernel
theorem dX9_copyFrom_178 : decode cX9_copyFrom 178 = .ok (.aload_n 1, 1) := by decide +kernel
theorem dX9_copyFrom_179 : decode cX9_copyFrom 179 = .ok (.getfield 54, 3) := by decide +kernel
theorem dX9_copyFrom_182 : decode cX9_copyFrom 182 = .ok (.iconst 0, 1) := by decide +kernel
theorem dX9_copyFrom_183 : decode cX9_copyFrom 183 = .ok (.aload_n 0, 1) := by decide +kernel
theorem dX9_copyFrom_184 : decode cX9_copyFrom 184 = .ok (.getfield 54, 3) := by decide +kernel
theorem dX9_copyFrom_187 : decode cX9_copyFrom 187 = .ok (.iconst 0, 1) := by decide +kernel
theorem dX9_copyFrom_188 : decode cX9_copyFrom 188 = .ok (.iconst 3, 1) := by decide +kernel
theorem dX9_copyFrom_189 : decode cX9_copyFrom 189 = .ok (.invokestatic 60, 3) := by decide +kernel
theorem dX9_copyFrom_192 : decode cX9_copyFrom 192 = .ok (.aload_n 1, 1) := by decide +kernel
theorem dX9_copyFrom_193 : decode cX9_copyFrom 193 = .ok (.getfield 57, 3) := by decide +kernel
theorem dX9_copyFrom_196 : decode cX9_copyFrom 196 = .ok (.iconst 0, 1) := by decide +kernel
theorem dX9_copyFrom_197 : decode cX9_copyFrom 197 = .ok (.aload_n 0, 1) := by decide +kernel
theorem dX9_copyFrom_198 : decode cX9_copyFrom 198 = .ok (.getfield 57, 3) := by decide +kernel
theorem dX9_copyFrom_201 : decode cX9_copyFrom 201 = .ok (.iconst 0, 1) := by decide +kernel
theorem dX9_copyFrom_202 : decode cX9_copyFrom 202 = .ok (.bipush 40, 2) := by decide +kernel
theorem dX9_copyFrom_204 : decode cX9_copyFrom 204 = .ok (.invokestatic 60, 3) := by decide +kernel
theorem dX9_copyFrom_207 : decode cX9_copyFrom 207 = .ok (.aload_n 0, 1) := by decide +kernel
theorem dX9_copyFrom_208 : decode cX9_copyFrom 208 = .ok (.aload_n 1, 1) := by decide +kernel
theorem dX9_copyFrom_209 : decode cX9_copyFrom 209 = .ok (.getfield 75, 3) := by decide +kernel
theorem dX9_copyFrom_212 : decode cX9_copyFrom 212 = .ok (.putfield 75, 3) := by decide +kernel
theorem dX9_copyFrom_215 : decode cX9_copyFrom 215 = .ok (.aload_n 0, 1) := by decide +kernel
theorem dX9_copyFrom_216 : decode cX9_copyFrom 216 = .ok (.invokevirtual 78, 3) := by decide +kernel
theorem dX9_copyFrom_219 : decode cX9_copyFrom 219 = .ok (.return_, 1) := by decide +kernel
abbrev YX9_copyFrom : zY := (yX9_copyFrom, cX9_copyFrom, 3, none, [])
def fX9_copyFrom_100 (F : zFs) (o0 : Nat) (o1 : Nat)  (k_100 : Int → zDa → Option zDa) (v2 : Int) (D : zDa) : Option zDa :=
  if v2 < 6 then
    if ((F o0).1 = 10) ∧ ((F o1).1 = 10) ∧ (0 ≤ ((F o1).2.2 7)) ∧ ((F (((F o1).2.2 7).toNat)).1 = 25) ∧ ((0 : Int) ≤ v2 ∧ (v2 : Int) < ((F (((F o1).2.2 7).toNat)).2.1 : Int)) ∧ (0 ≤ ((F o0).2.2 7)) ∧ ((F (((F o0).2.2 7).toNat)).1 = 25) ∧ ((0 : Int) ≤ v2 ∧ (v2 : Int) < ((F (((F o0).2.2 7).toNat)).2.1 : Int)) ∧ ((D (((F o1).2.2 7).toNat) v2.toNat) < 0 ∨ (F (D (((F o1).2.2 7).toNat) v2.toNat).toNat).1 = 4) then
      zlet (zwr D (((F o0).2.2 7).toNat) v2.toNat (D (((F o1).2.2 7).toNat) v2.toNat)) (fun D_8 =>
        if (-2147483648 ≤ v2 + 1 ∧ v2 + 1 ≤ 2147483647) then
          k_100 (v2 + 1) D_8
        else none)
    else none
  else
    if ((F o1).1 = 10) ∧ ((F o0).1 = 10) then
      zlet (zwr D o0 8 (D o1 8)) (fun D_9 =>
        zlet (zwr D_9 o0 9 (D_9 o1 9)) (fun D_10 =>
          if (0 ≤ ((F o0).2.2 10)) ∧ (0 ≤ ((F o1).2.2 10)) ∧ ((F (((F o1).2.2 10).toNat)).1 = 20) ∧ ((F (((F o0).2.2 10).toNat)).1 = 20) ∧ ((0 : Int) ≤ 0 ∧ (0 : Int) ≤ 0 ∧ (0 : Int) ≤ 120 ∧ (0 + 120 : Int) ≤ ((F (((F o1).2.2 10).toNat)).2.1 : Int) ∧ (0 + 120 : Int) ≤ ((F (((F o0).2.2 10).toNat)).2.1 : Int)) then
            zlet (zrow D_10 (((F o0).2.2 10).toNat) (va_cpy (D_10 (((F o1).2.2 10).toNat)) (D_10 (((F o0).2.2 10).toNat)) 0 0 120)) (fun D_11 =>
              if (0 ≤ ((F o0).2.2 11)) ∧ (0 ≤ ((F o1).2.2 11)) ∧ ((F (((F o1).2.2 11).toNat)).1 = 20) ∧ ((F (((F o0).2.2 11).toNat)).1 = 20) ∧ ((0 : Int) ≤ 0 ∧ (0 : Int) ≤ 0 ∧ (0 : Int) ≤ 120 ∧ (0 + 120 : Int) ≤ ((F (((F o1).2.2 11).toNat)).2.1 : Int) ∧ (0 + 120 : Int) ≤ ((F (((F o0).2.2 11).toNat)).2.1 : Int)) then
                zlet (zrow D_11 (((F o0).2.2 11).toNat) (va_cpy (D_11 (((F o1).2.2 11).toNat)) (D_11 (((F o0).2.2 11).toNat)) 0 0 120)) (fun D_12 =>
                  zlet (zwr D_12 o0 12 (D_12 o1 12)) (fun D_13 =>
                    if (0 ≤ ((F o0).2.2 13)) ∧ (0 ≤ ((F o1).2.2 13)) ∧ ((F (((F o1).2.2 13).toNat)).1 = 20) ∧ ((F (((F o0).2.2 13).toNat)).1 = 20) ∧ ((0 : Int) ≤ 0 ∧ (0 : Int) ≤ 0 ∧ (0 : Int) ≤ 3 ∧ (0 + 3 : Int) ≤ ((F (((F o1).2.2 13).toNat)).2.1 : Int) ∧ (0 + 3 : Int) ≤ ((F (((F o0).2.2 13).toNat)).2.1 : Int)) then
                      zlet (zrow D_13 (((F o0).2.2 13).toNat) (va_cpy (D_13 (((F o1).2.2 13).toNat)) (D_13 (((F o0).2.2 13).toNat)) 0 0 3)) (fun D_14 =>
                        if (0 ≤ ((F o0).2.2 14)) ∧ (0 ≤ ((F o1).2.2 14)) ∧ ((F (((F o1).2.2 14).toNat)).1 = 20) ∧ ((F (((F o0).2.2 14).toNat)).1 = 20) ∧ ((0 : Int) ≤ 0 ∧ (0 : Int) ≤ 0 ∧ (0 : Int) ≤ 40 ∧ (0 + 40 : Int) ≤ ((F (((F o1).2.2 14).toNat)).2.1 : Int) ∧ (0 + 40 : Int) ≤ ((F (((F o0).2.2 14).toNat)).2.1 : Int)) then
                          zlet (zrow D_14 (((F o0).2.2 14).toNat) (va_cpy (D_14 (((F o1).2.2 14).toNat)) (D_14 (((F o0).2.2 14).toNat)) 0 0 40)) (fun D_15 =>
                            zlet (zwr D_15 o0 15 (D_15 o1 15)) (fun D_16 =>
                              (fX9_pricesChanged F o0 D_16).bind (fun D_18 =>
                                some D_18)))
                        else none)
                    else none))
              else none)
          else none))
    else none
def fX9_copyFrom (F : zFs) (a0 : Nat) (a1 : Nat) (D : zDa) : Option zDa :=
  if ((F a1).1 = 10) ∧ ((F a0).1 = 10) ∧ (0 ≤ ((F a0).2.2 0)) ∧ (0 ≤ ((F a1).2.2 0)) ∧ ((F (((F a1).2.2 0).toNat)).1 = 20) ∧ ((F (((F a0).2.2 0).toNat)).1 = 20) ∧ ((0 : Int) ≤ 0 ∧ (0 : Int) ≤ 0 ∧ (0 : Int) ≤ 20 ∧ (0 + 20 : Int) ≤ ((F (((F a1).2.2 0).toNat)).2.1 : Int) ∧ (0 + 20 : Int) ≤ ((F (((F a0).2.2 0).toNat)).2.1 : Int)) then
    zlet (zrow D (((F a0).2.2 0).toNat) (va_cpy (D (((F a1).2.2 0).toNat)) (D (((F a0).2.2 0).toNat)) 0 0 20)) (fun D_1 =>
      if (0 ≤ ((F a0).2.2 1)) ∧ (0 ≤ ((F a1).2.2 1)) ∧ ((F (((F a1).2.2 1).toNat)).1 = 20) ∧ ((F (((F a0).2.2 1).toNat)).1 = 20) ∧ ((0 : Int) ≤ 0 ∧ (0 : Int) ≤ 0 ∧ (0 : Int) ≤ 20 ∧ (0 + 20 : Int) ≤ ((F (((F a1).2.2 1).toNat)).2.1 : Int) ∧ (0 + 20 : Int) ≤ ((F (((F a0).2.2 1).toNat)).2.1 : Int)) then
        zlet (zrow D_1 (((F a0).2.2 1).toNat) (va_cpy (D_1 (((F a1).2.2 1).toNat)) (D_1 (((F a0).2.2 1).toNat)) 0 0 20)) (fun D_2 =>
          if (0 ≤ ((F a0).2.2 2)) ∧ (0 ≤ ((F a1).2.2 2)) ∧ ((F (((F a1).2.2 2).toNat)).1 = 20) ∧ ((F (((F a0).2.2 2).toNat)).1 = 20) ∧ ((0 : Int) ≤ 0 ∧ (0 : Int) ≤ 0 ∧ (0 : Int) ≤ 20 ∧ (0 + 20 : Int) ≤ ((F (((F a1).2.2 2).toNat)).2.1 : Int) ∧ (0 + 20 : Int) ≤ ((F (((F a0).2.2 2).toNat)).2.1 : Int)) then
            zlet (zrow D_2 (((F a0).2.2 2).toNat) (va_cpy (D_2 (((F a1).2.2 2).toNat)) (D_2 (((F a0).2.2 2).toNat)) 0 0 20)) (fun D_3 =>
              if (0 ≤ ((F a0).2.2 3)) ∧ (0 ≤ ((F a1).2.2 3)) ∧ ((F (((F a1).2.2 3).toNat)).1 = 20) ∧ ((F (((F a0).2.2 3).toNat)).1 = 20) ∧ ((0 : Int) ≤ 0 ∧ (0 : Int) ≤ 0 ∧ (0 : Int) ≤ 20 ∧ (0 + 20 : Int) ≤ ((F (((F a1).2.2 3).toNat)).2.1 : Int) ∧ (0 + 20 : Int) ≤ ((F (((F a0).2.2 3).toNat)).2.1 : Int)) then
                zlet (zrow D_3 (((F a0).2.2 3).toNat) (va_cpy (D_3 (((F a1).2.2 3).toNat)) (D_3 (((F a0).2.2 3).toNat)) 0 0 20)) (fun D_4 =>
                  if (0 ≤ ((F a0).2.2 4)) ∧ (0 ≤ ((F a1).2.2 4)) ∧ ((F (((F a1).2.2 4).toNat)).1 = 20) ∧ ((F (((F a0).2.2 4).toNat)).1 = 20) ∧ ((0 : Int) ≤ 0 ∧ (0 : Int) ≤ 0 ∧ (0 : Int) ≤ 20 ∧ (0 + 20 : Int) ≤ ((F (((F a1).2.2 4).toNat)).2.1 : Int) ∧ (0 + 20 : Int) ≤ ((F (((F a0).2.2 4).toNat)).2.1 : Int)) then
                    zlet (zrow D_4 (((F a0).2.2 4).toNat) (va_cpy (D_4 (((F a1).2.2 4).toNat)) (D_4 (((F a0).2.2 4).toNat)) 0 0 20)) (fun D_5 =>
                      zlet (zwr D_5 a0 5 (D_5 a1 5)) (fun D_6 =>
                        if (0 ≤ ((F a0).2.2 6)) ∧ (0 ≤ ((F a1).2.2 6)) ∧ ((F (((F a1).2.2 6).toNat)).1 = 20) ∧ ((F (((F a0).2.2 6).toNat)).1 = 20) ∧ ((0 : Int) ≤ 0 ∧ (0 : Int) ≤ 0 ∧ (0 : Int) ≤ 7 ∧ (0 + 7 : Int) ≤ ((F (((F a1).2.2 6).toNat)).2.1 : Int) ∧ (0 + 7 : Int) ≤ ((F (((F a0).2.2 6).toNat)).2.1 : Int)) then
                          zlet (zrow D_6 (((F a0).2.2 6).toNat) (va_cpy (D_6 (((F a1).2.2 6).toNat)) (D_6 (((F a0).2.2 6).toNat)) 0 0 7)) (fun D_7 =>
                            zfix (fun _ _ => none) (fX9_copyFrom_100 F a0 a1) zfu 0 D_7)
                        else none))
                  else none)
              else none)
          else none)
      else none)
  else none
set_option maxHeartbeats 20000000 in
theorem sX9_copyFrom_100 {l : Launch} {E : zE} {d : Nat} {F : zFs} {n sl : Nat} (hG : zG F)  (o0 : Nat) (o1 : Nat)   : ∀ (N : Nat) (v2 : Int) (D : zDa), zO l E (d + 1) YX9_copyFrom 100 [(0, zR o0), (1, zR o1), (2, zI v2)] [] (F, D, n, sl) (zcV F n sl) (zfix (fun _ _ => none) (fX9_copyFrom_100 F o0 o1) N v2 D) := by
  intro N
  induction N with
  | zero => intro v2 D; exact zO_none
  | succ N hk_100 =>
    intro v2 D
    show zO _ _ _ _ _ _ _ _ _ ((fX9_copyFrom_100 F o0 o1) (zfix (fun _ _ => none) (fX9_copyFrom_100 F o0 o1) N) v2 D)
    unfold fX9_copyFrom_100
    refine zO_iload_n dX9_copyFrom_100 rfl ?_
    refine zO_bipush dX9_copyFrom_101 (by decide) ?_
    refine zO_icmp_ge (tgt := 124) dX9_copyFrom_103 rfl (fun c103 => ?_) (fun c103 => ?_)
    · refine zO_chk (fun h7 => ?_)
      refine zO_aload_n dX9_copyFrom_106 rfl (zR_P _) ?_
      refine gt9 (k := 7) (v := zq ((F o0).2.2 7)) dX9_copyFrom_107 wF_X9_40 (by decide) h7.1 rfl ?_
      refine zO_iload_n dX9_copyFrom_110 rfl ?_
      refine zO_aload_n dX9_copyFrom_111 rfl (zR_P _) ?_
      refine gt9 (k := 7) (v := zq ((F o1).2.2 7)) dX9_copyFrom_112 wF_X9_40 (by decide) h7.2.1 rfl ?_
      refine zO_iload_n dX9_copyFrom_115 rfl ?_
      refine zO_q1 h7.2.2.1 ?_
      refine zO_aald (kd := 25) dX9_copyFrom_116 h7.2.2.2.1 (by decide) h7.2.2.2.2.1 ?_
      refine zO_q2 h7.2.2.2.2.2.1 ?_
      refine zO_aast (z := (D (((F o1).2.2 7).toNat) v2.toNat)) (c := 3) (kd := 25) dX9_copyFrom_117 h7.2.2.2.2.2.2.1 (by decide) h7.2.2.2.2.2.2.2.2 h7.2.2.2.2.2.2.2.1 ?_
      refine zO_letD (fun D_8 eD_8 => ?_)
      refine zO_chk (fun h8 => ?_)
      refine zO_iinc dX9_copyFrom_118 rfl h8 (by decide) ?_
      refine zO_ls (ls' := [(0, zR o0), (1, zR o1), (2, zI (v2 + 1))]) rfl ?_
      refine zO_goto (tgt := 100) dX9_copyFrom_121 rfl ?_
      refine zO_live [0, 1, 2] ?_
      exact hk_100 (v2 + 1) D_8
    · refine zO_chk (fun h9 => ?_)
      refine zO_aload_n dX9_copyFrom_124 rfl (zR_P _) ?_
      refine zO_aload_n dX9_copyFrom_125 rfl (zR_P _) ?_
      refine gt9 (k := 8) (v := zI (D o1 8)) dX9_copyFrom_126 wF_X9_69 (by decide) h9.1 rfl ?_
      refine ptI9 (k := 8) (z := (D o1 8)) dX9_copyFrom_129 wF_X9_69 (by decide) rfl h9.2 rfl ?_
      refine zO_letD (fun D_9 eD_9 => ?_)
      refine zO_aload_n dX9_copyFrom_132 rfl (zR_P _) ?_
      refine zO_aload_n dX9_copyFrom_133 rfl (zR_P _) ?_
      refine gt9 (k := 9) (v := zI (D_9 o1 9)) dX9_copyFrom_134 wF_X9_44 (by decide) h9.1 rfl ?_
      refine ptI9 (k := 9) (z := (D_9 o1 9)) dX9_copyFrom_137 wF_X9_44 (by decide) rfl h9.2 rfl ?_
      refine zO_letD (fun D_10 eD_10 => ?_)
      refine zO_chk (fun h10 => ?_)
      refine zO_aload_n dX9_copyFrom_140 rfl (zR_P _) ?_
      refine gt9 (k := 10) (v := zq ((F o1).2.2 10)) dX9_copyFrom_141 wF_X9_48 (by decide) h9.1 rfl ?_
      refine zO_iconst dX9_copyFrom_144 (by decide) ?_
      refine zO_aload_n dX9_copyFrom_145 rfl (zR_P _) ?_
      refine gt9 (k := 10) (v := zq ((F o0).2.2 10)) dX9_copyFrom_146 wF_X9_48 (by decide) h9.2 rfl ?_
      refine zO_iconst dX9_copyFrom_149 (by decide) ?_
      refine zO_bipush dX9_copyFrom_150 (by decide) ?_
      refine zO_q2 h10.1 ?_
      refine zO_q4 h10.2.1 ?_
      refine zO_copy (kd := 20) dX9_copyFrom_152 wM_X9_60 (by decide) h10.2.2.1 h10.2.2.2.1 h10.2.2.2.2 (Nat.le_of_ble_eq_true rfl) ?_
      refine zO_letD (fun D_11 eD_11 => ?_)
      refine zO_chk (fun h11 => ?_)
      refine zO_aload_n dX9_copyFrom_155 rfl (zR_P _) ?_
      refine gt9 (k := 11) (v := zq ((F o1).2.2 11)) dX9_copyFrom_156 wF_X9_51 (by decide) h9.1 rfl ?_
      refine zO_iconst dX9_copyFrom_159 (by decide) ?_
      refine zO_aload_n dX9_copyFrom_160 rfl (zR_P _) ?_
      refine gt9 (k := 11) (v := zq ((F o0).2.2 11)) dX9_copyFrom_161 wF_X9_51 (by decide) h9.2 rfl ?_
      refine zO_iconst dX9_copyFrom_164 (by decide) ?_
      refine zO_bipush dX9_copyFrom_165 (by decide) ?_
      refine zO_q2 h11.1 ?_
      refine zO_q4 h11.2.1 ?_
      refine zO_copy (kd := 20) dX9_copyFrom_167 wM_X9_60 (by decide) h11.2.2.1 h11.2.2.2.1 h11.2.2.2.2 (Nat.le_of_ble_eq_true rfl) ?_
      refine zO_letD (fun D_12 eD_12 => ?_)
      refine zO_aload_n dX9_copyFrom_170 rfl (zR_P _) ?_
      refine zO_aload_n dX9_copyFrom_171 rfl (zR_P _) ?_
      refine gt9 (k := 12) (v := zI (D_12 o1 12)) dX9_copyFrom_172 wF_X9_72 (by decide) h9.1 rfl ?_
      refine ptI9 (k := 12) (z := (D_12 o1 12)) dX9_copyFrom_175 wF_X9_72 (by decide) rfl h9.2 rfl ?_
      refine zO_letD (fun D_13 eD_13 => ?_)
      refine zO_chk (fun h12 => ?_)
      refine zO_aload_n dX9_copyFrom_178 rfl (zR_P _) ?_
      refine gt9 (k := 13) (v := zq ((F o1).2.2 13)) dX9_copyFrom_179 wF_X9_54 (by decide) h9.1 rfl ?_
      refine zO_iconst dX9_copyFrom_182 (by decide) ?_
      refine zO_aload_n dX9_copyFrom_183 rfl (zR_P _) ?_
      refine gt9 (k := 13) (v := zq ((F o0).2.2 13)) dX9_copyFrom_184 wF_X9_54 (by decide) h9.2 rfl ?_
      refine zO_iconst dX9_copyFrom_187 (by decide) ?_
      refine zO_iconst dX9_copyFrom_188 (by decide) ?_
      refine zO_q2 h12.1 ?_
      refine zO_q4 h12.2.1 ?_
      refine zO_copy (kd := 20) dX9_copyFrom_189 wM_X9_60 (by decide) h12.2.2.1 h12.2.2.2.1 h12.2.2.2.2 (Nat.le_of_ble_eq_true rfl) ?_
      refine zO_letD (fun D_14 eD_14 => ?_)
      refine zO_chk (fun h13 => ?_)
      refine zO_aload_n dX9_copyFrom_192 rfl (zR_P _) ?_
      refine gt9 (k := 14) (v := zq ((F o1).2.2 14)) dX9_copyFrom_193 wF_X9_57 (by decide) h9.1 rfl ?_
      refine zO_iconst dX9_copyFrom_196 (by decide) ?_
      refine zO_aload_n dX9_copyFrom_197 rfl (zR_P _) ?_
      refine gt9 (k := 14) (v := zq ((F o0).2.2 14)) dX9_copyFrom_198 wF_X9_57 (by decide) h9.2 rfl ?_
      refine zO_iconst dX9_copyFrom_201 (by decide) ?_
      refine zO_bipush dX9_copyFrom_202 (by decide) ?_
      refine zO_q2 h13.1 ?_
      refine zO_q4 h13.2.1 ?_
      refine zO_copy (kd := 20) dX9_copyFrom_204 wM_X9_60 (by decide) h13.2.2.1 h13.2.2.2.1 h13.2.2.2.2 (Nat.le_of_ble_eq_true rfl) ?_
      refine zO_letD (fun D_15 eD_15 => ?_)
      refine zO_aload_n dX9_copyFrom_207 rfl (zR_P _) ?_
      refine zO_aload_n dX9_copyFrom_208 rfl (zR_P _) ?_
      refine gt9 (k := 15) (v := zI (D_15 o1 15)) dX9_copyFrom_209 wF_X9_75 (by decide) h9.1 rfl ?_
      refine ptI9 (k := 15) (z := (D_15 o1 15)) dX9_copyFrom_212 wF_X9_75 (by decide) rfl h9.2 rfl ?_
      refine zO_letD (fun D_16 eD_16 => ?_)
      refine zO_aload_n dX9_copyFrom_215 rfl (zR_P _) ?_
      refine zO_callV (Y' := YX9_pricesChanged) (cw := zcV F n sl) (as := []) (rest := []) (na := 0) (ci := 9) rfl dX9_copyFrom_216 wC_X9_pricesChanged wN_X9 wM_X9_78 wI_X9_pricesChanged wV_X9_pricesChanged (by decide) (by decide) rfl rfl (Nat.le_of_ble_eq_true rfl) rfl (by decide) h9.2 (fun r hr => zMet_cast (Nat.add_assoc d 0 0) (mX9_pricesChanged (d := d + 0) hG o0 r hr)) ?_
      intro D_18 _
      show zO _ _ _ _ _ _ [] (F, D_18, n, sl) _ _
      exact zO_ret (rv := none) dX9_copyFrom_219 rfl trivial rfl
set_option maxHeartbeats 20000000 in
theorem mX9_copyFrom {l : Launch} {E : zE} {d : Nat} {F : zFs} {n sl : Nat} (hG : zG F) (a0 : Nat) (a1 : Nat) {D : zDa} : ∀ r, fX9_copyFrom F  a0 a1 D = some r → zMet l E (d + 1) YX9_copyFrom [zR a0, zR a1] (F, D, n, sl) (zcV F n sl r) := by
  intro r hr
  refine zMet_of (plainFor_of_name (by decide)) (fun _ h => (nomatch h)) (Nat.le_of_ble_eq_true rfl) ?_
  have hz : zO l E (d + 1) YX9_copyFrom 0 [(0, zR a0), (1, zR a1)] [] (F, D, n, sl) (zcV F n sl) (fX9_copyFrom F  a0 a1 D) := by
    unfold fX9_copyFrom
    refine zO_chk (fun h1 => ?_)
    refine zO_aload_n dX9_copyFrom_0 rfl (zR_P _) ?_
    refine gt9 (k := 0) (v := zq ((F a1).2.2 0)) dX9_copyFrom_1 wF_X9_9 (by decide) h1.1 rfl ?_
    refine zO_iconst dX9_copyFrom_4 (by decide) ?_
    refine zO_aload_n dX9_copyFrom_5 rfl (zR_P _) ?_
    refine gt9 (k := 0) (v := zq ((F a0).2.2 0)) dX9_copyFrom_6 wF_X9_9 (by decide) h1.2.1 rfl ?_
    refine zO_iconst dX9_copyFrom_9 (by decide) ?_
    refine zO_bipush dX9_copyFrom_10 (by decide) ?_
    refine zO_q2 h1.2.2.1 ?_
    refine zO_q4 h1.2.2.2.1 ?_
    refine zO_copy (kd := 20) dX9_copyFrom_12 wM_X9_60 (by decide) h1.2.2.2.2.1 h1.2.2.2.2.2.1 h1.2.2.2.2.2.2 (Nat.le_of_ble_eq_true rfl) ?_
    refine zO_letD (fun D_1 eD_1 => ?_)
    refine zO_chk (fun h2 => ?_)
    refine zO_aload_n dX9_copyFrom_15 rfl (zR_P _) ?_
    refine gt9 (k := 1) (v := zq ((F a1).2.2 1)) dX9_copyFrom_16 wF_X9_15 (by decide) h1.1 rfl ?_
    refine zO_iconst dX9_copyFrom_19 (by decide) ?_
    refine zO_aload_n dX9_copyFrom_20 rfl (zR_P _) ?_
    refine gt9 (k := 1) (v := zq ((F a0).2.2 1)) dX9_copyFrom_21 wF_X9_15 (by decide) h1.2.1 rfl ?_
    refine zO_iconst dX9_copyFrom_24 (by decide) ?_
    refine zO_bipush dX9_copyFrom_25 (by decide) ?_
    refine zO_q2 h2.1 ?_
    refine zO_q4 h2.2.1 ?_
    refine zO_copy (kd := 20) dX9_copyFrom_27 wM_X9_60 (by decide) h2.2.2.1 h2.2.2.2.1 h2.2.2.2.2 (Nat.le_of_ble_eq_true rfl) ?_
    refine zO_letD (fun D_2 eD_2 => ?_)
    refine zO_chk (fun h3 => ?_)
    refine zO_aload_n dX9_copyFrom_30 rfl (zR_P _) ?_
    refine gt9 (k := 2) (v := zq ((F a1).2.2 2)) dX9_copyFrom_31 wF_X9_18 (by decide) h1.1 rfl ?_
    refine zO_iconst dX9_copyFrom_34 (by decide) ?_
    refine zO_aload_n dX9_copyFrom_35 rfl (zR_P _) ?_
    refine gt9 (k := 2) (v := zq ((F a0).2.2 2)) dX9_copyFrom_36 wF_X9_18 (by decide) h1.2.1 rfl ?_
    refine zO_iconst dX9_copyFrom_39 (by decide) ?_
    refine zO_bipush dX9_copyFrom_40 (by decide) ?_
    refine zO_q2 h3.1 ?_
    refine zO_q4 h3.2.1 ?_
    refine zO_copy (kd := 20) dX9_copyFrom_42 wM_X9_60 (by decide) h3.2.2.1 h3.2.2.2.1 h3.2.2.2.2 (Nat.le_of_ble_eq_true rfl) ?_
    refine zO_letD (fun D_3 eD_3 => ?_)
    refine zO_chk (fun h4 => ?_)
    refine zO_aload_n dX9_copyFrom_45 rfl (zR_P _) ?_
    refine gt9 (k := 3) (v := zq ((F a1).2.2 3)) dX9_copyFrom_46 wF_X9_21 (by decide) h1.1 rfl ?_
    refine zO_iconst dX9_copyFrom_49 (by decide) ?_
    refine zO_aload_n dX9_copyFrom_50 rfl (zR_P _) ?_
    refine gt9 (k := 3) (v := zq ((F a0).2.2 3)) dX9_copyFrom_51 wF_X9_21 (by decide) h1.2.1 rfl ?_
    refine zO_iconst dX9_copyFrom_54 (by decide) ?_
    refine zO_bipush dX9_copyFrom_55 (by decide) ?_
    refine zO_q2 h4.1 ?_
    refine zO_q4 h4.2.1 ?_
    refine zO_copy (kd := 20) dX9_copyFrom_57 wM_X9_60 (by decide) h4.2.2.1 h4.2.2.2.1 h4.2.2.2.2 (Nat.le_of_ble_eq_true rfl) ?_
    refine zO_letD (fun D_4 eD_4 => ?_)
    refine zO_chk (fun h5 => ?_)
    refine zO_aload_n dX9_copyFrom_60 rfl (zR_P _) ?_
    refine gt9 (k := 4) (v := zq ((F a1).2.2 4)) dX9_copyFrom_61 wF_X9_24 (by decide) h1.1 rfl ?_
    refine zO_iconst dX9_copyFrom_64 (by decide) ?_
    refine zO_aload_n dX9_copyFrom_65 rfl (zR_P _) ?_
    refine gt9 (k := 4) (v := zq ((F a0).2.2 4)) dX9_copyFrom_66 wF_X9_24 (by decide) h1.2.1 rfl ?_
    refine zO_iconst dX9_copyFrom_69 (by decide) ?_
    refine zO_bipush dX9_copyFrom_70 (by decide) ?_
    refine zO_q2 h5.1 ?_
    refine zO_q4 h5.2.1 ?_
    refine zO_copy (kd := 20) dX9_copyFrom_72 wM_X9_60 (by decide) h5.2.2.1 h5.2.2.2.1 h5.2.2.2.2 (Nat.le_of_ble_eq_true rfl) ?_
    refine zO_letD (fun D_5 eD_5 => ?_)
    refine zO_aload_n dX9_copyFrom_75 rfl (zR_P _) ?_
    refine zO_aload_n dX9_copyFrom_76 rfl (zR_P _) ?_
    refine gt9 (k := 5) (v := zI (D_5 a1 5)) dX9_copyFrom_77 wF_X9_66 (by decide) h1.1 rfl ?_
    refine ptI9 (k := 5) (z := (D_5 a1 5)) dX9_copyFrom_80 wF_X9_66 (by decide) rfl h1.2.1 rfl ?_
    refine zO_letD (fun D_6 eD_6 => ?_)
    refine zO_chk (fun h6 => ?_)
    refine zO_aload_n dX9_copyFrom_83 rfl (zR_P _) ?_
    refine gt9 (k := 6) (v := zq ((F a1).2.2 6)) dX9_copyFrom_84 wF_X9_35 (by decide) h1.1 rfl ?_
    refine zO_iconst dX9_copyFrom_87 (by decide) ?_
    refine zO_aload_n dX9_copyFrom_88 rfl (zR_P _) ?_
    refine gt9 (k := 6) (v := zq ((F a0).2.2 6)) dX9_copyFrom_89 wF_X9_35 (by decide) h1.2.1 rfl ?_
    refine zO_iconst dX9_copyFrom_92 (by decide) ?_
    refine zO_bipush dX9_copyFrom_93 (by decide) ?_
    refine zO_q2 h6.1 ?_
    refine zO_q4 h6.2.1 ?_
    refine zO_copy (kd := 20) dX9_copyFrom_95 wM_X9_60 (by decide) h6.2.2.1 h6.2.2.2.1 h6.2.2.2.2 (Nat.le_of_ble_eq_true rfl) ?_
    refine zO_letD (fun D_7 eD_7 => ?_)
    refine zO_iconst dX9_copyFrom_98 (by decide) ?_
    refine zO_istore_n dX9_copyFrom_99 (by decide) ?_
    refine zO_ls (ls' := [(0, zR a0), (1, zR a1), (2, zI 0)]) rfl ?_
    refine zO_live [0, 1, 2] ?_
    exact sX9_copyFrom_100 hG a0 a1 zfu 0 D_7
  exact hz r hr
theorem dX9_addQuestion_0 : decode cX9_addQuestion 0 = .ok (.aload_n 0, 1) := by decide +kernel
theorem dX9_addQuestion_1 : decode cX9_addQuestion 1 = .ok (.getfield 66, 3) := by decide +kernel
theorem dX9_addQuestion_4 : decode cX9_addQuestion 4 = .ok (.istore_n 3, 1) := by decide +kernel
theorem dX9_addQuestion_5 : decode cX9_addQuestion 5 = .ok (.iload_n 3, 1) := by decide +kernel
theorem dX9_addQuestion_6 : decode cX9_addQuestion 6 = .ok (.bipush 20, 2) := by decide +kernel
theorem dX9_addQuestion_8 : decode cX9_addQuestion 8 = .ok (.if_icmp .lt 5, 3) := by decide +kernel
theorem dX9_addQuestion_11 : decode cX9_addQuestion 11 = .ok (.iconst (-1), 1) := by decide +kernel
theorem dX9_addQuestion_12 : decode cX9_addQuestion 12 = .ok (.ireturn, 1) := by decide +kernel
theorem dX9_addQuestion_13 : decode cX9_addQuestion 13 = .ok (.aload_n 0, 1) := by decide +kernel
theorem dX9_addQuestion_14 : decode cX9_addQuestion 14 = .ok (.getfield 9, 3) := by decide +kernel
theorem dX9_addQuestion_17 : decode cX9_addQuestion 17 = .ok (.iload_n 3, 1) := by decide +kernel
theorem dX9_addQuestion_18 : decode cX9_addQuestion 18 = .ok (.iload_n 1, 1) := by decide +kernel
theorem dX9_addQuestion_19 : decode cX9_addQuestion 19 = .ok (.iastore, 1) := by decide +kernel
theorem dX9_addQuestion_20 : decode cX9_addQuestion 20 = .ok (.aload_n 0, 1) := by decide +kernel
theorem dX9_addQuestion_21 : decode cX9_addQuestion 21 = .ok (.getfield 15, 3) := by decide +kernel
theorem dX9_addQuestion_24 : decode cX9_addQuestion 24 = .ok (.iload_n 3, 1) := by decide +kernel
theorem dX9_addQuestion_25 : decode cX9_addQuestion 25 = .ok (.iload_n 2, 1) := by decide +kernel
theorem dX9_addQuestion_26 : decode cX9_addQuestion 26 = .ok (.iastore, 1) := by decide +kernel
theorem dX9_addQuestion_27 : decode cX9_addQuestion 27 = .ok (.aload_n 0, 1) := by decide +kernel
theorem dX9_addQuestion_28 : decode cX9_addQuestion 28 = .ok (.getfield 18, 3) := by decide +kernel
theorem dX9_addQuestion_31 : decode cX9_addQuestion 31 = .ok (.iload_n 3, 1) := by decide +kernel
theorem dX9_addQuestion_32 : decode cX9_addQuestion 32 = .ok (.iconst 0, 1) := by decide +kernel
theorem dX9_addQuestion_33 : decode cX9_addQuestion 33 = .ok (.iastore, 1) := by decide +kernel
theorem dX9_addQuestion_34 : decode cX9_addQuestion 34 = .ok (.aload_n 0, 1) := by decide +kernel
theorem dX9_addQuestion_35 : decode cX9_addQuestion 35 = .ok (.getfield 21, 3) := by decide +kernel
theorem dX9_addQuestion_38 : decode cX9_addQuestion 38 = .ok (.iload_n 3, 1) := by decide +kernel
theorem dX9_addQuestion_39 : decode cX9_addQuestion 39 = .ok (.iconst 0, 1) := by decide +kernel
theorem dX9_addQuestion_40 : decode cX9_addQuestion 40 = .ok (.iastore, 1) := by decide +kernel
theorem dX9_addQuestion_41 : decode cX9_addQuestion 41 = .ok (.aload_n 0, 1) := by decide +kernel
theorem dX9_addQuestion_42 : decode cX9_addQuestion 42 = .ok (.getfield 24, 3) := by decide +kernel
theorem dX9_addQuestion_45 : decode cX9_addQuestion 45 = .ok (.iload_n 3, 1) := by decide +kernel
theorem dX9_addQuestion_46 : decode cX9_addQuestion 46 = .ok (.iconst 0, 1) := by decide +kernel
theorem dX9_addQuestion_47 : decode cX9_addQuestion 47 = .ok (.iastore, 1) := by decide +kernel
theorem dX9_addQuestion_48 : decode cX9_addQuestion 48 = .ok (.aload_n 0, 1) := by decide +kernel
theorem dX9_addQuestion_49 : decode cX9_addQuestion 49 = .ok (.dup, 1) := by decide +kernel
theorem dX9_addQuestion_50 : decode cX9_addQuestion 50 = .ok (.getfield 66, 3) := by decide +kernel
theorem dX9_addQuestion_53 : decode cX9_addQuestion 53 = .ok (.iconst 1, 1) := by decide +kernel
theorem dX9_addQuestion_54 : decode cX9_addQuestion 54 = .ok (.iadd, 1) := by decide +kernel
theorem dX9_addQuestion_55 : decode cX9_addQuestion 55 = .ok (.putfield 66, 3) := by decide +kernel
theorem dX9_addQuestion_58 : decode cX9_addQuestion 58 = .ok (.aload_n 0, 1) := by decide +kernel
theorem dX9_addQuestion_59 : decode cX9_addQuestion 59 = .ok (.invokevirtual 78, 3) := by decide +kernel
theorem dX9_addQuestion_62 : decode cX9_addQuestion 62 = .ok (.iload_n 3, 1) := by decide +kernel
theorem dX9_addQuestion_63 : decode cX9_addQuestion 63 = .ok (.ireturn, 1) := by decide +kernel
abbrev YX9_addQuestion : zY := (yX9_addQuestion, cX9_addQuestion, 4, (Option.some Jvm.ClassFile.FieldType.int), [])
def fX9_addQuestion (F : zFs) (v1 : Int) (v2 : Int) (D : zDa) : Option (Int × zDa) :=
  zlet ((D 1 5)) (fun x3_1 =>
    if x3_1 < 20 then
      if (0 ≤ x3_1 ∧ x3_1 < 20) then
        zlet (zwr D 2 x3_1.toNat v1) (fun D_2 =>
          zlet (zwr D_2 3 x3_1.toNat v2) (fun D_3 =>
            zlet (zwr D_3 4 x3_1.toNat 0) (fun D_4 =>
              zlet (zwr D_4 5 x3_1.toNat 0) (fun D_5 =>
                zlet (zwr D_5 6 x3_1.toNat 0) (fun D_6 =>
                  if (-2147483648 ≤ (D_6 1 5) + 1 ∧ (D_6 1 5) + 1 ≤ 2147483647) then
                    zlet (zwr D_6 1 5 ((D_6 1 5) + 1)) (fun D_7 =>
                      (fX9_pricesChanged F 1 D_7).bind (fun D_9 =>
                        some (x3_1, D_9)))
                  else none)))))
      else none
    else
      some ((-1), D))
set_option maxHeartbeats 20000000 in
theorem mX9_addQuestion {l : Launch} {E : zE} {d : Nat} {F : zFs} {n sl : Nat} (hG : zG F) (v1 : Int) (v2 : Int) {D : zDa} : ∀ r, fX9_addQuestion F  v1 v2 D = some r → zMet l E (d + 1) YX9_addQuestion [zR 1, zI v1, zI v2] (F, D, n, sl) (zcI F n sl r) := by
  intro r hr
  refine zMet_of (plainFor_of_name (by decide)) (fun _ h => (nomatch h)) (Nat.le_of_ble_eq_true rfl) ?_
  have hz : zO l E (d + 1) YX9_addQuestion 0 [(0, zR 1), (1, zI v1), (2, zI v2)] [] (F, D, n, sl) (zcI F n sl) (fX9_addQuestion F  v1 v2 D) := by
    unfold fX9_addQuestion
    refine zO_aload_n dX9_addQuestion_0 rfl (zR_P _) ?_
    refine gt9 (k := 5) (v := zI (D 1 5)) dX9_addQuestion_1 wF_X9_66 (by decide) (gk_1 hG) rfl ?_
    refine zO_letI (fun x3_1 ex3_1 => ?_)
    refine zO_istore_n dX9_addQuestion_4 (by decide) ?_
    refine zO_ls (ls' := [(0, zR 1), (1, zI v1), (2, zI v2), (3, zI x3_1)]) rfl ?_
    refine zO_iload_n dX9_addQuestion_5 rfl ?_
    refine zO_bipush dX9_addQuestion_6 (by decide) ?_
    refine zO_icmp_lt (tgt := 13) dX9_addQuestion_8 rfl (fun c8 => ?_) (fun c8 => ?_)
    · refine zO_chk (fun h1 => ?_)
      refine zO_aload_n dX9_addQuestion_13 rfl (zR_P _) ?_
      refine gt9 (k := 0) dX9_addQuestion_14 wF_X9_9 (by decide) (gk_1 hG) (zgv (c := 9) (k := 0) rfl (Or.inl ⟨_, rfl⟩) (gf_1_0 hG)) ?_
      refine zO_iload_n dX9_addQuestion_17 rfl ?_
      refine zO_iload_n dX9_addQuestion_18 rfl ?_
      refine zO_iast dX9_addQuestion_19 (gk_2 hG) (gl_in (gl_2 hG) h1) ?_
      refine zO_letD (fun D_2 eD_2 => ?_)
      refine zO_aload_n dX9_addQuestion_20 rfl (zR_P _) ?_
      refine gt9 (k := 1) dX9_addQuestion_21 wF_X9_15 (by decide) (gk_1 hG) (zgv (c := 9) (k := 1) rfl (Or.inl ⟨_, rfl⟩) (gf_1_1 hG)) ?_
      refine zO_iload_n dX9_addQuestion_24 rfl ?_
      refine zO_iload_n dX9_addQuestion_25 rfl ?_
      refine zO_iast dX9_addQuestion_26 (gk_3 hG) (gl_in (gl_3 hG) h1) ?_
      refine zO_letD (fun D_3 eD_3 => ?_)
      refine zO_aload_n dX9_addQuestion_27 rfl (zR_P _) ?_
      refine gt9 (k := 2) dX9_addQuestion_28 wF_X9_18 (by decide) (gk_1 hG) (zgv (c := 9) (k := 2) rfl (Or.inl ⟨_, rfl⟩) (gf_1_2 hG)) ?_
      refine zO_iload_n dX9_addQuestion_31 rfl ?_
      refine zO_iconst dX9_addQuestion_32 (by decide) ?_
      refine zO_iast dX9_addQuestion_33 (gk_4 hG) (gl_in (gl_4 hG) h1) ?_
      refine zO_letD (fun D_4 eD_4 => ?_)
      refine zO_aload_n dX9_addQuestion_34 rfl (zR_P _) ?_
      refine gt9 (k := 3) dX9_addQuestion_35 wF_X9_21 (by decide) (gk_1 hG) (zgv (c := 9) (k := 3) rfl (Or.inl ⟨_, rfl⟩) (gf_1_3 hG)) ?_
      refine zO_iload_n dX9_addQuestion_38 rfl ?_
      refine zO_iconst dX9_addQuestion_39 (by decide) ?_
      refine zO_iast dX9_addQuestion_40 (gk_5 hG) (gl_in (gl_5 hG) h1) ?_
      refine zO_letD (fun D_5 eD_5 => ?_)
      refine zO_aload_n dX9_addQuestion_41 rfl (zR_P _) ?_
      refine gt9 (k := 4) dX9_addQuestion_42 wF_X9_24 (by decide) (gk_1 hG) (zgv (c := 9) (k := 4) rfl (Or.inl ⟨_, rfl⟩) (gf_1_4 hG)) ?_
      refine zO_iload_n dX9_addQuestion_45 rfl ?_
      refine zO_iconst dX9_addQuestion_46 (by decide) ?_
      refine zO_iast dX9_addQuestion_47 (gk_6 hG) (gl_in (gl_6 hG) h1) ?_
      refine zO_letD (fun D_6 eD_6 => ?_)
      refine zO_chk (fun h2 => ?_)
      refine zO_aload_n dX9_addQuestion_48 rfl (zR_P _) ?_
      refine zO_dup dX9_addQuestion_49 (rfl) ?_
      refine gt9 (k := 5) (v := zI (D_6 1 5)) dX9_addQuestion_50 wF_X9_66 (by decide) (gk_1 hG) rfl ?_
      refine zO_iconst dX9_addQuestion_53 (by decide) ?_
      refine zO_iadd dX9_addQuestion_54 h2 ?_
      refine ptI9 (k := 5) (z := ((D_6 1 5) + 1)) dX9_addQuestion_55 wF_X9_66 (by decide) rfl (gk_1 hG) rfl ?_
      refine zO_letD (fun D_7 eD_7 => ?_)
      refine zO_aload_n dX9_addQuestion_58 rfl (zR_P _) ?_
      refine zO_callV (Y' := YX9_pricesChanged) (cw := zcV F n sl) (as := []) (rest := []) (na := 0) (ci := 9) rfl dX9_addQuestion_59 wC_X9_pricesChanged wN_X9 wM_X9_78 wI_X9_pricesChanged wV_X9_pricesChanged (by decide) (by decide) rfl rfl (Nat.le_of_ble_eq_true rfl) rfl (by decide) (gk_1 hG) (fun r hr => zMet_cast (Nat.add_assoc d 0 0) (mX9_pricesChanged (d := d + 0) hG 1 r hr)) ?_
      intro D_9 _
      show zO _ _ _ _ _ _ [] (F, D_9, n, sl) _ _
      refine zO_iload_n dX9_addQuestion_62 rfl ?_
      exact zO_ret (rv := some (zI x3_1)) dX9_addQuestion_63 rfl rfl rfl
    · refine zO_iconst dX9_addQuestion_11 (by decide) ?_
      exact zO_ret (rv := some (zI (-1))) dX9_addQuestion_12 rfl rfl rfl
  exact hz r hr
theorem dX9_addYear_0 : decode cX9_addYear 0 = .ok (.aload_n 0, 1) := by decide +kernel
theorem dX9_addYear_1 : decode cX9_addYear 1 = .ok (.getfield 75, 3) := by decide +kernel
theorem dX9_addYear_4 : decode cX9_addYear 4 = .ok (.bipush 40, 2) := by decide +kernel
theorem dX9_addYear_6 : decode cX9_addYear 6 = .ok (.if_icmp .ge 23, 3) := by decide +kernel
theorem dX9_addYear_9 : decode cX9_addYear 9 = .ok (.aload_n 0, 1) := by decide +kernel
theorem dX9_addYear_10 : decode cX9_addYear 10 = .ok (.getfield 57, 3) := by decide +kernel
theorem dX9_addYear_13 : decode cX9_addYear 13 = .ok (.aload_n 0, 1) := by decide +kernel
theorem dX9_addYear_14 : decode cX9_addYear 14 = .ok (.getfield 75, 3) := by decide +kernel
theorem dX9_addYear_17 : decode cX9_addYear 17 = .ok (.iload_n 1, 1) := by decide +kernel
theorem dX9_addYear_18 : decode cX9_addYear 18 = .ok (.iastore, 1) := by decide +kernel
theorem dX9_addYear_19 : decode cX9_addYear 19 = .ok (.aload_n 0, 1) := by decide +kernel
theorem dX9_addYear_20 : decode cX9_addYear 20 = .ok (.dup, 1) := by decide +kernel
theorem dX9_addYear_21 : decode cX9_addYear 21 = .ok (.getfield 75, 3) := by decide +kernel
theorem dX9_addYear_24 : decode cX9_addYear 24 = .ok (.iconst 1, 1) := by decide +kernel
theorem dX9_addYear_25 : decode cX9_addYear 25 = .ok (.iadd, 1) := by decide +kernel
theorem dX9_addYear_26 : decode cX9_addYear 26 = .ok (.putfield 75, 3) := by decide +kernel
theorem dX9_addYear_29 : decode cX9_addYear 29 = .ok (.return_, 1) := by decide +kernel
abbrev YX9_addYear : zY := (yX9_addYear, cX9_addYear, 2, none, [])
def fX9_addYear (F : zFs) (v1 : Int) (D : zDa) : Option zDa :=
  if (D 1 15) < 40 then
    if (0 ≤ (D 1 15) ∧ (D 1 15) < 40) then
      zlet (zwr D 12 (D 1 15).toNat v1) (fun D_1 =>
        if (-2147483648 ≤ (D_1 1 15) + 1 ∧ (D_1 1 15) + 1 ≤ 2147483647) then
          zlet (zwr D_1 1 15 ((D_1 1 15) + 1)) (fun D_2 =>
            some D_2)
        else none)
    else none
  else
    some D
set_option maxHeartbeats 20000000 in
theorem mX9_addYear {l : Launch} {E : zE} {d : Nat} {F : zFs} {n sl : Nat} (hG : zG F) (v1 : Int) {D : zDa} : ∀ r, fX9_addYear F  v1 D = some r → zMet l E (d + 0) YX9_addYear [zR 1, zI v1] (F, D, n, sl) (zcV F n sl r) := by
  intro r hr
  refine zMet_of (plainFor_of_name (by decide)) (fun _ h => (nomatch h)) (Nat.le_of_ble_eq_true rfl) ?_
  have hz : zO l E (d + 0) YX9_addYear 0 [(0, zR 1), (1, zI v1)] [] (F, D, n, sl) (zcV F n sl) (fX9_addYear F  v1 D) := by
    unfold fX9_addYear
    refine zO_aload_n dX9_addYear_0 rfl (zR_P _) ?_
    refine gt9 (k := 15) (v := zI (D 1 15)) dX9_addYear_1 wF_X9_75 (by decide) (gk_1 hG) rfl ?_
    refine zO_bipush dX9_addYear_4 (by decide) ?_
    refine zO_icmp_ge (tgt := 29) dX9_addYear_6 rfl (fun c6 => ?_) (fun c6 => ?_)
    · refine zO_chk (fun h1 => ?_)
      refine zO_aload_n dX9_addYear_9 rfl (zR_P _) ?_
      refine gt9 (k := 14) dX9_addYear_10 wF_X9_57 (by decide) (gk_1 hG) (zgv (c := 9) (k := 14) rfl (Or.inl ⟨_, rfl⟩) (gf_1_14 hG)) ?_
      refine zO_aload_n dX9_addYear_13 rfl (zR_P _) ?_
      refine gt9 (k := 15) (v := zI (D 1 15)) dX9_addYear_14 wF_X9_75 (by decide) (gk_1 hG) rfl ?_
      refine zO_iload_n dX9_addYear_17 rfl ?_
      refine zO_iast dX9_addYear_18 (gk_12 hG) (gl_in (gl_12 hG) h1) ?_
      refine zO_letD (fun D_1 eD_1 => ?_)
      refine zO_chk (fun h2 => ?_)
      refine zO_aload_n dX9_addYear_19 rfl (zR_P _) ?_
      refine zO_dup dX9_addYear_20 (rfl) ?_
      refine gt9 (k := 15) (v := zI (D_1 1 15)) dX9_addYear_21 wF_X9_75 (by decide) (gk_1 hG) rfl ?_
      refine zO_iconst dX9_addYear_24 (by decide) ?_
      refine zO_iadd dX9_addYear_25 h2 ?_
      refine ptI9 (k := 15) (z := ((D_1 1 15) + 1)) dX9_addYear_26 wF_X9_75 (by decide) rfl (gk_1 hG) rfl ?_
      refine zO_letD (fun D_2 eD_2 => ?_)
      exact zO_ret (rv := none) dX9_addYear_29 rfl trivial rfl
    · exact zO_ret (rv := none) dX9_addYear_29 rfl trivial rfl
  exact hz r hr
theorem dX9_inBowl_0 : decode cX9_inBowl 0 = .ok (.aload_n 0, 1) := by decide +kernel
theorem dX9_inBowl_1 : decode cX9_inBowl 1 = .ok (.iload_n 1, 1) := by decide +kernel
theorem dX9_inBowl_2 : decode cX9_inBowl 2 = .ok (.invokevirtual 87, 3) := by decide +kernel
theorem dX9_inBowl_5 : decode cX9_inBowl 5 = .ok (.ifCond .eq 16, 3) := by decide +kernel
theorem dX9_inBowl_8 : decode cX9_inBowl 8 = .ok (.aload_n 0, 1) := by decide +kernel
theorem dX9_inBowl_9 : decode cX9_inBowl 9 = .ok (.getfield 24, 3) := by decide +kernel
theorem dX9_inBowl_12 : decode cX9_inBowl 12 = .ok (.iload_n 1, 1) := by decide +kernel
theorem dX9_inBowl_13 : decode cX9_inBowl 13 = .ok (.iaload, 1) := by decide +kernel
theorem dX9_inBowl_14 : decode cX9_inBowl 14 = .ok (.ifCond .ne 7, 3) := by decide +kernel
theorem dX9_inBowl_17 : decode cX9_inBowl 17 = .ok (.iconst 1, 1) := by decide +kernel
theorem dX9_inBowl_18 : decode cX9_inBowl 18 = .ok (.goto 4, 3) := by decide +kernel
theorem dX9_inBowl_21 : decode cX9_inBowl 21 = .ok (.iconst 0, 1) := by decide +kernel
theorem dX9_inBowl_22 : decode cX9_inBowl 22 = .ok (.ireturn, 1) := by decide +kernel
abbrev YX9_inBowl : zY := (yX9_inBowl, cX9_inBowl, 2, (Option.some Jvm.ClassFile.FieldType.boolean), [])
def fX9_inBowl (F : zFs) (v1 : Int) (D : zDa) : Option (Int × zDa) :=
  (fX9_has F v1 D).bind (fun (r_1, D_2) =>
    if r_1 = 0 then
      some (0, D_2)
    else
      if (0 ≤ v1 ∧ v1 < 20) then
        if (D_2 6 v1.toNat) = 0 then
          some (1, D_2)
        else
          some (0, D_2)
      else none)
set_option maxHeartbeats 20000000 in
theorem mX9_inBowl {l : Launch} {E : zE} {d : Nat} {F : zFs} {n sl : Nat} (hG : zG F) (v1 : Int) {D : zDa} : ∀ r, fX9_inBowl F  v1 D = some r → zMet l E (d + 1) YX9_inBowl [zR 1, zI v1] (F, D, n, sl) (zcI F n sl r) := by
  intro r hr
  refine zMet_of (plainFor_of_name (by decide)) (fun _ h => (nomatch h)) (Nat.le_of_ble_eq_true rfl) ?_
  have hz : zO l E (d + 1) YX9_inBowl 0 [(0, zR 1), (1, zI v1)] [] (F, D, n, sl) (zcI F n sl) (fX9_inBowl F  v1 D) := by
    unfold fX9_inBowl
    refine zO_aload_n dX9_inBowl_0 rfl (zR_P _) ?_
    refine zO_iload_n dX9_inBowl_1 rfl ?_
    refine zO_callV (Y' := YX9_has) (cw := zcI F n sl) (as := [zI v1]) (rest := []) (na := 1) (ci := 9) rfl dX9_inBowl_2 wC_X9_has wN_X9 wM_X9_87 wI_X9_has wV_X9_has (by decide) (by decide) rfl rfl (Nat.le_of_ble_eq_true rfl) rfl (by decide) (gk_1 hG) (fun r hr => zMet_cast (Nat.add_assoc d 0 0) (mX9_has (d := d + 0) hG v1 r hr)) ?_
    rintro ⟨r_1, D_2⟩ -
    show zO _ _ _ _ _ _ [zI r_1] (F, D_2, n, sl) _ _
    refine zO_if_eq (tgt := 21) dX9_inBowl_5 rfl (fun c5 => ?_) (fun c5 => ?_)
    · refine zO_iconst dX9_inBowl_21 (by decide) ?_
      exact zO_ret (rv := some (zI 0)) dX9_inBowl_22 rfl rfl rfl
    · refine zO_chk (fun h1 => ?_)
      refine zO_aload_n dX9_inBowl_8 rfl (zR_P _) ?_
      refine gt9 (k := 4) dX9_inBowl_9 wF_X9_24 (by decide) (gk_1 hG) (zgv (c := 9) (k := 4) rfl (Or.inl ⟨_, rfl⟩) (gf_1_4 hG)) ?_
      refine zO_iload_n dX9_inBowl_12 rfl ?_
      refine zO_iald dX9_inBowl_13 (gk_6 hG) (gl_in (gl_6 hG) h1) ?_
      refine zO_if_ne (tgt := 21) dX9_inBowl_14 rfl (fun c14 => ?_) (fun c14 => ?_)
      · refine zO_iconst dX9_inBowl_17 (by decide) ?_
        refine zO_goto (tgt := 22) dX9_inBowl_18 rfl ?_
        exact zO_ret (rv := some (zI 1)) dX9_inBowl_22 rfl rfl rfl
      · refine zO_iconst dX9_inBowl_21 (by decide) ?_
        exact zO_ret (rv := some (zI 0)) dX9_inBowl_22 rfl rfl rfl
  exact hz r hr
theorem dX9_allThere_0 : decode cX9_allThere 0 = .ok (.iload_n 1, 1) := by decide +kernel
theorem dX9_allThere_1 : decode cX9_allThere 1 = .ok (.aload_n 0, 1) := by decide +kernel
theorem dX9_allThere_2 : decode cX9_allThere 2 = .ok (.getfield 66, 3) := by decide +kernel
theorem dX9_allThere_5 : decode cX9_allThere 5 = .ok (.iushr, 1) := by decide +kernel
theorem dX9_allThere_6 : decode cX9_allThere 6 = .ok (.ifCond .ne 7, 3) := by decide +kernel
theorem dX9_allThere_9 : decode cX9_allThere 9 = .ok (.iconst 1, 1) := by decide +kernel
theorem dX9_allThere_10 : decode cX9_allThere 10 = .ok (.goto 4, 3) := by decide +kernel
theorem dX9_allThere_13 : decode cX9_allThere 13 = .ok (.iconst 0, 1) := by decide +kernel
theorem dX9_allThere_14 : decode cX9_allThere 14 = .ok (.ireturn, 1) := by decide +kernel
abbrev YX9_allThere : zY := (yX9_allThere, cX9_allThere, 2, (Option.some Jvm.ClassFile.FieldType.boolean), [])
def fX9_allThere (F : zFs) (v1 : Int) (D : zDa) : Option (Int × zDa) :=
  if (zushr v1 (D 1 5)) = 0 then
    some (1, D)
  else
    some (0, D)
set_option maxHeartbeats 20000000 in
theorem mX9_allThere {l : Launch} {E : zE} {d : Nat} {F : zFs} {n sl : Nat} (hG : zG F) (v1 : Int) {D : zDa} : ∀ r, fX9_allThere F  v1 D = some r → zMet l E (d + 0) YX9_allThere [zR 1, zI v1] (F, D, n, sl) (zcI F n sl r) := by
  intro r hr
  refine zMet_of (plainFor_of_name (by decide)) (fun _ h => (nomatch h)) (Nat.le_of_ble_eq_true rfl) ?_
  have hz : zO l E (d + 0) YX9_allThere 0 [(0, zR 1), (1, zI v1)] [] (F, D, n, sl) (zcI F n sl) (fX9_allThere F  v1 D) := by
    unfold fX9_allThere
    refine zO_iload_n dX9_allThere_0 rfl ?_
    refine zO_aload_n dX9_allThere_1 rfl (zR_P _) ?_
    refine gt9 (k := 5) (v := zI (D 1 5)) dX9_allThere_2 wF_X9_66 (by decide) (gk_1 hG) rfl ?_
    refine zO_iushr dX9_allThere_5 ?_
    refine zO_if_ne (tgt := 13) dX9_allThere_6 rfl (fun c6 => ?_) (fun c6 => ?_)
    · refine zO_iconst dX9_allThere_9 (by decide) ?_
      refine zO_goto (tgt := 14) dX9_allThere_10 rfl ?_
      exact zO_ret (rv := some (zI 1)) dX9_allThere_14 rfl rfl rfl
    · refine zO_iconst dX9_allThere_13 (by decide) ?_
      exact zO_ret (rv := some (zI 0)) dX9_allThere_14 rfl rfl rfl
  exact hz r hr
theorem dX9_bowlSize_0 : decode cX9_bowlSize 0 = .ok (.iconst 0, 1) := by decide +kernel
theorem dX9_bowlSize_1 : decode cX9_bowlSize 1 = .ok (.istore_n 1, 1) := by decide +kernel
theorem dX9_bowlSize_2 : decode cX9_bowlSize 2 = .ok (.iconst 0, 1) := by decide +kernel
theorem dX9_bowlSize_3 : decode cX9_bowlSize 3 = .ok (.istore_n 2, 1) := by decide +kernel
theorem dX9_bowlSize_4 : decode cX9_bowlSize 4 = .ok (.iload_n 2, 1) := by decide +kernel
theorem dX9_bowlSize_5 : decode cX9_bowlSize 5 = .ok (.aload_n 0, 1) := by decide +kernel
theorem dX9_bowlSize_6 : decode cX9_bowlSize 6 = .ok (.getfield 66, 3) := by decide +kernel
theorem dX9_bowlSize_9 : decode cX9_bowlSize 9 = .ok (.if_icmp .ge 20, 3) := by decide +kernel
theorem dX9_bowlSize_12 : decode cX9_bowlSize 12 = .ok (.iload_n 1, 1) := by decide +kernel
theorem dX9_bowlSize_13 : decode cX9_bowlSize 13 = .ok (.iconst 1, 1) := by decide +kernel
theorem dX9_bowlSize_14 : decode cX9_bowlSize 14 = .ok (.aload_n 0, 1) := by decide +kernel
theorem dX9_bowlSize_15 : decode cX9_bowlSize 15 = .ok (.getfield 24, 3) := by decide +kernel
theorem dX9_bowlSize_18 : decode cX9_bowlSize 18 = .ok (.iload_n 2, 1) := by decide +kernel
theorem dX9_bowlSize_19 : decode cX9_bowlSize 19 = .ok (.iaload, 1) := by decide +kernel
theorem dX9_bowlSize_20 : decode cX9_bowlSize 20 = .ok (.isub, 1) := by decide +kernel
theorem dX9_bowlSize_21 : decode cX9_bowlSize 21 = .ok (.iadd, 1) := by decide +kernel
theorem dX9_bowlSize_22 : decode cX9_bowlSize 22 = .ok (.istore_n 1, 1) := by decide +kernel
theorem dX9_bowlSize_23 : decode cX9_bowlSize 23 = .ok (.iinc 2 1, 3) := by decide +kernel
theorem dX9_bowlSize_26 : decode cX9_bowlSize 26 = .ok (.goto (-22), 3) := by decide +kernel
theorem dX9_bowlSize_29 : decode cX9_bowlSize 29 = .ok (.iload_n 1, 1) := by decide +kernel
theorem dX9_bowlSize_30 : decode cX9_bowlSize 30 = .ok (.ireturn, 1) := by decide +kernel
abbrev YX9_bowlSize : zY := (yX9_bowlSize, cX9_bowlSize, 3, (Option.some Jvm.ClassFile.FieldType.int), [])
def fX9_bowlSize_4 (F : zFs)   (k_4 : Int → Int → zDa → Option (Int × zDa)) (v1 : Int) (v2 : Int) (D : zDa) : Option (Int × zDa) :=
  if v2 < (D 1 5) then
    if (0 ≤ v2 ∧ v2 < 20) ∧ (-2147483648 ≤ 1 - (D 6 v2.toNat) ∧ 1 - (D 6 v2.toNat) ≤ 2147483647) ∧ (-2147483648 ≤ v1 + (1 - (D 6 v2.toNat)) ∧ v1 + (1 - (D 6 v2.toNat)) ≤ 2147483647) then
      zlet ((v1 + (1 - (D 6 v2.toNat)))) (fun x1_1 =>
        if (-2147483648 ≤ v2 + 1 ∧ v2 + 1 ≤ 2147483647) then
          k_4 x1_1 (v2 + 1) D
        else none)
    else none
  else
    some (v1, D)
def fX9_bowlSize (F : zFs)  (D : zDa) : Option (Int × zDa) :=
  zfix (fun _ _ _ => none) (fX9_bowlSize_4 F) zfu 0 0 D
set_option maxHeartbeats 20000000 in
theorem sX9_bowlSize_4 {l : Launch} {E : zE} {d : Nat} {F : zFs} {n sl : Nat} (hG : zG F)     : ∀ (N : Nat) (v1 : Int) (v2 : Int) (D : zDa), zO l E (d + 0) YX9_bowlSize 4 [(0, zR 1), (1, zI v1), (2, zI v2)] [] (F, D, n, sl) (zcI F n sl) (zfix (fun _ _ _ => none) (fX9_bowlSize_4 F) N v1 v2 D) := by
  intro N
  induction N with
  | zero => intro v1 v2 D; exact zO_none
  | succ N hk_4 =>
    intro v1 v2 D
    show zO _ _ _ _ _ _ _ _ _ ((fX9_bowlSize_4 F) (zfix (fun _ _ _ => none) (fX9_bowlSize_4 F) N) v1 v2 D)
    unfold fX9_bowlSize_4
    refine zO_iload_n dX9_bowlSize_4 rfl ?_
    refine zO_aload_n dX9_bowlSize_5 rfl (zR_P _) ?_
    refine gt9 (k := 5) (v := zI (D 1 5)) dX9_bowlSize_6 wF_X9_66 (by decide) (gk_1 hG) rfl ?_
    refine zO_icmp_ge (tgt := 29) dX9_bowlSize_9 rfl (fun c9 => ?_) (fun c9 => ?_)
    · refine zO_chk (fun h1 => ?_)
      refine zO_iload_n dX9_bowlSize_12 rfl ?_
      refine zO_iconst dX9_bowlSize_13 (by decide) ?_
      refine zO_aload_n dX9_bowlSize_14 rfl (zR_P _) ?_
      refine gt9 (k := 4) dX9_bowlSize_15 wF_X9_24 (by decide) (gk_1 hG) (zgv (c := 9) (k := 4) rfl (Or.inl ⟨_, rfl⟩) (gf_1_4 hG)) ?_
      refine zO_iload_n dX9_bowlSize_18 rfl ?_
      refine zO_iald dX9_bowlSize_19 (gk_6 hG) (gl_in (gl_6 hG) h1.1) ?_
      refine zO_isub dX9_bowlSize_20 h1.2.1 ?_
      refine zO_iadd dX9_bowlSize_21 h1.2.2 ?_
      refine zO_letI (fun x1_1 ex1_1 => ?_)
      refine zO_istore_n dX9_bowlSize_22 (by decide) ?_
      refine zO_ls (ls' := [(0, zR 1), (1, zI x1_1), (2, zI v2)]) rfl ?_
      refine zO_chk (fun h2 => ?_)
      refine zO_iinc dX9_bowlSize_23 rfl h2 (by decide) ?_
      refine zO_ls (ls' := [(0, zR 1), (1, zI x1_1), (2, zI (v2 + 1))]) rfl ?_
      refine zO_goto (tgt := 4) dX9_bowlSize_26 rfl ?_
      refine zO_live [0, 1, 2] ?_
      exact hk_4 x1_1 (v2 + 1) D
    · refine zO_iload_n dX9_bowlSize_29 rfl ?_
      exact zO_ret (rv := some (zI v1)) dX9_bowlSize_30 rfl rfl rfl
set_option maxHeartbeats 20000000 in
theorem mX9_bowlSize {l : Launch} {E : zE} {d : Nat} {F : zFs} {n sl : Nat} (hG : zG F)  {D : zDa} : ∀ r, fX9_bowlSize F   D = some r → zMet l E (d + 0) YX9_bowlSize [zR 1] (F, D, n, sl) (zcI F n sl r) := by
  intro r hr
  refine zMet_of (plainFor_of_name (by decide)) (fun _ h => (nomatch h)) (Nat.le_of_ble_eq_true rfl) ?_
  have hz : zO l E (d + 0) YX9_bowlSize 0 [(0, zR 1)] [] (F, D, n, sl) (zcI F n sl) (fX9_bowlSize F   D) := by
    unfold fX9_bowlSize
    refine zO_iconst dX9_bowlSize_0 (by decide) ?_
    refine zO_istore_n dX9_bowlSize_1 (by decide) ?_
    refine zO_ls (ls' := [(0, zR 1), (1, zI 0)]) rfl ?_
    refine zO_iconst dX9_bowlSize_2 (by decide) ?_
    refine zO_istore_n dX9_bowlSize_3 (by decide) ?_
    refine zO_ls (ls' := [(0, zR 1), (1, zI 0), (2, zI 0)]) rfl ?_
    refine zO_live [0, 1, 2] ?_
    exact sX9_bowlSize_4 hG zfu 0 0 D
  exact hz r hr
theorem dX9_knownCount_0 : decode cX9_knownCount 0 = .ok (.iconst 0, 1) := by decide +kernel
theorem dX9_knownCount_1 : decode cX9_knownCount 1 = .ok (.istore_n 1, 1) := by decide +kernel
theorem dX9_knownCount_2 : decode cX9_knownCount 2 = .ok (.iconst 0, 1) := by decide +kernel
theorem dX9_knownCount_3 : decode cX9_knownCount 3 = .ok (.istore_n 2, 1) := by decide +kernel
theorem dX9_knownCount_4 : decode cX9_knownCount 4 = .ok (.iload_n 2, 1) := by decide +kernel
theorem dX9_knownCount_5 : decode cX9_knownCount 5 = .ok (.aload_n 0, 1) := by decide +kernel
theorem dX9_knownCount_6 : decode cX9_knownCount 6 = .ok (.getfield 66, 3) := by decide +kernel
theorem dX9_knownCount_9 : decode cX9_knownCount 9 = .ok (.if_icmp .ge 21, 3) := by decide +kernel
theorem dX9_knownCount_12 : decode cX9_knownCount 12 = .ok (.aload_n 0, 1) := by decide +kernel
theorem dX9_knownCount_13 : decode cX9_knownCount 13 = .ok (.getfield 18, 3) := by decide +kernel
theorem dX9_knownCount_16 : decode cX9_knownCount 16 = .ok (.iload_n 2, 1) := by decide +kernel
theorem dX9_knownCount_17 : decode cX9_knownCount 17 = .ok (.iaload, 1) := by decide +kernel
theorem dX9_knownCount_18 : decode cX9_knownCount 18 = .ok (.ifCond .le 6, 3) := by decide +kernel
theorem dX9_knownCount_21 : decode cX9_knownCount 21 = .ok (.iinc 1 1, 3) := by decide +kernel
theorem dX9_knownCount_24 : decode cX9_knownCount 24 = .ok (.iinc 2 1, 3) := by decide +kernel
theorem dX9_knownCount_27 : decode cX9_knownCount 27 = .ok (.goto (-23), 3) := by decide +kernel
theorem dX9_knownCount_30 : decode cX9_knownCount 30 = .ok (.iload_n 1, 1) := by decide +kernel
theorem dX9_knownCount_31 : decode cX9_knownCount 31 = .ok (.ireturn, 1) := by decide +kernel
abbrev YX9_knownCount : zY := (yX9_knownCount, cX9_knownCount, 3, (Option.some Jvm.ClassFile.FieldType.int), [])
def fX9_knownCount_24 (F : zFs) (k_4 : Int → Int → zDa → Option (Int × zDa)) (v1 : Int) (v2 : Int) (D : zDa) : Option (Int × zDa) :=
  if (-2147483648 ≤ v2 + 1 ∧ v2 + 1 ≤ 2147483647) then
    k_4 v1 (v2 + 1) D
  else none
def fX9_knownCount_4 (F : zFs)   (k_4 : Int → Int → zDa → Option (Int × zDa)) (v1 : Int) (v2 : Int) (D : zDa) : Option (Int × zDa) :=
  if v2 < (D 1 5) then
    if (0 ≤ v2 ∧ v2 < 20) then
      if 0 < (D 4 v2.toNat) then
        if (-2147483648 ≤ v1 + 1 ∧ v1 + 1 ≤ 2147483647) then
          fX9_knownCount_24 F k_4 (v1 + 1) v2 D
        else none
      else
        fX9_knownCount_24 F k_4 v1 v2 D
    else none
  else
    some (v1, D)
def fX9_knownCount (F : zFs)  (D : zDa) : Option (Int × zDa) :=
  zfix (fun _ _ _ => none) (fX9_knownCount_4 F) zfu 0 0 D
set_option maxHeartbeats 20000000 in
theorem sX9_knownCount_24 {l : Launch} {E : zE} {d : Nat} {F : zFs} {n sl : Nat} (hG : zG F)  (v1 : Int) (v2 : Int) (k_4 : Int → Int → zDa → Option (Int × zDa)) (hk_4 : ∀ (u1 : Int) (u2 : Int) (D : zDa), zO l E (d + 0) YX9_knownCount 4 [(0, zR 1), (1, zI u1), (2, zI u2)] [] (F, D, n, sl) (zcI F n sl) (k_4 u1 u2 D)) (D : zDa) : zO l E (d + 0) YX9_knownCount 24 [(0, zR 1), (1, zI v1), (2, zI v2)] [] (F, D, n, sl) (zcI F n sl) (fX9_knownCount_24 F k_4 v1 v2 D) := by
  unfold fX9_knownCount_24
  refine zO_chk (fun h3 => ?_)
  refine zO_iinc dX9_knownCount_24 rfl h3 (by decide) ?_
  refine zO_ls (ls' := [(0, zR 1), (1, zI v1), (2, zI (v2 + 1))]) rfl ?_
  refine zO_goto (tgt := 4) dX9_knownCount_27 rfl ?_
  refine zO_live [0, 1, 2] ?_
  exact hk_4 v1 (v2 + 1) D
set_option maxHeartbeats 20000000 in
theorem sX9_knownCount_4 {l : Launch} {E : zE} {d : Nat} {F : zFs} {n sl : Nat} (hG : zG F)     : ∀ (N : Nat) (v1 : Int) (v2 : Int) (D : zDa), zO l E (d + 0) YX9_knownCount 4 [(0, zR 1), (1, zI v1), (2, zI v2)] [] (F, D, n, sl) (zcI F n sl) (zfix (fun _ _ _ => none) (fX9_knownCount_4 F) N v1 v2 D) := by
  intro N
  induction N with
  | zero => intro v1 v2 D; exact zO_none
  | succ N hk_4 =>
    intro v1 v2 D
    show zO _ _ _ _ _ _ _ _ _ ((fX9_knownCount_4 F) (zfix (fun _ _ _ => none) (fX9_knownCount_4 F) N) v1 v2 D)
    unfold fX9_knownCount_4
    refine zO_iload_n dX9_knownCount_4 rfl ?_
    refine zO_aload_n dX9_knownCount_5 rfl (zR_P _) ?_
    refine gt9 (k := 5) (v := zI (D 1 5)) dX9_knownCount_6 wF_X9_66 (by decide) (gk_1 hG) rfl ?_
    refine zO_icmp_ge (tgt := 30) dX9_knownCount_9 rfl (fun c9 => ?_) (fun c9 => ?_)
    · refine zO_chk (fun h1 => ?_)
      refine zO_aload_n dX9_knownCount_12 rfl (zR_P _) ?_
      refine gt9 (k := 2) dX9_knownCount_13 wF_X9_18 (by decide) (gk_1 hG) (zgv (c := 9) (k := 2) rfl (Or.inl ⟨_, rfl⟩) (gf_1_2 hG)) ?_
      refine zO_iload_n dX9_knownCount_16 rfl ?_
      refine zO_iald dX9_knownCount_17 (gk_4 hG) (gl_in (gl_4 hG) h1) ?_
      refine zO_if_le (tgt := 24) dX9_knownCount_18 rfl (fun c18 => ?_) (fun c18 => ?_)
      · refine zO_chk (fun h2 => ?_)
        refine zO_iinc dX9_knownCount_21 rfl h2 (by decide) ?_
        refine zO_ls (ls' := [(0, zR 1), (1, zI (v1 + 1)), (2, zI v2)]) rfl ?_
        refine zO_live [0, 1, 2] ?_
        exact sX9_knownCount_24 hG (v1 + 1) v2 _ hk_4 D
      · refine zO_live [0, 1, 2] ?_
        exact sX9_knownCount_24 hG v1 v2 _ hk_4 D
    · refine zO_iload_n dX9_knownCount_30 rfl ?_
      exact zO_ret (rv := some (zI v1)) dX9_knownCount_31 rfl rfl rfl
set_option maxHeartbeats 20000000 in
theorem mX9_knownCount {l : Launch} {E : zE} {d : Nat} {F : zFs} {n sl : Nat} (hG : zG F)  {D : zDa} : ∀ r, fX9_knownCount F   D = some r → zMet l E (d + 0) YX9_knownCount [zR 1] (F, D, n, sl) (zcI F n sl r) := by
  intro r hr
  refine zMet_of (plainFor_of_name (by decide)) (fun _ h => (nomatch h)) (Nat.le_of_ble_eq_true rfl) ?_
  have hz : zO l E (d + 0) YX9_knownCount 0 [(0, zR 1)] [] (F, D, n, sl) (zcI F n sl) (fX9_knownCount F   D) := by
    unfold fX9_knownCount
    refine zO_iconst dX9_knownCount_0 (by decide) ?_
    refine zO_istore_n dX9_knownCount_1 (by decide) ?_
    refine zO_ls (ls' := [(0, zR 1), (1, zI 0)]) rfl ?_
    refine zO_iconst dX9_knownCount_2 (by decide) ?_
    refine zO_istore_n dX9_knownCount_3 (by decide) ?_
    refine zO_ls (ls' := [(0, zR 1), (1, zI 0), (2, zI 0)]) rfl ?_
    refine zO_live [0, 1, 2] ?_
    exact sX9_knownCount_4 hG zfu 0 0 D
  exact hz r hr
theorem dX9_timesDrawn_0 : decode cX9_timesDrawn 0 = .ok (.iconst 0, 1) := by decide +kernel
theorem dX9_timesDrawn_1 : decode cX9_timesDrawn 1 = .ok (.istore_n 2, 1) := by decide +kernel
theorem dX9_timesDrawn_2 : decode cX9_timesDrawn 2 = .ok (.iconst 0, 1) := by decide +kernel
theorem dX9_timesDrawn_3 : decode cX9_timesDrawn 3 = .ok (.istore_n 3, 1) := by decide +kernel
theorem dX9_timesDrawn_4 : decode cX9_timesDrawn 4 = .ok (.iload_n 3, 1) := by decide +kernel
theorem dX9_timesDrawn_5 : decode cX9_timesDrawn 5 = .ok (.aload_n 0, 1) := by decide +kernel
theorem dX9_timesDrawn_6 : decode cX9_timesDrawn 6 = .ok (.getfield 75, 3) := by decide +kernel
theorem dX9_timesDrawn_9 : decode cX9_timesDrawn 9 = .ok (.if_icmp .ge 22, 3) := by decide +kernel
theorem dX9_timesDrawn_12 : decode cX9_timesDrawn 12 = .ok (.iload_n 2, 1) := by decide +kernel
theorem dX9_timesDrawn_13 : decode cX9_timesDrawn 13 = .ok (.aload_n 0, 1) := by decide +kernel
theorem dX9_timesDrawn_14 : decode cX9_timesDrawn 14 = .ok (.getfield 57, 3) := by decide +kernel
theorem dX9_timesDrawn_17 : decode cX9_timesDrawn 17 = .ok (.iload_n 3, 1) := by decide +kernel
theorem dX9_timesDrawn_18 : decode cX9_timesDrawn 18 = .ok (.iaload, 1) := by decide +kernel
theorem dX9_timesDrawn_19 : decode cX9_timesDrawn 19 = .ok (.iload_n 1, 1) := by decide +kernel
theorem dX9_timesDrawn_20 : decode cX9_timesDrawn 20 = .ok (.iushr, 1) := by decide +kernel
theorem dX9_timesDrawn_21 : decode cX9_timesDrawn 21 = .ok (.iconst 1, 1) := by decide +kernel
theorem dX9_timesDrawn_22 : decode cX9_timesDrawn 22 = .ok (.iand, 1) := by decide +kernel
theorem dX9_timesDrawn_23 : decode cX9_timesDrawn 23 = .ok (.iadd, 1) := by decide +kernel
theorem dX9_timesDrawn_24 : decode cX9_timesDrawn 24 = .ok (.istore_n 2, 1) := by decide +kernel
theorem dX9_timesDrawn_25 : decode cX9_timesDrawn 25 = .ok (.iinc 3 1, 3) := by decide +kernel
theorem dX9_timesDrawn_28 : decode cX9_timesDrawn 28 = .ok (.goto (-24), 3) := by decide +kernel
theorem dX9_timesDrawn_31 : decode cX9_timesDrawn 31 = .ok (.iload_n 2, 1) := by decide +kernel
theorem dX9_timesDrawn_32 : decode cX9_timesDrawn 32 = .ok (.ireturn, 1) := by decide +kernel
abbrev YX9_timesDrawn : zY := (yX9_timesDrawn, cX9_timesDrawn, 4, (Option.some Jvm.ClassFile.FieldType.int), [])
def fX9_timesDrawn_4 (F : zFs) (o1 : Int)  (k_4 : Int → Int → zDa → Option (Int × zDa)) (v2 : Int) (v3 : Int) (D : zDa) : Option (Int × zDa) :=
  if v3 < (D 1 15) then
    if (0 ≤ v3 ∧ v3 < 40) ∧ (-2147483648 ≤ v2 + (zand (zushr (D 12 v3.toNat) o1) 1) ∧ v2 + (zand (zushr (D 12 v3.toNat) o1) 1) ≤ 2147483647) then
      zlet ((v2 + (zand (zushr (D 12 v3.toNat) o1) 1))) (fun x2_1 =>
        if (-2147483648 ≤ v3 + 1 ∧ v3 + 1 ≤ 2147483647) then
          k_4 x2_1 (v3 + 1) D
        else none)
    else none
  else
    some (v2, D)
def fX9_timesDrawn (F : zFs) (v1 : Int) (D : zDa) : Option (Int × zDa) :=
  zfix (fun _ _ _ => none) (fX9_timesDrawn_4 F v1) zfu 0 0 D
set_option maxHeartbeats 20000000 in
theorem sX9_timesDrawn_4 {l : Launch} {E : zE} {d : Nat} {F : zFs} {n sl : Nat} (hG : zG F)  (o1 : Int)   : ∀ (N : Nat) (v2 : Int) (v3 : Int) (D : zDa), zO l E (d + 0) YX9_timesDrawn 4 [(0, zR 1), (1, zI o1), (2, zI v2), (3, zI v3)] [] (F, D, n, sl) (zcI F n sl) (zfix (fun _ _ _ => none) (fX9_timesDrawn_4 F o1) N v2 v3 D) := by
  intro N
  induction N with
  | zero => intro v2 v3 D; exact zO_none
  | succ N hk_4 =>
    intro v2 v3 D
    show zO _ _ _ _ _ _ _ _ _ ((fX9_timesDrawn_4 F o1) (zfix (fun _ _ _ => none) (fX9_timesDrawn_4 F o1) N) v2 v3 D)
    unfold fX9_timesDrawn_4
    refine zO_iload_n dX9_timesDrawn_4 rfl ?_
    refine zO_aload_n dX9_timesDrawn_5 rfl (zR_P _) ?_
    refine gt9 (k := 15) (v := zI (D 1 15)) dX9_timesDrawn_6 wF_X9_75 (by decide) (gk_1 hG) rfl ?_
    refine zO_icmp_ge (tgt := 31) dX9_timesDrawn_9 rfl (fun c9 => ?_) (fun c9 => ?_)
    · refine zO_chk (fun h1 => ?_)
      refine zO_iload_n dX9_timesDrawn_12 rfl ?_
      refine zO_aload_n dX9_timesDrawn_13 rfl (zR_P _) ?_
      refine gt9 (k := 14) dX9_timesDrawn_14 wF_X9_57 (by decide) (gk_1 hG) (zgv (c := 9) (k := 14) rfl (Or.inl ⟨_, rfl⟩) (gf_1_14 hG)) ?_
      refine zO_iload_n dX9_timesDrawn_17 rfl ?_
      refine zO_iald dX9_timesDrawn_18 (gk_12 hG) (gl_in (gl_12 hG) h1.1) ?_
      refine zO_iload_n dX9_timesDrawn_19 rfl ?_
      refine zO_iushr dX9_timesDrawn_20 ?_
      refine zO_iconst dX9_timesDrawn_21 (by decide) ?_
      refine zO_iand dX9_timesDrawn_22 ?_
      refine zO_iadd dX9_timesDrawn_23 h1.2 ?_
      refine zO_letI (fun x2_1 ex2_1 => ?_)
      refine zO_istore_n dX9_timesDrawn_24 (by decide) ?_
      refine zO_ls (ls' := [(0, zR 1), (1, zI o1), (2, zI x2_1), (3, zI v3)]) rfl ?_
      refine zO_chk (fun h2 => ?_)
      refine zO_iinc dX9_timesDrawn_25 rfl h2 (by decide) ?_
      refine zO_ls (ls' := [(0, zR 1), (1, zI o1), (2, zI x2_1), (3, zI (v3 + 1))]) rfl ?_
      refine zO_goto (tgt := 4) dX9_timesDrawn_28 rfl ?_
      refine zO_live [0, 1, 2, 3] ?_
      exact hk_4 x2_1 (v3 + 1) D
    · refine zO_iload_n dX9_timesDrawn_31 rfl ?_
      exact zO_ret (rv := some (zI v2)) dX9_timesDrawn_32 rfl rfl rfl
set_option maxHeartbeats 20000000 in
theorem mX9_timesDrawn {l : Launch} {E : zE} {d : Nat} {F : zFs} {n sl : Nat} (hG : zG F) (v1 : Int) {D : zDa} : ∀ r, fX9_timesDrawn F  v1 D = some r → zMet l E (d + 0) YX9_timesDrawn [zR 1, zI v1] (F, D, n, sl) (zcI F n sl r) := by
  intro r hr
  refine zMet_of (plainFor_of_name (by decide)) (fun _ h => (nomatch h)) (Nat.le_of_ble_eq_true rfl) ?_
  have hz : zO l E (d + 0) YX9_timesDrawn 0 [(0, zR 1), (1, zI v1)] [] (F, D, n, sl) (zcI F n sl) (fX9_timesDrawn F  v1 D) := by
    unfold fX9_timesDrawn
    refine zO_iconst dX9_timesDrawn_0 (by decide) ?_
    refine zO_istore_n dX9_timesDrawn_1 (by decide) ?_
    refine zO_ls (ls' := [(0, zR 1), (1, zI v1), (2, zI 0)]) rfl ?_
    refine zO_iconst dX9_timesDrawn_2 (by decide) ?_
    refine zO_istore_n dX9_timesDrawn_3 (by decide) ?_
    refine zO_ls (ls' := [(0, zR 1), (1, zI v1), (2, zI 0), (3, zI 0)]) rfl ?_
    refine zO_live [0, 1, 2, 3] ?_
    exact sX9_timesDrawn_4 hG v1 zfu 0 0 D
  exact hz r hr
theorem dX9_yearsAgo_0 : decode cX9_yearsAgo 0 = .ok (.iconst 0, 1) := by decide +kernel
theorem dX9_yearsAgo_1 : decode cX9_yearsAgo 1 = .ok (.istore_n 2, 1) := by decide +kernel
theorem dX9_yearsAgo_2 : decode cX9_yearsAgo 2 = .ok (.iload_n 2, 1) := by decide +kernel
theorem dX9_yearsAgo_3 : decode cX9_yearsAgo 3 = .ok (.aload_n 0, 1) := by decide +kernel
theorem dX9_yearsAgo_4 : decode cX9_yearsAgo 4 = .ok (.getfield 75, 3) := by decide +kernel
theorem dX9_yearsAgo_7 : decode cX9_yearsAgo 7 = .ok (.if_icmp .ge 32, 3) := by decide +kernel
theorem dX9_yearsAgo_10 : decode cX9_yearsAgo 10 = .ok (.aload_n 0, 1) := by decide +kernel
theorem dX9_yearsAgo_11 : decode cX9_yearsAgo 11 = .ok (.getfield 57, 3) := by decide +kernel
theorem dX9_yearsAgo_14 : decode cX9_yearsAgo 14 = .ok (.aload_n 0, 1) := by decide +kernel
theorem dX9_yearsAgo_15 : decode cX9_yearsAgo 15 = .ok (.getfield 75, 3) := by decide +kernel
theorem dX9_yearsAgo_18 : decode cX9_yearsAgo 18 = .ok (.iconst 1, 1) := by decide +kernel
theorem dX9_yearsAgo_19 : decode cX9_yearsAgo 19 = .ok (.isub, 1) := by decide +kernel
theorem dX9_yearsAgo_20 : decode cX9_yearsAgo 20 = .ok (.iload_n 2, 1) := by decide +kernel
theorem dX9_yearsAgo_21 : decode cX9_yearsAgo 21 = .ok (.isub, 1) := by decide +kernel
theorem dX9_yearsAgo_22 : decode cX9_yearsAgo 22 = .ok (.iaload, 1) := by decide +kernel
theorem dX9_yearsAgo_23 : decode cX9_yearsAgo 23 = .ok (.iload_n 1, 1) := by decide +kernel
theorem dX9_yearsAgo_24 : decode cX9_yearsAgo 24 = .ok (.iushr, 1) := by decide +kernel
theorem dX9_yearsAgo_25 : decode cX9_yearsAgo 25 = .ok (.iconst 1, 1) := by decide +kernel
theorem dX9_yearsAgo_26 : decode cX9_yearsAgo 26 = .ok (.iand, 1) := by decide +kernel
theorem dX9_yearsAgo_27 : decode cX9_yearsAgo 27 = .ok (.iconst 1, 1) := by decide +kernel
theorem dX9_yearsAgo_28 : decode cX9_yearsAgo 28 = .ok (.if_icmp .ne 5, 3) := by decide +kernel
theorem dX9_yearsAgo_31 : decode cX9_yearsAgo 31 = .ok (.iload_n 2, 1) := by decide +kernel
theorem dX9_yearsAgo_32 : decode cX9_yearsAgo 32 = .ok (.ireturn, 1) := by decide +kernel
theorem dX9_yearsAgo_33 : decode cX9_yearsAgo 33 = .ok (.iinc 2 1, 3) := by decide +kernel
theorem dX9_yearsAgo_36 : decode cX9_yearsAgo 36 = .ok (.goto (-34), 3) := by decide +kernel
theorem dX9_yearsAgo_39 : decode cX9_yearsAgo 39 = .ok (.iconst (-1), 1) := by decide +kernel
theorem dX9_yearsAgo_40 : decode cX9_yearsAgo 40 = .ok (.ireturn, 1) := by decide +kernel
abbrev YX9_yearsAgo : zY := (yX9_yearsAgo, cX9_yearsAgo, 3, (Option.some Jvm.ClassFile.FieldType.int), [])
def fX9_yearsAgo_2 (F : zFs) (o1 : Int)  (k_2 : Int → zDa → Option (Int × zDa)) (v2 : Int) (D : zDa) : Option (Int × zDa) :=
  if v2 < (D 1 15) then
    if (-2147483648 ≤ (D 1 15) - 1 ∧ (D 1 15) - 1 ≤ 2147483647) ∧ (-2147483648 ≤ ((D 1 15) - 1) - v2 ∧ ((D 1 15) - 1) - v2 ≤ 2147483647) ∧ (0 ≤ (((D 1 15) - 1) - v2) ∧ (((D 1 15) - 1) - v2) < 40) then
      if (zand (zushr (D 12 (((D 1 15) - 1) - v2).toNat) o1) 1) = 1 then
        some (v2, D)
      else
        if (-2147483648 ≤ v2 + 1 ∧ v2 + 1 ≤ 2147483647) then
          k_2 (v2 + 1) D
        else none
    else none
  else
    some ((-1), D)
def fX9_yearsAgo (F : zFs) (v1 : Int) (D : zDa) : Option (Int × zDa) :=
  zfix (fun _ _ => none) (fX9_yearsAgo_2 F v1) zfu 0 D
set_option maxHeartbeats 20000000 in
theorem sX9_yearsAgo_2 {l : Launch} {E : zE} {d : Nat} {F : zFs} {n sl : Nat} (hG : zG F)  (o1 : Int)   : ∀ (N : Nat) (v2 : Int) (D : zDa), zO l E (d + 0) YX9_yearsAgo 2 [(0, zR 1), (1, zI o1), (2, zI v2)] [] (F, D, n, sl) (zcI F n sl) (zfix (fun _ _ => none) (fX9_yearsAgo_2 F o1) N v2 D) := by
  intro N
  induction N with
  | zero => intro v2 D; exact zO_none
  | succ N hk_2 =>
    intro v2 D
    show zO _ _ _ _ _ _ _ _ _ ((fX9_yearsAgo_2 F o1) (zfix (fun _ _ => none) (fX9_yearsAgo_2 F o1) N) v2 D)
    unfold fX9_yearsAgo_2
    refine zO_iload_n dX9_yearsAgo_2 rfl ?_
    refine zO_aload_n dX9_yearsAgo_3 rfl (zR_P _) ?_
    refine gt9 (k := 15) (v := zI (D 1 15)) dX9_yearsAgo_4 wF_X9_75 (by decide) (gk_1 hG) rfl ?_
    refine zO_icmp_ge (tgt := 39) dX9_yearsAgo_7 rfl (fun c7 => ?_) (fun c7 => ?_)
    · refine zO_chk (fun h1 => ?_)
      refine zO_aload_n dX9_yearsAgo_10 rfl (zR_P _) ?_
      refine gt9 (k := 14) dX9_yearsAgo_11 wF_X9_57 (by decide) (gk_1 hG) (zgv (c := 9) (k := 14) rfl (Or.inl ⟨_, rfl⟩) (gf_1_14 hG)) ?_
      refine zO_aload_n dX9_yearsAgo_14 rfl (zR_P _) ?_
      refine gt9 (k := 15) (v := zI (D 1 15)) dX9_yearsAgo_15 wF_X9_75 (by decide) (gk_1 hG) rfl ?_
      refine zO_iconst dX9_yearsAgo_18 (by decide) ?_
      refine zO_isub dX9_yearsAgo_19 h1.1 ?_
      refine zO_iload_n dX9_yearsAgo_20 rfl ?_
      refine zO_isub dX9_yearsAgo_21 h1.2.1 ?_
      refine zO_iald dX9_yearsAgo_22 (gk_12 hG) (gl_in (gl_12 hG) h1.2.2) ?_
      refine zO_iload_n dX9_yearsAgo_23 rfl ?_
      refine zO_iushr dX9_yearsAgo_24 ?_
      refine zO_iconst dX9_yearsAgo_25 (by decide) ?_
      refine zO_iand dX9_yearsAgo_26 ?_
      refine zO_iconst dX9_yearsAgo_27 (by decide) ?_
      refine zO_icmp_ne (tgt := 33) dX9_yearsAgo_28 rfl (fun c28 => ?_) (fun c28 => ?_)
      · refine zO_iload_n dX9_yearsAgo_31 rfl ?_
        exact zO_ret (rv := some (zI v2)) dX9_yearsAgo_32 rfl rfl rfl
      · refine zO_chk (fun h2 => ?_)
        refine zO_iinc dX9_yearsAgo_33 rfl h2 (by decide) ?_
        refine zO_ls (ls' := [(0, zR 1), (1, zI o1), (2, zI (v2 + 1))]) rfl ?_
        refine zO_goto (tgt := 2) dX9_yearsAgo_36 rfl ?_
        refine zO_live [0, 1, 2] ?_
        exact hk_2 (v2 + 1) D
    · refine zO_iconst dX9_yearsAgo_39 (by decide) ?_
      exact zO_ret (rv := some (zI (-1))) dX9_yearsAgo_40 rfl rfl rfl
set_option maxHeartbeats 20000000 in
theorem mX9_yearsAgo {l : Launch} {E : zE} {d : Nat} {F : zFs} {n sl : Nat} (hG : zG F) (v1 : Int) {D : zDa} : ∀ r, fX9_yearsAgo F  v1 D = some r → zMet l E (d + 0) YX9_yearsAgo [zR 1, zI v1] (F, D, n, sl) (zcI F n sl r) := by
  intro r hr
  refine zMet_of (plainFor_of_name (by decide)) (fun _ h => (nomatch h)) (Nat.le_of_ble_eq_true rfl) ?_
  have hz : zO l E (d + 0) YX9_yearsAgo 0 [(0, zR 1), (1, zI v1)] [] (F, D, n, sl) (zcI F n sl) (fX9_yearsAgo F  v1 D) := by
    unfold fX9_yearsAgo
    refine zO_iconst dX9_yearsAgo_0 (by decide) ?_
    refine zO_istore_n dX9_yearsAgo_1 (by decide) ?_
    refine zO_ls (ls' := [(0, zR 1), (1, zI v1), (2, zI 0)]) rfl ?_
    refine zO_live [0, 1, 2] ?_
    exact sX9_yearsAgo_2 hG v1 zfu 0 D
  exact hz r hr
theorem dX11_refuse_0 : decode cX11_refuse 0 = .ok (.aload_n 0, 1) := by decide +kernel
theorem dX11_refuse_1 : decode cX11_refuse 1 = .ok (.iload_n 1, 1) := by decide +kernel
theorem dX11_refuse_2 : decode cX11_refuse 2 = .ok (.putfield 38, 3) := by decide +kernel
theorem dX11_refuse_5 : decode cX11_refuse 5 = .ok (.iload_n 1, 1) := by decide +kernel
theorem dX11_refuse_6 : decode cX11_refuse 6 = .ok (.ineg, 1) := by decide +kernel
theorem dX11_refuse_7 : decode cX11_refuse 7 = .ok (.ifCond .le 24, 3) := by decide +kernel
theorem dX11_refuse_10 : decode cX11_refuse 10 = .ok (.iload_n 1, 1) := by decide +kernel
theorem dX11_refuse_11 : decode cX11_refuse 11 = .ok (.ineg, 1) := by decide +kernel
theorem dX11_refuse_12 : decode cX11_refuse 12 = .ok (.aload_n 0, 1) := by decide +kernel
theorem dX11_refuse_13 : decode cX11_refuse 13 = .ok (.getfield 35, 3) := by decide +kernel
theorem dX11_refuse_16 : decode cX11_refuse 16 = .ok (.arraylength, 1) := by decide +kernel
theorem dX11_refuse_17 : decode cX11_refuse 17 = .ok (.if_icmp .ge 14, 3) := by decide +kernel
theorem dX11_refuse_20 : decode cX11_refuse 20 = .ok (.aload_n 0, 1) := by decide +kernel
theorem dX11_refuse_21 : decode cX11_refuse 21 = .ok (.getfield 35, 3) := by decide +kernel
theorem dX11_refuse_24 : decode cX11_refuse 24 = .ok (.iload_n 1, 1) := by decide +kernel
theorem dX11_refuse_25 : decode cX11_refuse 25 = .ok (.ineg, 1) := by decide +kernel
theorem dX11_refuse_26 : decode cX11_refuse 26 = .ok (.dup2, 1) := by decide +kernel
theorem dX11_refuse_27 : decode cX11_refuse 27 = .ok (.iaload, 1) := by decide +kernel
theorem dX11_refuse_28 : decode cX11_refuse 28 = .ok (.iconst 1, 1) := by decide +kernel
theorem dX11_refuse_29 : decode cX11_refuse 29 = .ok (.iadd, 1) := by decide +kernel
theorem dX11_refuse_30 : decode cX11_refuse 30 = .ok (.iastore, 1) := by decide +kernel
theorem dX11_refuse_31 : decode cX11_refuse 31 = .ok (.iload_n 1, 1) := by decide +kernel
theorem dX11_refuse_32 : decode cX11_refuse 32 = .ok (.ireturn, 1) := by decide +kernel
abbrev YX11_refuse : zY := (yX11_refuse, cX11_refuse, 2, (Option.some Jvm.ClassFile.FieldType.int), [])
def fX11_refuse (F : zFs) (v1 : Int) (D : zDa) : Option (Int × zDa) :=
  zlet (zwr D 0 9 v1) (fun D_1 =>
    if (-2147483648 ≤ -v1 ∧ -v1 ≤ 2147483647) then
      if 0 < (-v1) then
        if (-v1) < 7 then
          if (0 ≤ (-v1) ∧ (-v1) < 7) ∧ (-2147483648 ≤ (D_1 41 (-v1).toNat) + 1 ∧ (D_1 41 (-v1).toNat) + 1 ≤ 2147483647) then
            zlet (zwr D_1 41 (-v1).toNat ((D_1 41 (-v1).toNat) + 1)) (fun D_2 =>
              some (v1, D_2))
          else none
        else
          some (v1, D_1)
      else
        some (v1, D_1)
    else none)
set_option maxHeartbeats 20000000 in
theorem mX11_refuse {l : Launch} {E : zE} {d : Nat} {F : zFs} {n sl : Nat} (hG : zG F) (v1 : Int) {D : zDa} : ∀ r, fX11_refuse F  v1 D = some r → zMet l E (d + 0) YX11_refuse [zR 0, zI v1] (F, D, n, sl) (zcI F n sl r) := by
  intro r hr
  refine zMet_of (plainFor_of_name (by decide)) (fun _ h => (nomatch h)) (Nat.le_of_ble_eq_true rfl) ?_
  have hz : zO l E (d + 0) YX11_refuse 0 [(0, zR 0), (1, zI v1)] [] (F, D, n, sl) (zcI F n sl) (fX11_refuse F  v1 D) := by
    unfold fX11_refuse
    refine zO_aload_n dX11_refuse_0 rfl (zR_P _) ?_
    refine zO_iload_n dX11_refuse_1 rfl ?_
    refine ptI11 (k := 9) (z := v1) dX11_refuse_2 wF_X11_38 (by decide) rfl (gk_0 hG) rfl ?_
    refine zO_letD (fun D_1 eD_1 => ?_)
    refine zO_chk (fun h1 => ?_)
    refine zO_iload_n dX11_refuse_5 rfl ?_
    refine zO_ineg dX11_refuse_6 h1 ?_
    refine zO_if_le (tgt := 31) dX11_refuse_7 rfl (fun c7 => ?_) (fun c7 => ?_)
    · refine zO_iload_n dX11_refuse_10 rfl ?_
      refine zO_ineg dX11_refuse_11 h1 ?_
      refine zO_aload_n dX11_refuse_12 rfl (zR_P _) ?_
      refine gt11 (k := 8) dX11_refuse_13 wF_X11_35 (by decide) (gk_0 hG) (zgv (c := 11) (k := 8) rfl (Or.inl ⟨_, rfl⟩) (gf_0_8 hG)) ?_
      refine zO_alen (kd := 20) dX11_refuse_16 (gk_41 hG) (by decide) ?_
      refine zO_st (st' := [zI 7, zI (-v1)]) (by rw [gl_41 hG]; rfl) ?_
      refine zO_icmp_ge (tgt := 31) dX11_refuse_17 rfl (fun c17 => ?_) (fun c17 => ?_)
      · refine zO_chk (fun h2 => ?_)
        refine zO_aload_n dX11_refuse_20 rfl (zR_P _) ?_
        refine gt11 (k := 8) dX11_refuse_21 wF_X11_35 (by decide) (gk_0 hG) (zgv (c := 11) (k := 8) rfl (Or.inl ⟨_, rfl⟩) (gf_0_8 hG)) ?_
        refine zO_iload_n dX11_refuse_24 rfl ?_
        refine zO_ineg dX11_refuse_25 h1 ?_
        refine zO_dup2a dX11_refuse_26 (rfl) (rfl) ?_
        refine zO_iald dX11_refuse_27 (gk_41 hG) (gl_in (gl_41 hG) h2.1) ?_
        refine zO_iconst dX11_refuse_28 (by decide) ?_
        refine zO_iadd dX11_refuse_29 h2.2 ?_
        refine zO_iast dX11_refuse_30 (gk_41 hG) (gl_in (gl_41 hG) h2.1) ?_
        refine zO_letD (fun D_2 eD_2 => ?_)
        refine zO_iload_n dX11_refuse_31 rfl ?_
        exact zO_ret (rv := some (zI v1)) dX11_refuse_32 rfl rfl rfl
      · refine zO_iload_n dX11_refuse_31 rfl ?_
        exact zO_ret (rv := some (zI v1)) dX11_refuse_32 rfl rfl rfl
    · refine zO_iload_n dX11_refuse_31 rfl ?_
      exact zO_ret (rv := some (zI v1)) dX11_refuse_32 rfl rfl rfl
  exact hz r hr
theorem dX11_accept_0 : decode cX11_accept 0 = .ok (.aload_n 0, 1) := by decide +kernel
theorem dX11_accept_1 : decode cX11_accept 1 = .ok (.iconst 0, 1) := by decide +kernel
theorem dX11_accept_2 : decode cX11_accept 2 = .ok (.putfield 38, 3) := by decide +kernel
theorem dX11_accept_5 : decode cX11_accept 5 = .ok (.iload_n 1, 1) := by decide +kernel
theorem dX11_accept_6 : decode cX11_accept 6 = .ok (.ireturn, 1) := by decide +kernel
abbrev YX11_accept : zY := (yX11_accept, cX11_accept, 2, (Option.some Jvm.ClassFile.FieldType.int), [])
def fX11_accept (F : zFs) (v1 : Int) (D : zDa) : Option (Int × zDa) :=
  zlet (zwr D 0 9 0) (fun D_1 =>
    some (v1, D_1))
set_option maxHeartbeats 20000000 in
theorem mX11_accept {l : Launch} {E : zE} {d : Nat} {F : zFs} {n sl : Nat} (hG : zG F) (v1 : Int) {D : zDa} : ∀ r, fX11_accept F  v1 D = some r → zMet l E (d + 0) YX11_accept [zR 0, zI v1] (F, D, n, sl) (zcI F n sl r) := by
  intro r hr
  refine zMet_of (plainFor_of_name (by decide)) (fun _ h => (nomatch h)) (Nat.le_of_ble_eq_true rfl) ?_
  have hz : zO l E (d + 0) YX11_accept 0 [(0, zR 0), (1, zI v1)] [] (F, D, n, sl) (zcI F n sl) (fX11_accept F  v1 D) := by
    unfold fX11_accept
    refine zO_aload_n dX11_accept_0 rfl (zR_P _) ?_
    refine zO_iconst dX11_accept_1 (by decide) ?_
    refine ptI11 (k := 9) (z := 0) dX11_accept_2 wF_X11_38 (by decide) rfl (gk_0 hG) rfl ?_
    refine zO_letD (fun D_1 eD_1 => ?_)
    refine zO_iload_n dX11_accept_5 rfl ?_
    exact zO_ret (rv := some (zI v1)) dX11_accept_6 rfl rfl rfl
  exact hz r hr
theorem dX11_question_0 : decode cX11_question 0 = .ok (.iload_n 1, 1) := by decide +kernel
theorem dX11_question_1 : decode cX11_question 1 = .ok (.ifCond .lt 19, 3) := by decide +kernel
theorem dX11_question_4 : decode cX11_question 4 = .ok (.iload_n 1, 1) := by decide +kernel
theorem dX11_question_5 : decode cX11_question 5 = .ok (.iconst 5, 1) := by decide +kernel
theorem dX11_question_6 : decode cX11_question 6 = .ok (.if_icmp .ge 14, 3) := by decide +kernel
theorem dX11_question_9 : decode cX11_question 9 = .ok (.iload_n 2, 1) := by decide +kernel
theorem dX11_question_10 : decode cX11_question 10 = .ok (.iconst 1, 1) := by decide +kernel
theorem dX11_question_11 : decode cX11_question 11 = .ok (.if_icmp .lt 9, 3) := by decide +kernel
theorem dX11_question_14 : decode cX11_question 14 = .ok (.iload_n 2, 1) := by decide +kernel
theorem dX11_question_15 : decode cX11_question 15 = .ok (.bipush 99, 2) := by decide +kernel
theorem dX11_question_17 : decode cX11_question 17 = .ok (.if_icmp .le 9, 3) := by decide +kernel
theorem dX11_question_20 : decode cX11_question 20 = .ok (.aload_n 0, 1) := by decide +kernel
theorem dX11_question_21 : decode cX11_question 21 = .ok (.iconst (-1), 1) := by decide +kernel
theorem dX11_question_22 : decode cX11_question 22 = .ok (.invokevirtual 112, 3) := by decide +kernel
theorem dX11_question_25 : decode cX11_question 25 = .ok (.ireturn, 1) := by decide +kernel
theorem dX11_question_26 : decode cX11_question 26 = .ok (.aload_n 0, 1) := by decide +kernel
theorem dX11_question_27 : decode cX11_question 27 = .ok (.getfield 10, 3) := by decide +kernel
theorem dX11_question_30 : decode cX11_question 30 = .ok (.getfield 116, 3) := by decide +kernel
theorem dX11_question_33 : decode cX11_question 33 = .ok (.bipush 20, 2) := by decide +kernel
theorem dX11_question_35 : decode cX11_question 35 = .ok (.if_icmp .lt 10, 3) := by decide +kernel
theorem dX11_question_38 : decode cX11_question 38 = .ok (.aload_n 0, 1) := by decide +kernel
theorem dX11_question_39 : decode cX11_question 39 = .ok (.bipush (-5), 2) := by decide +kernel
theorem dX11_question_41 : decode cX11_question 41 = .ok (.invokevirtual 112, 3) := by decide +kernel
theorem dX11_question_44 : decode cX11_question 44 = .ok (.ireturn, 1) := by decide +kernel
theorem dX11_question_45 : decode cX11_question 45 = .ok (.aload_n 0, 1) := by decide +kernel
theorem dX11_question_46 : decode cX11_question 46 = .ok (.aload_n 0, 1) := by decide +kernel
theorem dX11_question_47 : decode cX11_question 47 = .ok (.getfield 10, 3) := by decide +kernel
theorem dX11_question_50 : decode cX11_question 50 = .ok (.iload_n 1, 1) := by decide +kernel
theorem dX11_question_51 : decode cX11_question 51 = .ok (.iload_n 2, 1) := by decide +kernel
theorem dX11_question_52 : decode cX11_question 52 = .ok (.invokevirtual 119, 3) := by decide +kernel
theorem dX11_question_55 : decode cX11_question 55 = .ok (.invokevirtual 123, 3) := by decide +kernel
theorem dX11_question_58 : decode cX11_question 58 = .ok (.ireturn, 1) := by decide +kernel
abbrev YX11_question : zY := (yX11_question, cX11_question, 3, (Option.some Jvm.ClassFile.FieldType.int), [])
def fX11_question_20 (F : zFs)   (D : zDa) : Option (Int × zDa) :=
  (fX11_refuse F (-1) D).bind (fun (r_1, D_2) =>
    some (r_1, D_2))
def fX11_question (F : zFs) (v1 : Int) (v2 : Int) (D : zDa) : Option (Int × zDa) :=
  if v1 < 0 then
    fX11_question_20 F D
  else
    if v1 < 5 then
      if v2 < 1 then
        fX11_question_20 F D
      else
        if 99 < v2 then
          fX11_question_20 F D
        else
          if (D 1 5) < 20 then
            (fX9_addQuestion F v1 v2 D).bind (fun (r_3, D_4) =>
              (fX11_accept F r_3 D_4).bind (fun (r_5, D_6) =>
                some (r_5, D_6)))
          else
            (fX11_refuse F (-5) D).bind (fun (r_7, D_8) =>
              some (r_7, D_8))
    else
      fX11_question_20 F D
set_option maxHeartbeats 20000000 in
theorem sX11_question_20 {l : Launch} {E : zE} {d : Nat} {F : zFs} {n sl : Nat} (hG : zG F)     (D : zDa) : zO l E (d + 2) YX11_question 20 [(0, zR 0)] [] (F, D, n, sl) (zcI F n sl) (fX11_question_20 F D) := by
  unfold fX11_question_20
  refine zO_aload_n dX11_question_20 rfl (zR_P _) ?_
  refine zO_iconst dX11_question_21 (by decide) ?_
  refine zO_callV (Y' := YX11_refuse) (cw := zcI F n sl) (as := [zI (-1)]) (rest := []) (na := 1) (ci := 11) rfl dX11_question_22 wC_X11_refuse wN_X11 wM_X11_112 wI_X11_refuse wV_X11_refuse (by decide) (by decide) rfl rfl (Nat.le_of_ble_eq_true rfl) rfl (by decide) (gk_0 hG) (fun r hr => zMet_cast (Nat.add_assoc d 1 0) (mX11_refuse (d := d + 1) hG (-1) r hr)) ?_
  rintro ⟨r_1, D_2⟩ -
  show zO _ _ _ _ _ _ [zI r_1] (F, D_2, n, sl) _ _
  exact zO_ret (rv := some (zI r_1)) dX11_question_25 rfl rfl rfl
set_option maxHeartbeats 20000000 in
theorem mX11_question {l : Launch} {E : zE} {d : Nat} {F : zFs} {n sl : Nat} (hG : zG F) (v1 : Int) (v2 : Int) {D : zDa} : ∀ r, fX11_question F  v1 v2 D = some r → zMet l E (d + 2) YX11_question [zR 0, zI v1, zI v2] (F, D, n, sl) (zcI F n sl r) := by
  intro r hr
  refine zMet_of (plainFor_of_name (by decide)) (fun _ h => (nomatch h)) (Nat.le_of_ble_eq_true rfl) ?_
  have hz : zO l E (d + 2) YX11_question 0 [(0, zR 0), (1, zI v1), (2, zI v2)] [] (F, D, n, sl) (zcI F n sl) (fX11_question F  v1 v2 D) := by
    unfold fX11_question
    refine zO_iload_n dX11_question_0 rfl ?_
    refine zO_if_lt (tgt := 20) dX11_question_1 rfl (fun c1 => ?_) (fun c1 => ?_)
    · refine zO_live [0] ?_
      exact sX11_question_20 hG D
    · refine zO_iload_n dX11_question_4 rfl ?_
      refine zO_iconst dX11_question_5 (by decide) ?_
      refine zO_icmp_ge (tgt := 20) dX11_question_6 rfl (fun c6 => ?_) (fun c6 => ?_)
      · refine zO_iload_n dX11_question_9 rfl ?_
        refine zO_iconst dX11_question_10 (by decide) ?_
        refine zO_icmp_lt (tgt := 20) dX11_question_11 rfl (fun c11 => ?_) (fun c11 => ?_)
        · refine zO_live [0] ?_
          exact sX11_question_20 hG D
        · refine zO_iload_n dX11_question_14 rfl ?_
          refine zO_bipush dX11_question_15 (by decide) ?_
          refine zO_icmp_le (tgt := 26) dX11_question_17 rfl (fun c17 => ?_) (fun c17 => ?_)
          · refine zO_live [0] ?_
            exact sX11_question_20 hG D
          · refine zO_aload_n dX11_question_26 rfl (zR_P _) ?_
            refine gt11 (k := 0) dX11_question_27 wF_X11_10 (by decide) (gk_0 hG) (zgv (c := 11) (k := 0) rfl (Or.inr ⟨_, rfl⟩) (gf_0_0 hG)) ?_
            refine gt9 (k := 5) (v := zI (D 1 5)) dX11_question_30 wF_X11_116 (by decide) (gk_1 hG) rfl ?_
            refine zO_bipush dX11_question_33 (by decide) ?_
            refine zO_icmp_lt (tgt := 45) dX11_question_35 rfl (fun c35 => ?_) (fun c35 => ?_)
            · refine zO_aload_n dX11_question_45 rfl (zR_P _) ?_
              refine zO_aload_n dX11_question_46 rfl (zR_P _) ?_
              refine gt11 (k := 0) dX11_question_47 wF_X11_10 (by decide) (gk_0 hG) (zgv (c := 11) (k := 0) rfl (Or.inr ⟨_, rfl⟩) (gf_0_0 hG)) ?_
              refine zO_iload_n dX11_question_50 rfl ?_
              refine zO_iload_n dX11_question_51 rfl ?_
              refine zO_callV (Y' := YX9_addQuestion) (cw := zcI F n sl) (as := [zI v1, zI v2]) (rest := [zR 0]) (na := 2) (ci := 9) rfl dX11_question_52 wC_X9_addQuestion wN_X9 wM_X11_119 wI_X9_addQuestion wV_X9_addQuestion (by decide) (by decide) rfl rfl (Nat.le_of_ble_eq_true rfl) rfl (by decide) (gk_1 hG) (fun r hr => zMet_cast (Nat.add_assoc d 0 1) (mX9_addQuestion (d := d + 0) hG v1 v2 r hr)) ?_
              rintro ⟨r_3, D_4⟩ -
              show zO _ _ _ _ _ _ [zI r_3, zR 0] (F, D_4, n, sl) _ _
              refine zO_callV (Y' := YX11_accept) (cw := zcI F n sl) (as := [zI r_3]) (rest := []) (na := 1) (ci := 11) rfl dX11_question_55 wC_X11_accept wN_X11 wM_X11_123 wI_X11_accept wV_X11_accept (by decide) (by decide) rfl rfl (Nat.le_of_ble_eq_true rfl) rfl (by decide) (gk_0 hG) (fun r hr => zMet_cast (Nat.add_assoc d 1 0) (mX11_accept (d := d + 1) hG r_3 r hr)) ?_
              rintro ⟨r_5, D_6⟩ -
              show zO _ _ _ _ _ _ [zI r_5] (F, D_6, n, sl) _ _
              exact zO_ret (rv := some (zI r_5)) dX11_question_58 rfl rfl rfl
            · refine zO_aload_n dX11_question_38 rfl (zR_P _) ?_
              refine zO_bipush dX11_question_39 (by decide) ?_
              refine zO_callV (Y' := YX11_refuse) (cw := zcI F n sl) (as := [zI (-5)]) (rest := []) (na := 1) (ci := 11) rfl dX11_question_41 wC_X11_refuse wN_X11 wM_X11_112 wI_X11_refuse wV_X11_refuse (by decide) (by decide) rfl rfl (Nat.le_of_ble_eq_true rfl) rfl (by decide) (gk_0 hG) (fun r hr => zMet_cast (Nat.add_assoc d 1 0) (mX11_refuse (d := d + 1) hG (-5) r hr)) ?_
              rintro ⟨r_7, D_8⟩ -
              show zO _ _ _ _ _ _ [zI r_7] (F, D_8, n, sl) _ _
              exact zO_ret (rv := some (zI r_7)) dX11_question_44 rfl rfl rfl
      · refine zO_live [0] ?_
        exact sX11_question_20 hG D
  exact hz r hr
theorem dX11_know_0 : decode cX11_know 0 = .ok (.iload_n 2, 1) := by decide +kernel
theorem dX11_know_1 : decode cX11_know 1 = .ok (.ifCond .lt 8, 3) := by decide +kernel
theorem dX11_know_4 : decode cX11_know 4 = .ok (.iload_n 2, 1) := by decide +kernel
theorem dX11_know_5 : decode cX11_know 5 = .ok (.iconst 2, 1) := by decide +kernel
theorem dX11_know_6 : decode cX11_know 6 = .ok (.if_icmp .le 9, 3) := by decide +kernel
theorem dX11_know_9 : decode cX11_know 9 = .ok (.aload_n 0, 1) := by decide +kernel
theorem dX11_know_10 : decode cX11_know 10 = .ok (.iconst (-1), 1) := by decide +kernel
theorem dX11_know_11 : decode cX11_know 11 = .ok (.invokevirtual 112, 3) := by decide +kernel
theorem dX11_know_14 : decode cX11_know 14 = .ok (.ireturn, 1) := by decide +kernel
theorem dX11_know_15 : decode cX11_know 15 = .ok (.iload_n 2, 1) := by decide +kernel
theorem dX11_know_16 : decode cX11_know 16 = .ok (.ifCond .ne 7, 3) := by decide +kernel
theorem dX11_know_19 : decode cX11_know 19 = .ok (.iconst 2, 1) := by decide +kernel
theorem dX11_know_20 : decode cX11_know 20 = .ok (.goto 4, 3) := by decide +kernel
theorem dX11_know_23 : decode cX11_know 23 = .ok (.iconst 1, 1) := by decide +kernel
theorem dX11_know_24 : decode cX11_know 24 = .ok (.istore 4, 2) := by decide +kernel
theorem dX11_know_26 : decode cX11_know 26 = .ok (.iload_n 3, 1) := by decide +kernel
theorem dX11_know_27 : decode cX11_know 27 = .ok (.ifCond .lt 9, 3) := by decide +kernel
theorem dX11_know_30 : decode cX11_know 30 = .ok (.iload_n 3, 1) := by decide +kernel
theorem dX11_know_31 : decode cX11_know 31 = .ok (.iload 4, 2) := by decide +kernel
theorem dX11_know_33 : decode cX11_know 33 = .ok (.if_icmp .le 9, 3) := by decide +kernel
theorem dX11_know_36 : decode cX11_know 36 = .ok (.aload_n 0, 1) := by decide +kernel
theorem dX11_know_37 : decode cX11_know 37 = .ok (.iconst (-1), 1) := by decide +kernel
theorem dX11_know_38 : decode cX11_know 38 = .ok (.invokevirtual 112, 3) := by decide +kernel
theorem dX11_know_41 : decode cX11_know 41 = .ok (.ireturn, 1) := by decide +kernel
theorem dX11_know_42 : decode cX11_know 42 = .ok (.aload_n 0, 1) := by decide +kernel
theorem dX11_know_43 : decode cX11_know 43 = .ok (.getfield 10, 3) := by decide +kernel
theorem dX11_know_46 : decode cX11_know 46 = .ok (.iload_n 1, 1) := by decide +kernel
theorem dX11_know_47 : decode cX11_know 47 = .ok (.invokevirtual 126, 3) := by decide +kernel
theorem dX11_know_50 : decode cX11_know 50 = .ok (.ifCond .ne 10, 3) := by decide +kernel
theorem dX11_know_53 : decode cX11_know 53 = .ok (.aload_n 0, 1) := by decide +kernel
theorem dX11_know_54 : decode cX11_know 54 = .ok (.bipush (-2), 2) := by decide +kernel
theorem dX11_know_56 : decode cX11_know 56 = .ok (.invokevirtual 112, 3) := by decide +kernel
theorem dX11_know_59 : decode cX11_know 59 = .ok (.ireturn, 1) := by decide +kernel
theorem dX11_know_60 : decode cX11_know 60 = .ok (.iload_n 2, 1) := by decide +kernel
theorem dX11_know_61 : decode cX11_know 61 = .ok (.ifCond .ne 13, 3) := by decide +kernel
theorem dX11_know_64 : decode cX11_know 64 = .ok (.aload_n 0, 1) := by decide +kernel
theorem dX11_know_65 : decode cX11_know 65 = .ok (.getfield 10, 3) := by decide +kernel
theorem dX11_know_68 : decode cX11_know 68 = .ok (.getfield 130, 3) := by decide +kernel
theorem dX11_know_71 : decode cX11_know 71 = .ok (.goto 25, 3) := by decide +kernel
theorem dX11_know_74 : decode cX11_know 74 = .ok (.iload_n 2, 1) := by decide +kernel
theorem dX11_know_75 : decode cX11_know 75 = .ok (.iconst 1, 1) := by decide +kernel
theorem dX11_know_76 : decode cX11_know 76 = .ok (.if_icmp .ne 13, 3) := by decide +kernel
theorem dX11_know_79 : decode cX11_know 79 = .ok (.aload_n 0, 1) := by decide +kernel
theorem dX11_know_80 : decode cX11_know 80 = .ok (.getfield 10, 3) := by decide +kernel
theorem dX11_know_83 : decode cX11_know 83 = .ok (.getfield 133, 3) := by decide +kernel
theorem dX11_know_86 : decode cX11_know 86 = .ok (.goto 10, 3) := by decide +kernel
theorem dX11_know_89 : decode cX11_know 89 = .ok (.aload_n 0, 1) := by decide +kernel
theorem dX11_know_90 : decode cX11_know 90 = .ok (.getfield 10, 3) := by decide +kernel
theorem dX11_know_93 : decode cX11_know 93 = .ok (.getfield 136, 3) := by decide +kernel
theorem dX11_know_96 : decode cX11_know 96 = .ok (.astore 5, 2) := by decide +kernel
theorem dX11_know_98 : decode cX11_know 98 = .ok (.aload 5, 2) := by decide +kernel
theorem dX11_know_100 : decode cX11_know 100 = .ok (.iload_n 1, 1) := by decide +kernel
theorem dX11_know_101 : decode cX11_know 101 = .ok (.iaload, 1) := by decide +kernel
theorem dX11_know_102 : decode cX11_know 102 = .ok (.istore 6, 2) := by decide +kernel
theorem dX11_know_104 : decode cX11_know 104 = .ok (.aload 5, 2) := by decide +kernel
theorem dX11_know_106 : decode cX11_know 106 = .ok (.iload_n 1, 1) := by decide +kernel
theorem dX11_know_107 : decode cX11_know 107 = .ok (.iload_n 3, 1) := by decide +kernel
theorem dX11_know_108 : decode cX11_know 108 = .ok (.iastore, 1) := by decide +kernel
theorem dX11_know_109 : decode cX11_know 109 = .ok (.iload_n 2, 1) := by decide +kernel
theorem dX11_know_110 : decode cX11_know 110 = .ok (.ifCond .eq 10, 3) := by decide +kernel
theorem dX11_know_113 : decode cX11_know 113 = .ok (.aload_n 0, 1) := by decide +kernel
theorem dX11_know_114 : decode cX11_know 114 = .ok (.getfield 10, 3) := by decide +kernel
theorem dX11_know_117 : decode cX11_know 117 = .ok (.invokevirtual 139, 3) := by decide +kernel
theorem dX11_know_120 : decode cX11_know 120 = .ok (.aload_n 0, 1) := by decide +kernel
theorem dX11_know_121 : decode cX11_know 121 = .ok (.iload 6, 2) := by decide +kernel
theorem dX11_know_123 : decode cX11_know 123 = .ok (.invokevirtual 123, 3) := by decide +kernel
theorem dX11_know_126 : decode cX11_know 126 = .ok (.ireturn, 1) := by decide +kernel
abbrev YX11_know : zY := (yX11_know, cX11_know, 7, (Option.some Jvm.ClassFile.FieldType.int), [])
def fX11_know_9 (F : zFs)   (D : zDa) : Option (Int × zDa) :=
  (fX11_refuse F (-1) D).bind (fun (r_1, D_2) =>
    some (r_1, D_2))
def fX11_know_36 (F : zFs)   (D : zDa) : Option (Int × zDa) :=
  (fX11_refuse F (-1) D).bind (fun (r_3, D_4) =>
    some (r_3, D_4))
def fX11_know_120 (F : zFs)  (v6 : Int) (D : zDa) : Option (Int × zDa) :=
  (fX11_accept F v6 D).bind (fun (r_11, D_12) =>
    some (r_11, D_12))
def fX11_know_96 (F : zFs)  (v1 : Int) (v2 : Int) (v3 : Int) (s0 : Nat) (D : zDa) : Option (Int × zDa) :=
  if ((F s0).1 = 20) ∧ ((0 : Int) ≤ v1 ∧ (v1 : Int) < ((F s0).2.1 : Int)) then
    zlet ((D s0 v1.toNat)) (fun x6_9 =>
      zlet (zwr D s0 v1.toNat v3) (fun D_10 =>
        if v2 = 0 then
          fX11_know_120 F x6_9 D_10
        else
          (fX9_pricesChanged F 1 D_10).bind (fun D_14 =>
            fX11_know_120 F x6_9 D_14)))
  else none
def fX11_know_24 (F : zFs)  (v1 : Int) (v2 : Int) (v3 : Int) (s0 : Int) (D : zDa) : Option (Int × zDa) :=
  if v3 < 0 then
    fX11_know_36 F D
  else
    if s0 < v3 then
      fX11_know_36 F D
    else
      (fX9_has F v1 D).bind (fun (r_5, D_6) =>
        if r_5 = 0 then
          (fX11_refuse F (-2) D_6).bind (fun (r_7, D_8) =>
            some (r_7, D_8))
        else
          if v2 = 0 then
            fX11_know_96 F v1 v2 v3 4 D_6
          else
            if v2 = 1 then
              fX11_know_96 F v1 v2 v3 5 D_6
            else
              fX11_know_96 F v1 v2 v3 6 D_6)
def fX11_know (F : zFs) (v1 : Int) (v2 : Int) (v3 : Int) (D : zDa) : Option (Int × zDa) :=
  if v2 < 0 then
    fX11_know_9 F D
  else
    if 2 < v2 then
      fX11_know_9 F D
    else
      if v2 = 0 then
        fX11_know_24 F v1 v2 v3 2 D
      else
        fX11_know_24 F v1 v2 v3 1 D
set_option maxHeartbeats 20000000 in
theorem sX11_know_9 {l : Launch} {E : zE} {d : Nat} {F : zFs} {n sl : Nat} (hG : zG F)     (D : zDa) : zO l E (d + 1) YX11_know 9 [(0, zR 0)] [] (F, D, n, sl) (zcI F n sl) (fX11_know_9 F D) := by
  unfold fX11_know_9
  refine zO_aload_n dX11_know_9 rfl (zR_P _) ?_
  refine zO_iconst dX11_know_10 (by decide) ?_
  refine zO_callV (Y' := YX11_refuse) (cw := zcI F n sl) (as := [zI (-1)]) (rest := []) (na := 1) (ci := 11) rfl dX11_know_11 wC_X11_refuse wN_X11 wM_X11_112 wI_X11_refuse wV_X11_refuse (by decide) (by decide) rfl rfl (Nat.le_of_ble_eq_true rfl) rfl (by decide) (gk_0 hG) (fun r hr => zMet_cast (Nat.add_assoc d 0 0) (mX11_refuse (d := d + 0) hG (-1) r hr)) ?_
  rintro ⟨r_1, D_2⟩ -
  show zO _ _ _ _ _ _ [zI r_1] (F, D_2, n, sl) _ _
  exact zO_ret (rv := some (zI r_1)) dX11_know_14 rfl rfl rfl
set_option maxHeartbeats 20000000 in
theorem sX11_know_36 {l : Launch} {E : zE} {d : Nat} {F : zFs} {n sl : Nat} (hG : zG F)     (D : zDa) : zO l E (d + 1) YX11_know 36 [(0, zR 0)] [] (F, D, n, sl) (zcI F n sl) (fX11_know_36 F D) := by
  unfold fX11_know_36
  refine zO_aload_n dX11_know_36 rfl (zR_P _) ?_
  refine zO_iconst dX11_know_37 (by decide) ?_
  refine zO_callV (Y' := YX11_refuse) (cw := zcI F n sl) (as := [zI (-1)]) (rest := []) (na := 1) (ci := 11) rfl dX11_know_38 wC_X11_refuse wN_X11 wM_X11_112 wI_X11_refuse wV_X11_refuse (by decide) (by decide) rfl rfl (Nat.le_of_ble_eq_true rfl) rfl (by decide) (gk_0 hG) (fun r hr => zMet_cast (Nat.add_assoc d 0 0) (mX11_refuse (d := d + 0) hG (-1) r hr)) ?_
  rintro ⟨r_3, D_4⟩ -
  show zO _ _ _ _ _ _ [zI r_3] (F, D_4, n, sl) _ _
  exact zO_ret (rv := some (zI r_3)) dX11_know_41 rfl rfl rfl
set_option maxHeartbeats 20000000 in
theorem sX11_know_120 {l : Launch} {E : zE} {d : Nat} {F : zFs} {n sl : Nat} (hG : zG F)  (v6 : Int)   (D : zDa) : zO l E (d + 1) YX11_know 120 [(0, zR 0), (6, zI v6)] [] (F, D, n, sl) (zcI F n sl) (fX11_know_120 F v6 D) := by
  unfold fX11_know_120
  refine zO_aload_n dX11_know_120 rfl (zR_P _) ?_
  refine zO_iload dX11_know_121 rfl ?_
  refine zO_callV (Y' := YX11_accept) (cw := zcI F n sl) (as := [zI v6]) (rest := []) (na := 1) (ci := 11) rfl dX11_know_123 wC_X11_accept wN_X11 wM_X11_123 wI_X11_accept wV_X11_accept (by decide) (by decide) rfl rfl (Nat.le_of_ble_eq_true rfl) rfl (by decide) (gk_0 hG) (fun r hr => zMet_cast (Nat.add_assoc d 0 0) (mX11_accept (d := d + 0) hG v6 r hr)) ?_
  rintro ⟨r_11, D_12⟩ -
  show zO _ _ _ _ _ _ [zI r_11] (F, D_12, n, sl) _ _
  exact zO_ret (rv := some (zI r_11)) dX11_know_126 rfl rfl rfl
set_option maxHeartbeats 20000000 in
theorem sX11_know_96 {l : Launch} {E : zE} {d : Nat} {F : zFs} {n sl : Nat} (hG : zG F)  (v1 : Int) (v2 : Int) (v3 : Int) (s0 : Nat)   (D : zDa) : zO l E (d + 1) YX11_know 96 [(0, zR 0), (1, zI v1), (2, zI v2), (3, zI v3)] [zR s0] (F, D, n, sl) (zcI F n sl) (fX11_know_96 F v1 v2 v3 s0 D) := by
  unfold fX11_know_96
  refine zO_chk (fun h1 => ?_)
  refine zO_astore dX11_know_96 (by decide) (zR_P _) ?_
  refine zO_ls (ls' := [(0, zR 0), (1, zI v1), (2, zI v2), (3, zI v3), (5, zR s0)]) rfl ?_
  refine zO_aload dX11_know_98 rfl (zR_P _) ?_
  refine zO_iload_n dX11_know_100 rfl ?_
  refine zO_iald dX11_know_101 h1.1 h1.2 ?_
  refine zO_letI (fun x6_9 ex6_9 => ?_)
  refine zO_istore dX11_know_102 (by decide) ?_
  refine zO_ls (ls' := [(0, zR 0), (1, zI v1), (2, zI v2), (3, zI v3), (5, zR s0), (6, zI x6_9)]) rfl ?_
  refine zO_aload dX11_know_104 rfl (zR_P _) ?_
  refine zO_iload_n dX11_know_106 rfl ?_
  refine zO_iload_n dX11_know_107 rfl ?_
  refine zO_iast dX11_know_108 h1.1 h1.2 ?_
  refine zO_letD (fun D_10 eD_10 => ?_)
  refine zO_iload_n dX11_know_109 rfl ?_
  refine zO_if_eq (tgt := 120) dX11_know_110 rfl (fun c110 => ?_) (fun c110 => ?_)
  · refine zO_live [0, 6] ?_
    exact sX11_know_120 hG x6_9 D_10
  · refine zO_aload_n dX11_know_113 rfl (zR_P _) ?_
    refine gt11 (k := 0) dX11_know_114 wF_X11_10 (by decide) (gk_0 hG) (zgv (c := 11) (k := 0) rfl (Or.inr ⟨_, rfl⟩) (gf_0_0 hG)) ?_
    refine zO_callV (Y' := YX9_pricesChanged) (cw := zcV F n sl) (as := []) (rest := []) (na := 0) (ci := 9) rfl dX11_know_117 wC_X9_pricesChanged wN_X9 wM_X11_139 wI_X9_pricesChanged wV_X9_pricesChanged (by decide) (by decide) rfl rfl (Nat.le_of_ble_eq_true rfl) rfl (by decide) (gk_1 hG) (fun r hr => zMet_cast (Nat.add_assoc d 0 0) (mX9_pricesChanged (d := d + 0) hG 1 r hr)) ?_
    intro D_14 _
    show zO _ _ _ _ _ _ [] (F, D_14, n, sl) _ _
    refine zO_live [0, 6] ?_
    exact sX11_know_120 hG x6_9 D_14
set_option maxHeartbeats 20000000 in
theorem sX11_know_24 {l : Launch} {E : zE} {d : Nat} {F : zFs} {n sl : Nat} (hG : zG F)  (v1 : Int) (v2 : Int) (v3 : Int) (s0 : Int)   (D : zDa) : zO l E (d + 1) YX11_know 24 [(0, zR 0), (1, zI v1), (2, zI v2), (3, zI v3)] [zI s0] (F, D, n, sl) (zcI F n sl) (fX11_know_24 F v1 v2 v3 s0 D) := by
  unfold fX11_know_24
  refine zO_istore dX11_know_24 (by decide) ?_
  refine zO_ls (ls' := [(0, zR 0), (1, zI v1), (2, zI v2), (3, zI v3), (4, zI s0)]) rfl ?_
  refine zO_iload_n dX11_know_26 rfl ?_
  refine zO_if_lt (tgt := 36) dX11_know_27 rfl (fun c27 => ?_) (fun c27 => ?_)
  · refine zO_live [0] ?_
    exact sX11_know_36 hG D
  · refine zO_iload_n dX11_know_30 rfl ?_
    refine zO_iload dX11_know_31 rfl ?_
    refine zO_icmp_le (tgt := 42) dX11_know_33 rfl (fun c33 => ?_) (fun c33 => ?_)
    · refine zO_live [0] ?_
      exact sX11_know_36 hG D
    · refine zO_aload_n dX11_know_42 rfl (zR_P _) ?_
      refine gt11 (k := 0) dX11_know_43 wF_X11_10 (by decide) (gk_0 hG) (zgv (c := 11) (k := 0) rfl (Or.inr ⟨_, rfl⟩) (gf_0_0 hG)) ?_
      refine zO_iload_n dX11_know_46 rfl ?_
      refine zO_callV (Y' := YX9_has) (cw := zcI F n sl) (as := [zI v1]) (rest := []) (na := 1) (ci := 9) rfl dX11_know_47 wC_X9_has wN_X9 wM_X11_126 wI_X9_has wV_X9_has (by decide) (by decide) rfl rfl (Nat.le_of_ble_eq_true rfl) rfl (by decide) (gk_1 hG) (fun r hr => zMet_cast (Nat.add_assoc d 0 0) (mX9_has (d := d + 0) hG v1 r hr)) ?_
      rintro ⟨r_5, D_6⟩ -
      show zO _ _ _ _ _ _ [zI r_5] (F, D_6, n, sl) _ _
      refine zO_if_ne (tgt := 60) dX11_know_50 rfl (fun c50 => ?_) (fun c50 => ?_)
      · refine zO_aload_n dX11_know_53 rfl (zR_P _) ?_
        refine zO_bipush dX11_know_54 (by decide) ?_
        refine zO_callV (Y' := YX11_refuse) (cw := zcI F n sl) (as := [zI (-2)]) (rest := []) (na := 1) (ci := 11) rfl dX11_know_56 wC_X11_refuse wN_X11 wM_X11_112 wI_X11_refuse wV_X11_refuse (by decide) (by decide) rfl rfl (Nat.le_of_ble_eq_true rfl) rfl (by decide) (gk_0 hG) (fun r hr => zMet_cast (Nat.add_assoc d 0 0) (mX11_refuse (d := d + 0) hG (-2) r hr)) ?_
        rintro ⟨r_7, D_8⟩ -
        show zO _ _ _ _ _ _ [zI r_7] (F, D_8, n, sl) _ _
        exact zO_ret (rv := some (zI r_7)) dX11_know_59 rfl rfl rfl
      · refine zO_iload_n dX11_know_60 rfl ?_
        refine zO_if_ne (tgt := 74) dX11_know_61 rfl (fun c61 => ?_) (fun c61 => ?_)
        · refine zO_aload_n dX11_know_64 rfl (zR_P _) ?_
          refine gt11 (k := 0) dX11_know_65 wF_X11_10 (by decide) (gk_0 hG) (zgv (c := 11) (k := 0) rfl (Or.inr ⟨_, rfl⟩) (gf_0_0 hG)) ?_
          refine gt9 (k := 2) dX11_know_68 wF_X11_130 (by decide) (gk_1 hG) (zgv (c := 9) (k := 2) rfl (Or.inl ⟨_, rfl⟩) (gf_1_2 hG)) ?_
          refine zO_goto (tgt := 96) dX11_know_71 rfl ?_
          refine zO_live [0, 1, 2, 3] ?_
          exact sX11_know_96 hG v1 v2 v3 4 D_6
        · refine zO_iload_n dX11_know_74 rfl ?_
          refine zO_iconst dX11_know_75 (by decide) ?_
          refine zO_icmp_ne (tgt := 89) dX11_know_76 rfl (fun c76 => ?_) (fun c76 => ?_)
          · refine zO_aload_n dX11_know_79 rfl (zR_P _) ?_
            refine gt11 (k := 0) dX11_know_80 wF_X11_10 (by decide) (gk_0 hG) (zgv (c := 11) (k := 0) rfl (Or.inr ⟨_, rfl⟩) (gf_0_0 hG)) ?_
            refine gt9 (k := 3) dX11_know_83 wF_X11_133 (by decide) (gk_1 hG) (zgv (c := 9) (k := 3) rfl (Or.inl ⟨_, rfl⟩) (gf_1_3 hG)) ?_
            refine zO_goto (tgt := 96) dX11_know_86 rfl ?_
            refine zO_live [0, 1, 2, 3] ?_
            exact sX11_know_96 hG v1 v2 v3 5 D_6
          · refine zO_aload_n dX11_know_89 rfl (zR_P _) ?_
            refine gt11 (k := 0) dX11_know_90 wF_X11_10 (by decide) (gk_0 hG) (zgv (c := 11) (k := 0) rfl (Or.inr ⟨_, rfl⟩) (gf_0_0 hG)) ?_
            refine gt9 (k := 4) dX11_know_93 wF_X11_136 (by decide) (gk_1 hG) (zgv (c := 9) (k := 4) rfl (Or.inl ⟨_, rfl⟩) (gf_1_4 hG)) ?_
            refine zO_live [0, 1, 2, 3] ?_
            exact sX11_know_96 hG v1 v2 v3 6 D_6
set_option maxHeartbeats 20000000 in
theorem mX11_know {l : Launch} {E : zE} {d : Nat} {F : zFs} {n sl : Nat} (hG : zG F) (v1 : Int) (v2 : Int) (v3 : Int) {D : zDa} : ∀ r, fX11_know F  v1 v2 v3 D = some r → zMet l E (d + 1) YX11_know [zR 0, zI v1, zI v2, zI v3] (F, D, n, sl) (zcI F n sl r) := by
  intro r hr
  refine zMet_of (plainFor_of_name (by decide)) (fun _ h => (nomatch h)) (Nat.le_of_ble_eq_true rfl) ?_
  have hz : zO l E (d + 1) YX11_know 0 [(0, zR 0), (1, zI v1), (2, zI v2), (3, zI v3)] [] (F, D, n, sl) (zcI F n sl) (fX11_know F  v1 v2 v3 D) := by
    unfold fX11_know
    refine zO_iload_n dX11_know_0 rfl ?_
    refine zO_if_lt (tgt := 9) dX11_know_1 rfl (fun c1 => ?_) (fun c1 => ?_)
    · refine zO_live [0] ?_
      exact sX11_know_9 hG D
    · refine zO_iload_n dX11_know_4 rfl ?_
      refine zO_iconst dX11_know_5 (by decide) ?_
      refine zO_icmp_le (tgt := 15) dX11_know_6 rfl (fun c6 => ?_) (fun c6 => ?_)
      · refine zO_live [0] ?_
        exact sX11_know_9 hG D
      · refine zO_iload_n dX11_know_15 rfl ?_
        refine zO_if_ne (tgt := 23) dX11_know_16 rfl (fun c16 => ?_) (fun c16 => ?_)
        · refine zO_iconst dX11_know_19 (by decide) ?_
          refine zO_goto (tgt := 24) dX11_know_20 rfl ?_
          refine zO_live [0, 1, 2, 3] ?_
          exact sX11_know_24 hG v1 v2 v3 2 D
        · refine zO_iconst dX11_know_23 (by decide) ?_
          refine zO_live [0, 1, 2, 3] ?_
          exact sX11_know_24 hG v1 v2 v3 1 D
  exact hz r hr
theorem dX11_of_0 : decode cX11_of 0 = .ok (.aload_n 0, 1) := by decide +kernel
theorem dX11_of_1 : decode cX11_of 1 = .ok (.getfield 10, 3) := by decide +kernel
theorem dX11_of_4 : decode cX11_of 4 = .ok (.iload_n 1, 1) := by decide +kernel
theorem dX11_of_5 : decode cX11_of 5 = .ok (.invokevirtual 126, 3) := by decide +kernel
theorem dX11_of_8 : decode cX11_of 8 = .ok (.ifCond .ne 5, 3) := by decide +kernel
theorem dX11_of_11 : decode cX11_of 11 = .ok (.iconst (-1), 1) := by decide +kernel
theorem dX11_of_12 : decode cX11_of 12 = .ok (.ireturn, 1) := by decide +kernel
theorem dX11_of_13 : decode cX11_of 13 = .ok (.iload_n 2, 1) := by decide +kernel
theorem dX11_of_14 : decode cX11_of 14 = .ok (.tableswitch 84 0 4 #[34, 44, 54, 64, 74], 34) := by decide +kernel
theorem dX11_of_48 : decode cX11_of 48 = .ok (.aload_n 0, 1) := by decide +kernel
theorem dX11_of_49 : decode cX11_of 49 = .ok (.getfield 10, 3) := by decide +kernel
theorem dX11_of_52 : decode cX11_of 52 = .ok (.getfield 142, 3) := by decide +kernel
theorem dX11_of_55 : decode cX11_of 55 = .ok (.iload_n 1, 1) := by decide +kernel
theorem dX11_of_56 : decode cX11_of 56 = .ok (.iaload, 1) := by decide +kernel
theorem dX11_of_57 : decode cX11_of 57 = .ok (.ireturn, 1) := by decide +kernel
theorem dX11_of_58 : decode cX11_of 58 = .ok (.aload_n 0, 1) := by decide +kernel
theorem dX11_of_59 : decode cX11_of 59 = .ok (.getfield 10, 3) := by decide +kernel
theorem dX11_of_62 : decode cX11_of 62 = .ok (.getfield 145, 3) := by decide +kernel
theorem dX11_of_65 : decode cX11_of 65 = .ok (.iload_n 1, 1) := by decide +kernel
theorem dX11_of_66 : decode cX11_of 66 = .ok (.iaload, 1) := by decide +kernel
theorem dX11_of_67 : decode cX11_of 67 = .ok (.ireturn, 1) := by decide +kernel
theorem dX11_of_68 : decode cX11_of 68 = .ok (.aload_n 0, 1) := by decide +kernel
theorem dX11_of_69 : decode cX11_of 69 = .ok (.getfield 10, 3) := by decide +kernel
theorem dX11_of_72 : decode cX11_of 72 = .ok (.getfield 130, 3) := by decide +kernel
theorem dX11_of_75 : decode cX11_of 75 = .ok (.iload_n 1, 1) := by decide +kernel
theorem dX11_of_76 : decode cX11_of 76 = .ok (.iaload, 1) := by decide +kernel
theorem dX11_of_77 : decode cX11_of 77 = .ok (.ireturn, 1) := by decide +kernel
theorem dX11_of_78 : decode cX11_of 78 = .ok (.aload_n 0, 1) := by decide +kernel
theorem dX11_of_79 : decode cX11_of 79 = .ok (.getfield 10, 3) := by decide +kernel
theorem dX11_of_82 : decode cX11_of 82 = .ok (.getfield 133, 3) := by decide +kernel
theorem dX11_of_85 : decode cX11_of 85 = .ok (.iload_n 1, 1) := by decide +kernel
theorem dX11_of_86 : decode cX11_of 86 = .ok (.iaload, 1) := by decide +kernel
theorem dX11_of_87 : decode cX11_of 87 = .ok (.ireturn, 1) := by decide +kernel
theorem dX11_of_88 : decode cX11_of 88 = .ok (.aload_n 0, 1) := by decide +kernel
theorem dX11_of_89 : decode cX11_of 89 = .ok (.getfield 10, 3) := by decide +kernel
theorem dX11_of_92 : decode cX11_of 92 = .ok (.getfield 136, 3) := by decide +kernel
theorem dX11_of_95 : decode cX11_of 95 = .ok (.iload_n 1, 1) := by decide +kernel
theorem dX11_of_96 : decode cX11_of 96 = .ok (.iaload, 1) := by decide +kernel
theorem dX11_of_97 : decode cX11_of 97 = .ok (.ireturn, 1) := by decide +kernel
theorem dX11_of_98 : decode cX11_of 98 = .ok (.iconst (-1), 1) := by decide +kernel
theorem dX11_of_99 : decode cX11_of 99 = .ok (.ireturn, 1) := by decide +kernel
abbrev YX11_of : zY := (yX11_of, cX11_of, 3, (Option.some Jvm.ClassFile.FieldType.int), [])
def fX11_of (F : zFs) (v1 : Int) (v2 : Int) (D : zDa) : Option (Int × zDa) :=
  (fX9_has F v1 D).bind (fun (r_1, D_2) =>
    if r_1 = 0 then
      some ((-1), D_2)
    else
      if v2 = 0 then
        if (0 ≤ v1 ∧ v1 < 20) then
          some ((D_2 2 v1.toNat), D_2)
        else none
      else
        if v2 = 1 then
          if (0 ≤ v1 ∧ v1 < 20) then
            some ((D_2 3 v1.toNat), D_2)
          else none
        else
          if v2 = 2 then
            if (0 ≤ v1 ∧ v1 < 20) then
              some ((D_2 4 v1.toNat), D_2)
            else none
          else
            if v2 = 3 then
              if (0 ≤ v1 ∧ v1 < 20) then
                some ((D_2 5 v1.toNat), D_2)
              else none
            else
              if v2 = 4 then
                if (0 ≤ v1 ∧ v1 < 20) then
                  some ((D_2 6 v1.toNat), D_2)
                else none
              else
                some ((-1), D_2))
set_option maxHeartbeats 20000000 in
theorem mX11_of {l : Launch} {E : zE} {d : Nat} {F : zFs} {n sl : Nat} (hG : zG F) (v1 : Int) (v2 : Int) {D : zDa} : ∀ r, fX11_of F  v1 v2 D = some r → zMet l E (d + 1) YX11_of [zR 0, zI v1, zI v2] (F, D, n, sl) (zcI F n sl r) := by
  intro r hr
  refine zMet_of (plainFor_of_name (by decide)) (fun _ h => (nomatch h)) (Nat.le_of_ble_eq_true rfl) ?_
  have hz : zO l E (d + 1) YX11_of 0 [(0, zR 0), (1, zI v1), (2, zI v2)] [] (F, D, n, sl) (zcI F n sl) (fX11_of F  v1 v2 D) := by
    unfold fX11_of
    refine zO_aload_n dX11_of_0 rfl (zR_P _) ?_
    refine gt11 (k := 0) dX11_of_1 wF_X11_10 (by decide) (gk_0 hG) (zgv (c := 11) (k := 0) rfl (Or.inr ⟨_, rfl⟩) (gf_0_0 hG)) ?_
    refine zO_iload_n dX11_of_4 rfl ?_
    refine zO_callV (Y' := YX9_has) (cw := zcI F n sl) (as := [zI v1]) (rest := []) (na := 1) (ci := 9) rfl dX11_of_5 wC_X9_has wN_X9 wM_X11_126 wI_X9_has wV_X9_has (by decide) (by decide) rfl rfl (Nat.le_of_ble_eq_true rfl) rfl (by decide) (gk_1 hG) (fun r hr => zMet_cast (Nat.add_assoc d 0 0) (mX9_has (d := d + 0) hG v1 r hr)) ?_
    rintro ⟨r_1, D_2⟩ -
    show zO _ _ _ _ _ _ [zI r_1] (F, D_2, n, sl) _ _
    refine zO_if_ne (tgt := 13) dX11_of_8 rfl (fun c8 => ?_) (fun c8 => ?_)
    · refine zO_iconst dX11_of_11 (by decide) ?_
      exact zO_ret (rv := some (zI (-1))) dX11_of_12 rfl rfl rfl
    · refine zO_iload_n dX11_of_13 rfl ?_
      refine zO_ite (fun c14_0 => ?_) (fun c14_0 => ?_)
      · refine zO_tableIn (tgt := 48) dX11_of_14 ⟨0, c14_0, by decide, by decide, rfl⟩ rfl ?_
        refine zO_chk (fun h1 => ?_)
        refine zO_aload_n dX11_of_48 rfl (zR_P _) ?_
        refine gt11 (k := 0) dX11_of_49 wF_X11_10 (by decide) (gk_0 hG) (zgv (c := 11) (k := 0) rfl (Or.inr ⟨_, rfl⟩) (gf_0_0 hG)) ?_
        refine gt9 (k := 0) dX11_of_52 wF_X11_142 (by decide) (gk_1 hG) (zgv (c := 9) (k := 0) rfl (Or.inl ⟨_, rfl⟩) (gf_1_0 hG)) ?_
        refine zO_iload_n dX11_of_55 rfl ?_
        refine zO_iald dX11_of_56 (gk_2 hG) (gl_in (gl_2 hG) h1) ?_
        exact zO_ret (rv := some (zI (D_2 2 v1.toNat))) dX11_of_57 rfl rfl rfl
      · refine zO_ite (fun c14_1 => ?_) (fun c14_1 => ?_)
        · refine zO_tableIn (tgt := 58) dX11_of_14 ⟨1, c14_1, by decide, by decide, rfl⟩ rfl ?_
          refine zO_chk (fun h2 => ?_)
          refine zO_aload_n dX11_of_58 rfl (zR_P _) ?_
          refine gt11 (k := 0) dX11_of_59 wF_X11_10 (by decide) (gk_0 hG) (zgv (c := 11) (k := 0) rfl (Or.inr ⟨_, rfl⟩) (gf_0_0 hG)) ?_
          refine gt9 (k := 1) dX11_of_62 wF_X11_145 (by decide) (gk_1 hG) (zgv (c := 9) (k := 1) rfl (Or.inl ⟨_, rfl⟩) (gf_1_1 hG)) ?_
          refine zO_iload_n dX11_of_65 rfl ?_
          refine zO_iald dX11_of_66 (gk_3 hG) (gl_in (gl_3 hG) h2) ?_
          exact zO_ret (rv := some (zI (D_2 3 v1.toNat))) dX11_of_67 rfl rfl rfl
        · refine zO_ite (fun c14_2 => ?_) (fun c14_2 => ?_)
          · refine zO_tableIn (tgt := 68) dX11_of_14 ⟨2, c14_2, by decide, by decide, rfl⟩ rfl ?_
            refine zO_chk (fun h3 => ?_)
            refine zO_aload_n dX11_of_68 rfl (zR_P _) ?_
            refine gt11 (k := 0) dX11_of_69 wF_X11_10 (by decide) (gk_0 hG) (zgv (c := 11) (k := 0) rfl (Or.inr ⟨_, rfl⟩) (gf_0_0 hG)) ?_
            refine gt9 (k := 2) dX11_of_72 wF_X11_130 (by decide) (gk_1 hG) (zgv (c := 9) (k := 2) rfl (Or.inl ⟨_, rfl⟩) (gf_1_2 hG)) ?_
            refine zO_iload_n dX11_of_75 rfl ?_
            refine zO_iald dX11_of_76 (gk_4 hG) (gl_in (gl_4 hG) h3) ?_
            exact zO_ret (rv := some (zI (D_2 4 v1.toNat))) dX11_of_77 rfl rfl rfl
          · refine zO_ite (fun c14_3 => ?_) (fun c14_3 => ?_)
            · refine zO_tableIn (tgt := 78) dX11_of_14 ⟨3, c14_3, by decide, by decide, rfl⟩ rfl ?_
              refine zO_chk (fun h4 => ?_)
              refine zO_aload_n dX11_of_78 rfl (zR_P _) ?_
              refine gt11 (k := 0) dX11_of_79 wF_X11_10 (by decide) (gk_0 hG) (zgv (c := 11) (k := 0) rfl (Or.inr ⟨_, rfl⟩) (gf_0_0 hG)) ?_
              refine gt9 (k := 3) dX11_of_82 wF_X11_133 (by decide) (gk_1 hG) (zgv (c := 9) (k := 3) rfl (Or.inl ⟨_, rfl⟩) (gf_1_3 hG)) ?_
              refine zO_iload_n dX11_of_85 rfl ?_
              refine zO_iald dX11_of_86 (gk_5 hG) (gl_in (gl_5 hG) h4) ?_
              exact zO_ret (rv := some (zI (D_2 5 v1.toNat))) dX11_of_87 rfl rfl rfl
            · refine zO_ite (fun c14_4 => ?_) (fun c14_4 => ?_)
              · refine zO_tableIn (tgt := 88) dX11_of_14 ⟨4, c14_4, by decide, by decide, rfl⟩ rfl ?_
                refine zO_chk (fun h5 => ?_)
                refine zO_aload_n dX11_of_88 rfl (zR_P _) ?_
                refine gt11 (k := 0) dX11_of_89 wF_X11_10 (by decide) (gk_0 hG) (zgv (c := 11) (k := 0) rfl (Or.inr ⟨_, rfl⟩) (gf_0_0 hG)) ?_
                refine gt9 (k := 4) dX11_of_92 wF_X11_136 (by decide) (gk_1 hG) (zgv (c := 9) (k := 4) rfl (Or.inl ⟨_, rfl⟩) (gf_1_4 hG)) ?_
                refine zO_iload_n dX11_of_95 rfl ?_
                refine zO_iald dX11_of_96 (gk_6 hG) (gl_in (gl_6 hG) h5) ?_
                exact zO_ret (rv := some (zI (D_2 6 v1.toNat))) dX11_of_97 rfl rfl rfl
              · refine zO_tableOut (tgt := 98) dX11_of_14 (by omega) rfl ?_
                refine zO_iconst dX11_of_98 (by decide) ?_
                exact zO_ret (rv := some (zI (-1))) dX11_of_99 rfl rfl rfl
  exact hz r hr
