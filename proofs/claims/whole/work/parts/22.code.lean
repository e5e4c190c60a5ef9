/-! printed by wip/gen/emit_all.py: X2_sets X10_chanceOf X2_setChances X2_empty X2_put J7_fill_d0a16 X2_answerOne X2_answer X2_addSets X2_spread X2_passing X2_just X2_atLeast X2_lowest X2_fraction X2_millionths X3_init -/
theorem dX2_sets_0 : decode cX2_sets 0 = .ok (.iload_n 2, 1) := by decide +kernel
theorem dX2_sets_1 : decode cX2_sets 1 = .ok (.ifCond .lt 14, 3) := by decide +kernel
theorem dX2_sets_4 : decode cX2_sets 4 = .ok (.iload_n 1, 1) := by decide +kernel
theorem dX2_sets_5 : decode cX2_sets 5 = .ok (.iload_n 2, 1) := by decide +kernel
theorem dX2_sets_6 : decode cX2_sets 6 = .ok (.if_icmp .lt 9, 3) := by decide +kernel
theorem dX2_sets_9 : decode cX2_sets 9 = .ok (.iload_n 1, 1) := by decide +kernel
theorem dX2_sets_10 : decode cX2_sets 10 = .ok (.bipush 21, 2) := by decide +kernel
theorem dX2_sets_12 : decode cX2_sets 12 = .ok (.if_icmp .lt 7, 3) := by decide +kernel
theorem dX2_sets_15 : decode cX2_sets 15 = .ok (.lconst 0, 1) := by decide +kernel
theorem dX2_sets_16 : decode cX2_sets 16 = .ok (.goto 15, 3) := by decide +kernel
theorem dX2_sets_19 : decode cX2_sets 19 = .ok (.aload_n 0, 1) := by decide +kernel
theorem dX2_sets_20 : decode cX2_sets 20 = .ok (.getfield 11, 3) := by decide +kernel
theorem dX2_sets_23 : decode cX2_sets 23 = .ok (.iload_n 1, 1) := by decide +kernel
theorem dX2_sets_24 : decode cX2_sets 24 = .ok (.bipush 21, 2) := by decide +kernel
theorem dX2_sets_26 : decode cX2_sets 26 = .ok (.imul, 1) := by decide +kernel
theorem dX2_sets_27 : decode cX2_sets 27 = .ok (.iload_n 2, 1) := by decide +kernel
theorem dX2_sets_28 : decode cX2_sets 28 = .ok (.iadd, 1) := by decide +kernel
theorem dX2_sets_29 : decode cX2_sets 29 = .ok (.iaload, 1) := by decide +kernel
theorem dX2_sets_30 : decode cX2_sets 30 = .ok (.i2l, 1) := by decide +kernel
theorem dX2_sets_31 : decode cX2_sets 31 = .ok (.lreturn, 1) := by decide +kernel
abbrev YX2_sets : zY := (yX2_sets, cX2_sets, 3, (Option.some Jvm.ClassFile.FieldType.long), [])
def fX2_sets (F : zFs) (v1 : Int) (v2 : Int) (D : zDa) : Option (Int × zDa) :=
  if v2 < 0 then
    some (0, D)
  else
    if v1 < v2 then
      some (0, D)
    else
      if v1 < 21 then
        if (-2147483648 ≤ v1 * 21 ∧ v1 * 21 ≤ 2147483647) ∧ (-2147483648 ≤ (v1 * 21) + v2 ∧ (v1 * 21) + v2 ≤ 2147483647) ∧ (0 ≤ ((v1 * 21) + v2) ∧ ((v1 * 21) + v2) < 441) then
          some ((D 53 ((v1 * 21) + v2).toNat), D)
        else none
      else
        some (0, D)
set_option maxHeartbeats 20000000 in
theorem mX2_sets {l : Launch} {E : zE} {d : Nat} {F : zFs} {n sl : Nat} (hG : zG F) (v1 : Int) (v2 : Int) {D : zDa} : ∀ r, fX2_sets F  v1 v2 D = some r → zMet l E (d + 0) YX2_sets [zR 52, zI v1, zI v2] (F, D, n, sl) (zcJ F n sl r) := by
  intro r hr
  refine zMet_of (plainFor_of_name (by decide)) (fun _ h => (nomatch h)) (Nat.le_of_ble_eq_true rfl) ?_
  have hz : zO l E (d + 0) YX2_sets 0 [(0, zR 52), (1, zI v1), (2, zI v2)] [] (F, D, n, sl) (zcJ F n sl) (fX2_sets F  v1 v2 D) := by
    unfold fX2_sets
    refine zO_iload_n dX2_sets_0 rfl ?_
    refine zO_if_lt (tgt := 15) dX2_sets_1 rfl (fun c1 => ?_) (fun c1 => ?_)
    · refine zO_lconst dX2_sets_15 ?_
      refine zO_goto (tgt := 31) dX2_sets_16 rfl ?_
      exact zO_ret (rv := some (zL 0)) dX2_sets_31 rfl trivial rfl
    · refine zO_iload_n dX2_sets_4 rfl ?_
      refine zO_iload_n dX2_sets_5 rfl ?_
      refine zO_icmp_lt (tgt := 15) dX2_sets_6 rfl (fun c6 => ?_) (fun c6 => ?_)
      · refine zO_lconst dX2_sets_15 ?_
        refine zO_goto (tgt := 31) dX2_sets_16 rfl ?_
        exact zO_ret (rv := some (zL 0)) dX2_sets_31 rfl trivial rfl
      · refine zO_iload_n dX2_sets_9 rfl ?_
        refine zO_bipush dX2_sets_10 (by decide) ?_
        refine zO_icmp_lt (tgt := 19) dX2_sets_12 rfl (fun c12 => ?_) (fun c12 => ?_)
        · refine zO_chk (fun h1 => ?_)
          refine zO_aload_n dX2_sets_19 rfl (zR_P _) ?_
          refine gt2 (k := 0) dX2_sets_20 wF_X2_11 (by decide) (gk_52 hG) (zgv (c := 2) (k := 0) rfl (Or.inl ⟨_, rfl⟩) (gf_52_0 hG)) ?_
          refine zO_iload_n dX2_sets_23 rfl ?_
          refine zO_bipush dX2_sets_24 (by decide) ?_
          refine zO_imul dX2_sets_26 h1.1 ?_
          refine zO_iload_n dX2_sets_27 rfl ?_
          refine zO_iadd dX2_sets_28 h1.2.1 ?_
          refine zO_iald dX2_sets_29 (gk_53 hG) (gl_in (gl_53 hG) h1.2.2) ?_
          refine zO_i2l dX2_sets_30 ?_
          exact zO_ret (rv := some (zL (D 53 ((v1 * 21) + v2).toNat))) dX2_sets_31 rfl trivial rfl
        · refine zO_lconst dX2_sets_15 ?_
          refine zO_goto (tgt := 31) dX2_sets_16 rfl ?_
          exact zO_ret (rv := some (zL 0)) dX2_sets_31 rfl trivial rfl
  exact hz r hr
theorem dX10_chanceOf_0 : decode cX10_chanceOf 0 = .ok (.aload_n 0, 1) := by decide +kernel
theorem dX10_chanceOf_1 : decode cX10_chanceOf 1 = .ok (.iconst (-1), 1) := by decide +kernel
theorem dX10_chanceOf_2 : decode cX10_chanceOf 2 = .ok (.iload_n 1, 1) := by decide +kernel
theorem dX10_chanceOf_3 : decode cX10_chanceOf 3 = .ok (.invokevirtual 25, 3) := by decide +kernel
theorem dX10_chanceOf_6 : decode cX10_chanceOf 6 = .ok (.aload_n 0, 1) := by decide +kernel
theorem dX10_chanceOf_7 : decode cX10_chanceOf 7 = .ok (.iconst 2, 1) := by decide +kernel
theorem dX10_chanceOf_8 : decode cX10_chanceOf 8 = .ok (.bipush 50, 2) := by decide +kernel
theorem dX10_chanceOf_10 : decode cX10_chanceOf 10 = .ok (.iload_n 1, 1) := by decide +kernel
theorem dX10_chanceOf_11 : decode cX10_chanceOf 11 = .ok (.imul, 1) := by decide +kernel
theorem dX10_chanceOf_12 : decode cX10_chanceOf 12 = .ok (.iconst 0, 1) := by decide +kernel
theorem dX10_chanceOf_13 : decode cX10_chanceOf 13 = .ok (.bipush 100, 2) := by decide +kernel
theorem dX10_chanceOf_15 : decode cX10_chanceOf 15 = .ok (.invokevirtual 29, 3) := by decide +kernel
theorem dX10_chanceOf_18 : decode cX10_chanceOf 18 = .ok (.ireturn, 1) := by decide +kernel
abbrev YX10_chanceOf : zY := (yX10_chanceOf, cX10_chanceOf, 2, (Option.some Jvm.ClassFile.FieldType.int), [])
def fX10_chanceOf (F : zFs) (v1 : Int) (D : zDa) : Option (Int × zDa) :=
  (fX10_ask F (-1) v1 D).bind (fun D_2 =>
    if (-2147483648 ≤ 50 * v1 ∧ 50 * v1 ≤ 2147483647) then
      (fX10_told F 2 (50 * v1) 0 100 D_2).bind (fun (r_3, D_4) =>
        some (r_3, D_4))
    else none)
set_option maxHeartbeats 20000000 in
theorem mX10_chanceOf {l : Launch} {E : zE} {d : Nat} {F : zFs} {n sl : Nat} (hG : zG F) (v1 : Int) {D : zDa} : ∀ r, fX10_chanceOf F  v1 D = some r → zMet l E (d + 3) YX10_chanceOf [zR 49, zI v1] (F, D, n, sl) (zcI F n sl r) := by
  intro r hr
  refine zMet_of (plainFor_of_name (by decide)) (fun _ h => (nomatch h)) (Nat.le_of_ble_eq_true rfl) ?_
  have hz : zO l E (d + 3) YX10_chanceOf 0 [(0, zR 49), (1, zI v1)] [] (F, D, n, sl) (zcI F n sl) (fX10_chanceOf F  v1 D) := by
    unfold fX10_chanceOf
    refine zO_aload_n dX10_chanceOf_0 rfl (zR_P _) ?_
    refine zO_iconst dX10_chanceOf_1 (by decide) ?_
    refine zO_iload_n dX10_chanceOf_2 rfl ?_
    refine zO_callV (Y' := YX10_ask) (cw := zcV F n sl) (as := [zI (-1), zI v1]) (rest := []) (na := 2) (ci := 10) rfl dX10_chanceOf_3 wC_X10_ask wN_X10 wM_X10_25 wI_X10_ask wV_X10_ask (by decide) (by decide) rfl rfl (Nat.le_of_ble_eq_true rfl) rfl (by decide) (gk_49 hG) (fun r hr => zMet_cast (Nat.add_assoc d 1 1) (mX10_ask (d := d + 1) hG (-1) v1 r hr)) ?_
    intro D_2 _
    show zO _ _ _ _ _ _ [] (F, D_2, n, sl) _ _
    refine zO_chk (fun h1 => ?_)
    refine zO_aload_n dX10_chanceOf_6 rfl (zR_P _) ?_
    refine zO_iconst dX10_chanceOf_7 (by decide) ?_
    refine zO_bipush dX10_chanceOf_8 (by decide) ?_
    refine zO_iload_n dX10_chanceOf_10 rfl ?_
    refine zO_imul dX10_chanceOf_11 h1 ?_
    refine zO_iconst dX10_chanceOf_12 (by decide) ?_
    refine zO_bipush dX10_chanceOf_13 (by decide) ?_
    refine zO_callV (Y' := YX10_told) (cw := zcI F n sl) (as := [zI 2, zI (50 * v1), zI 0, zI 100]) (rest := []) (na := 4) (ci := 10) rfl dX10_chanceOf_15 wC_X10_told wN_X10 wM_X10_29 wI_X10_told wV_X10_told (by decide) (by decide) rfl rfl (Nat.le_of_ble_eq_true rfl) rfl (by decide) (gk_49 hG) (fun r hr => zMet_cast (Nat.add_assoc d 0 2) (mX10_told (d := d + 0) hG 2 (50 * v1) 0 100 r hr)) ?_
    rintro ⟨r_3, D_4⟩ -
    show zO _ _ _ _ _ _ [zI r_3] (F, D_4, n, sl) _ _
    exact zO_ret (rv := some (zI r_3)) dX10_chanceOf_18 rfl rfl rfl
  exact hz r hr
theorem dX2_setChances_0 : decode cX2_setChances 0 = .ok (.iconst 0, 1) := by decide +kernel
theorem dX2_setChances_1 : decode cX2_setChances 1 = .ok (.istore_n 2, 1) := by decide +kernel
theorem dX2_setChances_2 : decode cX2_setChances 2 = .ok (.iload_n 2, 1) := by decide +kernel
theorem dX2_setChances_3 : decode cX2_setChances 3 = .ok (.iconst 3, 1) := by decide +kernel
theorem dX2_setChances_4 : decode cX2_setChances 4 = .ok (.if_icmp .ge 75, 3) := by decide +kernel
theorem dX2_setChances_7 : decode cX2_setChances 7 = .ok (.aload_n 0, 1) := by decide +kernel
theorem dX2_setChances_8 : decode cX2_setChances 8 = .ok (.getfield 15, 3) := by decide +kernel
theorem dX2_setChances_11 : decode cX2_setChances 11 = .ok (.iload_n 2, 1) := by decide +kernel
theorem dX2_setChances_12 : decode cX2_setChances 12 = .ok (.aload_n 1, 1) := by decide +kernel
theorem dX2_setChances_13 : decode cX2_setChances 13 = .ok (.iload_n 2, 1) := by decide +kernel
theorem dX2_setChances_14 : decode cX2_setChances 14 = .ok (.invokevirtual 38, 3) := by decide +kernel
theorem dX2_setChances_17 : decode cX2_setChances 17 = .ok (.iastore, 1) := by decide +kernel
theorem dX2_setChances_18 : decode cX2_setChances 18 = .ok (.iload_n 2, 1) := by decide +kernel
theorem dX2_setChances_19 : decode cX2_setChances 19 = .ok (.istore_n 3, 1) := by decide +kernel
theorem dX2_setChances_20 : decode cX2_setChances 20 = .ok (.iload_n 3, 1) := by decide +kernel
theorem dX2_setChances_21 : decode cX2_setChances 21 = .ok (.ifCond .le 45, 3) := by decide +kernel
theorem dX2_setChances_24 : decode cX2_setChances 24 = .ok (.aload_n 0, 1) := by decide +kernel
theorem dX2_setChances_25 : decode cX2_setChances 25 = .ok (.getfield 15, 3) := by decide +kernel
theorem dX2_setChances_28 : decode cX2_setChances 28 = .ok (.aload_n 0, 1) := by decide +kernel
theorem dX2_setChances_29 : decode cX2_setChances 29 = .ok (.getfield 18, 3) := by decide +kernel
theorem dX2_setChances_32 : decode cX2_setChances 32 = .ok (.iload_n 3, 1) := by decide +kernel
theorem dX2_setChances_33 : decode cX2_setChances 33 = .ok (.iconst 1, 1) := by decide +kernel
theorem dX2_setChances_34 : decode cX2_setChances 34 = .ok (.isub, 1) := by decide +kernel
theorem dX2_setChances_35 : decode cX2_setChances 35 = .ok (.iaload, 1) := by decide +kernel
theorem dX2_setChances_36 : decode cX2_setChances 36 = .ok (.iaload, 1) := by decide +kernel
theorem dX2_setChances_37 : decode cX2_setChances 37 = .ok (.aload_n 0, 1) := by decide +kernel
theorem dX2_setChances_38 : decode cX2_setChances 38 = .ok (.getfield 15, 3) := by decide +kernel
theorem dX2_setChances_41 : decode cX2_setChances 41 = .ok (.iload_n 2, 1) := by decide +kernel
theorem dX2_setChances_42 : decode cX2_setChances 42 = .ok (.iaload, 1) := by decide +kernel
theorem dX2_setChances_43 : decode cX2_setChances 43 = .ok (.if_icmp .ge 23, 3) := by decide +kernel
theorem dX2_setChances_46 : decode cX2_setChances 46 = .ok (.aload_n 0, 1) := by decide +kernel
theorem dX2_setChances_47 : decode cX2_setChances 47 = .ok (.getfield 18, 3) := by decide +kernel
theorem dX2_setChances_50 : decode cX2_setChances 50 = .ok (.iload_n 3, 1) := by decide +kernel
theorem dX2_setChances_51 : decode cX2_setChances 51 = .ok (.aload_n 0, 1) := by decide +kernel
theorem dX2_setChances_52 : decode cX2_setChances 52 = .ok (.getfield 18, 3) := by decide +kernel
theorem dX2_setChances_55 : decode cX2_setChances 55 = .ok (.iload_n 3, 1) := by decide +kernel
theorem dX2_setChances_56 : decode cX2_setChances 56 = .ok (.iconst 1, 1) := by decide +kernel
theorem dX2_setChances_57 : decode cX2_setChances 57 = .ok (.isub, 1) := by decide +kernel
theorem dX2_setChances_58 : decode cX2_setChances 58 = .ok (.iaload, 1) := by decide +kernel
theorem dX2_setChances_59 : decode cX2_setChances 59 = .ok (.iastore, 1) := by decide +kernel
theorem dX2_setChances_60 : decode cX2_setChances 60 = .ok (.iinc 3 (-1), 3) := by decide +kernel
theorem dX2_setChances_63 : decode cX2_setChances 63 = .ok (.goto (-43), 3) := by decide +kernel
theorem dX2_setChances_66 : decode cX2_setChances 66 = .ok (.aload_n 0, 1) := by decide +kernel
theorem dX2_setChances_67 : decode cX2_setChances 67 = .ok (.getfield 18, 3) := by decide +kernel
theorem dX2_setChances_70 : decode cX2_setChances 70 = .ok (.iload_n 3, 1) := by decide +kernel
theorem dX2_setChances_71 : decode cX2_setChances 71 = .ok (.iload_n 2, 1) := by decide +kernel
theorem dX2_setChances_72 : decode cX2_setChances 72 = .ok (.iastore, 1) := by decide +kernel
theorem dX2_setChances_73 : decode cX2_setChances 73 = .ok (.iinc 2 1, 3) := by decide +kernel
theorem dX2_setChances_76 : decode cX2_setChances 76 = .ok (.goto (-74), 3) := by decide +kernel
theorem dX2_setChances_79 : decode cX2_setChances 79 = .ok (.return_, 1) := by decide +kernel
abbrev YX2_setChances : zY := (yX2_setChances, cX2_setChances, 4, none, [])
def fX2_setChances_66 (F : zFs) (k_2 : Int → zDa → Option zDa) (o2 : Int) (v3 : Int) (D : zDa) : Option zDa :=
  if (0 ≤ v3 ∧ v3 < 3) then
    zlet (zwr D 55 v3.toNat o2) (fun D_5 =>
      if (-2147483648 ≤ o2 + 1 ∧ o2 + 1 ≤ 2147483647) then
        k_2 (o2 + 1) D_5
      else none)
  else none
def fX2_setChances_20 (F : zFs) (o2 : Int) (k_2 : Int → zDa → Option zDa) (k_20 : Int → zDa → Option zDa) (v3 : Int) (D : zDa) : Option zDa :=
  if 0 < v3 then
    if (-2147483648 ≤ v3 - 1 ∧ v3 - 1 ≤ 2147483647) ∧ (0 ≤ (v3 - 1) ∧ (v3 - 1) < 3) ∧ (0 ≤ (D 55 (v3 - 1).toNat) ∧ (D 55 (v3 - 1).toNat) < 3) ∧ (0 ≤ o2 ∧ o2 < 3) then
      if (D 54 (D 55 (v3 - 1).toNat).toNat) < (D 54 o2.toNat) then
        if (0 ≤ v3 ∧ v3 < 3) then
          zlet (zwr D 55 v3.toNat (D 55 (v3 - 1).toNat)) (fun D_4 =>
            if (-2147483648 ≤ v3 + (-1) ∧ v3 + (-1) ≤ 2147483647) then
              k_20 (v3 + (-1)) D_4
            else none)
        else none
      else
        fX2_setChances_66 F k_2 o2 v3 D
    else none
  else
    fX2_setChances_66 F k_2 o2 v3 D
def fX2_setChances_2 (F : zFs)   (k_2 : Int → zDa → Option zDa) (v2 : Int) (D : zDa) : Option zDa :=
  if v2 < 3 then
    (fX10_chanceOf F v2 D).bind (fun (r_1, D_2) =>
      if (0 ≤ v2 ∧ v2 < 3) then
        zlet (zwr D_2 54 v2.toNat r_1) (fun D_3 =>
          zfix (fun _ _ => none) (fX2_setChances_20 F v2 k_2) zfu v2 D_3)
      else none)
  else
    some D
def fX2_setChances (F : zFs)  (D : zDa) : Option zDa :=
  zfix (fun _ _ => none) (fX2_setChances_2 F) zfu 0 D
set_option maxHeartbeats 20000000 in
theorem sX2_setChances_66 {l : Launch} {E : zE} {d : Nat} {F : zFs} {n sl : Nat} (hG : zG F)  (o2 : Int) (v3 : Int) (k_2 : Int → zDa → Option zDa) (hk_2 : ∀ (u2 : Int) (D : zDa), zO l E (d + 4) YX2_setChances 2 [(0, zR 52), (1, zR 49), (2, zI u2)] [] (F, D, n, sl) (zcV F n sl) (k_2 u2 D)) (D : zDa) : zO l E (d + 4) YX2_setChances 66 [(0, zR 52), (1, zR 49), (2, zI o2), (3, zI v3)] [] (F, D, n, sl) (zcV F n sl) (fX2_setChances_66 F k_2 o2 v3 D) := by
  unfold fX2_setChances_66
  refine zO_chk (fun h5 => ?_)
  refine zO_aload_n dX2_setChances_66 rfl (zR_P _) ?_
  refine gt2 (k := 2) dX2_setChances_67 wF_X2_18 (by decide) (gk_52 hG) (zgv (c := 2) (k := 2) rfl (Or.inl ⟨_, rfl⟩) (gf_52_2 hG)) ?_
  refine zO_iload_n dX2_setChances_70 rfl ?_
  refine zO_iload_n dX2_setChances_71 rfl ?_
  refine zO_iast dX2_setChances_72 (gk_55 hG) (gl_in (gl_55 hG) h5) ?_
  refine zO_letD (fun D_5 eD_5 => ?_)
  refine zO_chk (fun h6 => ?_)
  refine zO_iinc dX2_setChances_73 rfl h6 (by decide) ?_
  refine zO_ls (ls' := [(0, zR 52), (1, zR 49), (2, zI (o2 + 1)), (3, zI v3)]) rfl ?_
  refine zO_goto (tgt := 2) dX2_setChances_76 rfl ?_
  refine zO_live [0, 1, 2] ?_
  exact hk_2 (o2 + 1) D_5
set_option maxHeartbeats 20000000 in
theorem sX2_setChances_20 {l : Launch} {E : zE} {d : Nat} {F : zFs} {n sl : Nat} (hG : zG F)  (o2 : Int) (k_2 : Int → zDa → Option zDa) (hk_2 : ∀ (u2 : Int) (D : zDa), zO l E (d + 4) YX2_setChances 2 [(0, zR 52), (1, zR 49), (2, zI u2)] [] (F, D, n, sl) (zcV F n sl) (k_2 u2 D)) : ∀ (N : Nat) (v3 : Int) (D : zDa), zO l E (d + 4) YX2_setChances 20 [(0, zR 52), (1, zR 49), (2, zI o2), (3, zI v3)] [] (F, D, n, sl) (zcV F n sl) (zfix (fun _ _ => none) (fX2_setChances_20 F o2 k_2) N v3 D) := by
  intro N
  induction N with
  | zero => intro v3 D; exact zO_none
  | succ N hk_20 =>
    intro v3 D
    show zO _ _ _ _ _ _ _ _ _ ((fX2_setChances_20 F o2 k_2) (zfix (fun _ _ => none) (fX2_setChances_20 F o2 k_2) N) v3 D)
    unfold fX2_setChances_20
    refine zO_iload_n dX2_setChances_20 rfl ?_
    refine zO_if_le (tgt := 66) dX2_setChances_21 rfl (fun c21 => ?_) (fun c21 => ?_)
    · refine zO_chk (fun h2 => ?_)
      refine zO_aload_n dX2_setChances_24 rfl (zR_P _) ?_
      refine gt2 (k := 1) dX2_setChances_25 wF_X2_15 (by decide) (gk_52 hG) (zgv (c := 2) (k := 1) rfl (Or.inl ⟨_, rfl⟩) (gf_52_1 hG)) ?_
      refine zO_aload_n dX2_setChances_28 rfl (zR_P _) ?_
      refine gt2 (k := 2) dX2_setChances_29 wF_X2_18 (by decide) (gk_52 hG) (zgv (c := 2) (k := 2) rfl (Or.inl ⟨_, rfl⟩) (gf_52_2 hG)) ?_
      refine zO_iload_n dX2_setChances_32 rfl ?_
      refine zO_iconst dX2_setChances_33 (by decide) ?_
      refine zO_isub dX2_setChances_34 h2.1 ?_
      refine zO_iald dX2_setChances_35 (gk_55 hG) (gl_in (gl_55 hG) h2.2.1) ?_
      refine zO_iald dX2_setChances_36 (gk_54 hG) (gl_in (gl_54 hG) h2.2.2.1) ?_
      refine zO_aload_n dX2_setChances_37 rfl (zR_P _) ?_
      refine gt2 (k := 1) dX2_setChances_38 wF_X2_15 (by decide) (gk_52 hG) (zgv (c := 2) (k := 1) rfl (Or.inl ⟨_, rfl⟩) (gf_52_1 hG)) ?_
      refine zO_iload_n dX2_setChances_41 rfl ?_
      refine zO_iald dX2_setChances_42 (gk_54 hG) (gl_in (gl_54 hG) h2.2.2.2) ?_
      refine zO_icmp_ge (tgt := 66) dX2_setChances_43 rfl (fun c43 => ?_) (fun c43 => ?_)
      · refine zO_chk (fun h3 => ?_)
        refine zO_aload_n dX2_setChances_46 rfl (zR_P _) ?_
        refine gt2 (k := 2) dX2_setChances_47 wF_X2_18 (by decide) (gk_52 hG) (zgv (c := 2) (k := 2) rfl (Or.inl ⟨_, rfl⟩) (gf_52_2 hG)) ?_
        refine zO_iload_n dX2_setChances_50 rfl ?_
        refine zO_aload_n dX2_setChances_51 rfl (zR_P _) ?_
        refine gt2 (k := 2) dX2_setChances_52 wF_X2_18 (by decide) (gk_52 hG) (zgv (c := 2) (k := 2) rfl (Or.inl ⟨_, rfl⟩) (gf_52_2 hG)) ?_
        refine zO_iload_n dX2_setChances_55 rfl ?_
        refine zO_iconst dX2_setChances_56 (by decide) ?_
        refine zO_isub dX2_setChances_57 h2.1 ?_
        refine zO_iald dX2_setChances_58 (gk_55 hG) (gl_in (gl_55 hG) h2.2.1) ?_
        refine zO_iast dX2_setChances_59 (gk_55 hG) (gl_in (gl_55 hG) h3) ?_
        refine zO_letD (fun D_4 eD_4 => ?_)
        refine zO_chk (fun h4 => ?_)
        refine zO_iinc dX2_setChances_60 rfl h4 (by decide) ?_
        refine zO_ls (ls' := [(0, zR 52), (1, zR 49), (2, zI o2), (3, zI (v3 + (-1)))]) rfl ?_
        refine zO_goto (tgt := 20) dX2_setChances_63 rfl ?_
        refine zO_live [0, 1, 2, 3] ?_
        exact hk_20 (v3 + (-1)) D_4
      · refine zO_live [0, 1, 2, 3] ?_
        exact sX2_setChances_66 hG o2 v3 _ hk_2 D
    · refine zO_live [0, 1, 2, 3] ?_
      exact sX2_setChances_66 hG o2 v3 _ hk_2 D
set_option maxHeartbeats 20000000 in
theorem sX2_setChances_2 {l : Launch} {E : zE} {d : Nat} {F : zFs} {n sl : Nat} (hG : zG F)     : ∀ (N : Nat) (v2 : Int) (D : zDa), zO l E (d + 4) YX2_setChances 2 [(0, zR 52), (1, zR 49), (2, zI v2)] [] (F, D, n, sl) (zcV F n sl) (zfix (fun _ _ => none) (fX2_setChances_2 F) N v2 D) := by
  intro N
  induction N with
  | zero => intro v2 D; exact zO_none
  | succ N hk_2 =>
    intro v2 D
    show zO _ _ _ _ _ _ _ _ _ ((fX2_setChances_2 F) (zfix (fun _ _ => none) (fX2_setChances_2 F) N) v2 D)
    unfold fX2_setChances_2
    refine zO_iload_n dX2_setChances_2 rfl ?_
    refine zO_iconst dX2_setChances_3 (by decide) ?_
    refine zO_icmp_ge (tgt := 79) dX2_setChances_4 rfl (fun c4 => ?_) (fun c4 => ?_)
    · refine zO_aload_n dX2_setChances_7 rfl (zR_P _) ?_
      refine gt2 (k := 1) dX2_setChances_8 wF_X2_15 (by decide) (gk_52 hG) (zgv (c := 2) (k := 1) rfl (Or.inl ⟨_, rfl⟩) (gf_52_1 hG)) ?_
      refine zO_iload_n dX2_setChances_11 rfl ?_
      refine zO_aload_n dX2_setChances_12 rfl (zR_P _) ?_
      refine zO_iload_n dX2_setChances_13 rfl ?_
      refine zO_callV (Y' := YX10_chanceOf) (cw := zcI F n sl) (as := [zI v2]) (rest := [zI v2, zR 54]) (na := 1) (ci := 10) rfl dX2_setChances_14 wC_X10_chanceOf wN_X10 wM_X2_38 wI_X10_chanceOf wV_X10_chanceOf (by decide) (by decide) rfl rfl (Nat.le_of_ble_eq_true rfl) rfl (by decide) (gk_49 hG) (fun r hr => zMet_cast (Nat.add_assoc d 0 3) (mX10_chanceOf (d := d + 0) hG v2 r hr)) ?_
      rintro ⟨r_1, D_2⟩ -
      show zO _ _ _ _ _ _ [zI r_1, zI v2, zR 54] (F, D_2, n, sl) _ _
      refine zO_chk (fun h1 => ?_)
      refine zO_iast dX2_setChances_17 (gk_54 hG) (gl_in (gl_54 hG) h1) ?_
      refine zO_letD (fun D_3 eD_3 => ?_)
      refine zO_iload_n dX2_setChances_18 rfl ?_
      refine zO_istore_n dX2_setChances_19 (by decide) ?_
      refine zO_ls (ls' := [(0, zR 52), (1, zR 49), (2, zI v2), (3, zI v2)]) rfl ?_
      refine zO_live [0, 1, 2, 3] ?_
      exact sX2_setChances_20 hG v2 _ hk_2 zfu v2 D_3
    · exact zO_ret (rv := none) dX2_setChances_79 rfl trivial rfl
set_option maxHeartbeats 20000000 in
theorem mX2_setChances {l : Launch} {E : zE} {d : Nat} {F : zFs} {n sl : Nat} (hG : zG F)  {D : zDa} : ∀ r, fX2_setChances F   D = some r → zMet l E (d + 4) YX2_setChances [zR 52, zR 49] (F, D, n, sl) (zcV F n sl r) := by
  intro r hr
  refine zMet_of (plainFor_of_name (by decide)) (fun _ h => (nomatch h)) (Nat.le_of_ble_eq_true rfl) ?_
  have hz : zO l E (d + 4) YX2_setChances 0 [(0, zR 52), (1, zR 49)] [] (F, D, n, sl) (zcV F n sl) (fX2_setChances F   D) := by
    unfold fX2_setChances
    refine zO_iconst dX2_setChances_0 (by decide) ?_
    refine zO_istore_n dX2_setChances_1 (by decide) ?_
    refine zO_ls (ls' := [(0, zR 52), (1, zR 49), (2, zI 0)]) rfl ?_
    refine zO_live [0, 1, 2] ?_
    exact sX2_setChances_2 hG zfu 0 D
  exact hz r hr
theorem dX2_empty_0 : decode cX2_empty 0 = .ok (.aload_n 0, 1) := by decide +kernel
theorem dX2_empty_1 : decode cX2_empty 1 = .ok (.getfield 21, 3) := by decide +kernel
theorem dX2_empty_4 : decode cX2_empty 4 = .ok (.iconst 0, 1) := by decide +kernel
theorem dX2_empty_5 : decode cX2_empty 5 = .ok (.invokestatic 44, 3) := by decide +kernel
theorem dX2_empty_8 : decode cX2_empty 8 = .ok (.aload_n 0, 1) := by decide +kernel
theorem dX2_empty_9 : decode cX2_empty 9 = .ok (.getfield 24, 3) := by decide +kernel
theorem dX2_empty_12 : decode cX2_empty 12 = .ok (.iconst 0, 1) := by decide +kernel
theorem dX2_empty_13 : decode cX2_empty 13 = .ok (.invokestatic 44, 3) := by decide +kernel
theorem dX2_empty_16 : decode cX2_empty 16 = .ok (.return_, 1) := by decide +kernel
abbrev YX2_empty : zY := (yX2_empty, cX2_empty, 1, none, [])
def fX2_empty (F : zFs)  (D : zDa) : Option zDa :=
  (fJ7_fill_53178 F 56 0 D).bind (fun D_2 =>
    (fJ7_fill_53178 F 57 0 D_2).bind (fun D_4 =>
      some D_4))
set_option maxHeartbeats 20000000 in
theorem mX2_empty {l : Launch} {E : zE} {d : Nat} {F : zFs} {n sl : Nat} (hG : zG F)  {D : zDa} : ∀ r, fX2_empty F   D = some r → zMet l E (d + 1) YX2_empty [zR 52] (F, D, n, sl) (zcV F n sl r) := by
  intro r hr
  refine zMet_of (plainFor_of_name (by decide)) (fun _ h => (nomatch h)) (Nat.le_of_ble_eq_true rfl) ?_
  have hz : zO l E (d + 1) YX2_empty 0 [(0, zR 52)] [] (F, D, n, sl) (zcV F n sl) (fX2_empty F   D) := by
    unfold fX2_empty
    refine zO_aload_n dX2_empty_0 rfl (zR_P _) ?_
    refine gt2 (k := 3) dX2_empty_1 wF_X2_21 (by decide) (gk_52 hG) (zgv (c := 2) (k := 3) rfl (Or.inl ⟨_, rfl⟩) (gf_52_3 hG)) ?_
    refine zO_iconst dX2_empty_4 (by decide) ?_
    refine zO_callS (Y' := YJ7_fill_53178) (cw := zcV F n sl) (as := [zR 56, zI 0]) (rest := []) (na := 2) dX2_empty_5 wC_J7_fill_53178 wN_J7 wM_X2_44 wS_J7_fill_53178 (by decide) (by decide) rfl rfl (Nat.le_of_ble_eq_true rfl) (fun r hr => zMet_cast (Nat.add_assoc d 0 0) (mJ7_fill_53178 (d := d + 0) hG 56 0 r hr)) ?_
    intro D_2 _
    show zO _ _ _ _ _ _ [] (F, D_2, n, sl) _ _
    refine zO_aload_n dX2_empty_8 rfl (zR_P _) ?_
    refine gt2 (k := 4) dX2_empty_9 wF_X2_24 (by decide) (gk_52 hG) (zgv (c := 2) (k := 4) rfl (Or.inl ⟨_, rfl⟩) (gf_52_4 hG)) ?_
    refine zO_iconst dX2_empty_12 (by decide) ?_
    refine zO_callS (Y' := YJ7_fill_53178) (cw := zcV F n sl) (as := [zR 57, zI 0]) (rest := []) (na := 2) dX2_empty_13 wC_J7_fill_53178 wN_J7 wM_X2_44 wS_J7_fill_53178 (by decide) (by decide) rfl rfl (Nat.le_of_ble_eq_true rfl) (fun r hr => zMet_cast (Nat.add_assoc d 0 0) (mJ7_fill_53178 (d := d + 0) hG 57 0 r hr)) ?_
    intro D_4 _
    show zO _ _ _ _ _ _ [] (F, D_4, n, sl) _ _
    exact zO_ret (rv := none) dX2_empty_16 rfl trivial rfl
  exact hz r hr
theorem dX2_put_0 : decode cX2_put 0 = .ok (.iload_n 1, 1) := by decide +kernel
theorem dX2_put_1 : decode cX2_put 1 = .ok (.ifCond .lt 28, 3) := by decide +kernel
theorem dX2_put_4 : decode cX2_put 4 = .ok (.iload_n 1, 1) := by decide +kernel
theorem dX2_put_5 : decode cX2_put 5 = .ok (.iconst 3, 1) := by decide +kernel
theorem dX2_put_6 : decode cX2_put 6 = .ok (.if_icmp .ge 23, 3) := by decide +kernel
theorem dX2_put_9 : decode cX2_put 9 = .ok (.aload_n 0, 1) := by decide +kernel
theorem dX2_put_10 : decode cX2_put 10 = .ok (.getfield 21, 3) := by decide +kernel
theorem dX2_put_13 : decode cX2_put 13 = .ok (.iload_n 1, 1) := by decide +kernel
theorem dX2_put_14 : decode cX2_put 14 = .ok (.dup2, 1) := by decide +kernel
theorem dX2_put_15 : decode cX2_put 15 = .ok (.iaload, 1) := by decide +kernel
theorem dX2_put_16 : decode cX2_put 16 = .ok (.iconst 1, 1) := by decide +kernel
theorem dX2_put_17 : decode cX2_put 17 = .ok (.iadd, 1) := by decide +kernel
theorem dX2_put_18 : decode cX2_put 18 = .ok (.iastore, 1) := by decide +kernel
theorem dX2_put_19 : decode cX2_put 19 = .ok (.aload_n 0, 1) := by decide +kernel
theorem dX2_put_20 : decode cX2_put 20 = .ok (.getfield 24, 3) := by decide +kernel
theorem dX2_put_23 : decode cX2_put 23 = .ok (.iload_n 1, 1) := by decide +kernel
theorem dX2_put_24 : decode cX2_put 24 = .ok (.dup2, 1) := by decide +kernel
theorem dX2_put_25 : decode cX2_put 25 = .ok (.iaload, 1) := by decide +kernel
theorem dX2_put_26 : decode cX2_put 26 = .ok (.iload_n 2, 1) := by decide +kernel
theorem dX2_put_27 : decode cX2_put 27 = .ok (.iadd, 1) := by decide +kernel
theorem dX2_put_28 : decode cX2_put 28 = .ok (.iastore, 1) := by decide +kernel
theorem dX2_put_29 : decode cX2_put 29 = .ok (.return_, 1) := by decide +kernel
abbrev YX2_put : zY := (yX2_put, cX2_put, 3, none, [])
def fX2_put (F : zFs) (v1 : Int) (v2 : Int) (D : zDa) : Option zDa :=
  if v1 < 0 then
    some D
  else
    if v1 < 3 then
      if (0 ≤ v1 ∧ v1 < 3) ∧ (-2147483648 ≤ (D 56 v1.toNat) + 1 ∧ (D 56 v1.toNat) + 1 ≤ 2147483647) then
        zlet (zwr D 56 v1.toNat ((D 56 v1.toNat) + 1)) (fun D_1 =>
          if (-2147483648 ≤ (D_1 57 v1.toNat) + v2 ∧ (D_1 57 v1.toNat) + v2 ≤ 2147483647) then
            zlet (zwr D_1 57 v1.toNat ((D_1 57 v1.toNat) + v2)) (fun D_2 =>
              some D_2)
          else none)
      else none
    else
      some D
set_option maxHeartbeats 20000000 in
theorem mX2_put {l : Launch} {E : zE} {d : Nat} {F : zFs} {n sl : Nat} (hG : zG F) (v1 : Int) (v2 : Int) {D : zDa} : ∀ r, fX2_put F  v1 v2 D = some r → zMet l E (d + 0) YX2_put [zR 52, zI v1, zI v2] (F, D, n, sl) (zcV F n sl r) := by
  intro r hr
  refine zMet_of (plainFor_of_name (by decide)) (fun _ h => (nomatch h)) (Nat.le_of_ble_eq_true rfl) ?_
  have hz : zO l E (d + 0) YX2_put 0 [(0, zR 52), (1, zI v1), (2, zI v2)] [] (F, D, n, sl) (zcV F n sl) (fX2_put F  v1 v2 D) := by
    unfold fX2_put
    refine zO_iload_n dX2_put_0 rfl ?_
    refine zO_if_lt (tgt := 29) dX2_put_1 rfl (fun c1 => ?_) (fun c1 => ?_)
    · exact zO_ret (rv := none) dX2_put_29 rfl trivial rfl
    · refine zO_iload_n dX2_put_4 rfl ?_
      refine zO_iconst dX2_put_5 (by decide) ?_
      refine zO_icmp_ge (tgt := 29) dX2_put_6 rfl (fun c6 => ?_) (fun c6 => ?_)
      · refine zO_chk (fun h1 => ?_)
        refine zO_aload_n dX2_put_9 rfl (zR_P _) ?_
        refine gt2 (k := 3) dX2_put_10 wF_X2_21 (by decide) (gk_52 hG) (zgv (c := 2) (k := 3) rfl (Or.inl ⟨_, rfl⟩) (gf_52_3 hG)) ?_
        refine zO_iload_n dX2_put_13 rfl ?_
        refine zO_dup2a dX2_put_14 (rfl) (rfl) ?_
        refine zO_iald dX2_put_15 (gk_56 hG) (gl_in (gl_56 hG) h1.1) ?_
        refine zO_iconst dX2_put_16 (by decide) ?_
        refine zO_iadd dX2_put_17 h1.2 ?_
        refine zO_iast dX2_put_18 (gk_56 hG) (gl_in (gl_56 hG) h1.1) ?_
        refine zO_letD (fun D_1 eD_1 => ?_)
        refine zO_chk (fun h2 => ?_)
        refine zO_aload_n dX2_put_19 rfl (zR_P _) ?_
        refine gt2 (k := 4) dX2_put_20 wF_X2_24 (by decide) (gk_52 hG) (zgv (c := 2) (k := 4) rfl (Or.inl ⟨_, rfl⟩) (gf_52_4 hG)) ?_
        refine zO_iload_n dX2_put_23 rfl ?_
        refine zO_dup2a dX2_put_24 (rfl) (rfl) ?_
        refine zO_iald dX2_put_25 (gk_57 hG) (gl_in (gl_57 hG) h1.1) ?_
        refine zO_iload_n dX2_put_26 rfl ?_
        refine zO_iadd dX2_put_27 h2 ?_
        refine zO_iast dX2_put_28 (gk_57 hG) (gl_in (gl_57 hG) h1.1) ?_
        refine zO_letD (fun D_2 eD_2 => ?_)
        exact zO_ret (rv := none) dX2_put_29 rfl trivial rfl
      · exact zO_ret (rv := none) dX2_put_29 rfl trivial rfl
  exact hz r hr
theorem dJ7_fill_d0a16_0 : decode cJ7_fill_d0a16 0 = .ok (.iconst 0, 1) := by decide +kernel
theorem dJ7_fill_d0a16_1 : decode cJ7_fill_d0a16 1 = .ok (.istore_n 3, 1) := by decide +kernel
theorem dJ7_fill_d0a16_2 : decode cJ7_fill_d0a16 2 = .ok (.aload_n 0, 1) := by decide +kernel
theorem dJ7_fill_d0a16_3 : decode cJ7_fill_d0a16 3 = .ok (.arraylength, 1) := by decide +kernel
theorem dJ7_fill_d0a16_4 : decode cJ7_fill_d0a16 4 = .ok (.istore 4, 2) := by decide +kernel
theorem dJ7_fill_d0a16_6 : decode cJ7_fill_d0a16 6 = .ok (.iload_n 3, 1) := by decide +kernel
theorem dJ7_fill_d0a16_7 : decode cJ7_fill_d0a16 7 = .ok (.iload 4, 2) := by decide +kernel
theorem dJ7_fill_d0a16_9 : decode cJ7_fill_d0a16 9 = .ok (.if_icmp .ge 13, 3) := by decide +kernel
theorem dJ7_fill_d0a16_12 : decode cJ7_fill_d0a16 12 = .ok (.aload_n 0, 1) := by decide +kernel
theorem dJ7_fill_d0a16_13 : decode cJ7_fill_d0a16 13 = .ok (.iload_n 3, 1) := by decide +kernel
theorem dJ7_fill_d0a16_14 : decode cJ7_fill_d0a16 14 = .ok (.lload_n 1, 1) := by decide +kernel
theorem dJ7_fill_d0a16_15 : decode cJ7_fill_d0a16 15 = .ok (.lastore, 1) := by decide +kernel
theorem dJ7_fill_d0a16_16 : decode cJ7_fill_d0a16 16 = .ok (.iinc 3 1, 3) := by decide +kernel
theorem dJ7_fill_d0a16_19 : decode cJ7_fill_d0a16 19 = .ok (.goto (-13), 3) := by decide +kernel
theorem dJ7_fill_d0a16_22 : decode cJ7_fill_d0a16 22 = .ok (.return_, 1) := by decide +kernel
abbrev YJ7_fill_d0a16 : zY := (yJ7_fill_d0a16, cJ7_fill_d0a16, 5, none, [])
def fJ7_fill_d0a16_6 (F : zFs) (o0 : Nat) (o1 : Int) (o4 : Int)  (k_6 : Int → zDa → Option zDa) (v3 : Int) (D : zDa) : Option zDa :=
  if v3 < o4 then
    if ((F o0).1 = 21) ∧ ((0 : Int) ≤ v3 ∧ (v3 : Int) < ((F o0).2.1 : Int)) then
      zlet (zwr D o0 v3.toNat o1) (fun D_2 =>
        if (-2147483648 ≤ v3 + 1 ∧ v3 + 1 ≤ 2147483647) then
          k_6 (v3 + 1) D_2
        else none)
    else none
  else
    some D
def fJ7_fill_d0a16 (F : zFs) (a0 : Nat) (v1 : Int) (D : zDa) : Option zDa :=
  if ((F a0).1 = 21) then
    zlet (((F a0).2.1 : Int)) (fun x4_1 =>
      zfix (fun _ _ => none) (fJ7_fill_d0a16_6 F a0 v1 x4_1) zfu 0 D)
  else none
set_option maxHeartbeats 20000000 in
theorem sJ7_fill_d0a16_6 {l : Launch} {E : zE} {d : Nat} {F : zFs} {n sl : Nat} (hG : zG F)  (o0 : Nat) (o1 : Int) (o4 : Int)   : ∀ (N : Nat) (v3 : Int) (D : zDa), zO l E (d + 0) YJ7_fill_d0a16 6 [(0, zR o0), (1, zL o1), (3, zI v3), (4, zI o4)] [] (F, D, n, sl) (zcV F n sl) (zfix (fun _ _ => none) (fJ7_fill_d0a16_6 F o0 o1 o4) N v3 D) := by
  intro N
  induction N with
  | zero => intro v3 D; exact zO_none
  | succ N hk_6 =>
    intro v3 D
    show zO _ _ _ _ _ _ _ _ _ ((fJ7_fill_d0a16_6 F o0 o1 o4) (zfix (fun _ _ => none) (fJ7_fill_d0a16_6 F o0 o1 o4) N) v3 D)
    unfold fJ7_fill_d0a16_6
    refine zO_iload_n dJ7_fill_d0a16_6 rfl ?_
    refine zO_iload dJ7_fill_d0a16_7 rfl ?_
    refine zO_icmp_ge (tgt := 22) dJ7_fill_d0a16_9 rfl (fun c9 => ?_) (fun c9 => ?_)
    · refine zO_chk (fun h2 => ?_)
      refine zO_aload_n dJ7_fill_d0a16_12 rfl (zR_P _) ?_
      refine zO_iload_n dJ7_fill_d0a16_13 rfl ?_
      refine zO_lload_n dJ7_fill_d0a16_14 rfl ?_
      refine zO_last dJ7_fill_d0a16_15 h2.1 h2.2 ?_
      refine zO_letD (fun D_2 eD_2 => ?_)
      refine zO_chk (fun h3 => ?_)
      refine zO_iinc dJ7_fill_d0a16_16 rfl h3 (by decide) ?_
      refine zO_ls (ls' := [(0, zR o0), (1, zL o1), (3, zI (v3 + 1)), (4, zI o4)]) rfl ?_
      refine zO_goto (tgt := 6) dJ7_fill_d0a16_19 rfl ?_
      refine zO_live [0, 1, 3, 4] ?_
      exact hk_6 (v3 + 1) D_2
    · exact zO_ret (rv := none) dJ7_fill_d0a16_22 rfl trivial rfl
set_option maxHeartbeats 20000000 in
theorem mJ7_fill_d0a16 {l : Launch} {E : zE} {d : Nat} {F : zFs} {n sl : Nat} (hG : zG F) (a0 : Nat) (v1 : Int) {D : zDa} : ∀ r, fJ7_fill_d0a16 F  a0 v1 D = some r → zMet l E (d + 0) YJ7_fill_d0a16 [zR a0, zL v1] (F, D, n, sl) (zcV F n sl r) := by
  intro r hr
  refine zMet_of (by decide +kernel) (fun _ h => (nomatch h)) (Nat.le_of_ble_eq_true rfl) ?_
  have hz : zO l E (d + 0) YJ7_fill_d0a16 0 [(0, zR a0), (1, zL v1)] [] (F, D, n, sl) (zcV F n sl) (fJ7_fill_d0a16 F  a0 v1 D) := by
    unfold fJ7_fill_d0a16
    refine zO_chk (fun h1 => ?_)
    refine zO_iconst dJ7_fill_d0a16_0 (by decide) ?_
    refine zO_istore_n dJ7_fill_d0a16_1 (by decide) ?_
    refine zO_ls (ls' := [(0, zR a0), (1, zL v1), (3, zI 0)]) rfl ?_
    refine zO_aload_n dJ7_fill_d0a16_2 rfl (zR_P _) ?_
    refine zO_alen (kd := 21) dJ7_fill_d0a16_3 h1 (by decide) ?_
    refine zO_letI (fun x4_1 ex4_1 => ?_)
    refine zO_istore dJ7_fill_d0a16_4 (by decide) ?_
    refine zO_ls (ls' := [(0, zR a0), (1, zL v1), (3, zI 0), (4, zI x4_1)]) rfl ?_
    refine zO_live [0, 1, 3, 4] ?_
    exact sJ7_fill_d0a16_6 hG a0 v1 x4_1 zfu 0 D
  exact hz r hr
theorem dX2_answerOne_0 : decode cX2_answerOne 0 = .ok (.iconst 3, 1) := by decide +kernel
theorem dX2_answerOne_1 : decode cX2_answerOne 1 = .ok (.istore_n 2, 1) := by decide +kernel
theorem dX2_answerOne_2 : decode cX2_answerOne 2 = .ok (.iload_n 2, 1) := by decide +kernel
theorem dX2_answerOne_3 : decode cX2_answerOne 3 = .ok (.ifCond .le 39, 3) := by decide +kernel
theorem dX2_answerOne_6 : decode cX2_answerOne 6 = .ok (.aload_n 0, 1) := by decide +kernel
theorem dX2_answerOne_7 : decode cX2_answerOne 7 = .ok (.getfield 27, 3) := by decide +kernel
theorem dX2_answerOne_10 : decode cX2_answerOne 10 = .ok (.iload_n 2, 1) := by decide +kernel
theorem dX2_answerOne_11 : decode cX2_answerOne 11 = .ok (.aload_n 0, 1) := by decide +kernel
theorem dX2_answerOne_12 : decode cX2_answerOne 12 = .ok (.getfield 27, 3) := by decide +kernel
theorem dX2_answerOne_15 : decode cX2_answerOne 15 = .ok (.iload_n 2, 1) := by decide +kernel
theorem dX2_answerOne_16 : decode cX2_answerOne 16 = .ok (.laload, 1) := by decide +kernel
theorem dX2_answerOne_17 : decode cX2_answerOne 17 = .ok (.bipush 100, 2) := by decide +kernel
theorem dX2_answerOne_19 : decode cX2_answerOne 19 = .ok (.iload_n 1, 1) := by decide +kernel
theorem dX2_answerOne_20 : decode cX2_answerOne 20 = .ok (.isub, 1) := by decide +kernel
theorem dX2_answerOne_21 : decode cX2_answerOne 21 = .ok (.i2l, 1) := by decide +kernel
theorem dX2_answerOne_22 : decode cX2_answerOne 22 = .ok (.lmul, 1) := by decide +kernel
theorem dX2_answerOne_23 : decode cX2_answerOne 23 = .ok (.aload_n 0, 1) := by decide +kernel
theorem dX2_answerOne_24 : decode cX2_answerOne 24 = .ok (.getfield 27, 3) := by decide +kernel
theorem dX2_answerOne_27 : decode cX2_answerOne 27 = .ok (.iload_n 2, 1) := by decide +kernel
theorem dX2_answerOne_28 : decode cX2_answerOne 28 = .ok (.iconst 1, 1) := by decide +kernel
theorem dX2_answerOne_29 : decode cX2_answerOne 29 = .ok (.isub, 1) := by decide +kernel
theorem dX2_answerOne_30 : decode cX2_answerOne 30 = .ok (.laload, 1) := by decide +kernel
theorem dX2_answerOne_31 : decode cX2_answerOne 31 = .ok (.iload_n 1, 1) := by decide +kernel
theorem dX2_answerOne_32 : decode cX2_answerOne 32 = .ok (.i2l, 1) := by decide +kernel
theorem dX2_answerOne_33 : decode cX2_answerOne 33 = .ok (.lmul, 1) := by decide +kernel
theorem dX2_answerOne_34 : decode cX2_answerOne 34 = .ok (.ladd, 1) := by decide +kernel
theorem dX2_answerOne_35 : decode cX2_answerOne 35 = .ok (.lastore, 1) := by decide +kernel
theorem dX2_answerOne_36 : decode cX2_answerOne 36 = .ok (.iinc 2 (-1), 3) := by decide +kernel
theorem dX2_answerOne_39 : decode cX2_answerOne 39 = .ok (.goto (-37), 3) := by decide +kernel
theorem dX2_answerOne_42 : decode cX2_answerOne 42 = .ok (.aload_n 0, 1) := by decide +kernel
theorem dX2_answerOne_43 : decode cX2_answerOne 43 = .ok (.getfield 27, 3) := by decide +kernel
theorem dX2_answerOne_46 : decode cX2_answerOne 46 = .ok (.iconst 0, 1) := by decide +kernel
theorem dX2_answerOne_47 : decode cX2_answerOne 47 = .ok (.dup2, 1) := by decide +kernel
theorem dX2_answerOne_48 : decode cX2_answerOne 48 = .ok (.laload, 1) := by decide +kernel
theorem dX2_answerOne_49 : decode cX2_answerOne 49 = .ok (.bipush 100, 2) := by decide +kernel
theorem dX2_answerOne_51 : decode cX2_answerOne 51 = .ok (.iload_n 1, 1) := by decide +kernel
theorem dX2_answerOne_52 : decode cX2_answerOne 52 = .ok (.isub, 1) := by decide +kernel
theorem dX2_answerOne_53 : decode cX2_answerOne 53 = .ok (.i2l, 1) := by decide +kernel
theorem dX2_answerOne_54 : decode cX2_answerOne 54 = .ok (.lmul, 1) := by decide +kernel
theorem dX2_answerOne_55 : decode cX2_answerOne 55 = .ok (.lastore, 1) := by decide +kernel
theorem dX2_answerOne_56 : decode cX2_answerOne 56 = .ok (.return_, 1) := by decide +kernel
abbrev YX2_answerOne : zY := (yX2_answerOne, cX2_answerOne, 3, none, [])
def fX2_answerOne_2 (F : zFs) (o1 : Int)  (k_2 : Int → zDa → Option zDa) (v2 : Int) (D : zDa) : Option zDa :=
  if 0 < v2 then
    if (0 ≤ v2 ∧ v2 < 4) ∧ (-2147483648 ≤ 100 - o1 ∧ 100 - o1 ≤ 2147483647) ∧ (-9223372036854775808 ≤ (D 58 v2.toNat) * (100 - o1) ∧ (D 58 v2.toNat) * (100 - o1) ≤ 9223372036854775807) ∧ (-2147483648 ≤ v2 - 1 ∧ v2 - 1 ≤ 2147483647) ∧ (0 ≤ (v2 - 1) ∧ (v2 - 1) < 4) ∧ (-9223372036854775808 ≤ (D 58 (v2 - 1).toNat) * o1 ∧ (D 58 (v2 - 1).toNat) * o1 ≤ 9223372036854775807) ∧ (-9223372036854775808 ≤ ((D 58 v2.toNat) * (100 - o1)) + ((D 58 (v2 - 1).toNat) * o1) ∧ ((D 58 v2.toNat) * (100 - o1)) + ((D 58 (v2 - 1).toNat) * o1) ≤ 9223372036854775807) then
      zlet (zwr D 58 v2.toNat (((D 58 v2.toNat) * (100 - o1)) + ((D 58 (v2 - 1).toNat) * o1))) (fun D_1 =>
        if (-2147483648 ≤ v2 + (-1) ∧ v2 + (-1) ≤ 2147483647) then
          k_2 (v2 + (-1)) D_1
        else none)
    else none
  else
    if (-2147483648 ≤ 100 - o1 ∧ 100 - o1 ≤ 2147483647) ∧ (-9223372036854775808 ≤ (D 58 0) * (100 - o1) ∧ (D 58 0) * (100 - o1) ≤ 9223372036854775807) then
      zlet (zwr D 58 0 ((D 58 0) * (100 - o1))) (fun D_2 =>
        some D_2)
    else none
def fX2_answerOne (F : zFs) (v1 : Int) (D : zDa) : Option zDa :=
  zfix (fun _ _ => none) (fX2_answerOne_2 F v1) zfu 3 D
set_option maxHeartbeats 20000000 in
theorem sX2_answerOne_2 {l : Launch} {E : zE} {d : Nat} {F : zFs} {n sl : Nat} (hG : zG F)  (o1 : Int)   : ∀ (N : Nat) (v2 : Int) (D : zDa), zO l E (d + 0) YX2_answerOne 2 [(0, zR 52), (1, zI o1), (2, zI v2)] [] (F, D, n, sl) (zcV F n sl) (zfix (fun _ _ => none) (fX2_answerOne_2 F o1) N v2 D) := by
  intro N
  induction N with
  | zero => intro v2 D; exact zO_none
  | succ N hk_2 =>
    intro v2 D
    show zO _ _ _ _ _ _ _ _ _ ((fX2_answerOne_2 F o1) (zfix (fun _ _ => none) (fX2_answerOne_2 F o1) N) v2 D)
    unfold fX2_answerOne_2
    refine zO_iload_n dX2_answerOne_2 rfl ?_
    refine zO_if_le (tgt := 42) dX2_answerOne_3 rfl (fun c3 => ?_) (fun c3 => ?_)
    · refine zO_chk (fun h1 => ?_)
      refine zO_aload_n dX2_answerOne_6 rfl (zR_P _) ?_
      refine gt2 (k := 5) dX2_answerOne_7 wF_X2_27 (by decide) (gk_52 hG) (zgv (c := 2) (k := 5) rfl (Or.inl ⟨_, rfl⟩) (gf_52_5 hG)) ?_
      refine zO_iload_n dX2_answerOne_10 rfl ?_
      refine zO_aload_n dX2_answerOne_11 rfl (zR_P _) ?_
      refine gt2 (k := 5) dX2_answerOne_12 wF_X2_27 (by decide) (gk_52 hG) (zgv (c := 2) (k := 5) rfl (Or.inl ⟨_, rfl⟩) (gf_52_5 hG)) ?_
      refine zO_iload_n dX2_answerOne_15 rfl ?_
      refine zO_lald dX2_answerOne_16 (gk_58 hG) (gl_in (gl_58 hG) h1.1) ?_
      refine zO_bipush dX2_answerOne_17 (by decide) ?_
      refine zO_iload_n dX2_answerOne_19 rfl ?_
      refine zO_isub dX2_answerOne_20 h1.2.1 ?_
      refine zO_i2l dX2_answerOne_21 ?_
      refine zO_lmul dX2_answerOne_22 h1.2.2.1 ?_
      refine zO_aload_n dX2_answerOne_23 rfl (zR_P _) ?_
      refine gt2 (k := 5) dX2_answerOne_24 wF_X2_27 (by decide) (gk_52 hG) (zgv (c := 2) (k := 5) rfl (Or.inl ⟨_, rfl⟩) (gf_52_5 hG)) ?_
      refine zO_iload_n dX2_answerOne_27 rfl ?_
      refine zO_iconst dX2_answerOne_28 (by decide) ?_
      refine zO_isub dX2_answerOne_29 h1.2.2.2.1 ?_
      refine zO_lald dX2_answerOne_30 (gk_58 hG) (gl_in (gl_58 hG) h1.2.2.2.2.1) ?_
      refine zO_iload_n dX2_answerOne_31 rfl ?_
      refine zO_i2l dX2_answerOne_32 ?_
      refine zO_lmul dX2_answerOne_33 h1.2.2.2.2.2.1 ?_
      refine zO_ladd dX2_answerOne_34 h1.2.2.2.2.2.2 ?_
      refine zO_last dX2_answerOne_35 (gk_58 hG) (gl_in (gl_58 hG) h1.1) ?_
      refine zO_letD (fun D_1 eD_1 => ?_)
      refine zO_chk (fun h2 => ?_)
      refine zO_iinc dX2_answerOne_36 rfl h2 (by decide) ?_
      refine zO_ls (ls' := [(0, zR 52), (1, zI o1), (2, zI (v2 + (-1)))]) rfl ?_
      refine zO_goto (tgt := 2) dX2_answerOne_39 rfl ?_
      refine zO_live [0, 1, 2] ?_
      exact hk_2 (v2 + (-1)) D_1
    · refine zO_chk (fun h3 => ?_)
      refine zO_aload_n dX2_answerOne_42 rfl (zR_P _) ?_
      refine gt2 (k := 5) dX2_answerOne_43 wF_X2_27 (by decide) (gk_52 hG) (zgv (c := 2) (k := 5) rfl (Or.inl ⟨_, rfl⟩) (gf_52_5 hG)) ?_
      refine zO_iconst dX2_answerOne_46 (by decide) ?_
      refine zO_dup2a dX2_answerOne_47 (rfl) (rfl) ?_
      refine zO_lald dX2_answerOne_48 (gk_58 hG) (gl_in (gl_58 hG) (by decide)) ?_
      refine zO_bipush dX2_answerOne_49 (by decide) ?_
      refine zO_iload_n dX2_answerOne_51 rfl ?_
      refine zO_isub dX2_answerOne_52 h3.1 ?_
      refine zO_i2l dX2_answerOne_53 ?_
      refine zO_lmul dX2_answerOne_54 h3.2 ?_
      refine zO_last dX2_answerOne_55 (gk_58 hG) (gl_in (gl_58 hG) (by decide)) ?_
      refine zO_letD (fun D_2 eD_2 => ?_)
      exact zO_ret (rv := none) dX2_answerOne_56 rfl trivial rfl
set_option maxHeartbeats 20000000 in
theorem mX2_answerOne {l : Launch} {E : zE} {d : Nat} {F : zFs} {n sl : Nat} (hG : zG F) (v1 : Int) {D : zDa} : ∀ r, fX2_answerOne F  v1 D = some r → zMet l E (d + 0) YX2_answerOne [zR 52, zI v1] (F, D, n, sl) (zcV F n sl r) := by
  intro r hr
  refine zMet_of (plainFor_of_name (by decide)) (fun _ h => (nomatch h)) (Nat.le_of_ble_eq_true rfl) ?_
  have hz : zO l E (d + 0) YX2_answerOne 0 [(0, zR 52), (1, zI v1)] [] (F, D, n, sl) (zcV F n sl) (fX2_answerOne F  v1 D) := by
    unfold fX2_answerOne
    refine zO_iconst dX2_answerOne_0 (by decide) ?_
    refine zO_istore_n dX2_answerOne_1 (by decide) ?_
    refine zO_ls (ls' := [(0, zR 52), (1, zI v1), (2, zI 3)]) rfl ?_
    refine zO_live [0, 1, 2] ?_
    exact sX2_answerOne_2 hG v1 zfu 3 D
  exact hz r hr
theorem dX2_answer_0 : decode cX2_answer 0 = .ok (.iload 4, 2) := by decide +kernel
theorem dX2_answer_2 : decode cX2_answer 2 = .ok (.istore 5, 2) := by decide +kernel
theorem dX2_answer_4 : decode cX2_answer 4 = .ok (.aload_n 0, 1) := by decide +kernel
theorem dX2_answer_5 : decode cX2_answer 5 = .ok (.getfield 27, 3) := by decide +kernel
theorem dX2_answer_8 : decode cX2_answer 8 = .ok (.lconst 0, 1) := by decide +kernel
theorem dX2_answer_9 : decode cX2_answer 9 = .ok (.invokestatic 56, 3) := by decide +kernel
theorem dX2_answer_12 : decode cX2_answer 12 = .ok (.aload_n 0, 1) := by decide +kernel
theorem dX2_answer_13 : decode cX2_answer 13 = .ok (.getfield 27, 3) := by decide +kernel
theorem dX2_answer_16 : decode cX2_answer 16 = .ok (.iconst 0, 1) := by decide +kernel
theorem dX2_answer_17 : decode cX2_answer 17 = .ok (.lconst 1, 1) := by decide +kernel
theorem dX2_answer_18 : decode cX2_answer 18 = .ok (.lastore, 1) := by decide +kernel
theorem dX2_answer_19 : decode cX2_answer 19 = .ok (.iconst 0, 1) := by decide +kernel
theorem dX2_answer_20 : decode cX2_answer 20 = .ok (.istore 6, 2) := by decide +kernel
theorem dX2_answer_22 : decode cX2_answer 22 = .ok (.iload 6, 2) := by decide +kernel
theorem dX2_answer_24 : decode cX2_answer 24 = .ok (.iconst 3, 1) := by decide +kernel
theorem dX2_answer_25 : decode cX2_answer 25 = .ok (.if_icmp .ge 75, 3) := by decide +kernel
theorem dX2_answer_28 : decode cX2_answer 28 = .ok (.aload_n 0, 1) := by decide +kernel
theorem dX2_answer_29 : decode cX2_answer 29 = .ok (.getfield 18, 3) := by decide +kernel
theorem dX2_answer_32 : decode cX2_answer 32 = .ok (.iload 6, 2) := by decide +kernel
theorem dX2_answer_34 : decode cX2_answer 34 = .ok (.iaload, 1) := by decide +kernel
theorem dX2_answer_35 : decode cX2_answer 35 = .ok (.istore 7, 2) := by decide +kernel
theorem dX2_answer_37 : decode cX2_answer 37 = .ok (.iload 7, 2) := by decide +kernel
theorem dX2_answer_39 : decode cX2_answer 39 = .ok (.ifCond .ne 7, 3) := by decide +kernel
theorem dX2_answer_42 : decode cX2_answer 42 = .ok (.iload_n 1, 1) := by decide +kernel
theorem dX2_answer_43 : decode cX2_answer 43 = .ok (.goto 14, 3) := by decide +kernel
theorem dX2_answer_46 : decode cX2_answer 46 = .ok (.iload 7, 2) := by decide +kernel
theorem dX2_answer_48 : decode cX2_answer 48 = .ok (.iconst 1, 1) := by decide +kernel
theorem dX2_answer_49 : decode cX2_answer 49 = .ok (.if_icmp .ne 7, 3) := by decide +kernel
theorem dX2_answer_52 : decode cX2_answer 52 = .ok (.iload_n 2, 1) := by decide +kernel
theorem dX2_answer_53 : decode cX2_answer 53 = .ok (.goto 4, 3) := by decide +kernel
theorem dX2_answer_56 : decode cX2_answer 56 = .ok (.iload_n 3, 1) := by decide +kernel
theorem dX2_answer_57 : decode cX2_answer 57 = .ok (.istore 8, 2) := by decide +kernel
theorem dX2_answer_59 : decode cX2_answer 59 = .ok (.iconst 0, 1) := by decide +kernel
theorem dX2_answer_60 : decode cX2_answer 60 = .ok (.istore 9, 2) := by decide +kernel
theorem dX2_answer_62 : decode cX2_answer 62 = .ok (.iload 9, 2) := by decide +kernel
theorem dX2_answer_64 : decode cX2_answer 64 = .ok (.iload 8, 2) := by decide +kernel
theorem dX2_answer_66 : decode cX2_answer 66 = .ok (.if_icmp .ge 28, 3) := by decide +kernel
theorem dX2_answer_69 : decode cX2_answer 69 = .ok (.iload 5, 2) := by decide +kernel
theorem dX2_answer_71 : decode cX2_answer 71 = .ok (.ifCond .le 23, 3) := by decide +kernel
theorem dX2_answer_74 : decode cX2_answer 74 = .ok (.aload_n 0, 1) := by decide +kernel
theorem dX2_answer_75 : decode cX2_answer 75 = .ok (.aload_n 0, 1) := by decide +kernel
theorem dX2_answer_76 : decode cX2_answer 76 = .ok (.getfield 15, 3) := by decide +kernel
theorem dX2_answer_79 : decode cX2_answer 79 = .ok (.iload 7, 2) := by decide +kernel
theorem dX2_answer_81 : decode cX2_answer 81 = .ok (.iaload, 1) := by decide +kernel
theorem dX2_answer_82 : decode cX2_answer 82 = .ok (.invokevirtual 75, 3) := by decide +kernel
theorem dX2_answer_85 : decode cX2_answer 85 = .ok (.iinc 5 (-1), 3) := by decide +kernel
theorem dX2_answer_88 : decode cX2_answer 88 = .ok (.iinc 9 1, 3) := by decide +kernel
theorem dX2_answer_91 : decode cX2_answer 91 = .ok (.goto (-29), 3) := by decide +kernel
theorem dX2_answer_94 : decode cX2_answer 94 = .ok (.iinc 6 1, 3) := by decide +kernel
theorem dX2_answer_97 : decode cX2_answer 97 = .ok (.goto (-75), 3) := by decide +kernel
theorem dX2_answer_100 : decode cX2_answer 100 = .ok (.iload 4, 2) := by decide +kernel
theorem dX2_answer_102 : decode cX2_answer 102 = .ok (.iload 5, 2) := by decide +kernel
theorem dX2_answer_104 : decode cX2_answer 104 = .ok (.isub, 1) := by decide +kernel
theorem dX2_answer_105 : decode cX2_answer 105 = .ok (.istore 6, 2) := by decide +kernel
theorem dX2_answer_107 : decode cX2_answer 107 = .ok (.iload 6, 2) := by decide +kernel
theorem dX2_answer_109 : decode cX2_answer 109 = .ok (.iconst 3, 1) := by decide +kernel
theorem dX2_answer_110 : decode cX2_answer 110 = .ok (.if_icmp .ge 37, 3) := by decide +kernel
theorem dX2_answer_113 : decode cX2_answer 113 = .ok (.iconst 0, 1) := by decide +kernel
theorem dX2_answer_114 : decode cX2_answer 114 = .ok (.istore 7, 2) := by decide +kernel
theorem dX2_answer_116 : decode cX2_answer 116 = .ok (.iload 7, 2) := by decide +kernel
theorem dX2_answer_118 : decode cX2_answer 118 = .ok (.iconst 3, 1) := by decide +kernel
theorem dX2_answer_119 : decode cX2_answer 119 = .ok (.if_icmp .gt 22, 3) := by decide +kernel
theorem dX2_answer_122 : decode cX2_answer 122 = .ok (.aload_n 0, 1) := by decide +kernel
theorem dX2_answer_123 : decode cX2_answer 123 = .ok (.getfield 27, 3) := by decide +kernel
theorem dX2_answer_126 : decode cX2_answer 126 = .ok (.iload 7, 2) := by decide +kernel
theorem dX2_answer_128 : decode cX2_answer 128 = .ok (.dup2, 1) := by decide +kernel
theorem dX2_answer_129 : decode cX2_answer 129 = .ok (.laload, 1) := by decide +kernel
theorem dX2_answer_130 : decode cX2_answer 130 = .ok (.ldc2_w 69, 3) := by decide +kernel
theorem dX2_answer_133 : decode cX2_answer 133 = .ok (.lmul, 1) := by decide +kernel
theorem dX2_answer_134 : decode cX2_answer 134 = .ok (.lastore, 1) := by decide +kernel
theorem dX2_answer_135 : decode cX2_answer 135 = .ok (.iinc 7 1, 3) := by decide +kernel
theorem dX2_answer_138 : decode cX2_answer 138 = .ok (.goto (-22), 3) := by decide +kernel
theorem dX2_answer_141 : decode cX2_answer 141 = .ok (.iinc 6 1, 3) := by decide +kernel
theorem dX2_answer_144 : decode cX2_answer 144 = .ok (.goto (-37), 3) := by decide +kernel
theorem dX2_answer_147 : decode cX2_answer 147 = .ok (.return_, 1) := by decide +kernel
abbrev YX2_answer : zY := (yX2_answer, cX2_answer, 10, none, [])
def fX2_answer_94 (F : zFs) (k_22 : Int → Int → zDa → Option zDa) (o1 : Int) (o2 : Int) (o3 : Int) (o4 : Int) (v5 : Int) (o6 : Int) (D : zDa) : Option zDa :=
  if (-2147483648 ≤ o6 + 1 ∧ o6 + 1 ≤ 2147483647) then
    k_22 v5 (o6 + 1) D
  else none
def fX2_answer_62 (F : zFs) (o1 : Int) (o2 : Int) (o3 : Int) (o4 : Int) (o6 : Int) (o7 : Int) (o8 : Int) (k_22 : Int → Int → zDa → Option zDa) (k_62 : Int → Int → zDa → Option zDa) (v5 : Int) (v9 : Int) (D : zDa) : Option zDa :=
  if v9 < o8 then
    if 0 < v5 then
      if (0 ≤ o7 ∧ o7 < 3) then
        (fX2_answerOne F (D 54 o7.toNat) D).bind (fun D_6 =>
          if (-2147483648 ≤ v5 + (-1) ∧ v5 + (-1) ≤ 2147483647) ∧ (-2147483648 ≤ v9 + 1 ∧ v9 + 1 ≤ 2147483647) then
            k_62 (v5 + (-1)) (v9 + 1) D_6
          else none)
      else none
    else
      fX2_answer_94 F k_22 o1 o2 o3 o4 v5 o6 D
  else
    fX2_answer_94 F k_22 o1 o2 o3 o4 v5 o6 D
def fX2_answer_57 (F : zFs) (k_22 : Int → Int → zDa → Option zDa) (o1 : Int) (o2 : Int) (o3 : Int) (o4 : Int) (v5 : Int) (v6 : Int) (v7 : Int) (s0 : Int) (D : zDa) : Option zDa :=
  zfix (fun _ _ _ => none) (fX2_answer_62 F o1 o2 o3 o4 v6 v7 s0 k_22) zfu v5 0 D
def fX2_answer_116 (F : zFs) (o6 : Int) (k_107 : Int → zDa → Option zDa) (k_116 : Int → zDa → Option zDa) (v7 : Int) (D : zDa) : Option zDa :=
  if 3 < v7 then
    if (-2147483648 ≤ o6 + 1 ∧ o6 + 1 ≤ 2147483647) then
      k_107 (o6 + 1) D
    else none
  else
    if (0 ≤ v7 ∧ v7 < 4) ∧ (-9223372036854775808 ≤ (D 58 v7.toNat) * 100 ∧ (D 58 v7.toNat) * 100 ≤ 9223372036854775807) then
      zlet (zwr D 58 v7.toNat ((D 58 v7.toNat) * 100)) (fun D_8 =>
        if (-2147483648 ≤ v7 + 1 ∧ v7 + 1 ≤ 2147483647) then
          k_116 (v7 + 1) D_8
        else none)
    else none
def fX2_answer_107 (F : zFs)   (k_107 : Int → zDa → Option zDa) (v6 : Int) (D : zDa) : Option zDa :=
  if v6 < 3 then
    zfix (fun _ _ => none) (fX2_answer_116 F v6 k_107) zfu 0 D
  else
    some D
def fX2_answer_22 (F : zFs) (o1 : Int) (o2 : Int) (o3 : Int) (o4 : Int)  (k_22 : Int → Int → zDa → Option zDa) (v5 : Int) (v6 : Int) (D : zDa) : Option zDa :=
  if v6 < 3 then
    if (0 ≤ v6 ∧ v6 < 3) then
      zlet ((D 55 v6.toNat)) (fun x7_4 =>
        if x7_4 = 0 then
          fX2_answer_57 F k_22 o1 o2 o3 o4 v5 v6 x7_4 o1 D
        else
          if x7_4 = 1 then
            fX2_answer_57 F k_22 o1 o2 o3 o4 v5 v6 x7_4 o2 D
          else
            fX2_answer_57 F k_22 o1 o2 o3 o4 v5 v6 x7_4 o3 D)
    else none
  else
    if (-2147483648 ≤ o4 - v5 ∧ o4 - v5 ≤ 2147483647) then
      zlet ((o4 - v5)) (fun x6_7 =>
        zfix (fun _ _ => none) (fX2_answer_107 F) zfu x6_7 D)
    else none
def fX2_answer (F : zFs) (v1 : Int) (v2 : Int) (v3 : Int) (v4 : Int) (D : zDa) : Option zDa :=
  (fJ7_fill_d0a16 F 58 0 D).bind (fun D_2 =>
    zlet (zwr D_2 58 0 1) (fun D_3 =>
      zfix (fun _ _ _ => none) (fX2_answer_22 F v1 v2 v3 v4) zfu v4 0 D_3))
set_option maxHeartbeats 20000000 in
theorem sX2_answer_94 {l : Launch} {E : zE} {d : Nat} {F : zFs} {n sl : Nat} (hG : zG F)  (o1 : Int) (o2 : Int) (o3 : Int) (o4 : Int) (v5 : Int) (o6 : Int) (k_22 : Int → Int → zDa → Option zDa) (hk_22 : ∀ (u5 : Int) (u6 : Int) (D : zDa), zO l E (d + 1) YX2_answer 22 [(0, zR 52), (1, zI o1), (2, zI o2), (3, zI o3), (4, zI o4), (5, zI u5), (6, zI u6)] [] (F, D, n, sl) (zcV F n sl) (k_22 u5 u6 D)) (D : zDa) : zO l E (d + 1) YX2_answer 94 [(0, zR 52), (1, zI o1), (2, zI o2), (3, zI o3), (4, zI o4), (5, zI v5), (6, zI o6)] [] (F, D, n, sl) (zcV F n sl) (fX2_answer_94 F k_22 o1 o2 o3 o4 v5 o6 D) := by
  unfold fX2_answer_94
  refine zO_chk (fun h4 => ?_)
  refine zO_iinc dX2_answer_94 rfl h4 (by decide) ?_
  refine zO_ls (ls' := [(0, zR 52), (1, zI o1), (2, zI o2), (3, zI o3), (4, zI o4), (5, zI v5), (6, zI (o6 + 1))]) rfl ?_
  refine zO_goto (tgt := 22) dX2_answer_97 rfl ?_
  refine zO_live [0, 1, 2, 3, 4, 5, 6] ?_
  exact hk_22 v5 (o6 + 1) D
set_option maxHeartbeats 20000000 in
theorem sX2_answer_62 {l : Launch} {E : zE} {d : Nat} {F : zFs} {n sl : Nat} (hG : zG F)  (o1 : Int) (o2 : Int) (o3 : Int) (o4 : Int) (o6 : Int) (o7 : Int) (o8 : Int) (k_22 : Int → Int → zDa → Option zDa) (hk_22 : ∀ (u5 : Int) (u6 : Int) (D : zDa), zO l E (d + 1) YX2_answer 22 [(0, zR 52), (1, zI o1), (2, zI o2), (3, zI o3), (4, zI o4), (5, zI u5), (6, zI u6)] [] (F, D, n, sl) (zcV F n sl) (k_22 u5 u6 D)) : ∀ (N : Nat) (v5 : Int) (v9 : Int) (D : zDa), zO l E (d + 1) YX2_answer 62 [(0, zR 52), (1, zI o1), (2, zI o2), (3, zI o3), (4, zI o4), (5, zI v5), (6, zI o6), (7, zI o7), (8, zI o8), (9, zI v9)] [] (F, D, n, sl) (zcV F n sl) (zfix (fun _ _ _ => none) (fX2_answer_62 F o1 o2 o3 o4 o6 o7 o8 k_22) N v5 v9 D) := by
  intro N
  induction N with
  | zero => intro v5 v9 D; exact zO_none
  | succ N hk_62 =>
    intro v5 v9 D
    show zO _ _ _ _ _ _ _ _ _ ((fX2_answer_62 F o1 o2 o3 o4 o6 o7 o8 k_22) (zfix (fun _ _ _ => none) (fX2_answer_62 F o1 o2 o3 o4 o6 o7 o8 k_22) N) v5 v9 D)
    unfold fX2_answer_62
    refine zO_iload dX2_answer_62 rfl ?_
    refine zO_iload dX2_answer_64 rfl ?_
    refine zO_icmp_ge (tgt := 94) dX2_answer_66 rfl (fun c66 => ?_) (fun c66 => ?_)
    · refine zO_iload dX2_answer_69 rfl ?_
      refine zO_if_le (tgt := 94) dX2_answer_71 rfl (fun c71 => ?_) (fun c71 => ?_)
      · refine zO_chk (fun h2 => ?_)
        refine zO_aload_n dX2_answer_74 rfl (zR_P _) ?_
        refine zO_aload_n dX2_answer_75 rfl (zR_P _) ?_
        refine gt2 (k := 1) dX2_answer_76 wF_X2_15 (by decide) (gk_52 hG) (zgv (c := 2) (k := 1) rfl (Or.inl ⟨_, rfl⟩) (gf_52_1 hG)) ?_
        refine zO_iload dX2_answer_79 rfl ?_
        refine zO_iald dX2_answer_81 (gk_54 hG) (gl_in (gl_54 hG) h2) ?_
        refine zO_callV (Y' := YX2_answerOne) (cw := zcV F n sl) (as := [zI (D 54 o7.toNat)]) (rest := []) (na := 1) (ci := 2) rfl dX2_answer_82 wC_X2_answerOne wN_X2 wM_X2_75 wI_X2_answerOne wV_X2_answerOne (by decide) (by decide) rfl rfl (Nat.le_of_ble_eq_true rfl) rfl (by decide) (gk_52 hG) (fun r hr => zMet_cast (Nat.add_assoc d 0 0) (mX2_answerOne (d := d + 0) hG (D 54 o7.toNat) r hr)) ?_
        intro D_6 _
        show zO _ _ _ _ _ _ [] (F, D_6, n, sl) _ _
        refine zO_chk (fun h3 => ?_)
        refine zO_iinc dX2_answer_85 rfl h3.1 (by decide) ?_
        refine zO_ls (ls' := [(0, zR 52), (1, zI o1), (2, zI o2), (3, zI o3), (4, zI o4), (5, zI (v5 + (-1))), (6, zI o6), (7, zI o7), (8, zI o8), (9, zI v9)]) rfl ?_
        refine zO_iinc dX2_answer_88 rfl h3.2 (by decide) ?_
        refine zO_ls (ls' := [(0, zR 52), (1, zI o1), (2, zI o2), (3, zI o3), (4, zI o4), (5, zI (v5 + (-1))), (6, zI o6), (7, zI o7), (8, zI o8), (9, zI (v9 + 1))]) rfl ?_
        refine zO_goto (tgt := 62) dX2_answer_91 rfl ?_
        refine zO_live [0, 1, 2, 3, 4, 5, 6, 7, 8, 9] ?_
        exact hk_62 (v5 + (-1)) (v9 + 1) D_6
      · refine zO_live [0, 1, 2, 3, 4, 5, 6] ?_
        exact sX2_answer_94 hG o1 o2 o3 o4 v5 o6 _ hk_22 D
    · refine zO_live [0, 1, 2, 3, 4, 5, 6] ?_
      exact sX2_answer_94 hG o1 o2 o3 o4 v5 o6 _ hk_22 D
set_option maxHeartbeats 20000000 in
theorem sX2_answer_57 {l : Launch} {E : zE} {d : Nat} {F : zFs} {n sl : Nat} (hG : zG F)  (o1 : Int) (o2 : Int) (o3 : Int) (o4 : Int) (v5 : Int) (v6 : Int) (v7 : Int) (s0 : Int) (k_22 : Int → Int → zDa → Option zDa) (hk_22 : ∀ (u5 : Int) (u6 : Int) (D : zDa), zO l E (d + 1) YX2_answer 22 [(0, zR 52), (1, zI o1), (2, zI o2), (3, zI o3), (4, zI o4), (5, zI u5), (6, zI u6)] [] (F, D, n, sl) (zcV F n sl) (k_22 u5 u6 D)) (D : zDa) : zO l E (d + 1) YX2_answer 57 [(0, zR 52), (1, zI o1), (2, zI o2), (3, zI o3), (4, zI o4), (5, zI v5), (6, zI v6), (7, zI v7)] [zI s0] (F, D, n, sl) (zcV F n sl) (fX2_answer_57 F k_22 o1 o2 o3 o4 v5 v6 v7 s0 D) := by
  unfold fX2_answer_57
  refine zO_istore dX2_answer_57 (by decide) ?_
  refine zO_ls (ls' := [(0, zR 52), (1, zI o1), (2, zI o2), (3, zI o3), (4, zI o4), (5, zI v5), (6, zI v6), (7, zI v7), (8, zI s0)]) rfl ?_
  refine zO_iconst dX2_answer_59 (by decide) ?_
  refine zO_istore dX2_answer_60 (by decide) ?_
  refine zO_ls (ls' := [(0, zR 52), (1, zI o1), (2, zI o2), (3, zI o3), (4, zI o4), (5, zI v5), (6, zI v6), (7, zI v7), (8, zI s0), (9, zI 0)]) rfl ?_
  refine zO_live [0, 1, 2, 3, 4, 5, 6, 7, 8, 9] ?_
  exact sX2_answer_62 hG o1 o2 o3 o4 v6 v7 s0 _ hk_22 zfu v5 0 D
set_option maxHeartbeats 20000000 in
theorem sX2_answer_116 {l : Launch} {E : zE} {d : Nat} {F : zFs} {n sl : Nat} (hG : zG F)  (o6 : Int) (k_107 : Int → zDa → Option zDa) (hk_107 : ∀ (u6 : Int) (D : zDa), zO l E (d + 1) YX2_answer 107 [(0, zR 52), (6, zI u6)] [] (F, D, n, sl) (zcV F n sl) (k_107 u6 D)) : ∀ (N : Nat) (v7 : Int) (D : zDa), zO l E (d + 1) YX2_answer 116 [(0, zR 52), (6, zI o6), (7, zI v7)] [] (F, D, n, sl) (zcV F n sl) (zfix (fun _ _ => none) (fX2_answer_116 F o6 k_107) N v7 D) := by
  intro N
  induction N with
  | zero => intro v7 D; exact zO_none
  | succ N hk_116 =>
    intro v7 D
    show zO _ _ _ _ _ _ _ _ _ ((fX2_answer_116 F o6 k_107) (zfix (fun _ _ => none) (fX2_answer_116 F o6 k_107) N) v7 D)
    unfold fX2_answer_116
    refine zO_iload dX2_answer_116 rfl ?_
    refine zO_iconst dX2_answer_118 (by decide) ?_
    refine zO_icmp_gt (tgt := 141) dX2_answer_119 rfl (fun c119 => ?_) (fun c119 => ?_)
    · refine zO_chk (fun h6 => ?_)
      refine zO_iinc dX2_answer_141 rfl h6 (by decide) ?_
      refine zO_ls (ls' := [(0, zR 52), (6, zI (o6 + 1)), (7, zI v7)]) rfl ?_
      refine zO_goto (tgt := 107) dX2_answer_144 rfl ?_
      refine zO_live [0, 6] ?_
      exact hk_107 (o6 + 1) D
    · refine zO_chk (fun h7 => ?_)
      refine zO_aload_n dX2_answer_122 rfl (zR_P _) ?_
      refine gt2 (k := 5) dX2_answer_123 wF_X2_27 (by decide) (gk_52 hG) (zgv (c := 2) (k := 5) rfl (Or.inl ⟨_, rfl⟩) (gf_52_5 hG)) ?_
      refine zO_iload dX2_answer_126 rfl ?_
      refine zO_dup2a dX2_answer_128 (rfl) (rfl) ?_
      refine zO_lald dX2_answer_129 (gk_58 hG) (gl_in (gl_58 hG) h7.1) ?_
      refine zO_ldc2 (n := 100) dX2_answer_130 wK_X2_69 (by decide) ?_
      refine zO_lmul dX2_answer_133 h7.2 ?_
      refine zO_last dX2_answer_134 (gk_58 hG) (gl_in (gl_58 hG) h7.1) ?_
      refine zO_letD (fun D_8 eD_8 => ?_)
      refine zO_chk (fun h8 => ?_)
      refine zO_iinc dX2_answer_135 rfl h8 (by decide) ?_
      refine zO_ls (ls' := [(0, zR 52), (6, zI o6), (7, zI (v7 + 1))]) rfl ?_
      refine zO_goto (tgt := 116) dX2_answer_138 rfl ?_
      refine zO_live [0, 6, 7] ?_
      exact hk_116 (v7 + 1) D_8
set_option maxHeartbeats 20000000 in
theorem sX2_answer_107 {l : Launch} {E : zE} {d : Nat} {F : zFs} {n sl : Nat} (hG : zG F)     : ∀ (N : Nat) (v6 : Int) (D : zDa), zO l E (d + 1) YX2_answer 107 [(0, zR 52), (6, zI v6)] [] (F, D, n, sl) (zcV F n sl) (zfix (fun _ _ => none) (fX2_answer_107 F) N v6 D) := by
  intro N
  induction N with
  | zero => intro v6 D; exact zO_none
  | succ N hk_107 =>
    intro v6 D
    show zO _ _ _ _ _ _ _ _ _ ((fX2_answer_107 F) (zfix (fun _ _ => none) (fX2_answer_107 F) N) v6 D)
    unfold fX2_answer_107
    refine zO_iload dX2_answer_107 rfl ?_
    refine zO_iconst dX2_answer_109 (by decide) ?_
    refine zO_icmp_ge (tgt := 147) dX2_answer_110 rfl (fun c110 => ?_) (fun c110 => ?_)
    · refine zO_iconst dX2_answer_113 (by decide) ?_
      refine zO_istore dX2_answer_114 (by decide) ?_
      refine zO_ls (ls' := [(0, zR 52), (6, zI v6), (7, zI 0)]) rfl ?_
      refine zO_live [0, 6, 7] ?_
      exact sX2_answer_116 hG v6 _ hk_107 zfu 0 D
    · exact zO_ret (rv := none) dX2_answer_147 rfl trivial rfl
set_option maxHeartbeats 20000000 in
theorem sX2_answer_22 {l : Launch} {E : zE} {d : Nat} {F : zFs} {n sl : Nat} (hG : zG F)  (o1 : Int) (o2 : Int) (o3 : Int) (o4 : Int)   : ∀ (N : Nat) (v5 : Int) (v6 : Int) (D : zDa), zO l E (d + 1) YX2_answer 22 [(0, zR 52), (1, zI o1), (2, zI o2), (3, zI o3), (4, zI o4), (5, zI v5), (6, zI v6)] [] (F, D, n, sl) (zcV F n sl) (zfix (fun _ _ _ => none) (fX2_answer_22 F o1 o2 o3 o4) N v5 v6 D) := by
  intro N
  induction N with
  | zero => intro v5 v6 D; exact zO_none
  | succ N hk_22 =>
    intro v5 v6 D
    show zO _ _ _ _ _ _ _ _ _ ((fX2_answer_22 F o1 o2 o3 o4) (zfix (fun _ _ _ => none) (fX2_answer_22 F o1 o2 o3 o4) N) v5 v6 D)
    unfold fX2_answer_22
    refine zO_iload dX2_answer_22 rfl ?_
    refine zO_iconst dX2_answer_24 (by decide) ?_
    refine zO_icmp_ge (tgt := 100) dX2_answer_25 rfl (fun c25 => ?_) (fun c25 => ?_)
    · refine zO_chk (fun h1 => ?_)
      refine zO_aload_n dX2_answer_28 rfl (zR_P _) ?_
      refine gt2 (k := 2) dX2_answer_29 wF_X2_18 (by decide) (gk_52 hG) (zgv (c := 2) (k := 2) rfl (Or.inl ⟨_, rfl⟩) (gf_52_2 hG)) ?_
      refine zO_iload dX2_answer_32 rfl ?_
      refine zO_iald dX2_answer_34 (gk_55 hG) (gl_in (gl_55 hG) h1) ?_
      refine zO_letI (fun x7_4 ex7_4 => ?_)
      refine zO_istore dX2_answer_35 (by decide) ?_
      refine zO_ls (ls' := [(0, zR 52), (1, zI o1), (2, zI o2), (3, zI o3), (4, zI o4), (5, zI v5), (6, zI v6), (7, zI x7_4)]) rfl ?_
      refine zO_iload dX2_answer_37 rfl ?_
      refine zO_if_ne (tgt := 46) dX2_answer_39 rfl (fun c39 => ?_) (fun c39 => ?_)
      · refine zO_iload_n dX2_answer_42 rfl ?_
        refine zO_goto (tgt := 57) dX2_answer_43 rfl ?_
        refine zO_live [0, 1, 2, 3, 4, 5, 6, 7] ?_
        exact sX2_answer_57 hG o1 o2 o3 o4 v5 v6 x7_4 o1 _ hk_22 D
      · refine zO_iload dX2_answer_46 rfl ?_
        refine zO_iconst dX2_answer_48 (by decide) ?_
        refine zO_icmp_ne (tgt := 56) dX2_answer_49 rfl (fun c49 => ?_) (fun c49 => ?_)
        · refine zO_iload_n dX2_answer_52 rfl ?_
          refine zO_goto (tgt := 57) dX2_answer_53 rfl ?_
          refine zO_live [0, 1, 2, 3, 4, 5, 6, 7] ?_
          exact sX2_answer_57 hG o1 o2 o3 o4 v5 v6 x7_4 o2 _ hk_22 D
        · refine zO_iload_n dX2_answer_56 rfl ?_
          refine zO_live [0, 1, 2, 3, 4, 5, 6, 7] ?_
          exact sX2_answer_57 hG o1 o2 o3 o4 v5 v6 x7_4 o3 _ hk_22 D
    · refine zO_chk (fun h5 => ?_)
      refine zO_iload dX2_answer_100 rfl ?_
      refine zO_iload dX2_answer_102 rfl ?_
      refine zO_isub dX2_answer_104 h5 ?_
      refine zO_letI (fun x6_7 ex6_7 => ?_)
      refine zO_istore dX2_answer_105 (by decide) ?_
      refine zO_ls (ls' := [(0, zR 52), (1, zI o1), (2, zI o2), (3, zI o3), (4, zI o4), (5, zI v5), (6, zI x6_7)]) rfl ?_
      refine zO_live [0, 6] ?_
      exact sX2_answer_107 hG zfu x6_7 D
set_option maxHeartbeats 20000000 in
theorem mX2_answer {l : Launch} {E : zE} {d : Nat} {F : zFs} {n sl : Nat} (hG : zG F) (v1 : Int) (v2 : Int) (v3 : Int) (v4 : Int) {D : zDa} : ∀ r, fX2_answer F  v1 v2 v3 v4 D = some r → zMet l E (d + 1) YX2_answer [zR 52, zI v1, zI v2, zI v3, zI v4] (F, D, n, sl) (zcV F n sl r) := by
  intro r hr
  refine zMet_of (plainFor_of_name (by decide)) (fun _ h => (nomatch h)) (Nat.le_of_ble_eq_true rfl) ?_
  have hz : zO l E (d + 1) YX2_answer 0 [(0, zR 52), (1, zI v1), (2, zI v2), (3, zI v3), (4, zI v4)] [] (F, D, n, sl) (zcV F n sl) (fX2_answer F  v1 v2 v3 v4 D) := by
    unfold fX2_answer
    refine zO_iload dX2_answer_0 rfl ?_
    refine zO_istore dX2_answer_2 (by decide) ?_
    refine zO_ls (ls' := [(0, zR 52), (1, zI v1), (2, zI v2), (3, zI v3), (4, zI v4), (5, zI v4)]) rfl ?_
    refine zO_aload_n dX2_answer_4 rfl (zR_P _) ?_
    refine gt2 (k := 5) dX2_answer_5 wF_X2_27 (by decide) (gk_52 hG) (zgv (c := 2) (k := 5) rfl (Or.inl ⟨_, rfl⟩) (gf_52_5 hG)) ?_
    refine zO_lconst dX2_answer_8 ?_
    refine zO_callS (Y' := YJ7_fill_d0a16) (cw := zcV F n sl) (as := [zR 58, zL 0]) (rest := []) (na := 2) dX2_answer_9 wC_J7_fill_d0a16 wN_J7 wM_X2_56 wS_J7_fill_d0a16 (by decide) (by decide) rfl rfl (Nat.le_of_ble_eq_true rfl) (fun r hr => zMet_cast (Nat.add_assoc d 0 0) (mJ7_fill_d0a16 (d := d + 0) hG 58 0 r hr)) ?_
    intro D_2 _
    show zO _ _ _ _ _ _ [] (F, D_2, n, sl) _ _
    refine zO_aload_n dX2_answer_12 rfl (zR_P _) ?_
    refine gt2 (k := 5) dX2_answer_13 wF_X2_27 (by decide) (gk_52 hG) (zgv (c := 2) (k := 5) rfl (Or.inl ⟨_, rfl⟩) (gf_52_5 hG)) ?_
    refine zO_iconst dX2_answer_16 (by decide) ?_
    refine zO_lconst dX2_answer_17 ?_
    refine zO_last dX2_answer_18 (gk_58 hG) (gl_in (gl_58 hG) (by decide)) ?_
    refine zO_letD (fun D_3 eD_3 => ?_)
    refine zO_iconst dX2_answer_19 (by decide) ?_
    refine zO_istore dX2_answer_20 (by decide) ?_
    refine zO_ls (ls' := [(0, zR 52), (1, zI v1), (2, zI v2), (3, zI v3), (4, zI v4), (5, zI v4), (6, zI 0)]) rfl ?_
    refine zO_live [0, 1, 2, 3, 4, 5, 6] ?_
    exact sX2_answer_22 hG v1 v2 v3 v4 zfu v4 0 D_3
  exact hz r hr
theorem dX2_addSets_0 : decode cX2_addSets 0 = .ok (.iload_n 3, 1) := by decide +kernel
theorem dX2_addSets_1 : decode cX2_addSets 1 = .ok (.ifCond .ne 7, 3) := by decide +kernel
theorem dX2_addSets_4 : decode cX2_addSets 4 = .ok (.iconst 1, 1) := by decide +kernel
theorem dX2_addSets_5 : decode cX2_addSets 5 = .ok (.goto 4, 3) := by decide +kernel
theorem dX2_addSets_8 : decode cX2_addSets 8 = .ok (.iconst 0, 1) := by decide +kernel
theorem dX2_addSets_9 : decode cX2_addSets 9 = .ok (.istore 6, 2) := by decide +kernel
theorem dX2_addSets_11 : decode cX2_addSets 11 = .ok (.iload_n 3, 1) := by decide +kernel
theorem dX2_addSets_12 : decode cX2_addSets 12 = .ok (.iconst 1, 1) := by decide +kernel
theorem dX2_addSets_13 : decode cX2_addSets 13 = .ok (.if_icmp .ne 7, 3) := by decide +kernel
theorem dX2_addSets_16 : decode cX2_addSets 16 = .ok (.iconst 1, 1) := by decide +kernel
theorem dX2_addSets_17 : decode cX2_addSets 17 = .ok (.goto 4, 3) := by decide +kernel
theorem dX2_addSets_20 : decode cX2_addSets 20 = .ok (.iconst 0, 1) := by decide +kernel
theorem dX2_addSets_21 : decode cX2_addSets 21 = .ok (.istore 7, 2) := by decide +kernel
theorem dX2_addSets_23 : decode cX2_addSets 23 = .ok (.iload_n 3, 1) := by decide +kernel
theorem dX2_addSets_24 : decode cX2_addSets 24 = .ok (.iconst 2, 1) := by decide +kernel
theorem dX2_addSets_25 : decode cX2_addSets 25 = .ok (.if_icmp .ne 7, 3) := by decide +kernel
theorem dX2_addSets_28 : decode cX2_addSets 28 = .ok (.iconst 1, 1) := by decide +kernel
theorem dX2_addSets_29 : decode cX2_addSets 29 = .ok (.goto 4, 3) := by decide +kernel
theorem dX2_addSets_32 : decode cX2_addSets 32 = .ok (.iconst 0, 1) := by decide +kernel
theorem dX2_addSets_33 : decode cX2_addSets 33 = .ok (.istore 8, 2) := by decide +kernel
theorem dX2_addSets_35 : decode cX2_addSets 35 = .ok (.iload 7, 2) := by decide +kernel
theorem dX2_addSets_37 : decode cX2_addSets 37 = .ok (.istore 9, 2) := by decide +kernel
theorem dX2_addSets_39 : decode cX2_addSets 39 = .ok (.iload 9, 2) := by decide +kernel
theorem dX2_addSets_41 : decode cX2_addSets 41 = .ok (.iload_n 1, 1) := by decide +kernel
theorem dX2_addSets_42 : decode cX2_addSets 42 = .ok (.if_icmp .gt 151, 3) := by decide +kernel
theorem dX2_addSets_45 : decode cX2_addSets 45 = .ok (.iload 8, 2) := by decide +kernel
theorem dX2_addSets_47 : decode cX2_addSets 47 = .ok (.istore 10, 2) := by decide +kernel
theorem dX2_addSets_49 : decode cX2_addSets 49 = .ok (.iload 10, 2) := by decide +kernel
theorem dX2_addSets_51 : decode cX2_addSets 51 = .ok (.iload_n 1, 1) := by decide +kernel
theorem dX2_addSets_52 : decode cX2_addSets 52 = .ok (.iload 9, 2) := by decide +kernel
theorem dX2_addSets_54 : decode cX2_addSets 54 = .ok (.isub, 1) := by decide +kernel
theorem dX2_addSets_55 : decode cX2_addSets 55 = .ok (.if_icmp .gt 132, 3) := by decide +kernel
theorem dX2_addSets_58 : decode cX2_addSets 58 = .ok (.iload_n 1, 1) := by decide +kernel
theorem dX2_addSets_59 : decode cX2_addSets 59 = .ok (.iload 9, 2) := by decide +kernel
theorem dX2_addSets_61 : decode cX2_addSets 61 = .ok (.isub, 1) := by decide +kernel
theorem dX2_addSets_62 : decode cX2_addSets 62 = .ok (.iload 10, 2) := by decide +kernel
theorem dX2_addSets_64 : decode cX2_addSets 64 = .ok (.isub, 1) := by decide +kernel
theorem dX2_addSets_65 : decode cX2_addSets 65 = .ok (.istore 11, 2) := by decide +kernel
theorem dX2_addSets_67 : decode cX2_addSets 67 = .ok (.aload_n 0, 1) := by decide +kernel
theorem dX2_addSets_68 : decode cX2_addSets 68 = .ok (.aload_n 0, 1) := by decide +kernel
theorem dX2_addSets_69 : decode cX2_addSets 69 = .ok (.getfield 21, 3) := by decide +kernel
theorem dX2_addSets_72 : decode cX2_addSets 72 = .ok (.iconst 0, 1) := by decide +kernel
theorem dX2_addSets_73 : decode cX2_addSets 73 = .ok (.iaload, 1) := by decide +kernel
theorem dX2_addSets_74 : decode cX2_addSets 74 = .ok (.iload 6, 2) := by decide +kernel
theorem dX2_addSets_76 : decode cX2_addSets 76 = .ok (.isub, 1) := by decide +kernel
theorem dX2_addSets_77 : decode cX2_addSets 77 = .ok (.iload 11, 2) := by decide +kernel
theorem dX2_addSets_79 : decode cX2_addSets 79 = .ok (.iload 6, 2) := by decide +kernel
theorem dX2_addSets_81 : decode cX2_addSets 81 = .ok (.isub, 1) := by decide +kernel
theorem dX2_addSets_82 : decode cX2_addSets 82 = .ok (.invokevirtual 59, 3) := by decide +kernel
theorem dX2_addSets_85 : decode cX2_addSets 85 = .ok (.aload_n 0, 1) := by decide +kernel
theorem dX2_addSets_86 : decode cX2_addSets 86 = .ok (.aload_n 0, 1) := by decide +kernel
theorem dX2_addSets_87 : decode cX2_addSets 87 = .ok (.getfield 21, 3) := by decide +kernel
theorem dX2_addSets_90 : decode cX2_addSets 90 = .ok (.iconst 1, 1) := by decide +kernel
theorem dX2_addSets_91 : decode cX2_addSets 91 = .ok (.iaload, 1) := by decide +kernel
theorem dX2_addSets_92 : decode cX2_addSets 92 = .ok (.iload 7, 2) := by decide +kernel
theorem dX2_addSets_94 : decode cX2_addSets 94 = .ok (.isub, 1) := by decide +kernel
theorem dX2_addSets_95 : decode cX2_addSets 95 = .ok (.iload 9, 2) := by decide +kernel
theorem dX2_addSets_97 : decode cX2_addSets 97 = .ok (.iload 7, 2) := by decide +kernel
theorem dX2_addSets_99 : decode cX2_addSets 99 = .ok (.isub, 1) := by decide +kernel
theorem dX2_addSets_100 : decode cX2_addSets 100 = .ok (.invokevirtual 59, 3) := by decide +kernel
theorem dX2_addSets_103 : decode cX2_addSets 103 = .ok (.lmul, 1) := by decide +kernel
theorem dX2_addSets_104 : decode cX2_addSets 104 = .ok (.aload_n 0, 1) := by decide +kernel
theorem dX2_addSets_105 : decode cX2_addSets 105 = .ok (.aload_n 0, 1) := by decide +kernel
theorem dX2_addSets_106 : decode cX2_addSets 106 = .ok (.getfield 21, 3) := by decide +kernel
theorem dX2_addSets_109 : decode cX2_addSets 109 = .ok (.iconst 2, 1) := by decide +kernel
theorem dX2_addSets_110 : decode cX2_addSets 110 = .ok (.iaload, 1) := by decide +kernel
theorem dX2_addSets_111 : decode cX2_addSets 111 = .ok (.iload 8, 2) := by decide +kernel
theorem dX2_addSets_113 : decode cX2_addSets 113 = .ok (.isub, 1) := by decide +kernel
theorem dX2_addSets_114 : decode cX2_addSets 114 = .ok (.iload 10, 2) := by decide +kernel
theorem dX2_addSets_116 : decode cX2_addSets 116 = .ok (.iload 8, 2) := by decide +kernel
theorem dX2_addSets_118 : decode cX2_addSets 118 = .ok (.isub, 1) := by decide +kernel
theorem dX2_addSets_119 : decode cX2_addSets 119 = .ok (.invokevirtual 59, 3) := by decide +kernel
theorem dX2_addSets_122 : decode cX2_addSets 122 = .ok (.lmul, 1) := by decide +kernel
theorem dX2_addSets_123 : decode cX2_addSets 123 = .ok (.lstore 12, 2) := by decide +kernel
theorem dX2_addSets_125 : decode cX2_addSets 125 = .ok (.lload 12, 2) := by decide +kernel
theorem dX2_addSets_127 : decode cX2_addSets 127 = .ok (.lconst 0, 1) := by decide +kernel
theorem dX2_addSets_128 : decode cX2_addSets 128 = .ok (.lcmp, 1) := by decide +kernel
theorem dX2_addSets_129 : decode cX2_addSets 129 = .ok (.ifCond .le 52, 3) := by decide +kernel
theorem dX2_addSets_132 : decode cX2_addSets 132 = .ok (.aload_n 0, 1) := by decide +kernel
theorem dX2_addSets_133 : decode cX2_addSets 133 = .ok (.iload 11, 2) := by decide +kernel
theorem dX2_addSets_135 : decode cX2_addSets 135 = .ok (.iload 9, 2) := by decide +kernel
theorem dX2_addSets_137 : decode cX2_addSets 137 = .ok (.iload 10, 2) := by decide +kernel
theorem dX2_addSets_139 : decode cX2_addSets 139 = .ok (.iload_n 2, 1) := by decide +kernel
theorem dX2_addSets_140 : decode cX2_addSets 140 = .ok (.invokevirtual 71, 3) := by decide +kernel
theorem dX2_addSets_143 : decode cX2_addSets 143 = .ok (.iconst 0, 1) := by decide +kernel
theorem dX2_addSets_144 : decode cX2_addSets 144 = .ok (.istore 14, 2) := by decide +kernel
theorem dX2_addSets_146 : decode cX2_addSets 146 = .ok (.iload 14, 2) := by decide +kernel
theorem dX2_addSets_148 : decode cX2_addSets 148 = .ok (.iconst 3, 1) := by decide +kernel
theorem dX2_addSets_149 : decode cX2_addSets 149 = .ok (.if_icmp .gt 32, 3) := by decide +kernel
theorem dX2_addSets_152 : decode cX2_addSets 152 = .ok (.aload_n 0, 1) := by decide +kernel
theorem dX2_addSets_153 : decode cX2_addSets 153 = .ok (.getfield 31, 3) := by decide +kernel
theorem dX2_addSets_156 : decode cX2_addSets 156 = .ok (.iload 14, 2) := by decide +kernel
theorem dX2_addSets_158 : decode cX2_addSets 158 = .ok (.dup2, 1) := by decide +kernel
theorem dX2_addSets_159 : decode cX2_addSets 159 = .ok (.laload, 1) := by decide +kernel
theorem dX2_addSets_160 : decode cX2_addSets 160 = .ok (.lload 4, 2) := by decide +kernel
theorem dX2_addSets_162 : decode cX2_addSets 162 = .ok (.lload 12, 2) := by decide +kernel
theorem dX2_addSets_164 : decode cX2_addSets 164 = .ok (.lmul, 1) := by decide +kernel
theorem dX2_addSets_165 : decode cX2_addSets 165 = .ok (.aload_n 0, 1) := by decide +kernel
theorem dX2_addSets_166 : decode cX2_addSets 166 = .ok (.getfield 27, 3) := by decide +kernel
theorem dX2_addSets_169 : decode cX2_addSets 169 = .ok (.iload 14, 2) := by decide +kernel
theorem dX2_addSets_171 : decode cX2_addSets 171 = .ok (.laload, 1) := by decide +kernel
theorem dX2_addSets_172 : decode cX2_addSets 172 = .ok (.lmul, 1) := by decide +kernel
theorem dX2_addSets_173 : decode cX2_addSets 173 = .ok (.ladd, 1) := by decide +kernel
theorem dX2_addSets_174 : decode cX2_addSets 174 = .ok (.lastore, 1) := by decide +kernel
theorem dX2_addSets_175 : decode cX2_addSets 175 = .ok (.iinc 14 1, 3) := by decide +kernel
theorem dX2_addSets_178 : decode cX2_addSets 178 = .ok (.goto (-32), 3) := by decide +kernel
theorem dX2_addSets_181 : decode cX2_addSets 181 = .ok (.iinc 10 1, 3) := by decide +kernel
theorem dX2_addSets_184 : decode cX2_addSets 184 = .ok (.goto (-135), 3) := by decide +kernel
theorem dX2_addSets_187 : decode cX2_addSets 187 = .ok (.iinc 9 1, 3) := by decide +kernel
theorem dX2_addSets_190 : decode cX2_addSets 190 = .ok (.goto (-151), 3) := by decide +kernel
theorem dX2_addSets_193 : decode cX2_addSets 193 = .ok (.return_, 1) := by decide +kernel
abbrev YX2_addSets : zY := (yX2_addSets, cX2_addSets, 15, none, [])
def fX2_addSets_181 (F : zFs) (k_39 : Int → zDa → Option zDa) (k_49 : Int → zDa → Option zDa) (o1 : Int) (o2 : Int) (o4 : Int) (o6 : Int) (o7 : Int) (o8 : Int) (o9 : Int) (o10 : Int) (D : zDa) : Option zDa :=
  if (-2147483648 ≤ o10 + 1 ∧ o10 + 1 ≤ 2147483647) then
    k_49 (o10 + 1) D
  else none
def fX2_addSets_146 (F : zFs) (o1 : Int) (o2 : Int) (o4 : Int) (o6 : Int) (o7 : Int) (o8 : Int) (o9 : Int) (o10 : Int) (o12 : Int) (k_39 : Int → zDa → Option zDa) (k_49 : Int → zDa → Option zDa) (k_146 : Int → zDa → Option zDa) (v14 : Int) (D : zDa) : Option zDa :=
  if 3 < v14 then
    fX2_addSets_181 F k_39 k_49 o1 o2 o4 o6 o7 o8 o9 o10 D
  else
    if (0 ≤ v14 ∧ v14 < 4) ∧ (-9223372036854775808 ≤ o4 * o12 ∧ o4 * o12 ≤ 9223372036854775807) ∧ (-9223372036854775808 ≤ (o4 * o12) * (D 58 v14.toNat) ∧ (o4 * o12) * (D 58 v14.toNat) ≤ 9223372036854775807) ∧ (-9223372036854775808 ≤ (D 59 v14.toNat) + ((o4 * o12) * (D 58 v14.toNat)) ∧ (D 59 v14.toNat) + ((o4 * o12) * (D 58 v14.toNat)) ≤ 9223372036854775807) then
      zlet (zwr D 59 v14.toNat ((D 59 v14.toNat) + ((o4 * o12) * (D 58 v14.toNat)))) (fun D_11 =>
        if (-2147483648 ≤ v14 + 1 ∧ v14 + 1 ≤ 2147483647) then
          k_146 (v14 + 1) D_11
        else none)
    else none
def fX2_addSets_49 (F : zFs) (o1 : Int) (o2 : Int) (o4 : Int) (o6 : Int) (o7 : Int) (o8 : Int) (o9 : Int) (k_39 : Int → zDa → Option zDa) (k_49 : Int → zDa → Option zDa) (v10 : Int) (D : zDa) : Option zDa :=
  if (-2147483648 ≤ o1 - o9 ∧ o1 - o9 ≤ 2147483647) then
    if (o1 - o9) < v10 then
      if (-2147483648 ≤ o9 + 1 ∧ o9 + 1 ≤ 2147483647) then
        k_39 (o9 + 1) D
      else none
    else
      if (-2147483648 ≤ (o1 - o9) - v10 ∧ (o1 - o9) - v10 ≤ 2147483647) then
        zlet (((o1 - o9) - v10)) (fun x11_1 =>
          if (-2147483648 ≤ (D 56 0) - o6 ∧ (D 56 0) - o6 ≤ 2147483647) ∧ (-2147483648 ≤ x11_1 - o6 ∧ x11_1 - o6 ≤ 2147483647) then
            (fX2_sets F ((D 56 0) - o6) (x11_1 - o6) D).bind (fun (r_2, D_3) =>
              if (-2147483648 ≤ (D_3 56 1) - o7 ∧ (D_3 56 1) - o7 ≤ 2147483647) ∧ (-2147483648 ≤ o9 - o7 ∧ o9 - o7 ≤ 2147483647) then
                (fX2_sets F ((D_3 56 1) - o7) (o9 - o7) D_3).bind (fun (r_4, D_5) =>
                  if (-9223372036854775808 ≤ r_2 * r_4 ∧ r_2 * r_4 ≤ 9223372036854775807) ∧ (-2147483648 ≤ (D_5 56 2) - o8 ∧ (D_5 56 2) - o8 ≤ 2147483647) ∧ (-2147483648 ≤ v10 - o8 ∧ v10 - o8 ≤ 2147483647) then
                    (fX2_sets F ((D_5 56 2) - o8) (v10 - o8) D_5).bind (fun (r_6, D_7) =>
                      if (-9223372036854775808 ≤ (r_2 * r_4) * r_6 ∧ (r_2 * r_4) * r_6 ≤ 9223372036854775807) then
                        zlet (((r_2 * r_4) * r_6)) (fun x12_8 =>
                          if 0 < x12_8 then
                            (fX2_answer F x11_1 o9 v10 o2 D_7).bind (fun D_10 =>
                              zfix (fun _ _ => none) (fX2_addSets_146 F o1 o2 o4 o6 o7 o8 o9 v10 x12_8 k_39 k_49) zfu 0 D_10)
                          else
                            fX2_addSets_181 F k_39 k_49 o1 o2 o4 o6 o7 o8 o9 v10 D_7)
                      else none)
                  else none)
              else none)
          else none)
      else none
  else none
def fX2_addSets_39 (F : zFs) (o1 : Int) (o2 : Int) (o4 : Int) (o6 : Int) (o7 : Int) (o8 : Int)  (k_39 : Int → zDa → Option zDa) (v9 : Int) (D : zDa) : Option zDa :=
  if o1 < v9 then
    some D
  else
    zfix (fun _ _ => none) (fX2_addSets_49 F o1 o2 o4 o6 o7 o8 v9 k_39) zfu o8 D
def fX2_addSets_33 (F : zFs)  (v1 : Int) (v2 : Int) (v4 : Int) (v6 : Int) (v7 : Int) (s0 : Int) (D : zDa) : Option zDa :=
  zfix (fun _ _ => none) (fX2_addSets_39 F v1 v2 v4 v6 v7 s0) zfu v7 D
def fX2_addSets_21 (F : zFs)  (v1 : Int) (v2 : Int) (v3 : Int) (v4 : Int) (v6 : Int) (s0 : Int) (D : zDa) : Option zDa :=
  if v3 = 2 then
    fX2_addSets_33 F v1 v2 v4 v6 s0 1 D
  else
    fX2_addSets_33 F v1 v2 v4 v6 s0 0 D
def fX2_addSets_9 (F : zFs)  (v1 : Int) (v2 : Int) (v3 : Int) (v4 : Int) (s0 : Int) (D : zDa) : Option zDa :=
  if v3 = 1 then
    fX2_addSets_21 F v1 v2 v3 v4 s0 1 D
  else
    fX2_addSets_21 F v1 v2 v3 v4 s0 0 D
def fX2_addSets (F : zFs) (v1 : Int) (v2 : Int) (v3 : Int) (v4 : Int) (D : zDa) : Option zDa :=
  if v3 = 0 then
    fX2_addSets_9 F v1 v2 v3 v4 1 D
  else
    fX2_addSets_9 F v1 v2 v3 v4 0 D
set_option maxHeartbeats 20000000 in
theorem sX2_addSets_181 {l : Launch} {E : zE} {d : Nat} {F : zFs} {n sl : Nat} (hG : zG F)  (o1 : Int) (o2 : Int) (o4 : Int) (o6 : Int) (o7 : Int) (o8 : Int) (o9 : Int) (o10 : Int) (k_39 : Int → zDa → Option zDa) (k_49 : Int → zDa → Option zDa) (hk_39 : ∀ (u9 : Int) (D : zDa), zO l E (d + 2) YX2_addSets 39 [(0, zR 52), (1, zI o1), (2, zI o2), (4, zL o4), (6, zI o6), (7, zI o7), (8, zI o8), (9, zI u9)] [] (F, D, n, sl) (zcV F n sl) (k_39 u9 D)) (hk_49 : ∀ (u10 : Int) (D : zDa), zO l E (d + 2) YX2_addSets 49 [(0, zR 52), (1, zI o1), (2, zI o2), (4, zL o4), (6, zI o6), (7, zI o7), (8, zI o8), (9, zI o9), (10, zI u10)] [] (F, D, n, sl) (zcV F n sl) (k_49 u10 D)) (D : zDa) : zO l E (d + 2) YX2_addSets 181 [(0, zR 52), (1, zI o1), (2, zI o2), (4, zL o4), (6, zI o6), (7, zI o7), (8, zI o8), (9, zI o9), (10, zI o10)] [] (F, D, n, sl) (zcV F n sl) (fX2_addSets_181 F k_39 k_49 o1 o2 o4 o6 o7 o8 o9 o10 D) := by
  unfold fX2_addSets_181
  refine zO_chk (fun h8 => ?_)
  refine zO_iinc dX2_addSets_181 rfl h8 (by decide) ?_
  refine zO_ls (ls' := [(0, zR 52), (1, zI o1), (2, zI o2), (4, zL o4), (6, zI o6), (7, zI o7), (8, zI o8), (9, zI o9), (10, zI (o10 + 1))]) rfl ?_
  refine zO_goto (tgt := 49) dX2_addSets_184 rfl ?_
  refine zO_live [0, 1, 2, 4, 6, 7, 8, 9, 10] ?_
  exact hk_49 (o10 + 1) D
set_option maxHeartbeats 20000000 in
theorem sX2_addSets_146 {l : Launch} {E : zE} {d : Nat} {F : zFs} {n sl : Nat} (hG : zG F)  (o1 : Int) (o2 : Int) (o4 : Int) (o6 : Int) (o7 : Int) (o8 : Int) (o9 : Int) (o10 : Int) (o12 : Int) (k_39 : Int → zDa → Option zDa) (k_49 : Int → zDa → Option zDa) (hk_39 : ∀ (u9 : Int) (D : zDa), zO l E (d + 2) YX2_addSets 39 [(0, zR 52), (1, zI o1), (2, zI o2), (4, zL o4), (6, zI o6), (7, zI o7), (8, zI o8), (9, zI u9)] [] (F, D, n, sl) (zcV F n sl) (k_39 u9 D)) (hk_49 : ∀ (u10 : Int) (D : zDa), zO l E (d + 2) YX2_addSets 49 [(0, zR 52), (1, zI o1), (2, zI o2), (4, zL o4), (6, zI o6), (7, zI o7), (8, zI o8), (9, zI o9), (10, zI u10)] [] (F, D, n, sl) (zcV F n sl) (k_49 u10 D)) : ∀ (N : Nat) (v14 : Int) (D : zDa), zO l E (d + 2) YX2_addSets 146 [(0, zR 52), (1, zI o1), (2, zI o2), (4, zL o4), (6, zI o6), (7, zI o7), (8, zI o8), (9, zI o9), (10, zI o10), (12, zL o12), (14, zI v14)] [] (F, D, n, sl) (zcV F n sl) (zfix (fun _ _ => none) (fX2_addSets_146 F o1 o2 o4 o6 o7 o8 o9 o10 o12 k_39 k_49) N v14 D) := by
  intro N
  induction N with
  | zero => intro v14 D; exact zO_none
  | succ N hk_146 =>
    intro v14 D
    show zO _ _ _ _ _ _ _ _ _ ((fX2_addSets_146 F o1 o2 o4 o6 o7 o8 o9 o10 o12 k_39 k_49) (zfix (fun _ _ => none) (fX2_addSets_146 F o1 o2 o4 o6 o7 o8 o9 o10 o12 k_39 k_49) N) v14 D)
    unfold fX2_addSets_146
    refine zO_iload dX2_addSets_146 rfl ?_
    refine zO_iconst dX2_addSets_148 (by decide) ?_
    refine zO_icmp_gt (tgt := 181) dX2_addSets_149 rfl (fun c149 => ?_) (fun c149 => ?_)
    · refine zO_live [0, 1, 2, 4, 6, 7, 8, 9, 10] ?_
      exact sX2_addSets_181 hG o1 o2 o4 o6 o7 o8 o9 o10 _ _ hk_39 hk_49 D
    · refine zO_chk (fun h9 => ?_)
      refine zO_aload_n dX2_addSets_152 rfl (zR_P _) ?_
      refine gt2 (k := 6) dX2_addSets_153 wF_X2_31 (by decide) (gk_52 hG) (zgv (c := 2) (k := 6) rfl (Or.inl ⟨_, rfl⟩) (gf_52_6 hG)) ?_
      refine zO_iload dX2_addSets_156 rfl ?_
      refine zO_dup2a dX2_addSets_158 (rfl) (rfl) ?_
      refine zO_lald dX2_addSets_159 (gk_59 hG) (gl_in (gl_59 hG) h9.1) ?_
      refine zO_lload dX2_addSets_160 rfl ?_
      refine zO_lload dX2_addSets_162 rfl ?_
      refine zO_lmul dX2_addSets_164 h9.2.1 ?_
      refine zO_aload_n dX2_addSets_165 rfl (zR_P _) ?_
      refine gt2 (k := 5) dX2_addSets_166 wF_X2_27 (by decide) (gk_52 hG) (zgv (c := 2) (k := 5) rfl (Or.inl ⟨_, rfl⟩) (gf_52_5 hG)) ?_
      refine zO_iload dX2_addSets_169 rfl ?_
      refine zO_lald dX2_addSets_171 (gk_58 hG) (gl_in (gl_58 hG) h9.1) ?_
      refine zO_lmul dX2_addSets_172 h9.2.2.1 ?_
      refine zO_ladd dX2_addSets_173 h9.2.2.2 ?_
      refine zO_last dX2_addSets_174 (gk_59 hG) (gl_in (gl_59 hG) h9.1) ?_
      refine zO_letD (fun D_11 eD_11 => ?_)
      refine zO_chk (fun h10 => ?_)
      refine zO_iinc dX2_addSets_175 rfl h10 (by decide) ?_
      refine zO_ls (ls' := [(0, zR 52), (1, zI o1), (2, zI o2), (4, zL o4), (6, zI o6), (7, zI o7), (8, zI o8), (9, zI o9), (10, zI o10), (12, zL o12), (14, zI (v14 + 1))]) rfl ?_
      refine zO_goto (tgt := 146) dX2_addSets_178 rfl ?_
      refine zO_live [0, 1, 2, 4, 6, 7, 8, 9, 10, 12, 14] ?_
      exact hk_146 (v14 + 1) D_11
set_option maxHeartbeats 20000000 in
theorem sX2_addSets_49 {l : Launch} {E : zE} {d : Nat} {F : zFs} {n sl : Nat} (hG : zG F)  (o1 : Int) (o2 : Int) (o4 : Int) (o6 : Int) (o7 : Int) (o8 : Int) (o9 : Int) (k_39 : Int → zDa → Option zDa) (hk_39 : ∀ (u9 : Int) (D : zDa), zO l E (d + 2) YX2_addSets 39 [(0, zR 52), (1, zI o1), (2, zI o2), (4, zL o4), (6, zI o6), (7, zI o7), (8, zI o8), (9, zI u9)] [] (F, D, n, sl) (zcV F n sl) (k_39 u9 D)) : ∀ (N : Nat) (v10 : Int) (D : zDa), zO l E (d + 2) YX2_addSets 49 [(0, zR 52), (1, zI o1), (2, zI o2), (4, zL o4), (6, zI o6), (7, zI o7), (8, zI o8), (9, zI o9), (10, zI v10)] [] (F, D, n, sl) (zcV F n sl) (zfix (fun _ _ => none) (fX2_addSets_49 F o1 o2 o4 o6 o7 o8 o9 k_39) N v10 D) := by
  intro N
  induction N with
  | zero => intro v10 D; exact zO_none
  | succ N hk_49 =>
    intro v10 D
    show zO _ _ _ _ _ _ _ _ _ ((fX2_addSets_49 F o1 o2 o4 o6 o7 o8 o9 k_39) (zfix (fun _ _ => none) (fX2_addSets_49 F o1 o2 o4 o6 o7 o8 o9 k_39) N) v10 D)
    unfold fX2_addSets_49
    refine zO_chk (fun h1 => ?_)
    refine zO_iload dX2_addSets_49 rfl ?_
    refine zO_iload_n dX2_addSets_51 rfl ?_
    refine zO_iload dX2_addSets_52 rfl ?_
    refine zO_isub dX2_addSets_54 h1 ?_
    refine zO_icmp_gt (tgt := 187) dX2_addSets_55 rfl (fun c55 => ?_) (fun c55 => ?_)
    · refine zO_chk (fun h2 => ?_)
      refine zO_iinc dX2_addSets_187 rfl h2 (by decide) ?_
      refine zO_ls (ls' := [(0, zR 52), (1, zI o1), (2, zI o2), (4, zL o4), (6, zI o6), (7, zI o7), (8, zI o8), (9, zI (o9 + 1)), (10, zI v10)]) rfl ?_
      refine zO_goto (tgt := 39) dX2_addSets_190 rfl ?_
      refine zO_live [0, 1, 2, 4, 6, 7, 8, 9] ?_
      exact hk_39 (o9 + 1) D
    · refine zO_chk (fun h3 => ?_)
      refine zO_iload_n dX2_addSets_58 rfl ?_
      refine zO_iload dX2_addSets_59 rfl ?_
      refine zO_isub dX2_addSets_61 h1 ?_
      refine zO_iload dX2_addSets_62 rfl ?_
      refine zO_isub dX2_addSets_64 h3 ?_
      refine zO_letI (fun x11_1 ex11_1 => ?_)
      refine zO_istore dX2_addSets_65 (by decide) ?_
      refine zO_ls (ls' := [(0, zR 52), (1, zI o1), (2, zI o2), (4, zL o4), (6, zI o6), (7, zI o7), (8, zI o8), (9, zI o9), (10, zI v10), (11, zI x11_1)]) rfl ?_
      refine zO_chk (fun h4 => ?_)
      refine zO_aload_n dX2_addSets_67 rfl (zR_P _) ?_
      refine zO_aload_n dX2_addSets_68 rfl (zR_P _) ?_
      refine gt2 (k := 3) dX2_addSets_69 wF_X2_21 (by decide) (gk_52 hG) (zgv (c := 2) (k := 3) rfl (Or.inl ⟨_, rfl⟩) (gf_52_3 hG)) ?_
      refine zO_iconst dX2_addSets_72 (by decide) ?_
      refine zO_iald dX2_addSets_73 (gk_56 hG) (gl_in (gl_56 hG) (by decide)) ?_
      refine zO_iload dX2_addSets_74 rfl ?_
      refine zO_isub dX2_addSets_76 h4.1 ?_
      refine zO_iload dX2_addSets_77 rfl ?_
      refine zO_iload dX2_addSets_79 rfl ?_
      refine zO_isub dX2_addSets_81 h4.2 ?_
      refine zO_callV (Y' := YX2_sets) (cw := zcJ F n sl) (as := [zI ((D 56 0) - o6), zI (x11_1 - o6)]) (rest := []) (na := 2) (ci := 2) rfl dX2_addSets_82 wC_X2_sets wN_X2 wM_X2_59 wI_X2_sets wV_X2_sets (by decide) (by decide) rfl rfl (Nat.le_of_ble_eq_true rfl) rfl (by decide) (gk_52 hG) (fun r hr => zMet_cast (Nat.add_assoc d 1 0) (mX2_sets (d := d + 1) hG ((D 56 0) - o6) (x11_1 - o6) r hr)) ?_
      rintro ⟨r_2, D_3⟩ -
      show zO _ _ _ _ _ _ [zL r_2] (F, D_3, n, sl) _ _
      refine zO_chk (fun h5 => ?_)
      refine zO_aload_n dX2_addSets_85 rfl (zR_P _) ?_
      refine zO_aload_n dX2_addSets_86 rfl (zR_P _) ?_
      refine gt2 (k := 3) dX2_addSets_87 wF_X2_21 (by decide) (gk_52 hG) (zgv (c := 2) (k := 3) rfl (Or.inl ⟨_, rfl⟩) (gf_52_3 hG)) ?_
      refine zO_iconst dX2_addSets_90 (by decide) ?_
      refine zO_iald dX2_addSets_91 (gk_56 hG) (gl_in (gl_56 hG) (by decide)) ?_
      refine zO_iload dX2_addSets_92 rfl ?_
      refine zO_isub dX2_addSets_94 h5.1 ?_
      refine zO_iload dX2_addSets_95 rfl ?_
      refine zO_iload dX2_addSets_97 rfl ?_
      refine zO_isub dX2_addSets_99 h5.2 ?_
      refine zO_callV (Y' := YX2_sets) (cw := zcJ F n sl) (as := [zI ((D_3 56 1) - o7), zI (o9 - o7)]) (rest := [zL r_2]) (na := 2) (ci := 2) rfl dX2_addSets_100 wC_X2_sets wN_X2 wM_X2_59 wI_X2_sets wV_X2_sets (by decide) (by decide) rfl rfl (Nat.le_of_ble_eq_true rfl) rfl (by decide) (gk_52 hG) (fun r hr => zMet_cast (Nat.add_assoc d 1 0) (mX2_sets (d := d + 1) hG ((D_3 56 1) - o7) (o9 - o7) r hr)) ?_
      rintro ⟨r_4, D_5⟩ -
      show zO _ _ _ _ _ _ [zL r_4, zL r_2] (F, D_5, n, sl) _ _
      refine zO_chk (fun h6 => ?_)
      refine zO_lmul dX2_addSets_103 h6.1 ?_
      refine zO_aload_n dX2_addSets_104 rfl (zR_P _) ?_
      refine zO_aload_n dX2_addSets_105 rfl (zR_P _) ?_
      refine gt2 (k := 3) dX2_addSets_106 wF_X2_21 (by decide) (gk_52 hG) (zgv (c := 2) (k := 3) rfl (Or.inl ⟨_, rfl⟩) (gf_52_3 hG)) ?_
      refine zO_iconst dX2_addSets_109 (by decide) ?_
      refine zO_iald dX2_addSets_110 (gk_56 hG) (gl_in (gl_56 hG) (by decide)) ?_
      refine zO_iload dX2_addSets_111 rfl ?_
      refine zO_isub dX2_addSets_113 h6.2.1 ?_
      refine zO_iload dX2_addSets_114 rfl ?_
      refine zO_iload dX2_addSets_116 rfl ?_
      refine zO_isub dX2_addSets_118 h6.2.2 ?_
      refine zO_callV (Y' := YX2_sets) (cw := zcJ F n sl) (as := [zI ((D_5 56 2) - o8), zI (v10 - o8)]) (rest := [zL (r_2 * r_4)]) (na := 2) (ci := 2) rfl dX2_addSets_119 wC_X2_sets wN_X2 wM_X2_59 wI_X2_sets wV_X2_sets (by decide) (by decide) rfl rfl (Nat.le_of_ble_eq_true rfl) rfl (by decide) (gk_52 hG) (fun r hr => zMet_cast (Nat.add_assoc d 1 0) (mX2_sets (d := d + 1) hG ((D_5 56 2) - o8) (v10 - o8) r hr)) ?_
      rintro ⟨r_6, D_7⟩ -
      show zO _ _ _ _ _ _ [zL r_6, zL (r_2 * r_4)] (F, D_7, n, sl) _ _
      refine zO_chk (fun h7 => ?_)
      refine zO_lmul dX2_addSets_122 h7 ?_
      refine zO_letJ (fun x12_8 ex12_8 => ?_)
      refine zO_lstore dX2_addSets_123 (by decide) ?_
      refine zO_ls (ls' := [(0, zR 52), (1, zI o1), (2, zI o2), (4, zL o4), (6, zI o6), (7, zI o7), (8, zI o8), (9, zI o9), (10, zI v10), (11, zI x11_1), (12, zL x12_8)]) rfl ?_
      refine zO_lload dX2_addSets_125 rfl ?_
      refine zO_lconst dX2_addSets_127 ?_
      refine zO_lif_le (tgt := 181) dX2_addSets_128 dX2_addSets_129 rfl (fun c128 => ?_) (fun c128 => ?_)
      · refine zO_aload_n dX2_addSets_132 rfl (zR_P _) ?_
        refine zO_iload dX2_addSets_133 rfl ?_
        refine zO_iload dX2_addSets_135 rfl ?_
        refine zO_iload dX2_addSets_137 rfl ?_
        refine zO_iload_n dX2_addSets_139 rfl ?_
        refine zO_callV (Y' := YX2_answer) (cw := zcV F n sl) (as := [zI x11_1, zI o9, zI v10, zI o2]) (rest := []) (na := 4) (ci := 2) rfl dX2_addSets_140 wC_X2_answer wN_X2 wM_X2_71 wI_X2_answer wV_X2_answer (by decide) (by decide) rfl rfl (Nat.le_of_ble_eq_true rfl) rfl (by decide) (gk_52 hG) (fun r hr => zMet_cast (Nat.add_assoc d 0 1) (mX2_answer (d := d + 0) hG x11_1 o9 v10 o2 r hr)) ?_
        intro D_10 _
        show zO _ _ _ _ _ _ [] (F, D_10, n, sl) _ _
        refine zO_iconst dX2_addSets_143 (by decide) ?_
        refine zO_istore dX2_addSets_144 (by decide) ?_
        refine zO_ls (ls' := [(0, zR 52), (1, zI o1), (2, zI o2), (4, zL o4), (6, zI o6), (7, zI o7), (8, zI o8), (9, zI o9), (10, zI v10), (11, zI x11_1), (12, zL x12_8), (14, zI 0)]) rfl ?_
        refine zO_live [0, 1, 2, 4, 6, 7, 8, 9, 10, 12, 14] ?_
        exact sX2_addSets_146 hG o1 o2 o4 o6 o7 o8 o9 v10 x12_8 _ _ hk_39 hk_49 zfu 0 D_10
      · refine zO_live [0, 1, 2, 4, 6, 7, 8, 9, 10] ?_
        exact sX2_addSets_181 hG o1 o2 o4 o6 o7 o8 o9 v10 _ _ hk_39 hk_49 D_7
set_option maxHeartbeats 20000000 in
theorem sX2_addSets_39 {l : Launch} {E : zE} {d : Nat} {F : zFs} {n sl : Nat} (hG : zG F)  (o1 : Int) (o2 : Int) (o4 : Int) (o6 : Int) (o7 : Int) (o8 : Int)   : ∀ (N : Nat) (v9 : Int) (D : zDa), zO l E (d + 2) YX2_addSets 39 [(0, zR 52), (1, zI o1), (2, zI o2), (4, zL o4), (6, zI o6), (7, zI o7), (8, zI o8), (9, zI v9)] [] (F, D, n, sl) (zcV F n sl) (zfix (fun _ _ => none) (fX2_addSets_39 F o1 o2 o4 o6 o7 o8) N v9 D) := by
  intro N
  induction N with
  | zero => intro v9 D; exact zO_none
  | succ N hk_39 =>
    intro v9 D
    show zO _ _ _ _ _ _ _ _ _ ((fX2_addSets_39 F o1 o2 o4 o6 o7 o8) (zfix (fun _ _ => none) (fX2_addSets_39 F o1 o2 o4 o6 o7 o8) N) v9 D)
    unfold fX2_addSets_39
    refine zO_iload dX2_addSets_39 rfl ?_
    refine zO_iload_n dX2_addSets_41 rfl ?_
    refine zO_icmp_gt (tgt := 193) dX2_addSets_42 rfl (fun c42 => ?_) (fun c42 => ?_)
    · exact zO_ret (rv := none) dX2_addSets_193 rfl trivial rfl
    · refine zO_iload dX2_addSets_45 rfl ?_
      refine zO_istore dX2_addSets_47 (by decide) ?_
      refine zO_ls (ls' := [(0, zR 52), (1, zI o1), (2, zI o2), (4, zL o4), (6, zI o6), (7, zI o7), (8, zI o8), (9, zI v9), (10, zI o8)]) rfl ?_
      refine zO_live [0, 1, 2, 4, 6, 7, 8, 9, 10] ?_
      exact sX2_addSets_49 hG o1 o2 o4 o6 o7 o8 v9 _ hk_39 zfu o8 D
set_option maxHeartbeats 20000000 in
theorem sX2_addSets_33 {l : Launch} {E : zE} {d : Nat} {F : zFs} {n sl : Nat} (hG : zG F)  (v1 : Int) (v2 : Int) (v4 : Int) (v6 : Int) (v7 : Int) (s0 : Int)   (D : zDa) : zO l E (d + 2) YX2_addSets 33 [(0, zR 52), (1, zI v1), (2, zI v2), (4, zL v4), (6, zI v6), (7, zI v7)] [zI s0] (F, D, n, sl) (zcV F n sl) (fX2_addSets_33 F v1 v2 v4 v6 v7 s0 D) := by
  unfold fX2_addSets_33
  refine zO_istore dX2_addSets_33 (by decide) ?_
  refine zO_ls (ls' := [(0, zR 52), (1, zI v1), (2, zI v2), (4, zL v4), (6, zI v6), (7, zI v7), (8, zI s0)]) rfl ?_
  refine zO_iload dX2_addSets_35 rfl ?_
  refine zO_istore dX2_addSets_37 (by decide) ?_
  refine zO_ls (ls' := [(0, zR 52), (1, zI v1), (2, zI v2), (4, zL v4), (6, zI v6), (7, zI v7), (8, zI s0), (9, zI v7)]) rfl ?_
  refine zO_live [0, 1, 2, 4, 6, 7, 8, 9] ?_
  exact sX2_addSets_39 hG v1 v2 v4 v6 v7 s0 zfu v7 D
set_option maxHeartbeats 20000000 in
theorem sX2_addSets_21 {l : Launch} {E : zE} {d : Nat} {F : zFs} {n sl : Nat} (hG : zG F)  (v1 : Int) (v2 : Int) (v3 : Int) (v4 : Int) (v6 : Int) (s0 : Int)   (D : zDa) : zO l E (d + 2) YX2_addSets 21 [(0, zR 52), (1, zI v1), (2, zI v2), (3, zI v3), (4, zL v4), (6, zI v6)] [zI s0] (F, D, n, sl) (zcV F n sl) (fX2_addSets_21 F v1 v2 v3 v4 v6 s0 D) := by
  unfold fX2_addSets_21
  refine zO_istore dX2_addSets_21 (by decide) ?_
  refine zO_ls (ls' := [(0, zR 52), (1, zI v1), (2, zI v2), (3, zI v3), (4, zL v4), (6, zI v6), (7, zI s0)]) rfl ?_
  refine zO_iload_n dX2_addSets_23 rfl ?_
  refine zO_iconst dX2_addSets_24 (by decide) ?_
  refine zO_icmp_ne (tgt := 32) dX2_addSets_25 rfl (fun c25 => ?_) (fun c25 => ?_)
  · refine zO_iconst dX2_addSets_28 (by decide) ?_
    refine zO_goto (tgt := 33) dX2_addSets_29 rfl ?_
    refine zO_live [0, 1, 2, 4, 6, 7] ?_
    exact sX2_addSets_33 hG v1 v2 v4 v6 s0 1 D
  · refine zO_iconst dX2_addSets_32 (by decide) ?_
    refine zO_live [0, 1, 2, 4, 6, 7] ?_
    exact sX2_addSets_33 hG v1 v2 v4 v6 s0 0 D
set_option maxHeartbeats 20000000 in
theorem sX2_addSets_9 {l : Launch} {E : zE} {d : Nat} {F : zFs} {n sl : Nat} (hG : zG F)  (v1 : Int) (v2 : Int) (v3 : Int) (v4 : Int) (s0 : Int)   (D : zDa) : zO l E (d + 2) YX2_addSets 9 [(0, zR 52), (1, zI v1), (2, zI v2), (3, zI v3), (4, zL v4)] [zI s0] (F, D, n, sl) (zcV F n sl) (fX2_addSets_9 F v1 v2 v3 v4 s0 D) := by
  unfold fX2_addSets_9
  refine zO_istore dX2_addSets_9 (by decide) ?_
  refine zO_ls (ls' := [(0, zR 52), (1, zI v1), (2, zI v2), (3, zI v3), (4, zL v4), (6, zI s0)]) rfl ?_
  refine zO_iload_n dX2_addSets_11 rfl ?_
  refine zO_iconst dX2_addSets_12 (by decide) ?_
  refine zO_icmp_ne (tgt := 20) dX2_addSets_13 rfl (fun c13 => ?_) (fun c13 => ?_)
  · refine zO_iconst dX2_addSets_16 (by decide) ?_
    refine zO_goto (tgt := 21) dX2_addSets_17 rfl ?_
    refine zO_live [0, 1, 2, 3, 4, 6] ?_
    exact sX2_addSets_21 hG v1 v2 v3 v4 s0 1 D
  · refine zO_iconst dX2_addSets_20 (by decide) ?_
    refine zO_live [0, 1, 2, 3, 4, 6] ?_
    exact sX2_addSets_21 hG v1 v2 v3 v4 s0 0 D
set_option maxHeartbeats 20000000 in
theorem mX2_addSets {l : Launch} {E : zE} {d : Nat} {F : zFs} {n sl : Nat} (hG : zG F) (v1 : Int) (v2 : Int) (v3 : Int) (v4 : Int) {D : zDa} : ∀ r, fX2_addSets F  v1 v2 v3 v4 D = some r → zMet l E (d + 2) YX2_addSets [zR 52, zI v1, zI v2, zI v3, zL v4] (F, D, n, sl) (zcV F n sl r) := by
  intro r hr
  refine zMet_of (plainFor_of_name (by decide)) (fun _ h => (nomatch h)) (Nat.le_of_ble_eq_true rfl) ?_
  have hz : zO l E (d + 2) YX2_addSets 0 [(0, zR 52), (1, zI v1), (2, zI v2), (3, zI v3), (4, zL v4)] [] (F, D, n, sl) (zcV F n sl) (fX2_addSets F  v1 v2 v3 v4 D) := by
    unfold fX2_addSets
    refine zO_iload_n dX2_addSets_0 rfl ?_
    refine zO_if_ne (tgt := 8) dX2_addSets_1 rfl (fun c1 => ?_) (fun c1 => ?_)
    · refine zO_iconst dX2_addSets_4 (by decide) ?_
      refine zO_goto (tgt := 9) dX2_addSets_5 rfl ?_
      refine zO_live [0, 1, 2, 3, 4] ?_
      exact sX2_addSets_9 hG v1 v2 v3 v4 1 D
    · refine zO_iconst dX2_addSets_8 (by decide) ?_
      refine zO_live [0, 1, 2, 3, 4] ?_
      exact sX2_addSets_9 hG v1 v2 v3 v4 0 D
  exact hz r hr
theorem dX2_spread_0 : decode cX2_spread 0 = .ok (.aload_n 0, 1) := by decide +kernel
theorem dX2_spread_1 : decode cX2_spread 1 = .ok (.getfield 21, 3) := by decide +kernel
theorem dX2_spread_4 : decode cX2_spread 4 = .ok (.iconst 0, 1) := by decide +kernel
theorem dX2_spread_5 : decode cX2_spread 5 = .ok (.iaload, 1) := by decide +kernel
theorem dX2_spread_6 : decode cX2_spread 6 = .ok (.aload_n 0, 1) := by decide +kernel
theorem dX2_spread_7 : decode cX2_spread 7 = .ok (.getfield 21, 3) := by decide +kernel
theorem dX2_spread_10 : decode cX2_spread 10 = .ok (.iconst 1, 1) := by decide +kernel
theorem dX2_spread_11 : decode cX2_spread 11 = .ok (.iaload, 1) := by decide +kernel
theorem dX2_spread_12 : decode cX2_spread 12 = .ok (.iadd, 1) := by decide +kernel
theorem dX2_spread_13 : decode cX2_spread 13 = .ok (.aload_n 0, 1) := by decide +kernel
theorem dX2_spread_14 : decode cX2_spread 14 = .ok (.getfield 21, 3) := by decide +kernel
theorem dX2_spread_17 : decode cX2_spread 17 = .ok (.iconst 2, 1) := by decide +kernel
theorem dX2_spread_18 : decode cX2_spread 18 = .ok (.iaload, 1) := by decide +kernel
theorem dX2_spread_19 : decode cX2_spread 19 = .ok (.iadd, 1) := by decide +kernel
theorem dX2_spread_20 : decode cX2_spread 20 = .ok (.istore 4, 2) := by decide +kernel
theorem dX2_spread_22 : decode cX2_spread 22 = .ok (.aload_n 0, 1) := by decide +kernel
theorem dX2_spread_23 : decode cX2_spread 23 = .ok (.getfield 24, 3) := by decide +kernel
theorem dX2_spread_26 : decode cX2_spread 26 = .ok (.iconst 0, 1) := by decide +kernel
theorem dX2_spread_27 : decode cX2_spread 27 = .ok (.iaload, 1) := by decide +kernel
theorem dX2_spread_28 : decode cX2_spread 28 = .ok (.aload_n 0, 1) := by decide +kernel
theorem dX2_spread_29 : decode cX2_spread 29 = .ok (.getfield 24, 3) := by decide +kernel
theorem dX2_spread_32 : decode cX2_spread 32 = .ok (.iconst 1, 1) := by decide +kernel
theorem dX2_spread_33 : decode cX2_spread 33 = .ok (.iaload, 1) := by decide +kernel
theorem dX2_spread_34 : decode cX2_spread 34 = .ok (.iadd, 1) := by decide +kernel
theorem dX2_spread_35 : decode cX2_spread 35 = .ok (.aload_n 0, 1) := by decide +kernel
theorem dX2_spread_36 : decode cX2_spread 36 = .ok (.getfield 24, 3) := by decide +kernel
theorem dX2_spread_39 : decode cX2_spread 39 = .ok (.iconst 2, 1) := by decide +kernel
theorem dX2_spread_40 : decode cX2_spread 40 = .ok (.iaload, 1) := by decide +kernel
theorem dX2_spread_41 : decode cX2_spread 41 = .ok (.iadd, 1) := by decide +kernel
theorem dX2_spread_42 : decode cX2_spread 42 = .ok (.istore 5, 2) := by decide +kernel
theorem dX2_spread_44 : decode cX2_spread 44 = .ok (.iload_n 1, 1) := by decide +kernel
theorem dX2_spread_45 : decode cX2_spread 45 = .ok (.iload 4, 2) := by decide +kernel
theorem dX2_spread_47 : decode cX2_spread 47 = .ok (.invokestatic 50, 3) := by decide +kernel
theorem dX2_spread_50 : decode cX2_spread 50 = .ok (.istore 6, 2) := by decide +kernel
theorem dX2_spread_52 : decode cX2_spread 52 = .ok (.aload_n 0, 1) := by decide +kernel
theorem dX2_spread_53 : decode cX2_spread 53 = .ok (.getfield 31, 3) := by decide +kernel
theorem dX2_spread_56 : decode cX2_spread 56 = .ok (.lconst 0, 1) := by decide +kernel
theorem dX2_spread_57 : decode cX2_spread 57 = .ok (.invokestatic 56, 3) := by decide +kernel
theorem dX2_spread_60 : decode cX2_spread 60 = .ok (.aload_n 0, 1) := by decide +kernel
theorem dX2_spread_61 : decode cX2_spread 61 = .ok (.aload_n 0, 1) := by decide +kernel
theorem dX2_spread_62 : decode cX2_spread 62 = .ok (.iload 4, 2) := by decide +kernel
theorem dX2_spread_64 : decode cX2_spread 64 = .ok (.iload 6, 2) := by decide +kernel
theorem dX2_spread_66 : decode cX2_spread 66 = .ok (.invokevirtual 59, 3) := by decide +kernel
theorem dX2_spread_69 : decode cX2_spread 69 = .ok (.ldc2_w 63, 3) := by decide +kernel
theorem dX2_spread_72 : decode cX2_spread 72 = .ok (.lmul, 1) := by decide +kernel
theorem dX2_spread_73 : decode cX2_spread 73 = .ok (.putfield 34, 3) := by decide +kernel
theorem dX2_spread_76 : decode cX2_spread 76 = .ok (.iload 5, 2) := by decide +kernel
theorem dX2_spread_78 : decode cX2_spread 78 = .ok (.ifCond .eq 13, 3) := by decide +kernel
theorem dX2_spread_81 : decode cX2_spread 81 = .ok (.iload_n 1, 1) := by decide +kernel
theorem dX2_spread_82 : decode cX2_spread 82 = .ok (.iload 4, 2) := by decide +kernel
theorem dX2_spread_84 : decode cX2_spread 84 = .ok (.if_icmp .ge 7, 3) := by decide +kernel
theorem dX2_spread_87 : decode cX2_spread 87 = .ok (.iload_n 3, 1) := by decide +kernel
theorem dX2_spread_88 : decode cX2_spread 88 = .ok (.ifCond .ne 13, 3) := by decide +kernel
theorem dX2_spread_91 : decode cX2_spread 91 = .ok (.aload_n 0, 1) := by decide +kernel
theorem dX2_spread_92 : decode cX2_spread 92 = .ok (.iload 6, 2) := by decide +kernel
theorem dX2_spread_94 : decode cX2_spread 94 = .ok (.iload_n 2, 1) := by decide +kernel
theorem dX2_spread_95 : decode cX2_spread 95 = .ok (.iconst (-1), 1) := by decide +kernel
theorem dX2_spread_96 : decode cX2_spread 96 = .ok (.lconst 1, 1) := by decide +kernel
theorem dX2_spread_97 : decode cX2_spread 97 = .ok (.invokevirtual 65, 3) := by decide +kernel
theorem dX2_spread_100 : decode cX2_spread 100 = .ok (.return_, 1) := by decide +kernel
theorem dX2_spread_101 : decode cX2_spread 101 = .ok (.aload_n 0, 1) := by decide +kernel
theorem dX2_spread_102 : decode cX2_spread 102 = .ok (.iload 6, 2) := by decide +kernel
theorem dX2_spread_104 : decode cX2_spread 104 = .ok (.iload_n 2, 1) := by decide +kernel
theorem dX2_spread_105 : decode cX2_spread 105 = .ok (.iconst (-1), 1) := by decide +kernel
theorem dX2_spread_106 : decode cX2_spread 106 = .ok (.ldc2_w 69, 3) := by decide +kernel
theorem dX2_spread_109 : decode cX2_spread 109 = .ok (.iload_n 3, 1) := by decide +kernel
theorem dX2_spread_110 : decode cX2_spread 110 = .ok (.i2l, 1) := by decide +kernel
theorem dX2_spread_111 : decode cX2_spread 111 = .ok (.lsub, 1) := by decide +kernel
theorem dX2_spread_112 : decode cX2_spread 112 = .ok (.iload 5, 2) := by decide +kernel
theorem dX2_spread_114 : decode cX2_spread 114 = .ok (.i2l, 1) := by decide +kernel
theorem dX2_spread_115 : decode cX2_spread 115 = .ok (.lmul, 1) := by decide +kernel
theorem dX2_spread_116 : decode cX2_spread 116 = .ok (.iload 6, 2) := by decide +kernel
theorem dX2_spread_118 : decode cX2_spread 118 = .ok (.i2l, 1) := by decide +kernel
theorem dX2_spread_119 : decode cX2_spread 119 = .ok (.lmul, 1) := by decide +kernel
theorem dX2_spread_120 : decode cX2_spread 120 = .ok (.invokevirtual 65, 3) := by decide +kernel
theorem dX2_spread_123 : decode cX2_spread 123 = .ok (.iconst 0, 1) := by decide +kernel
theorem dX2_spread_124 : decode cX2_spread 124 = .ok (.istore 7, 2) := by decide +kernel
theorem dX2_spread_126 : decode cX2_spread 126 = .ok (.iload 7, 2) := by decide +kernel
theorem dX2_spread_128 : decode cX2_spread 128 = .ok (.iconst 3, 1) := by decide +kernel
theorem dX2_spread_129 : decode cX2_spread 129 = .ok (.if_icmp .ge 43, 3) := by decide +kernel
theorem dX2_spread_132 : decode cX2_spread 132 = .ok (.aload_n 0, 1) := by decide +kernel
theorem dX2_spread_133 : decode cX2_spread 133 = .ok (.getfield 24, 3) := by decide +kernel
theorem dX2_spread_136 : decode cX2_spread 136 = .ok (.iload 7, 2) := by decide +kernel
theorem dX2_spread_138 : decode cX2_spread 138 = .ok (.iaload, 1) := by decide +kernel
theorem dX2_spread_139 : decode cX2_spread 139 = .ok (.ifCond .le 27, 3) := by decide +kernel
theorem dX2_spread_142 : decode cX2_spread 142 = .ok (.aload_n 0, 1) := by decide +kernel
theorem dX2_spread_143 : decode cX2_spread 143 = .ok (.iload 6, 2) := by decide +kernel
theorem dX2_spread_145 : decode cX2_spread 145 = .ok (.iload_n 2, 1) := by decide +kernel
theorem dX2_spread_146 : decode cX2_spread 146 = .ok (.iload 7, 2) := by decide +kernel
theorem dX2_spread_148 : decode cX2_spread 148 = .ok (.iload_n 3, 1) := by decide +kernel
theorem dX2_spread_149 : decode cX2_spread 149 = .ok (.i2l, 1) := by decide +kernel
theorem dX2_spread_150 : decode cX2_spread 150 = .ok (.iload 4, 2) := by decide +kernel
theorem dX2_spread_152 : decode cX2_spread 152 = .ok (.i2l, 1) := by decide +kernel
theorem dX2_spread_153 : decode cX2_spread 153 = .ok (.lmul, 1) := by decide +kernel
theorem dX2_spread_154 : decode cX2_spread 154 = .ok (.aload_n 0, 1) := by decide +kernel
theorem dX2_spread_155 : decode cX2_spread 155 = .ok (.getfield 24, 3) := by decide +kernel
theorem dX2_spread_158 : decode cX2_spread 158 = .ok (.iload 7, 2) := by decide +kernel
theorem dX2_spread_160 : decode cX2_spread 160 = .ok (.iaload, 1) := by decide +kernel
theorem dX2_spread_161 : decode cX2_spread 161 = .ok (.i2l, 1) := by decide +kernel
theorem dX2_spread_162 : decode cX2_spread 162 = .ok (.lmul, 1) := by decide +kernel
theorem dX2_spread_163 : decode cX2_spread 163 = .ok (.invokevirtual 65, 3) := by decide +kernel
theorem dX2_spread_166 : decode cX2_spread 166 = .ok (.iinc 7 1, 3) := by decide +kernel
theorem dX2_spread_169 : decode cX2_spread 169 = .ok (.goto (-43), 3) := by decide +kernel
theorem dX2_spread_172 : decode cX2_spread 172 = .ok (.aload_n 0, 1) := by decide +kernel
theorem dX2_spread_173 : decode cX2_spread 173 = .ok (.dup, 1) := by decide +kernel
theorem dX2_spread_174 : decode cX2_spread 174 = .ok (.getfield 34, 3) := by decide +kernel
theorem dX2_spread_177 : decode cX2_spread 177 = .ok (.ldc2_w 69, 3) := by decide +kernel
theorem dX2_spread_180 : decode cX2_spread 180 = .ok (.iload 5, 2) := by decide +kernel
theorem dX2_spread_182 : decode cX2_spread 182 = .ok (.i2l, 1) := by decide +kernel
theorem dX2_spread_183 : decode cX2_spread 183 = .ok (.lmul, 1) := by decide +kernel
theorem dX2_spread_184 : decode cX2_spread 184 = .ok (.iload 6, 2) := by decide +kernel
theorem dX2_spread_186 : decode cX2_spread 186 = .ok (.i2l, 1) := by decide +kernel
theorem dX2_spread_187 : decode cX2_spread 187 = .ok (.lmul, 1) := by decide +kernel
theorem dX2_spread_188 : decode cX2_spread 188 = .ok (.lmul, 1) := by decide +kernel
theorem dX2_spread_189 : decode cX2_spread 189 = .ok (.putfield 34, 3) := by decide +kernel
theorem dX2_spread_192 : decode cX2_spread 192 = .ok (.return_, 1) := by decide +kernel
abbrev YX2_spread : zY := (yX2_spread, cX2_spread, 8, none, [])
def fX2_spread_91 (F : zFs)  (v2 : Int) (v6 : Int) (D : zDa) : Option zDa :=
  (fX2_addSets F v6 v2 (-1) 1 D).bind (fun D_11 =>
    some D_11)
def fX2_spread_166 (F : zFs) (k_126 : Int → zDa → Option zDa) (o2 : Int) (o3 : Int) (o4 : Int) (o5 : Int) (o6 : Int) (v7 : Int) (D : zDa) : Option zDa :=
  if (-2147483648 ≤ v7 + 1 ∧ v7 + 1 ≤ 2147483647) then
    k_126 (v7 + 1) D
  else none
def fX2_spread_126 (F : zFs) (o2 : Int) (o3 : Int) (o4 : Int) (o5 : Int) (o6 : Int)  (k_126 : Int → zDa → Option zDa) (v7 : Int) (D : zDa) : Option zDa :=
  if v7 < 3 then
    if (0 ≤ v7 ∧ v7 < 3) then
      if 0 < (D 57 v7.toNat) then
        if (-9223372036854775808 ≤ o3 * o4 ∧ o3 * o4 ≤ 9223372036854775807) ∧ (-9223372036854775808 ≤ (o3 * o4) * (D 57 v7.toNat) ∧ (o3 * o4) * (D 57 v7.toNat) ≤ 9223372036854775807) then
          (fX2_addSets F o6 o2 v7 ((o3 * o4) * (D 57 v7.toNat)) D).bind (fun D_15 =>
            fX2_spread_166 F k_126 o2 o3 o4 o5 o6 v7 D_15)
        else none
      else
        fX2_spread_166 F k_126 o2 o3 o4 o5 o6 v7 D
    else none
  else
    if (-9223372036854775808 ≤ 100 * o5 ∧ 100 * o5 ≤ 9223372036854775807) ∧ (-9223372036854775808 ≤ (100 * o5) * o6 ∧ (100 * o5) * o6 ≤ 9223372036854775807) ∧ (-9223372036854775808 ≤ (D 52 7) * ((100 * o5) * o6) ∧ (D 52 7) * ((100 * o5) * o6) ≤ 9223372036854775807) then
      zlet (zwr D 52 7 ((D 52 7) * ((100 * o5) * o6))) (fun D_16 =>
        some D_16)
    else none
def fX2_spread (F : zFs) (v1 : Int) (v2 : Int) (v3 : Int) (D : zDa) : Option zDa :=
  if (-2147483648 ≤ (D 56 0) + (D 56 1) ∧ (D 56 0) + (D 56 1) ≤ 2147483647) ∧ (-2147483648 ≤ ((D 56 0) + (D 56 1)) + (D 56 2) ∧ ((D 56 0) + (D 56 1)) + (D 56 2) ≤ 2147483647) then
    zlet ((((D 56 0) + (D 56 1)) + (D 56 2))) (fun x4_1 =>
      if (-2147483648 ≤ (D 57 0) + (D 57 1) ∧ (D 57 0) + (D 57 1) ≤ 2147483647) ∧ (-2147483648 ≤ ((D 57 0) + (D 57 1)) + (D 57 2) ∧ ((D 57 0) + (D 57 1)) + (D 57 2) ≤ 2147483647) then
        zlet ((((D 57 0) + (D 57 1)) + (D 57 2))) (fun x5_2 =>
          (fJ9_min_7cf53 F v1 x4_1 D).bind (fun (r_3, D_4) =>
            (fJ7_fill_d0a16 F 59 0 D_4).bind (fun D_6 =>
              (fX2_sets F x4_1 r_3 D_6).bind (fun (r_7, D_8) =>
                if (-9223372036854775808 ≤ r_7 * 1000000 ∧ r_7 * 1000000 ≤ 9223372036854775807) then
                  zlet (zwr D_8 52 7 (r_7 * 1000000)) (fun D_9 =>
                    if x5_2 = 0 then
                      fX2_spread_91 F v2 r_3 D_9
                    else
                      if v1 < x4_1 then
                        if v3 = 0 then
                          fX2_spread_91 F v2 r_3 D_9
                        else
                          if (-9223372036854775808 ≤ 100 - v3 ∧ 100 - v3 ≤ 9223372036854775807) ∧ (-9223372036854775808 ≤ (100 - v3) * x5_2 ∧ (100 - v3) * x5_2 ≤ 9223372036854775807) ∧ (-9223372036854775808 ≤ ((100 - v3) * x5_2) * r_3 ∧ ((100 - v3) * x5_2) * r_3 ≤ 9223372036854775807) then
                            (fX2_addSets F r_3 v2 (-1) (((100 - v3) * x5_2) * r_3) D_9).bind (fun D_13 =>
                              zfix (fun _ _ => none) (fX2_spread_126 F v2 v3 x4_1 x5_2 r_3) zfu 0 D_13)
                          else none
                      else
                        fX2_spread_91 F v2 r_3 D_9)
                else none))))
      else none)
  else none
set_option maxHeartbeats 20000000 in
theorem sX2_spread_91 {l : Launch} {E : zE} {d : Nat} {F : zFs} {n sl : Nat} (hG : zG F)  (v2 : Int) (v6 : Int)   (D : zDa) : zO l E (d + 3) YX2_spread 91 [(0, zR 52), (2, zI v2), (6, zI v6)] [] (F, D, n, sl) (zcV F n sl) (fX2_spread_91 F v2 v6 D) := by
  unfold fX2_spread_91
  refine zO_aload_n dX2_spread_91 rfl (zR_P _) ?_
  refine zO_iload dX2_spread_92 rfl ?_
  refine zO_iload_n dX2_spread_94 rfl ?_
  refine zO_iconst dX2_spread_95 (by decide) ?_
  refine zO_lconst dX2_spread_96 ?_
  refine zO_callV (Y' := YX2_addSets) (cw := zcV F n sl) (as := [zI v6, zI v2, zI (-1), zL 1]) (rest := []) (na := 4) (ci := 2) rfl dX2_spread_97 wC_X2_addSets wN_X2 wM_X2_65 wI_X2_addSets wV_X2_addSets (by decide) (by decide) rfl rfl (Nat.le_of_ble_eq_true rfl) rfl (by decide) (gk_52 hG) (fun r hr => zMet_cast (Nat.add_assoc d 0 2) (mX2_addSets (d := d + 0) hG v6 v2 (-1) 1 r hr)) ?_
  intro D_11 _
  show zO _ _ _ _ _ _ [] (F, D_11, n, sl) _ _
  exact zO_ret (rv := none) dX2_spread_100 rfl trivial rfl
set_option maxHeartbeats 20000000 in
theorem sX2_spread_166 {l : Launch} {E : zE} {d : Nat} {F : zFs} {n sl : Nat} (hG : zG F)  (o2 : Int) (o3 : Int) (o4 : Int) (o5 : Int) (o6 : Int) (v7 : Int) (k_126 : Int → zDa → Option zDa) (hk_126 : ∀ (u7 : Int) (D : zDa), zO l E (d + 3) YX2_spread 126 [(0, zR 52), (2, zI o2), (3, zI o3), (4, zI o4), (5, zI o5), (6, zI o6), (7, zI u7)] [] (F, D, n, sl) (zcV F n sl) (k_126 u7 D)) (D : zDa) : zO l E (d + 3) YX2_spread 166 [(0, zR 52), (2, zI o2), (3, zI o3), (4, zI o4), (5, zI o5), (6, zI o6), (7, zI v7)] [] (F, D, n, sl) (zcV F n sl) (fX2_spread_166 F k_126 o2 o3 o4 o5 o6 v7 D) := by
  unfold fX2_spread_166
  refine zO_chk (fun h7 => ?_)
  refine zO_iinc dX2_spread_166 rfl h7 (by decide) ?_
  refine zO_ls (ls' := [(0, zR 52), (2, zI o2), (3, zI o3), (4, zI o4), (5, zI o5), (6, zI o6), (7, zI (v7 + 1))]) rfl ?_
  refine zO_goto (tgt := 126) dX2_spread_169 rfl ?_
  refine zO_live [0, 2, 3, 4, 5, 6, 7] ?_
  exact hk_126 (v7 + 1) D
set_option maxHeartbeats 20000000 in
theorem sX2_spread_126 {l : Launch} {E : zE} {d : Nat} {F : zFs} {n sl : Nat} (hG : zG F)  (o2 : Int) (o3 : Int) (o4 : Int) (o5 : Int) (o6 : Int)   : ∀ (N : Nat) (v7 : Int) (D : zDa), zO l E (d + 3) YX2_spread 126 [(0, zR 52), (2, zI o2), (3, zI o3), (4, zI o4), (5, zI o5), (6, zI o6), (7, zI v7)] [] (F, D, n, sl) (zcV F n sl) (zfix (fun _ _ => none) (fX2_spread_126 F o2 o3 o4 o5 o6) N v7 D) := by
  intro N
  induction N with
  | zero => intro v7 D; exact zO_none
  | succ N hk_126 =>
    intro v7 D
    show zO _ _ _ _ _ _ _ _ _ ((fX2_spread_126 F o2 o3 o4 o5 o6) (zfix (fun _ _ => none) (fX2_spread_126 F o2 o3 o4 o5 o6) N) v7 D)
    unfold fX2_spread_126
    refine zO_iload dX2_spread_126 rfl ?_
    refine zO_iconst dX2_spread_128 (by decide) ?_
    refine zO_icmp_ge (tgt := 172) dX2_spread_129 rfl (fun c129 => ?_) (fun c129 => ?_)
    · refine zO_chk (fun h5 => ?_)
      refine zO_aload_n dX2_spread_132 rfl (zR_P _) ?_
      refine gt2 (k := 4) dX2_spread_133 wF_X2_24 (by decide) (gk_52 hG) (zgv (c := 2) (k := 4) rfl (Or.inl ⟨_, rfl⟩) (gf_52_4 hG)) ?_
      refine zO_iload dX2_spread_136 rfl ?_
      refine zO_iald dX2_spread_138 (gk_57 hG) (gl_in (gl_57 hG) h5) ?_
      refine zO_if_le (tgt := 166) dX2_spread_139 rfl (fun c139 => ?_) (fun c139 => ?_)
      · refine zO_chk (fun h6 => ?_)
        refine zO_aload_n dX2_spread_142 rfl (zR_P _) ?_
        refine zO_iload dX2_spread_143 rfl ?_
        refine zO_iload_n dX2_spread_145 rfl ?_
        refine zO_iload dX2_spread_146 rfl ?_
        refine zO_iload_n dX2_spread_148 rfl ?_
        refine zO_i2l dX2_spread_149 ?_
        refine zO_iload dX2_spread_150 rfl ?_
        refine zO_i2l dX2_spread_152 ?_
        refine zO_lmul dX2_spread_153 h6.1 ?_
        refine zO_aload_n dX2_spread_154 rfl (zR_P _) ?_
        refine gt2 (k := 4) dX2_spread_155 wF_X2_24 (by decide) (gk_52 hG) (zgv (c := 2) (k := 4) rfl (Or.inl ⟨_, rfl⟩) (gf_52_4 hG)) ?_
        refine zO_iload dX2_spread_158 rfl ?_
        refine zO_iald dX2_spread_160 (gk_57 hG) (gl_in (gl_57 hG) h5) ?_
        refine zO_i2l dX2_spread_161 ?_
        refine zO_lmul dX2_spread_162 h6.2 ?_
        refine zO_callV (Y' := YX2_addSets) (cw := zcV F n sl) (as := [zI o6, zI o2, zI v7, zL ((o3 * o4) * (D 57 v7.toNat))]) (rest := []) (na := 4) (ci := 2) rfl dX2_spread_163 wC_X2_addSets wN_X2 wM_X2_65 wI_X2_addSets wV_X2_addSets (by decide) (by decide) rfl rfl (Nat.le_of_ble_eq_true rfl) rfl (by decide) (gk_52 hG) (fun r hr => zMet_cast (Nat.add_assoc d 0 2) (mX2_addSets (d := d + 0) hG o6 o2 v7 ((o3 * o4) * (D 57 v7.toNat)) r hr)) ?_
        intro D_15 _
        show zO _ _ _ _ _ _ [] (F, D_15, n, sl) _ _
        refine zO_live [0, 2, 3, 4, 5, 6, 7] ?_
        exact sX2_spread_166 hG o2 o3 o4 o5 o6 v7 _ hk_126 D_15
      · refine zO_live [0, 2, 3, 4, 5, 6, 7] ?_
        exact sX2_spread_166 hG o2 o3 o4 o5 o6 v7 _ hk_126 D
    · refine zO_chk (fun h8 => ?_)
      refine zO_aload_n dX2_spread_172 rfl (zR_P _) ?_
      refine zO_dup dX2_spread_173 (rfl) ?_
      refine gt2 (k := 7) (v := zL (D 52 7)) dX2_spread_174 wF_X2_34 (by decide) (gk_52 hG) rfl ?_
      refine zO_ldc2 (n := 100) dX2_spread_177 wK_X2_69 (by decide) ?_
      refine zO_iload dX2_spread_180 rfl ?_
      refine zO_i2l dX2_spread_182 ?_
      refine zO_lmul dX2_spread_183 h8.1 ?_
      refine zO_iload dX2_spread_184 rfl ?_
      refine zO_i2l dX2_spread_186 ?_
      refine zO_lmul dX2_spread_187 h8.2.1 ?_
      refine zO_lmul dX2_spread_188 h8.2.2 ?_
      refine ptJ2 (k := 7) (z := ((D 52 7) * ((100 * o5) * o6))) dX2_spread_189 wF_X2_34 (by decide) rfl (gk_52 hG) rfl ?_
      refine zO_letD (fun D_16 eD_16 => ?_)
      exact zO_ret (rv := none) dX2_spread_192 rfl trivial rfl
set_option maxHeartbeats 20000000 in
theorem mX2_spread {l : Launch} {E : zE} {d : Nat} {F : zFs} {n sl : Nat} (hG : zG F) (v1 : Int) (v2 : Int) (v3 : Int) {D : zDa} : ∀ r, fX2_spread F  v1 v2 v3 D = some r → zMet l E (d + 3) YX2_spread [zR 52, zI v1, zI v2, zI v3] (F, D, n, sl) (zcV F n sl r) := by
  intro r hr
  refine zMet_of (plainFor_of_name (by decide)) (fun _ h => (nomatch h)) (Nat.le_of_ble_eq_true rfl) ?_
  have hz : zO l E (d + 3) YX2_spread 0 [(0, zR 52), (1, zI v1), (2, zI v2), (3, zI v3)] [] (F, D, n, sl) (zcV F n sl) (fX2_spread F  v1 v2 v3 D) := by
    unfold fX2_spread
    refine zO_chk (fun h1 => ?_)
    refine zO_aload_n dX2_spread_0 rfl (zR_P _) ?_
    refine gt2 (k := 3) dX2_spread_1 wF_X2_21 (by decide) (gk_52 hG) (zgv (c := 2) (k := 3) rfl (Or.inl ⟨_, rfl⟩) (gf_52_3 hG)) ?_
    refine zO_iconst dX2_spread_4 (by decide) ?_
    refine zO_iald dX2_spread_5 (gk_56 hG) (gl_in (gl_56 hG) (by decide)) ?_
    refine zO_aload_n dX2_spread_6 rfl (zR_P _) ?_
    refine gt2 (k := 3) dX2_spread_7 wF_X2_21 (by decide) (gk_52 hG) (zgv (c := 2) (k := 3) rfl (Or.inl ⟨_, rfl⟩) (gf_52_3 hG)) ?_
    refine zO_iconst dX2_spread_10 (by decide) ?_
    refine zO_iald dX2_spread_11 (gk_56 hG) (gl_in (gl_56 hG) (by decide)) ?_
    refine zO_iadd dX2_spread_12 h1.1 ?_
    refine zO_aload_n dX2_spread_13 rfl (zR_P _) ?_
    refine gt2 (k := 3) dX2_spread_14 wF_X2_21 (by decide) (gk_52 hG) (zgv (c := 2) (k := 3) rfl (Or.inl ⟨_, rfl⟩) (gf_52_3 hG)) ?_
    refine zO_iconst dX2_spread_17 (by decide) ?_
    refine zO_iald dX2_spread_18 (gk_56 hG) (gl_in (gl_56 hG) (by decide)) ?_
    refine zO_iadd dX2_spread_19 h1.2 ?_
    refine zO_letI (fun x4_1 ex4_1 => ?_)
    refine zO_istore dX2_spread_20 (by decide) ?_
    refine zO_ls (ls' := [(0, zR 52), (1, zI v1), (2, zI v2), (3, zI v3), (4, zI x4_1)]) rfl ?_
    refine zO_chk (fun h2 => ?_)
    refine zO_aload_n dX2_spread_22 rfl (zR_P _) ?_
    refine gt2 (k := 4) dX2_spread_23 wF_X2_24 (by decide) (gk_52 hG) (zgv (c := 2) (k := 4) rfl (Or.inl ⟨_, rfl⟩) (gf_52_4 hG)) ?_
    refine zO_iconst dX2_spread_26 (by decide) ?_
    refine zO_iald dX2_spread_27 (gk_57 hG) (gl_in (gl_57 hG) (by decide)) ?_
    refine zO_aload_n dX2_spread_28 rfl (zR_P _) ?_
    refine gt2 (k := 4) dX2_spread_29 wF_X2_24 (by decide) (gk_52 hG) (zgv (c := 2) (k := 4) rfl (Or.inl ⟨_, rfl⟩) (gf_52_4 hG)) ?_
    refine zO_iconst dX2_spread_32 (by decide) ?_
    refine zO_iald dX2_spread_33 (gk_57 hG) (gl_in (gl_57 hG) (by decide)) ?_
    refine zO_iadd dX2_spread_34 h2.1 ?_
    refine zO_aload_n dX2_spread_35 rfl (zR_P _) ?_
    refine gt2 (k := 4) dX2_spread_36 wF_X2_24 (by decide) (gk_52 hG) (zgv (c := 2) (k := 4) rfl (Or.inl ⟨_, rfl⟩) (gf_52_4 hG)) ?_
    refine zO_iconst dX2_spread_39 (by decide) ?_
    refine zO_iald dX2_spread_40 (gk_57 hG) (gl_in (gl_57 hG) (by decide)) ?_
    refine zO_iadd dX2_spread_41 h2.2 ?_
    refine zO_letI (fun x5_2 ex5_2 => ?_)
    refine zO_istore dX2_spread_42 (by decide) ?_
    refine zO_ls (ls' := [(0, zR 52), (1, zI v1), (2, zI v2), (3, zI v3), (4, zI x4_1), (5, zI x5_2)]) rfl ?_
    refine zO_iload_n dX2_spread_44 rfl ?_
    refine zO_iload dX2_spread_45 rfl ?_
    refine zO_callS (Y' := YJ9_min_7cf53) (cw := zcI F n sl) (as := [zI v1, zI x4_1]) (rest := []) (na := 2) dX2_spread_47 wC_J9_min_7cf53 wN_J9 wM_X2_50 wS_J9_min_7cf53 (by decide) (by decide) rfl rfl (Nat.le_of_ble_eq_true rfl) (fun r hr => zMet_cast (Nat.add_assoc d 2 0) (mJ9_min_7cf53 (d := d + 2) hG v1 x4_1 r hr)) ?_
    rintro ⟨r_3, D_4⟩ -
    show zO _ _ _ _ _ _ [zI r_3] (F, D_4, n, sl) _ _
    refine zO_istore dX2_spread_50 (by decide) ?_
    refine zO_ls (ls' := [(0, zR 52), (1, zI v1), (2, zI v2), (3, zI v3), (4, zI x4_1), (5, zI x5_2), (6, zI r_3)]) rfl ?_
    refine zO_aload_n dX2_spread_52 rfl (zR_P _) ?_
    refine gt2 (k := 6) dX2_spread_53 wF_X2_31 (by decide) (gk_52 hG) (zgv (c := 2) (k := 6) rfl (Or.inl ⟨_, rfl⟩) (gf_52_6 hG)) ?_
    refine zO_lconst dX2_spread_56 ?_
    refine zO_callS (Y' := YJ7_fill_d0a16) (cw := zcV F n sl) (as := [zR 59, zL 0]) (rest := []) (na := 2) dX2_spread_57 wC_J7_fill_d0a16 wN_J7 wM_X2_56 wS_J7_fill_d0a16 (by decide) (by decide) rfl rfl (Nat.le_of_ble_eq_true rfl) (fun r hr => zMet_cast (Nat.add_assoc d 2 0) (mJ7_fill_d0a16 (d := d + 2) hG 59 0 r hr)) ?_
    intro D_6 _
    show zO _ _ _ _ _ _ [] (F, D_6, n, sl) _ _
    refine zO_aload_n dX2_spread_60 rfl (zR_P _) ?_
    refine zO_aload_n dX2_spread_61 rfl (zR_P _) ?_
    refine zO_iload dX2_spread_62 rfl ?_
    refine zO_iload dX2_spread_64 rfl ?_
    refine zO_callV (Y' := YX2_sets) (cw := zcJ F n sl) (as := [zI x4_1, zI r_3]) (rest := [zR 52]) (na := 2) (ci := 2) rfl dX2_spread_66 wC_X2_sets wN_X2 wM_X2_59 wI_X2_sets wV_X2_sets (by decide) (by decide) rfl rfl (Nat.le_of_ble_eq_true rfl) rfl (by decide) (gk_52 hG) (fun r hr => zMet_cast (Nat.add_assoc d 2 0) (mX2_sets (d := d + 2) hG x4_1 r_3 r hr)) ?_
    rintro ⟨r_7, D_8⟩ -
    show zO _ _ _ _ _ _ [zL r_7, zR 52] (F, D_8, n, sl) _ _
    refine zO_chk (fun h3 => ?_)
    refine zO_ldc2 (n := 1000000) dX2_spread_69 wK_X2_63 (by decide) ?_
    refine zO_lmul dX2_spread_72 h3 ?_
    refine ptJ2 (k := 7) (z := (r_7 * 1000000)) dX2_spread_73 wF_X2_34 (by decide) rfl (gk_52 hG) rfl ?_
    refine zO_letD (fun D_9 eD_9 => ?_)
    refine zO_iload dX2_spread_76 rfl ?_
    refine zO_if_eq (tgt := 91) dX2_spread_78 rfl (fun c78 => ?_) (fun c78 => ?_)
    · refine zO_live [0, 2, 6] ?_
      exact sX2_spread_91 hG v2 r_3 D_9
    · refine zO_iload_n dX2_spread_81 rfl ?_
      refine zO_iload dX2_spread_82 rfl ?_
      refine zO_icmp_ge (tgt := 91) dX2_spread_84 rfl (fun c84 => ?_) (fun c84 => ?_)
      · refine zO_iload_n dX2_spread_87 rfl ?_
        refine zO_if_ne (tgt := 101) dX2_spread_88 rfl (fun c88 => ?_) (fun c88 => ?_)
        · refine zO_live [0, 2, 6] ?_
          exact sX2_spread_91 hG v2 r_3 D_9
        · refine zO_chk (fun h4 => ?_)
          refine zO_aload_n dX2_spread_101 rfl (zR_P _) ?_
          refine zO_iload dX2_spread_102 rfl ?_
          refine zO_iload_n dX2_spread_104 rfl ?_
          refine zO_iconst dX2_spread_105 (by decide) ?_
          refine zO_ldc2 (n := 100) dX2_spread_106 wK_X2_69 (by decide) ?_
          refine zO_iload_n dX2_spread_109 rfl ?_
          refine zO_i2l dX2_spread_110 ?_
          refine zO_lsub dX2_spread_111 h4.1 ?_
          refine zO_iload dX2_spread_112 rfl ?_
          refine zO_i2l dX2_spread_114 ?_
          refine zO_lmul dX2_spread_115 h4.2.1 ?_
          refine zO_iload dX2_spread_116 rfl ?_
          refine zO_i2l dX2_spread_118 ?_
          refine zO_lmul dX2_spread_119 h4.2.2 ?_
          refine zO_callV (Y' := YX2_addSets) (cw := zcV F n sl) (as := [zI r_3, zI v2, zI (-1), zL (((100 - v3) * x5_2) * r_3)]) (rest := []) (na := 4) (ci := 2) rfl dX2_spread_120 wC_X2_addSets wN_X2 wM_X2_65 wI_X2_addSets wV_X2_addSets (by decide) (by decide) rfl rfl (Nat.le_of_ble_eq_true rfl) rfl (by decide) (gk_52 hG) (fun r hr => zMet_cast (Nat.add_assoc d 0 2) (mX2_addSets (d := d + 0) hG r_3 v2 (-1) (((100 - v3) * x5_2) * r_3) r hr)) ?_
          intro D_13 _
          show zO _ _ _ _ _ _ [] (F, D_13, n, sl) _ _
          refine zO_iconst dX2_spread_123 (by decide) ?_
          refine zO_istore dX2_spread_124 (by decide) ?_
          refine zO_ls (ls' := [(0, zR 52), (1, zI v1), (2, zI v2), (3, zI v3), (4, zI x4_1), (5, zI x5_2), (6, zI r_3), (7, zI 0)]) rfl ?_
          refine zO_live [0, 2, 3, 4, 5, 6, 7] ?_
          exact sX2_spread_126 hG v2 v3 x4_1 x5_2 r_3 zfu 0 D_13
      · refine zO_live [0, 2, 6] ?_
        exact sX2_spread_91 hG v2 r_3 D_9
  exact hz r hr
theorem dX2_passing_0 : decode cX2_passing 0 = .ok (.aload_n 0, 1) := by decide +kernel
theorem dX2_passing_1 : decode cX2_passing 1 = .ok (.iload_n 1, 1) := by decide +kernel
theorem dX2_passing_2 : decode cX2_passing 2 = .ok (.iload_n 2, 1) := by decide +kernel
theorem dX2_passing_3 : decode cX2_passing 3 = .ok (.isub, 1) := by decide +kernel
theorem dX2_passing_4 : decode cX2_passing 4 = .ok (.iload_n 3, 1) := by decide +kernel
theorem dX2_passing_5 : decode cX2_passing 5 = .ok (.isub, 1) := by decide +kernel
theorem dX2_passing_6 : decode cX2_passing 6 = .ok (.iload_n 2, 1) := by decide +kernel
theorem dX2_passing_7 : decode cX2_passing 7 = .ok (.iload_n 3, 1) := by decide +kernel
theorem dX2_passing_8 : decode cX2_passing 8 = .ok (.iload 4, 2) := by decide +kernel
theorem dX2_passing_10 : decode cX2_passing 10 = .ok (.invokevirtual 71, 3) := by decide +kernel
theorem dX2_passing_13 : decode cX2_passing 13 = .ok (.lconst 0, 1) := by decide +kernel
theorem dX2_passing_14 : decode cX2_passing 14 = .ok (.lstore 6, 2) := by decide +kernel
theorem dX2_passing_16 : decode cX2_passing 16 = .ok (.iload 5, 2) := by decide +kernel
theorem dX2_passing_18 : decode cX2_passing 18 = .ok (.istore 8, 2) := by decide +kernel
theorem dX2_passing_20 : decode cX2_passing 20 = .ok (.iload 8, 2) := by decide +kernel
theorem dX2_passing_22 : decode cX2_passing 22 = .ok (.iconst 3, 1) := by decide +kernel
theorem dX2_passing_23 : decode cX2_passing 23 = .ok (.if_icmp .gt 30, 3) := by decide +kernel
theorem dX2_passing_26 : decode cX2_passing 26 = .ok (.lload 6, 2) := by decide +kernel
theorem dX2_passing_28 : decode cX2_passing 28 = .ok (.iload 8, 2) := by decide +kernel
theorem dX2_passing_30 : decode cX2_passing 30 = .ok (.ifCond .ge 7, 3) := by decide +kernel
theorem dX2_passing_33 : decode cX2_passing 33 = .ok (.lconst 0, 1) := by decide +kernel
theorem dX2_passing_34 : decode cX2_passing 34 = .ok (.goto 10, 3) := by decide +kernel
theorem dX2_passing_37 : decode cX2_passing 37 = .ok (.aload_n 0, 1) := by decide +kernel
theorem dX2_passing_38 : decode cX2_passing 38 = .ok (.getfield 27, 3) := by decide +kernel
theorem dX2_passing_41 : decode cX2_passing 41 = .ok (.iload 8, 2) := by decide +kernel
theorem dX2_passing_43 : decode cX2_passing 43 = .ok (.laload, 1) := by decide +kernel
theorem dX2_passing_44 : decode cX2_passing 44 = .ok (.ladd, 1) := by decide +kernel
theorem dX2_passing_45 : decode cX2_passing 45 = .ok (.lstore 6, 2) := by decide +kernel
theorem dX2_passing_47 : decode cX2_passing 47 = .ok (.iinc 8 1, 3) := by decide +kernel
theorem dX2_passing_50 : decode cX2_passing 50 = .ok (.goto (-30), 3) := by decide +kernel
theorem dX2_passing_53 : decode cX2_passing 53 = .ok (.lload 6, 2) := by decide +kernel
theorem dX2_passing_55 : decode cX2_passing 55 = .ok (.lreturn, 1) := by decide +kernel
abbrev YX2_passing : zY := (yX2_passing, cX2_passing, 9, (Option.some Jvm.ClassFile.FieldType.long), [])
def fX2_passing_44 (F : zFs) (k_20 : Int → Int → zDa → Option (Int × zDa)) (v8 : Int) (s0 : Int) (s1 : Int) (D : zDa) : Option (Int × zDa) :=
  if (-9223372036854775808 ≤ s1 + s0 ∧ s1 + s0 ≤ 9223372036854775807) then
    zlet ((s1 + s0)) (fun x6_3 =>
      if (-2147483648 ≤ v8 + 1 ∧ v8 + 1 ≤ 2147483647) then
        k_20 x6_3 (v8 + 1) D
      else none)
  else none
def fX2_passing_20 (F : zFs)   (k_20 : Int → Int → zDa → Option (Int × zDa)) (v6 : Int) (v8 : Int) (D : zDa) : Option (Int × zDa) :=
  if 3 < v8 then
    some (v6, D)
  else
    if v8 < 0 then
      fX2_passing_44 F k_20 v8 0 v6 D
    else
      if (0 ≤ v8 ∧ v8 < 4) then
        fX2_passing_44 F k_20 v8 (D 58 v8.toNat) v6 D
      else none
def fX2_passing (F : zFs) (v1 : Int) (v2 : Int) (v3 : Int) (v4 : Int) (v5 : Int) (D : zDa) : Option (Int × zDa) :=
  if (-2147483648 ≤ v1 - v2 ∧ v1 - v2 ≤ 2147483647) ∧ (-2147483648 ≤ (v1 - v2) - v3 ∧ (v1 - v2) - v3 ≤ 2147483647) then
    (fX2_answer F ((v1 - v2) - v3) v2 v3 v4 D).bind (fun D_2 =>
      zfix (fun _ _ _ => none) (fX2_passing_20 F) zfu 0 v5 D_2)
  else none
set_option maxHeartbeats 20000000 in
theorem sX2_passing_44 {l : Launch} {E : zE} {d : Nat} {F : zFs} {n sl : Nat} (hG : zG F)  (v8 : Int) (s0 : Int) (s1 : Int) (k_20 : Int → Int → zDa → Option (Int × zDa)) (hk_20 : ∀ (u6 : Int) (u8 : Int) (D : zDa), zO l E (d + 2) YX2_passing 20 [(0, zR 52), (6, zL u6), (8, zI u8)] [] (F, D, n, sl) (zcJ F n sl) (k_20 u6 u8 D)) (D : zDa) : zO l E (d + 2) YX2_passing 44 [(0, zR 52), (8, zI v8)] [zL s0, zL s1] (F, D, n, sl) (zcJ F n sl) (fX2_passing_44 F k_20 v8 s0 s1 D) := by
  unfold fX2_passing_44
  refine zO_chk (fun h2 => ?_)
  refine zO_ladd dX2_passing_44 h2 ?_
  refine zO_letJ (fun x6_3 ex6_3 => ?_)
  refine zO_lstore dX2_passing_45 (by decide) ?_
  refine zO_ls (ls' := [(0, zR 52), (6, zL x6_3), (8, zI v8)]) rfl ?_
  refine zO_chk (fun h3 => ?_)
  refine zO_iinc dX2_passing_47 rfl h3 (by decide) ?_
  refine zO_ls (ls' := [(0, zR 52), (6, zL x6_3), (8, zI (v8 + 1))]) rfl ?_
  refine zO_goto (tgt := 20) dX2_passing_50 rfl ?_
  refine zO_live [0, 6, 8] ?_
  exact hk_20 x6_3 (v8 + 1) D
set_option maxHeartbeats 20000000 in
theorem sX2_passing_20 {l : Launch} {E : zE} {d : Nat} {F : zFs} {n sl : Nat} (hG : zG F)     : ∀ (N : Nat) (v6 : Int) (v8 : Int) (D : zDa), zO l E (d + 2) YX2_passing 20 [(0, zR 52), (6, zL v6), (8, zI v8)] [] (F, D, n, sl) (zcJ F n sl) (zfix (fun _ _ _ => none) (fX2_passing_20 F) N v6 v8 D) := by
  intro N
  induction N with
  | zero => intro v6 v8 D; exact zO_none
  | succ N hk_20 =>
    intro v6 v8 D
    show zO _ _ _ _ _ _ _ _ _ ((fX2_passing_20 F) (zfix (fun _ _ _ => none) (fX2_passing_20 F) N) v6 v8 D)
    unfold fX2_passing_20
    refine zO_iload dX2_passing_20 rfl ?_
    refine zO_iconst dX2_passing_22 (by decide) ?_
    refine zO_icmp_gt (tgt := 53) dX2_passing_23 rfl (fun c23 => ?_) (fun c23 => ?_)
    · refine zO_lload dX2_passing_53 rfl ?_
      exact zO_ret (rv := some (zL v6)) dX2_passing_55 rfl trivial rfl
    · refine zO_lload dX2_passing_26 rfl ?_
      refine zO_iload dX2_passing_28 rfl ?_
      refine zO_if_ge (tgt := 37) dX2_passing_30 rfl (fun c30 => ?_) (fun c30 => ?_)
      · refine zO_lconst dX2_passing_33 ?_
        refine zO_goto (tgt := 44) dX2_passing_34 rfl ?_
        refine zO_live [0, 8] ?_
        exact sX2_passing_44 hG v8 0 v6 _ hk_20 D
      · refine zO_chk (fun h4 => ?_)
        refine zO_aload_n dX2_passing_37 rfl (zR_P _) ?_
        refine gt2 (k := 5) dX2_passing_38 wF_X2_27 (by decide) (gk_52 hG) (zgv (c := 2) (k := 5) rfl (Or.inl ⟨_, rfl⟩) (gf_52_5 hG)) ?_
        refine zO_iload dX2_passing_41 rfl ?_
        refine zO_lald dX2_passing_43 (gk_58 hG) (gl_in (gl_58 hG) h4) ?_
        refine zO_live [0, 8] ?_
        exact sX2_passing_44 hG v8 (D 58 v8.toNat) v6 _ hk_20 D
set_option maxHeartbeats 20000000 in
theorem mX2_passing {l : Launch} {E : zE} {d : Nat} {F : zFs} {n sl : Nat} (hG : zG F) (v1 : Int) (v2 : Int) (v3 : Int) (v4 : Int) (v5 : Int) {D : zDa} : ∀ r, fX2_passing F  v1 v2 v3 v4 v5 D = some r → zMet l E (d + 2) YX2_passing [zR 52, zI v1, zI v2, zI v3, zI v4, zI v5] (F, D, n, sl) (zcJ F n sl r) := by
  intro r hr
  refine zMet_of (plainFor_of_name (by decide)) (fun _ h => (nomatch h)) (Nat.le_of_ble_eq_true rfl) ?_
  have hz : zO l E (d + 2) YX2_passing 0 [(0, zR 52), (1, zI v1), (2, zI v2), (3, zI v3), (4, zI v4), (5, zI v5)] [] (F, D, n, sl) (zcJ F n sl) (fX2_passing F  v1 v2 v3 v4 v5 D) := by
    unfold fX2_passing
    refine zO_chk (fun h1 => ?_)
    refine zO_aload_n dX2_passing_0 rfl (zR_P _) ?_
    refine zO_iload_n dX2_passing_1 rfl ?_
    refine zO_iload_n dX2_passing_2 rfl ?_
    refine zO_isub dX2_passing_3 h1.1 ?_
    refine zO_iload_n dX2_passing_4 rfl ?_
    refine zO_isub dX2_passing_5 h1.2 ?_
    refine zO_iload_n dX2_passing_6 rfl ?_
    refine zO_iload_n dX2_passing_7 rfl ?_
    refine zO_iload dX2_passing_8 rfl ?_
    refine zO_callV (Y' := YX2_answer) (cw := zcV F n sl) (as := [zI ((v1 - v2) - v3), zI v2, zI v3, zI v4]) (rest := []) (na := 4) (ci := 2) rfl dX2_passing_10 wC_X2_answer wN_X2 wM_X2_71 wI_X2_answer wV_X2_answer (by decide) (by decide) rfl rfl (Nat.le_of_ble_eq_true rfl) rfl (by decide) (gk_52 hG) (fun r hr => zMet_cast (Nat.add_assoc d 0 1) (mX2_answer (d := d + 0) hG ((v1 - v2) - v3) v2 v3 v4 r hr)) ?_
    intro D_2 _
    show zO _ _ _ _ _ _ [] (F, D_2, n, sl) _ _
    refine zO_lconst dX2_passing_13 ?_
    refine zO_lstore dX2_passing_14 (by decide) ?_
    refine zO_ls (ls' := [(0, zR 52), (1, zI v1), (2, zI v2), (3, zI v3), (4, zI v4), (5, zI v5), (6, zL 0)]) rfl ?_
    refine zO_iload dX2_passing_16 rfl ?_
    refine zO_istore dX2_passing_18 (by decide) ?_
    refine zO_ls (ls' := [(0, zR 52), (1, zI v1), (2, zI v2), (3, zI v3), (4, zI v4), (5, zI v5), (6, zL 0), (8, zI v5)]) rfl ?_
    refine zO_live [0, 6, 8] ?_
    exact sX2_passing_20 hG zfu 0 v5 D_2
  exact hz r hr
theorem dX2_just_0 : decode cX2_just 0 = .ok (.iload_n 1, 1) := by decide +kernel
theorem dX2_just_1 : decode cX2_just 1 = .ok (.ifCond .lt 8, 3) := by decide +kernel
theorem dX2_just_4 : decode cX2_just 4 = .ok (.iload_n 1, 1) := by decide +kernel
theorem dX2_just_5 : decode cX2_just 5 = .ok (.iconst 3, 1) := by decide +kernel
theorem dX2_just_6 : decode cX2_just 6 = .ok (.if_icmp .le 7, 3) := by decide +kernel
theorem dX2_just_9 : decode cX2_just 9 = .ok (.lconst 0, 1) := by decide +kernel
theorem dX2_just_10 : decode cX2_just 10 = .ok (.goto 9, 3) := by decide +kernel
theorem dX2_just_13 : decode cX2_just 13 = .ok (.aload_n 0, 1) := by decide +kernel
theorem dX2_just_14 : decode cX2_just 14 = .ok (.getfield 31, 3) := by decide +kernel
theorem dX2_just_17 : decode cX2_just 17 = .ok (.iload_n 1, 1) := by decide +kernel
theorem dX2_just_18 : decode cX2_just 18 = .ok (.laload, 1) := by decide +kernel
theorem dX2_just_19 : decode cX2_just 19 = .ok (.lreturn, 1) := by decide +kernel
abbrev YX2_just : zY := (yX2_just, cX2_just, 2, (Option.some Jvm.ClassFile.FieldType.long), [])
def fX2_just (F : zFs) (v1 : Int) (D : zDa) : Option (Int × zDa) :=
  if v1 < 0 then
    some (0, D)
  else
    if 3 < v1 then
      some (0, D)
    else
      if (0 ≤ v1 ∧ v1 < 4) then
        some ((D 59 v1.toNat), D)
      else none
set_option maxHeartbeats 20000000 in
theorem mX2_just {l : Launch} {E : zE} {d : Nat} {F : zFs} {n sl : Nat} (hG : zG F) (v1 : Int) {D : zDa} : ∀ r, fX2_just F  v1 D = some r → zMet l E (d + 0) YX2_just [zR 52, zI v1] (F, D, n, sl) (zcJ F n sl r) := by
  intro r hr
  refine zMet_of (plainFor_of_name (by decide)) (fun _ h => (nomatch h)) (Nat.le_of_ble_eq_true rfl) ?_
  have hz : zO l E (d + 0) YX2_just 0 [(0, zR 52), (1, zI v1)] [] (F, D, n, sl) (zcJ F n sl) (fX2_just F  v1 D) := by
    unfold fX2_just
    refine zO_iload_n dX2_just_0 rfl ?_
    refine zO_if_lt (tgt := 9) dX2_just_1 rfl (fun c1 => ?_) (fun c1 => ?_)
    · refine zO_lconst dX2_just_9 ?_
      refine zO_goto (tgt := 19) dX2_just_10 rfl ?_
      exact zO_ret (rv := some (zL 0)) dX2_just_19 rfl trivial rfl
    · refine zO_iload_n dX2_just_4 rfl ?_
      refine zO_iconst dX2_just_5 (by decide) ?_
      refine zO_icmp_le (tgt := 13) dX2_just_6 rfl (fun c6 => ?_) (fun c6 => ?_)
      · refine zO_lconst dX2_just_9 ?_
        refine zO_goto (tgt := 19) dX2_just_10 rfl ?_
        exact zO_ret (rv := some (zL 0)) dX2_just_19 rfl trivial rfl
      · refine zO_chk (fun h1 => ?_)
        refine zO_aload_n dX2_just_13 rfl (zR_P _) ?_
        refine gt2 (k := 6) dX2_just_14 wF_X2_31 (by decide) (gk_52 hG) (zgv (c := 2) (k := 6) rfl (Or.inl ⟨_, rfl⟩) (gf_52_6 hG)) ?_
        refine zO_iload_n dX2_just_17 rfl ?_
        refine zO_lald dX2_just_18 (gk_59 hG) (gl_in (gl_59 hG) h1) ?_
        exact zO_ret (rv := some (zL (D 59 v1.toNat))) dX2_just_19 rfl trivial rfl
  exact hz r hr
theorem dX2_atLeast_0 : decode cX2_atLeast 0 = .ok (.lconst 0, 1) := by decide +kernel
theorem dX2_atLeast_1 : decode cX2_atLeast 1 = .ok (.lstore_n 2, 1) := by decide +kernel
theorem dX2_atLeast_2 : decode cX2_atLeast 2 = .ok (.iload_n 1, 1) := by decide +kernel
theorem dX2_atLeast_3 : decode cX2_atLeast 3 = .ok (.istore 4, 2) := by decide +kernel
theorem dX2_atLeast_5 : decode cX2_atLeast 5 = .ok (.iload 4, 2) := by decide +kernel
theorem dX2_atLeast_7 : decode cX2_atLeast 7 = .ok (.iconst 3, 1) := by decide +kernel
theorem dX2_atLeast_8 : decode cX2_atLeast 8 = .ok (.if_icmp .gt 18, 3) := by decide +kernel
theorem dX2_atLeast_11 : decode cX2_atLeast 11 = .ok (.lload_n 2, 1) := by decide +kernel
theorem dX2_atLeast_12 : decode cX2_atLeast 12 = .ok (.aload_n 0, 1) := by decide +kernel
theorem dX2_atLeast_13 : decode cX2_atLeast 13 = .ok (.iload 4, 2) := by decide +kernel
theorem dX2_atLeast_15 : decode cX2_atLeast 15 = .ok (.invokevirtual 79, 3) := by decide +kernel
theorem dX2_atLeast_18 : decode cX2_atLeast 18 = .ok (.ladd, 1) := by decide +kernel
theorem dX2_atLeast_19 : decode cX2_atLeast 19 = .ok (.lstore_n 2, 1) := by decide +kernel
theorem dX2_atLeast_20 : decode cX2_atLeast 20 = .ok (.iinc 4 1, 3) := by decide +kernel
theorem dX2_atLeast_23 : decode cX2_atLeast 23 = .ok (.goto (-18), 3) := by decide +kernel
theorem dX2_atLeast_26 : decode cX2_atLeast 26 = .ok (.lload_n 2, 1) := by decide +kernel
theorem dX2_atLeast_27 : decode cX2_atLeast 27 = .ok (.lreturn, 1) := by decide +kernel
abbrev YX2_atLeast : zY := (yX2_atLeast, cX2_atLeast, 5, (Option.some Jvm.ClassFile.FieldType.long), [])
def fX2_atLeast_5 (F : zFs)   (k_5 : Int → Int → zDa → Option (Int × zDa)) (v2 : Int) (v4 : Int) (D : zDa) : Option (Int × zDa) :=
  if 3 < v4 then
    some (v2, D)
  else
    (fX2_just F v4 D).bind (fun (r_1, D_2) =>
      if (-9223372036854775808 ≤ v2 + r_1 ∧ v2 + r_1 ≤ 9223372036854775807) then
        zlet ((v2 + r_1)) (fun x2_3 =>
          if (-2147483648 ≤ v4 + 1 ∧ v4 + 1 ≤ 2147483647) then
            k_5 x2_3 (v4 + 1) D_2
          else none)
      else none)
def fX2_atLeast (F : zFs) (v1 : Int) (D : zDa) : Option (Int × zDa) :=
  zfix (fun _ _ _ => none) (fX2_atLeast_5 F) zfu 0 v1 D
set_option maxHeartbeats 20000000 in
theorem sX2_atLeast_5 {l : Launch} {E : zE} {d : Nat} {F : zFs} {n sl : Nat} (hG : zG F)     : ∀ (N : Nat) (v2 : Int) (v4 : Int) (D : zDa), zO l E (d + 1) YX2_atLeast 5 [(0, zR 52), (2, zL v2), (4, zI v4)] [] (F, D, n, sl) (zcJ F n sl) (zfix (fun _ _ _ => none) (fX2_atLeast_5 F) N v2 v4 D) := by
  intro N
  induction N with
  | zero => intro v2 v4 D; exact zO_none
  | succ N hk_5 =>
    intro v2 v4 D
    show zO _ _ _ _ _ _ _ _ _ ((fX2_atLeast_5 F) (zfix (fun _ _ _ => none) (fX2_atLeast_5 F) N) v2 v4 D)
    unfold fX2_atLeast_5
    refine zO_iload dX2_atLeast_5 rfl ?_
    refine zO_iconst dX2_atLeast_7 (by decide) ?_
    refine zO_icmp_gt (tgt := 26) dX2_atLeast_8 rfl (fun c8 => ?_) (fun c8 => ?_)
    · refine zO_lload_n dX2_atLeast_26 rfl ?_
      exact zO_ret (rv := some (zL v2)) dX2_atLeast_27 rfl trivial rfl
    · refine zO_lload_n dX2_atLeast_11 rfl ?_
      refine zO_aload_n dX2_atLeast_12 rfl (zR_P _) ?_
      refine zO_iload dX2_atLeast_13 rfl ?_
      refine zO_callV (Y' := YX2_just) (cw := zcJ F n sl) (as := [zI v4]) (rest := [zL v2]) (na := 1) (ci := 2) rfl dX2_atLeast_15 wC_X2_just wN_X2 wM_X2_79 wI_X2_just wV_X2_just (by decide) (by decide) rfl rfl (Nat.le_of_ble_eq_true rfl) rfl (by decide) (gk_52 hG) (fun r hr => zMet_cast (Nat.add_assoc d 0 0) (mX2_just (d := d + 0) hG v4 r hr)) ?_
      rintro ⟨r_1, D_2⟩ -
      show zO _ _ _ _ _ _ [zL r_1, zL v2] (F, D_2, n, sl) _ _
      refine zO_chk (fun h1 => ?_)
      refine zO_ladd dX2_atLeast_18 h1 ?_
      refine zO_letJ (fun x2_3 ex2_3 => ?_)
      refine zO_lstore_n dX2_atLeast_19 (by decide) ?_
      refine zO_ls (ls' := [(0, zR 52), (2, zL x2_3), (4, zI v4)]) rfl ?_
      refine zO_chk (fun h2 => ?_)
      refine zO_iinc dX2_atLeast_20 rfl h2 (by decide) ?_
      refine zO_ls (ls' := [(0, zR 52), (2, zL x2_3), (4, zI (v4 + 1))]) rfl ?_
      refine zO_goto (tgt := 5) dX2_atLeast_23 rfl ?_
      refine zO_live [0, 2, 4] ?_
      exact hk_5 x2_3 (v4 + 1) D_2
set_option maxHeartbeats 20000000 in
theorem mX2_atLeast {l : Launch} {E : zE} {d : Nat} {F : zFs} {n sl : Nat} (hG : zG F) (v1 : Int) {D : zDa} : ∀ r, fX2_atLeast F  v1 D = some r → zMet l E (d + 1) YX2_atLeast [zR 52, zI v1] (F, D, n, sl) (zcJ F n sl r) := by
  intro r hr
  refine zMet_of (plainFor_of_name (by decide)) (fun _ h => (nomatch h)) (Nat.le_of_ble_eq_true rfl) ?_
  have hz : zO l E (d + 1) YX2_atLeast 0 [(0, zR 52), (1, zI v1)] [] (F, D, n, sl) (zcJ F n sl) (fX2_atLeast F  v1 D) := by
    unfold fX2_atLeast
    refine zO_lconst dX2_atLeast_0 ?_
    refine zO_lstore_n dX2_atLeast_1 (by decide) ?_
    refine zO_ls (ls' := [(0, zR 52), (1, zI v1), (2, zL 0)]) rfl ?_
    refine zO_iload_n dX2_atLeast_2 rfl ?_
    refine zO_istore dX2_atLeast_3 (by decide) ?_
    refine zO_ls (ls' := [(0, zR 52), (1, zI v1), (2, zL 0), (4, zI v1)]) rfl ?_
    refine zO_live [0, 2, 4] ?_
    exact sX2_atLeast_5 hG zfu 0 v1 D
  exact hz r hr
theorem dX2_lowest_0 : decode cX2_lowest 0 = .ok (.iload 4, 2) := by decide +kernel
theorem dX2_lowest_2 : decode cX2_lowest 2 = .ok (.ifCond .lt 15, 3) := by decide +kernel
theorem dX2_lowest_5 : decode cX2_lowest 5 = .ok (.iload 4, 2) := by decide +kernel
theorem dX2_lowest_7 : decode cX2_lowest 7 = .ok (.iconst 1, 1) := by decide +kernel
theorem dX2_lowest_8 : decode cX2_lowest 8 = .ok (.if_icmp .gt 9, 3) := by decide +kernel
theorem dX2_lowest_11 : decode cX2_lowest 11 = .ok (.lload_n 2, 1) := by decide +kernel
theorem dX2_lowest_12 : decode cX2_lowest 12 = .ok (.lconst 0, 1) := by decide +kernel
theorem dX2_lowest_13 : decode cX2_lowest 13 = .ok (.lcmp, 1) := by decide +kernel
theorem dX2_lowest_14 : decode cX2_lowest 14 = .ok (.ifCond .gt 7, 3) := by decide +kernel
theorem dX2_lowest_17 : decode cX2_lowest 17 = .ok (.ldc2_w 87, 3) := by decide +kernel
theorem dX2_lowest_20 : decode cX2_lowest 20 = .ok (.lreturn, 1) := by decide +kernel
theorem dX2_lowest_21 : decode cX2_lowest 21 = .ok (.lload_n 2, 1) := by decide +kernel
theorem dX2_lowest_22 : decode cX2_lowest 22 = .ok (.lstore 5, 2) := by decide +kernel
theorem dX2_lowest_24 : decode cX2_lowest 24 = .ok (.lload_n 0, 1) := by decide +kernel
theorem dX2_lowest_25 : decode cX2_lowest 25 = .ok (.lstore 7, 2) := by decide +kernel
theorem dX2_lowest_27 : decode cX2_lowest 27 = .ok (.iconst 0, 1) := by decide +kernel
theorem dX2_lowest_28 : decode cX2_lowest 28 = .ok (.istore 9, 2) := by decide +kernel
theorem dX2_lowest_30 : decode cX2_lowest 30 = .ok (.iload 9, 2) := by decide +kernel
theorem dX2_lowest_32 : decode cX2_lowest 32 = .ok (.sipush 200, 3) := by decide +kernel
theorem dX2_lowest_35 : decode cX2_lowest 35 = .ok (.if_icmp .ge 31, 3) := by decide +kernel
theorem dX2_lowest_38 : decode cX2_lowest 38 = .ok (.lload 7, 2) := by decide +kernel
theorem dX2_lowest_40 : decode cX2_lowest 40 = .ok (.lconst 0, 1) := by decide +kernel
theorem dX2_lowest_41 : decode cX2_lowest 41 = .ok (.lcmp, 1) := by decide +kernel
theorem dX2_lowest_42 : decode cX2_lowest 42 = .ok (.ifCond .eq 24, 3) := by decide +kernel
theorem dX2_lowest_45 : decode cX2_lowest 45 = .ok (.lload 5, 2) := by decide +kernel
theorem dX2_lowest_47 : decode cX2_lowest 47 = .ok (.lload 7, 2) := by decide +kernel
theorem dX2_lowest_49 : decode cX2_lowest 49 = .ok (.lrem, 1) := by decide +kernel
theorem dX2_lowest_50 : decode cX2_lowest 50 = .ok (.lstore 10, 2) := by decide +kernel
theorem dX2_lowest_52 : decode cX2_lowest 52 = .ok (.lload 7, 2) := by decide +kernel
theorem dX2_lowest_54 : decode cX2_lowest 54 = .ok (.lstore 5, 2) := by decide +kernel
theorem dX2_lowest_56 : decode cX2_lowest 56 = .ok (.lload 10, 2) := by decide +kernel
theorem dX2_lowest_58 : decode cX2_lowest 58 = .ok (.lstore 7, 2) := by decide +kernel
theorem dX2_lowest_60 : decode cX2_lowest 60 = .ok (.iinc 9 1, 3) := by decide +kernel
theorem dX2_lowest_63 : decode cX2_lowest 63 = .ok (.goto (-33), 3) := by decide +kernel
theorem dX2_lowest_66 : decode cX2_lowest 66 = .ok (.lload 5, 2) := by decide +kernel
theorem dX2_lowest_68 : decode cX2_lowest 68 = .ok (.lconst 0, 1) := by decide +kernel
theorem dX2_lowest_69 : decode cX2_lowest 69 = .ok (.lcmp, 1) := by decide +kernel
theorem dX2_lowest_70 : decode cX2_lowest 70 = .ok (.ifCond .ne 9, 3) := by decide +kernel
theorem dX2_lowest_73 : decode cX2_lowest 73 = .ok (.ldc2_w 87, 3) := by decide +kernel
theorem dX2_lowest_76 : decode cX2_lowest 76 = .ok (.goto 16, 3) := by decide +kernel
theorem dX2_lowest_79 : decode cX2_lowest 79 = .ok (.iload 4, 2) := by decide +kernel
theorem dX2_lowest_81 : decode cX2_lowest 81 = .ok (.ifCond .ne 7, 3) := by decide +kernel
theorem dX2_lowest_84 : decode cX2_lowest 84 = .ok (.lload_n 0, 1) := by decide +kernel
theorem dX2_lowest_85 : decode cX2_lowest 85 = .ok (.goto 4, 3) := by decide +kernel
theorem dX2_lowest_88 : decode cX2_lowest 88 = .ok (.lload_n 2, 1) := by decide +kernel
theorem dX2_lowest_89 : decode cX2_lowest 89 = .ok (.lload 5, 2) := by decide +kernel
theorem dX2_lowest_91 : decode cX2_lowest 91 = .ok (.ldiv, 1) := by decide +kernel
theorem dX2_lowest_92 : decode cX2_lowest 92 = .ok (.lreturn, 1) := by decide +kernel
abbrev YX2_lowest : zY := (yX2_lowest, cX2_lowest, 12, (Option.some Jvm.ClassFile.FieldType.long), [])
def fX2_lowest_66 (F : zFs)  (o0 : Int) (o2 : Int) (o4 : Int) (v5 : Int) (D : zDa) : Option (Int × zDa) :=
  if v5 = 0 then
    some ((-1), D)
  else
    if o4 = 0 then
      if (v5 ≠ 0) ∧ (¬ (o0 = -9223372036854775808 ∧ v5 = -1)) then
        some ((Int.tdiv o0 v5), D)
      else none
    else
      if (v5 ≠ 0) ∧ (¬ (o2 = -9223372036854775808 ∧ v5 = -1)) then
        some ((Int.tdiv o2 v5), D)
      else none
def fX2_lowest_30 (F : zFs) (o0 : Int) (o2 : Int) (o4 : Int)  (k_30 : Int → Int → Int → zDa → Option (Int × zDa)) (v5 : Int) (v7 : Int) (v9 : Int) (D : zDa) : Option (Int × zDa) :=
  if v9 < 200 then
    if v7 = 0 then
      fX2_lowest_66 F o0 o2 o4 v5 D
    else
      if (v7 ≠ 0) then
        zlet ((Int.tmod v5 v7)) (fun x10_1 =>
          if (-2147483648 ≤ v9 + 1 ∧ v9 + 1 ≤ 2147483647) then
            k_30 v7 x10_1 (v9 + 1) D
          else none)
      else none
  else
    fX2_lowest_66 F o0 o2 o4 v5 D
def fX2_lowest (F : zFs) (v0 : Int) (v2 : Int) (v4 : Int) (D : zDa) : Option (Int × zDa) :=
  if v4 < 0 then
    some ((-1), D)
  else
    if 1 < v4 then
      some ((-1), D)
    else
      if 0 < v2 then
        zfix (fun _ _ _ _ => none) (fX2_lowest_30 F v0 v2 v4) zfu v2 v0 0 D
      else
        some ((-1), D)
set_option maxHeartbeats 20000000 in
theorem sX2_lowest_66 {l : Launch} {E : zE} {d : Nat} {F : zFs} {n sl : Nat} (hG : zG F)  (o0 : Int) (o2 : Int) (o4 : Int) (v5 : Int)   (D : zDa) : zO l E (d + 0) YX2_lowest 66 [(0, zL o0), (2, zL o2), (4, zI o4), (5, zL v5)] [] (F, D, n, sl) (zcJ F n sl) (fX2_lowest_66 F o0 o2 o4 v5 D) := by
  unfold fX2_lowest_66
  refine zO_lload dX2_lowest_66 rfl ?_
  refine zO_lconst dX2_lowest_68 ?_
  refine zO_lif_ne (tgt := 79) dX2_lowest_69 dX2_lowest_70 rfl (fun c69 => ?_) (fun c69 => ?_)
  · refine zO_ldc2 (n := -1) dX2_lowest_73 wK_X2_87 (by decide) ?_
    refine zO_goto (tgt := 92) dX2_lowest_76 rfl ?_
    exact zO_ret (rv := some (zL (-1))) dX2_lowest_92 rfl trivial rfl
  · refine zO_iload dX2_lowest_79 rfl ?_
    refine zO_if_ne (tgt := 88) dX2_lowest_81 rfl (fun c81 => ?_) (fun c81 => ?_)
    · refine zO_lload_n dX2_lowest_84 rfl ?_
      refine zO_goto (tgt := 89) dX2_lowest_85 rfl ?_
      refine zO_chk (fun h1 => ?_)
      refine zO_lload dX2_lowest_89 rfl ?_
      refine zO_ldiv dX2_lowest_91 h1.1 h1.2 ?_
      exact zO_ret (rv := some (zL (Int.tdiv o0 v5))) dX2_lowest_92 rfl trivial rfl
    · refine zO_lload_n dX2_lowest_88 rfl ?_
      refine zO_chk (fun h2 => ?_)
      refine zO_lload dX2_lowest_89 rfl ?_
      refine zO_ldiv dX2_lowest_91 h2.1 h2.2 ?_
      exact zO_ret (rv := some (zL (Int.tdiv o2 v5))) dX2_lowest_92 rfl trivial rfl
set_option maxHeartbeats 20000000 in
theorem sX2_lowest_30 {l : Launch} {E : zE} {d : Nat} {F : zFs} {n sl : Nat} (hG : zG F)  (o0 : Int) (o2 : Int) (o4 : Int)   : ∀ (N : Nat) (v5 : Int) (v7 : Int) (v9 : Int) (D : zDa), zO l E (d + 0) YX2_lowest 30 [(0, zL o0), (2, zL o2), (4, zI o4), (5, zL v5), (7, zL v7), (9, zI v9)] [] (F, D, n, sl) (zcJ F n sl) (zfix (fun _ _ _ _ => none) (fX2_lowest_30 F o0 o2 o4) N v5 v7 v9 D) := by
  intro N
  induction N with
  | zero => intro v5 v7 v9 D; exact zO_none
  | succ N hk_30 =>
    intro v5 v7 v9 D
    show zO _ _ _ _ _ _ _ _ _ ((fX2_lowest_30 F o0 o2 o4) (zfix (fun _ _ _ _ => none) (fX2_lowest_30 F o0 o2 o4) N) v5 v7 v9 D)
    unfold fX2_lowest_30
    refine zO_iload dX2_lowest_30 rfl ?_
    refine zO_sipush dX2_lowest_32 (by decide) ?_
    refine zO_icmp_ge (tgt := 66) dX2_lowest_35 rfl (fun c35 => ?_) (fun c35 => ?_)
    · refine zO_lload dX2_lowest_38 rfl ?_
      refine zO_lconst dX2_lowest_40 ?_
      refine zO_lif_eq (tgt := 66) dX2_lowest_41 dX2_lowest_42 rfl (fun c41 => ?_) (fun c41 => ?_)
      · refine zO_live [0, 2, 4, 5] ?_
        exact sX2_lowest_66 hG o0 o2 o4 v5 D
      · refine zO_chk (fun h3 => ?_)
        refine zO_lload dX2_lowest_45 rfl ?_
        refine zO_lload dX2_lowest_47 rfl ?_
        refine zO_lrem dX2_lowest_49 h3 ?_
        refine zO_letJ (fun x10_1 ex10_1 => ?_)
        refine zO_lstore dX2_lowest_50 (by decide) ?_
        refine zO_ls (ls' := [(0, zL o0), (2, zL o2), (4, zI o4), (5, zL v5), (7, zL v7), (9, zI v9), (10, zL x10_1)]) rfl ?_
        refine zO_chk (fun h4 => ?_)
        refine zO_lload dX2_lowest_52 rfl ?_
        refine zO_lstore dX2_lowest_54 (by decide) ?_
        refine zO_ls (ls' := [(0, zL o0), (2, zL o2), (4, zI o4), (5, zL v7), (7, zL v7), (9, zI v9), (10, zL x10_1)]) rfl ?_
        refine zO_lload dX2_lowest_56 rfl ?_
        refine zO_lstore dX2_lowest_58 (by decide) ?_
        refine zO_ls (ls' := [(0, zL o0), (2, zL o2), (4, zI o4), (5, zL v7), (7, zL x10_1), (9, zI v9), (10, zL x10_1)]) rfl ?_
        refine zO_iinc dX2_lowest_60 rfl h4 (by decide) ?_
        refine zO_ls (ls' := [(0, zL o0), (2, zL o2), (4, zI o4), (5, zL v7), (7, zL x10_1), (9, zI (v9 + 1)), (10, zL x10_1)]) rfl ?_
        refine zO_goto (tgt := 30) dX2_lowest_63 rfl ?_
        refine zO_live [0, 2, 4, 5, 7, 9] ?_
        exact hk_30 v7 x10_1 (v9 + 1) D
    · refine zO_live [0, 2, 4, 5] ?_
      exact sX2_lowest_66 hG o0 o2 o4 v5 D
set_option maxHeartbeats 20000000 in
theorem mX2_lowest {l : Launch} {E : zE} {d : Nat} {F : zFs} {n sl : Nat} (hG : zG F) (v0 : Int) (v2 : Int) (v4 : Int) {D : zDa} : ∀ r, fX2_lowest F  v0 v2 v4 D = some r → zMet l E (d + 0) YX2_lowest [zL v0, zL v2, zI v4] (F, D, n, sl) (zcJ F n sl r) := by
  intro r hr
  refine zMet_of (plainFor_of_name (by decide)) (fun _ h => (nomatch h)) (Nat.le_of_ble_eq_true rfl) ?_
  have hz : zO l E (d + 0) YX2_lowest 0 [(0, zL v0), (2, zL v2), (4, zI v4)] [] (F, D, n, sl) (zcJ F n sl) (fX2_lowest F  v0 v2 v4 D) := by
    unfold fX2_lowest
    refine zO_iload dX2_lowest_0 rfl ?_
    refine zO_if_lt (tgt := 17) dX2_lowest_2 rfl (fun c2 => ?_) (fun c2 => ?_)
    · refine zO_ldc2 (n := -1) dX2_lowest_17 wK_X2_87 (by decide) ?_
      exact zO_ret (rv := some (zL (-1))) dX2_lowest_20 rfl trivial rfl
    · refine zO_iload dX2_lowest_5 rfl ?_
      refine zO_iconst dX2_lowest_7 (by decide) ?_
      refine zO_icmp_gt (tgt := 17) dX2_lowest_8 rfl (fun c8 => ?_) (fun c8 => ?_)
      · refine zO_ldc2 (n := -1) dX2_lowest_17 wK_X2_87 (by decide) ?_
        exact zO_ret (rv := some (zL (-1))) dX2_lowest_20 rfl trivial rfl
      · refine zO_lload_n dX2_lowest_11 rfl ?_
        refine zO_lconst dX2_lowest_12 ?_
        refine zO_lif_gt (tgt := 21) dX2_lowest_13 dX2_lowest_14 rfl (fun c13 => ?_) (fun c13 => ?_)
        · refine zO_lload_n dX2_lowest_21 rfl ?_
          refine zO_lstore dX2_lowest_22 (by decide) ?_
          refine zO_ls (ls' := [(0, zL v0), (2, zL v2), (4, zI v4), (5, zL v2)]) rfl ?_
          refine zO_lload_n dX2_lowest_24 rfl ?_
          refine zO_lstore dX2_lowest_25 (by decide) ?_
          refine zO_ls (ls' := [(0, zL v0), (2, zL v2), (4, zI v4), (5, zL v2), (7, zL v0)]) rfl ?_
          refine zO_iconst dX2_lowest_27 (by decide) ?_
          refine zO_istore dX2_lowest_28 (by decide) ?_
          refine zO_ls (ls' := [(0, zL v0), (2, zL v2), (4, zI v4), (5, zL v2), (7, zL v0), (9, zI 0)]) rfl ?_
          refine zO_live [0, 2, 4, 5, 7, 9] ?_
          exact sX2_lowest_30 hG v0 v2 v4 zfu v2 v0 0 D
        · refine zO_ldc2 (n := -1) dX2_lowest_17 wK_X2_87 (by decide) ?_
          exact zO_ret (rv := some (zL (-1))) dX2_lowest_20 rfl trivial rfl
  exact hz r hr
theorem dX2_fraction_0 : decode cX2_fraction 0 = .ok (.lload_n 1, 1) := by decide +kernel
theorem dX2_fraction_1 : decode cX2_fraction 1 = .ok (.aload_n 0, 1) := by decide +kernel
theorem dX2_fraction_2 : decode cX2_fraction 2 = .ok (.getfield 34, 3) := by decide +kernel
theorem dX2_fraction_5 : decode cX2_fraction 5 = .ok (.iload_n 3, 1) := by decide +kernel
theorem dX2_fraction_6 : decode cX2_fraction 6 = .ok (.invokestatic 83, 3) := by decide +kernel
theorem dX2_fraction_9 : decode cX2_fraction 9 = .ok (.lreturn, 1) := by decide +kernel
abbrev YX2_fraction : zY := (yX2_fraction, cX2_fraction, 4, (Option.some Jvm.ClassFile.FieldType.long), [])
def fX2_fraction (F : zFs) (v1 : Int) (v3 : Int) (D : zDa) : Option (Int × zDa) :=
  (fX2_lowest F v1 (D 52 7) v3 D).bind (fun (r_1, D_2) =>
    some (r_1, D_2))
set_option maxHeartbeats 20000000 in
theorem mX2_fraction {l : Launch} {E : zE} {d : Nat} {F : zFs} {n sl : Nat} (hG : zG F) (v1 : Int) (v3 : Int) {D : zDa} : ∀ r, fX2_fraction F  v1 v3 D = some r → zMet l E (d + 1) YX2_fraction [zR 52, zL v1, zI v3] (F, D, n, sl) (zcJ F n sl r) := by
  intro r hr
  refine zMet_of (plainFor_of_name (by decide)) (fun _ h => (nomatch h)) (Nat.le_of_ble_eq_true rfl) ?_
  have hz : zO l E (d + 1) YX2_fraction 0 [(0, zR 52), (1, zL v1), (3, zI v3)] [] (F, D, n, sl) (zcJ F n sl) (fX2_fraction F  v1 v3 D) := by
    unfold fX2_fraction
    refine zO_lload_n dX2_fraction_0 rfl ?_
    refine zO_aload_n dX2_fraction_1 rfl (zR_P _) ?_
    refine gt2 (k := 7) (v := zL (D 52 7)) dX2_fraction_2 wF_X2_34 (by decide) (gk_52 hG) rfl ?_
    refine zO_iload_n dX2_fraction_5 rfl ?_
    refine zO_callS (Y' := YX2_lowest) (cw := zcJ F n sl) (as := [zL v1, zL (D 52 7), zI v3]) (rest := []) (na := 3) dX2_fraction_6 wC_X2_lowest wN_X2 wM_X2_83 wS_X2_lowest (by decide) (by decide) rfl rfl (Nat.le_of_ble_eq_true rfl) (fun r hr => zMet_cast (Nat.add_assoc d 0 0) (mX2_lowest (d := d + 0) hG v1 (D 52 7) v3 r hr)) ?_
    rintro ⟨r_1, D_2⟩ -
    show zO _ _ _ _ _ _ [zL r_1] (F, D_2, n, sl) _ _
    exact zO_ret (rv := some (zL r_1)) dX2_fraction_9 rfl trivial rfl
  exact hz r hr
theorem dX2_millionths_0 : decode cX2_millionths 0 = .ok (.lload_n 2, 1) := by decide +kernel
theorem dX2_millionths_1 : decode cX2_millionths 1 = .ok (.lconst 0, 1) := by decide +kernel
theorem dX2_millionths_2 : decode cX2_millionths 2 = .ok (.lcmp, 1) := by decide +kernel
theorem dX2_millionths_3 : decode cX2_millionths 3 = .ok (.ifCond .gt 5, 3) := by decide +kernel
theorem dX2_millionths_6 : decode cX2_millionths 6 = .ok (.iconst (-1), 1) := by decide +kernel
theorem dX2_millionths_7 : decode cX2_millionths 7 = .ok (.ireturn, 1) := by decide +kernel
theorem dX2_millionths_8 : decode cX2_millionths 8 = .ok (.lload_n 0, 1) := by decide +kernel
theorem dX2_millionths_9 : decode cX2_millionths 9 = .ok (.lload_n 2, 1) := by decide +kernel
theorem dX2_millionths_10 : decode cX2_millionths 10 = .ok (.ldiv, 1) := by decide +kernel
theorem dX2_millionths_11 : decode cX2_millionths 11 = .ok (.lstore 4, 2) := by decide +kernel
theorem dX2_millionths_13 : decode cX2_millionths 13 = .ok (.lload_n 0, 1) := by decide +kernel
theorem dX2_millionths_14 : decode cX2_millionths 14 = .ok (.lload_n 2, 1) := by decide +kernel
theorem dX2_millionths_15 : decode cX2_millionths 15 = .ok (.lrem, 1) := by decide +kernel
theorem dX2_millionths_16 : decode cX2_millionths 16 = .ok (.lstore 6, 2) := by decide +kernel
theorem dX2_millionths_18 : decode cX2_millionths 18 = .ok (.iconst 0, 1) := by decide +kernel
theorem dX2_millionths_19 : decode cX2_millionths 19 = .ok (.istore 8, 2) := by decide +kernel
theorem dX2_millionths_21 : decode cX2_millionths 21 = .ok (.iload 8, 2) := by decide +kernel
theorem dX2_millionths_23 : decode cX2_millionths 23 = .ok (.bipush 6, 2) := by decide +kernel
theorem dX2_millionths_25 : decode cX2_millionths 25 = .ok (.if_icmp .ge 36, 3) := by decide +kernel
theorem dX2_millionths_28 : decode cX2_millionths 28 = .ok (.lload 6, 2) := by decide +kernel
theorem dX2_millionths_30 : decode cX2_millionths 30 = .ok (.ldc2_w 89, 3) := by decide +kernel
theorem dX2_millionths_33 : decode cX2_millionths 33 = .ok (.lmul, 1) := by decide +kernel
theorem dX2_millionths_34 : decode cX2_millionths 34 = .ok (.lstore 6, 2) := by decide +kernel
theorem dX2_millionths_36 : decode cX2_millionths 36 = .ok (.lload 4, 2) := by decide +kernel
theorem dX2_millionths_38 : decode cX2_millionths 38 = .ok (.ldc2_w 89, 3) := by decide +kernel
theorem dX2_millionths_41 : decode cX2_millionths 41 = .ok (.lmul, 1) := by decide +kernel
theorem dX2_millionths_42 : decode cX2_millionths 42 = .ok (.lload 6, 2) := by decide +kernel
theorem dX2_millionths_44 : decode cX2_millionths 44 = .ok (.lload_n 2, 1) := by decide +kernel
theorem dX2_millionths_45 : decode cX2_millionths 45 = .ok (.ldiv, 1) := by decide +kernel
theorem dX2_millionths_46 : decode cX2_millionths 46 = .ok (.ladd, 1) := by decide +kernel
theorem dX2_millionths_47 : decode cX2_millionths 47 = .ok (.lstore 4, 2) := by decide +kernel
theorem dX2_millionths_49 : decode cX2_millionths 49 = .ok (.lload 6, 2) := by decide +kernel
theorem dX2_millionths_51 : decode cX2_millionths 51 = .ok (.lload_n 2, 1) := by decide +kernel
theorem dX2_millionths_52 : decode cX2_millionths 52 = .ok (.lrem, 1) := by decide +kernel
theorem dX2_millionths_53 : decode cX2_millionths 53 = .ok (.lstore 6, 2) := by decide +kernel
theorem dX2_millionths_55 : decode cX2_millionths 55 = .ok (.iinc 8 1, 3) := by decide +kernel
theorem dX2_millionths_58 : decode cX2_millionths 58 = .ok (.goto (-37), 3) := by decide +kernel
theorem dX2_millionths_61 : decode cX2_millionths 61 = .ok (.lload 4, 2) := by decide +kernel
theorem dX2_millionths_63 : decode cX2_millionths 63 = .ok (.l2i, 1) := by decide +kernel
theorem dX2_millionths_64 : decode cX2_millionths 64 = .ok (.ireturn, 1) := by decide +kernel
abbrev YX2_millionths : zY := (yX2_millionths, cX2_millionths, 9, (Option.some Jvm.ClassFile.FieldType.int), [])
def fX2_millionths_21 (F : zFs) (o2 : Int)  (k_21 : Int → Int → Int → zDa → Option (Int × zDa)) (v4 : Int) (v6 : Int) (v8 : Int) (D : zDa) : Option (Int × zDa) :=
  if v8 < 6 then
    if (-9223372036854775808 ≤ v6 * 10 ∧ v6 * 10 ≤ 9223372036854775807) then
      zlet ((v6 * 10)) (fun x6_3 =>
        if (-9223372036854775808 ≤ v4 * 10 ∧ v4 * 10 ≤ 9223372036854775807) ∧ (o2 ≠ 0) ∧ (¬ (x6_3 = -9223372036854775808 ∧ o2 = -1)) ∧ (-9223372036854775808 ≤ (v4 * 10) + (Int.tdiv x6_3 o2) ∧ (v4 * 10) + (Int.tdiv x6_3 o2) ≤ 9223372036854775807) then
          zlet (((v4 * 10) + (Int.tdiv x6_3 o2))) (fun x4_4 =>
            zlet ((Int.tmod x6_3 o2)) (fun x6_5 =>
              if (-2147483648 ≤ v8 + 1 ∧ v8 + 1 ≤ 2147483647) then
                k_21 x4_4 x6_5 (v8 + 1) D
              else none))
        else none)
    else none
  else
    some ((zl2i v4), D)
def fX2_millionths (F : zFs) (v0 : Int) (v2 : Int) (D : zDa) : Option (Int × zDa) :=
  if 0 < v2 then
    if (v2 ≠ 0) ∧ (¬ (v0 = -9223372036854775808 ∧ v2 = -1)) then
      zlet ((Int.tdiv v0 v2)) (fun x4_1 =>
        zlet ((Int.tmod v0 v2)) (fun x6_2 =>
          zfix (fun _ _ _ _ => none) (fX2_millionths_21 F v2) zfu x4_1 x6_2 0 D))
    else none
  else
    some ((-1), D)
set_option maxHeartbeats 20000000 in
theorem sX2_millionths_21 {l : Launch} {E : zE} {d : Nat} {F : zFs} {n sl : Nat} (hG : zG F)  (o2 : Int)   : ∀ (N : Nat) (v4 : Int) (v6 : Int) (v8 : Int) (D : zDa), zO l E (d + 0) YX2_millionths 21 [(2, zL o2), (4, zL v4), (6, zL v6), (8, zI v8)] [] (F, D, n, sl) (zcI F n sl) (zfix (fun _ _ _ _ => none) (fX2_millionths_21 F o2) N v4 v6 v8 D) := by
  intro N
  induction N with
  | zero => intro v4 v6 v8 D; exact zO_none
  | succ N hk_21 =>
    intro v4 v6 v8 D
    show zO _ _ _ _ _ _ _ _ _ ((fX2_millionths_21 F o2) (zfix (fun _ _ _ _ => none) (fX2_millionths_21 F o2) N) v4 v6 v8 D)
    unfold fX2_millionths_21
    refine zO_iload dX2_millionths_21 rfl ?_
    refine zO_bipush dX2_millionths_23 (by decide) ?_
    refine zO_icmp_ge (tgt := 61) dX2_millionths_25 rfl (fun c25 => ?_) (fun c25 => ?_)
    · refine zO_chk (fun h2 => ?_)
      refine zO_lload dX2_millionths_28 rfl ?_
      refine zO_ldc2 (n := 10) dX2_millionths_30 wK_X2_89 (by decide) ?_
      refine zO_lmul dX2_millionths_33 h2 ?_
      refine zO_letJ (fun x6_3 ex6_3 => ?_)
      refine zO_lstore dX2_millionths_34 (by decide) ?_
      refine zO_ls (ls' := [(2, zL o2), (4, zL v4), (6, zL x6_3), (8, zI v8)]) rfl ?_
      refine zO_chk (fun h3 => ?_)
      refine zO_lload dX2_millionths_36 rfl ?_
      refine zO_ldc2 (n := 10) dX2_millionths_38 wK_X2_89 (by decide) ?_
      refine zO_lmul dX2_millionths_41 h3.1 ?_
      refine zO_lload dX2_millionths_42 rfl ?_
      refine zO_lload_n dX2_millionths_44 rfl ?_
      refine zO_ldiv dX2_millionths_45 h3.2.1 h3.2.2.1 ?_
      refine zO_ladd dX2_millionths_46 h3.2.2.2 ?_
      refine zO_letJ (fun x4_4 ex4_4 => ?_)
      refine zO_lstore dX2_millionths_47 (by decide) ?_
      refine zO_ls (ls' := [(2, zL o2), (4, zL x4_4), (6, zL x6_3), (8, zI v8)]) rfl ?_
      refine zO_lload dX2_millionths_49 rfl ?_
      refine zO_lload_n dX2_millionths_51 rfl ?_
      refine zO_lrem dX2_millionths_52 h3.2.1 ?_
      refine zO_letJ (fun x6_5 ex6_5 => ?_)
      refine zO_lstore dX2_millionths_53 (by decide) ?_
      refine zO_ls (ls' := [(2, zL o2), (4, zL x4_4), (6, zL x6_5), (8, zI v8)]) rfl ?_
      refine zO_chk (fun h4 => ?_)
      refine zO_iinc dX2_millionths_55 rfl h4 (by decide) ?_
      refine zO_ls (ls' := [(2, zL o2), (4, zL x4_4), (6, zL x6_5), (8, zI (v8 + 1))]) rfl ?_
      refine zO_goto (tgt := 21) dX2_millionths_58 rfl ?_
      refine zO_live [2, 4, 6, 8] ?_
      exact hk_21 x4_4 x6_5 (v8 + 1) D
    · refine zO_lload dX2_millionths_61 rfl ?_
      refine zO_l2i dX2_millionths_63 ?_
      exact zO_ret (rv := some (zI (zl2i v4))) dX2_millionths_64 rfl rfl rfl
set_option maxHeartbeats 20000000 in
theorem mX2_millionths {l : Launch} {E : zE} {d : Nat} {F : zFs} {n sl : Nat} (hG : zG F) (v0 : Int) (v2 : Int) {D : zDa} : ∀ r, fX2_millionths F  v0 v2 D = some r → zMet l E (d + 0) YX2_millionths [zL v0, zL v2] (F, D, n, sl) (zcI F n sl r) := by
  intro r hr
  refine zMet_of (plainFor_of_name (by decide)) (fun _ h => (nomatch h)) (Nat.le_of_ble_eq_true rfl) ?_
  have hz : zO l E (d + 0) YX2_millionths 0 [(0, zL v0), (2, zL v2)] [] (F, D, n, sl) (zcI F n sl) (fX2_millionths F  v0 v2 D) := by
    unfold fX2_millionths
    refine zO_lload_n dX2_millionths_0 rfl ?_
    refine zO_lconst dX2_millionths_1 ?_
    refine zO_lif_gt (tgt := 8) dX2_millionths_2 dX2_millionths_3 rfl (fun c2 => ?_) (fun c2 => ?_)
    · refine zO_chk (fun h1 => ?_)
      refine zO_lload_n dX2_millionths_8 rfl ?_
      refine zO_lload_n dX2_millionths_9 rfl ?_
      refine zO_ldiv dX2_millionths_10 h1.1 h1.2 ?_
      refine zO_letJ (fun x4_1 ex4_1 => ?_)
      refine zO_lstore dX2_millionths_11 (by decide) ?_
      refine zO_ls (ls' := [(0, zL v0), (2, zL v2), (4, zL x4_1)]) rfl ?_
      refine zO_lload_n dX2_millionths_13 rfl ?_
      refine zO_lload_n dX2_millionths_14 rfl ?_
      refine zO_lrem dX2_millionths_15 h1.1 ?_
      refine zO_letJ (fun x6_2 ex6_2 => ?_)
      refine zO_lstore dX2_millionths_16 (by decide) ?_
      refine zO_ls (ls' := [(0, zL v0), (2, zL v2), (4, zL x4_1), (6, zL x6_2)]) rfl ?_
      refine zO_iconst dX2_millionths_18 (by decide) ?_
      refine zO_istore dX2_millionths_19 (by decide) ?_
      refine zO_ls (ls' := [(0, zL v0), (2, zL v2), (4, zL x4_1), (6, zL x6_2), (8, zI 0)]) rfl ?_
      refine zO_live [2, 4, 6, 8] ?_
      exact sX2_millionths_21 hG v2 zfu x4_1 x6_2 0 D
    · refine zO_iconst dX2_millionths_6 (by decide) ?_
      exact zO_ret (rv := some (zI (-1))) dX2_millionths_7 rfl rfl rfl
  exact hz r hr
theorem dX3_init_0 : decode cX3_init 0 = .ok (.aload_n 0, 1) := by decide +kernel
theorem dX3_init_1 : decode cX3_init 1 = .ok (.invokespecial 5, 3) := by decide +kernel
theorem dX3_init_4 : decode cX3_init 4 = .ok (.aload_n 0, 1) := by decide +kernel
theorem dX3_init_5 : decode cX3_init 5 = .ok (.iload_n 1, 1) := by decide +kernel
theorem dX3_init_6 : decode cX3_init 6 = .ok (.putfield 11, 3) := by decide +kernel
theorem dX3_init_9 : decode cX3_init 9 = .ok (.aload_n 0, 1) := by decide +kernel
theorem dX3_init_10 : decode cX3_init 10 = .ok (.aload_n 2, 1) := by decide +kernel
theorem dX3_init_11 : decode cX3_init 11 = .ok (.putfield 15, 3) := by decide +kernel
theorem dX3_init_14 : decode cX3_init 14 = .ok (.aload_n 0, 1) := by decide +kernel
theorem dX3_init_15 : decode cX3_init 15 = .ok (.aload_n 3, 1) := by decide +kernel
theorem dX3_init_16 : decode cX3_init 16 = .ok (.putfield 19, 3) := by decide +kernel
theorem dX3_init_19 : decode cX3_init 19 = .ok (.aload_n 0, 1) := by decide +kernel
theorem dX3_init_20 : decode cX3_init 20 = .ok (.aload 4, 2) := by decide +kernel
theorem dX3_init_22 : decode cX3_init 22 = .ok (.putfield 22, 3) := by decide +kernel
theorem dX3_init_25 : decode cX3_init 25 = .ok (.return_, 1) := by decide +kernel
abbrev YX3_init : zY := (yX3_init, cX3_init, 5, none, [])
def fX3_init (a0 : Nat) (v1 : Int) (a2 a3 a4 : Nat) (F : zFs) (D : zDa) (n sl : Nat) : Option zM :=
  if (F a0).1 = 4 then some (zfin (zfin (zfin (zfin F a0 0 v1) a0 1 a2) a0 2 a3) a0 3 a4, D, n, sl) else none
theorem pf3 {α : Type} {l : Launch} {E : zE} {d : Nat} {Y : zY} {pc : Nat} {ls : zLs} {st : List zV} {F : zFs} {D : zDa} {n sl : Nat} {cv : α → zRes} {x : Option α} {k j a : Nat} {v : zV} {z : Int} (hi : decode Y.2.1 pc = .ok (.putfield j, 3)) (hw : Cond.fieldLink Y.1.cls j (TX3 k).1 (TX3 k).2.1 (TX3 k).2.2.1 ∈ zgood) (hk : k < 4) (hf : (TX3 k).2.2.2 = true) (hd : (TX3 k).1 = Y.1.cls) (hin : Y.1.name = "<init>") (ha : (F a).1 = 4) (hv : v = zdec (tyX3 k) z) (hz : zvk v → zfok (tyX3 k) z) (kk : zO l E d Y (pc + 3) ls st (zfin F a k z, D, n, sl) cv x) : zO l E d Y pc ls (v :: zR a :: st) (F, D, n, sl) cv x := by
  by_cases hvk : zvk v
  · exact zO_putF (c := 3) (C := RX3) hi hw rfl inX3 tyX3_ok nmX3 hk (by decide) hf hd hin ha hv (hz hvk) kk
  · intro r hr
    obtain ⟨hm, -⟩ := kk r hr
    exact ⟨hm, fun hok => absurd hok.hd hvk⟩
theorem mX3_init {l : Launch} {E : zE} {d : Nat} (a0 : Nat) (v1 : Int) (a2 a3 a4 : Nat) {F : zFs} {D : zDa} {n sl : Nat} : ∀ r, fX3_init a0 v1 a2 a3 a4 F D n sl = some r → zMet l E (d + 0) YX3_init [zR a0, zI v1, zR a2, zR a3, zR a4] (F, D, n, sl) (zmV r) := by
  intro r hr
  refine zMet_of (plainFor_of_name (by decide)) (fun _ h => (nomatch h)) (Nat.le_of_ble_eq_true rfl) ?_
  have hz : zO l E (d + 0) YX3_init 0 [(0, zR a0), (1, zI v1), (2, zR a2), (3, zR a3), (4, zR a4)] [] (F, D, n, sl) zmV (fX3_init a0 v1 a2 a3 a4 F D n sl) := by
    unfold fX3_init
    refine zO_chk (fun h => ?_)
    refine zO_aload_n dX3_init_0 rfl (zR_P _) ?_
    refine zO_objI dX3_init_1 wM_X3_5 (Nat.le_of_ble_eq_true rfl) ?_
    refine zO_aload_n dX3_init_4 rfl (zR_P _) ?_
    refine zO_iload_n dX3_init_5 rfl ?_
    refine pf3 (k := 0) (z := v1) dX3_init_6 wF_X3_11 (by decide) rfl rfl rfl h rfl (fun h => h) ?_
    refine zO_aload_n dX3_init_9 rfl (zR_P _) ?_
    refine zO_aload_n dX3_init_10 rfl (zR_P _) ?_
    refine pf3 (k := 1) (z := (a2 : Int)) dX3_init_11 wF_X3_15 (by decide) rfl rfl rfl (zfin_1.trans h) (zq_nat a2).symm (fun _ => trivial) ?_
    refine zO_aload_n dX3_init_14 rfl (zR_P _) ?_
    refine zO_aload_n dX3_init_15 rfl (zR_P _) ?_
    refine pf3 (k := 2) (z := (a3 : Int)) dX3_init_16 wF_X3_19 (by decide) rfl rfl rfl (zfin_1.trans (zfin_1.trans h)) (zq_nat a3).symm (fun _ => trivial) ?_
    refine zO_aload_n dX3_init_19 rfl (zR_P _) ?_
    refine zO_aload dX3_init_20 rfl (zR_P _) ?_
    refine pf3 (k := 3) (z := (a4 : Int)) dX3_init_22 wF_X3_22 (by decide) rfl rfl rfl (zfin_1.trans (zfin_1.trans (zfin_1.trans h))) (zq_nat a4).symm (fun _ => trivial) ?_
    exact zO_ret (rv := none) dX3_init_25 rfl trivial rfl
  exact hz r hr
