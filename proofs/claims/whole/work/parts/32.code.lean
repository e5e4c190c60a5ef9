/-! printed by wip/gen/emit_all.py: X12_readClause X12_reads X12_paper X12_fault X12_use X12_codeAt X12_passes0 X12_bounded group4 -/
theorem dX12_readClause_0 : decode cX12_readClause 0 = .ok (.aload_n 0, 1) := by decide +kernel
theorem dX12_readClause_1 : decode cX12_readClause 1 = .ok (.iconst 1, 1) := by decide +kernel
theorem dX12_readClause_2 : decode cX12_readClause 2 = .ok (.invokevirtual 196, 3) := by decide +kernel
theorem dX12_readClause_5 : decode cX12_readClause 5 = .ok (.ifCond .ne 16, 3) := by decide +kernel
theorem dX12_readClause_8 : decode cX12_readClause 8 = .ok (.aload_n 0, 1) := by decide +kernel
theorem dX12_readClause_9 : decode cX12_readClause 9 = .ok (.iconst 2, 1) := by decide +kernel
theorem dX12_readClause_10 : decode cX12_readClause 10 = .ok (.invokevirtual 196, 3) := by decide +kernel
theorem dX12_readClause_13 : decode cX12_readClause 13 = .ok (.ifCond .ne 8, 3) := by decide +kernel
theorem dX12_readClause_16 : decode cX12_readClause 16 = .ok (.aload_n 0, 1) := by decide +kernel
theorem dX12_readClause_17 : decode cX12_readClause 17 = .ok (.iconst 3, 1) := by decide +kernel
theorem dX12_readClause_18 : decode cX12_readClause 18 = .ok (.invokevirtual 205, 3) := by decide +kernel
theorem dX12_readClause_21 : decode cX12_readClause 21 = .ok (.aload_n 0, 1) := by decide +kernel
theorem dX12_readClause_22 : decode cX12_readClause 22 = .ok (.iconst 0, 1) := by decide +kernel
theorem dX12_readClause_23 : decode cX12_readClause 23 = .ok (.invokevirtual 209, 3) := by decide +kernel
theorem dX12_readClause_26 : decode cX12_readClause 26 = .ok (.aload_n 0, 1) := by decide +kernel
theorem dX12_readClause_27 : decode cX12_readClause 27 = .ok (.iconst 4, 1) := by decide +kernel
theorem dX12_readClause_28 : decode cX12_readClause 28 = .ok (.invokevirtual 196, 3) := by decide +kernel
theorem dX12_readClause_31 : decode cX12_readClause 31 = .ok (.ifCond .eq 8, 3) := by decide +kernel
theorem dX12_readClause_34 : decode cX12_readClause 34 = .ok (.aload_n 0, 1) := by decide +kernel
theorem dX12_readClause_35 : decode cX12_readClause 35 = .ok (.iconst 0, 1) := by decide +kernel
theorem dX12_readClause_36 : decode cX12_readClause 36 = .ok (.invokevirtual 212, 3) := by decide +kernel
theorem dX12_readClause_39 : decode cX12_readClause 39 = .ok (.return_, 1) := by decide +kernel
abbrev YX12_readClause : zY := (yX12_readClause, cX12_readClause, 1, none, [])
def fX12_readClause_21 (F : zFs)   (D : zDa) : Option zDa :=
  (fX12_readSum F 0 D).bind (fun D_8 =>
    (fX12_takes0 F 4 D_8).bind (fun (r_9, D_10) =>
      if r_9 = 0 then
        some D_10
      else
        (fX12_readTest F 0 D_10).bind (fun D_12 =>
          some D_12)))
def fX12_readClause (F : zFs)  (D : zDa) : Option zDa :=
  (fX12_takes0 F 1 D).bind (fun (r_1, D_2) =>
    if r_1 = 0 then
      (fX12_takes0 F 2 D_2).bind (fun (r_3, D_4) =>
        if r_3 = 0 then
          (fX12_must F 3 D_4).bind (fun D_6 =>
            fX12_readClause_21 F D_6)
        else
          fX12_readClause_21 F D_4)
    else
      fX12_readClause_21 F D_2)
set_option maxHeartbeats 20000000 in
theorem sX12_readClause_21 {l : Launch} {E : zE} {d : Nat} {F : zFs} {n sl : Nat} (hG : zG F)     (D : zDa) : zO l E (d + 87) YX12_readClause 21 [(0, zR 91)] [] (F, D, n, sl) (zcV F n sl) (fX12_readClause_21 F D) := by
  unfold fX12_readClause_21
  refine zO_aload_n dX12_readClause_21 rfl (zR_P _) ?_
  refine zO_iconst dX12_readClause_22 (by decide) ?_
  refine zO_callV (Y' := YX12_readSum) (cw := zcV F n sl) (as := [zI 0]) (rest := []) (na := 1) (ci := 12) rfl dX12_readClause_23 wC_X12_readSum wN_X12 wM_X12_209 wI_X12_readSum wV_X12_readSum (by decide) (by decide) rfl rfl (Nat.le_of_ble_eq_true rfl) rfl (by decide) (gk_91 hG) (fun r hr => zMet_cast (Nat.add_assoc d 42 44) (mX12_readSum (d := d + 42) hG 0 r hr)) ?_
  intro D_8 _
  show zO _ _ _ _ _ _ [] (F, D_8, n, sl) _ _
  refine zO_aload_n dX12_readClause_26 rfl (zR_P _) ?_
  refine zO_iconst dX12_readClause_27 (by decide) ?_
  refine zO_callV (Y' := YX12_takes0) (cw := zcI F n sl) (as := [zI 4]) (rest := []) (na := 1) (ci := 12) rfl dX12_readClause_28 wC_X12_takes0 wN_X12 wM_X12_196 wI_X12_takes0 wV_X12_takes0 (by decide) (by decide) rfl rfl (Nat.le_of_ble_eq_true rfl) rfl (by decide) (gk_91 hG) (fun r hr => zMet_cast (Nat.add_assoc d 85 1) (mX12_takes0 (d := d + 85) hG 4 r hr)) ?_
  rintro ⟨r_9, D_10⟩ -
  show zO _ _ _ _ _ _ [zI r_9] (F, D_10, n, sl) _ _
  refine zO_if_eq (tgt := 39) dX12_readClause_31 rfl (fun c31 => ?_) (fun c31 => ?_)
  · exact zO_ret (rv := none) dX12_readClause_39 rfl trivial rfl
  · refine zO_aload_n dX12_readClause_34 rfl (zR_P _) ?_
    refine zO_iconst dX12_readClause_35 (by decide) ?_
    refine zO_callV (Y' := YX12_readTest) (cw := zcV F n sl) (as := [zI 0]) (rest := []) (na := 1) (ci := 12) rfl dX12_readClause_36 wC_X12_readTest wN_X12 wM_X12_212 wI_X12_readTest wV_X12_readTest (by decide) (by decide) rfl rfl (Nat.le_of_ble_eq_true rfl) rfl (by decide) (gk_91 hG) (fun r hr => zMet_cast (Nat.add_assoc d 0 86) (mX12_readTest (d := d + 0) hG 0 r hr)) ?_
    intro D_12 _
    show zO _ _ _ _ _ _ [] (F, D_12, n, sl) _ _
    exact zO_ret (rv := none) dX12_readClause_39 rfl trivial rfl
set_option maxHeartbeats 20000000 in
theorem mX12_readClause {l : Launch} {E : zE} {d : Nat} {F : zFs} {n sl : Nat} (hG : zG F)  {D : zDa} : ∀ r, fX12_readClause F   D = some r → zMet l E (d + 87) YX12_readClause [zR 91] (F, D, n, sl) (zcV F n sl r) := by
  intro r hr
  refine zMet_of (plainFor_of_name (by decide)) (fun _ h => (nomatch h)) (Nat.le_of_ble_eq_true rfl) ?_
  have hz : zO l E (d + 87) YX12_readClause 0 [(0, zR 91)] [] (F, D, n, sl) (zcV F n sl) (fX12_readClause F   D) := by
    unfold fX12_readClause
    refine zO_aload_n dX12_readClause_0 rfl (zR_P _) ?_
    refine zO_iconst dX12_readClause_1 (by decide) ?_
    refine zO_callV (Y' := YX12_takes0) (cw := zcI F n sl) (as := [zI 1]) (rest := []) (na := 1) (ci := 12) rfl dX12_readClause_2 wC_X12_takes0 wN_X12 wM_X12_196 wI_X12_takes0 wV_X12_takes0 (by decide) (by decide) rfl rfl (Nat.le_of_ble_eq_true rfl) rfl (by decide) (gk_91 hG) (fun r hr => zMet_cast (Nat.add_assoc d 85 1) (mX12_takes0 (d := d + 85) hG 1 r hr)) ?_
    rintro ⟨r_1, D_2⟩ -
    show zO _ _ _ _ _ _ [zI r_1] (F, D_2, n, sl) _ _
    refine zO_if_ne (tgt := 21) dX12_readClause_5 rfl (fun c5 => ?_) (fun c5 => ?_)
    · refine zO_aload_n dX12_readClause_8 rfl (zR_P _) ?_
      refine zO_iconst dX12_readClause_9 (by decide) ?_
      refine zO_callV (Y' := YX12_takes0) (cw := zcI F n sl) (as := [zI 2]) (rest := []) (na := 1) (ci := 12) rfl dX12_readClause_10 wC_X12_takes0 wN_X12 wM_X12_196 wI_X12_takes0 wV_X12_takes0 (by decide) (by decide) rfl rfl (Nat.le_of_ble_eq_true rfl) rfl (by decide) (gk_91 hG) (fun r hr => zMet_cast (Nat.add_assoc d 85 1) (mX12_takes0 (d := d + 85) hG 2 r hr)) ?_
      rintro ⟨r_3, D_4⟩ -
      show zO _ _ _ _ _ _ [zI r_3] (F, D_4, n, sl) _ _
      refine zO_if_ne (tgt := 21) dX12_readClause_13 rfl (fun c13 => ?_) (fun c13 => ?_)
      · refine zO_aload_n dX12_readClause_16 rfl (zR_P _) ?_
        refine zO_iconst dX12_readClause_17 (by decide) ?_
        refine zO_callV (Y' := YX12_must) (cw := zcV F n sl) (as := [zI 3]) (rest := []) (na := 1) (ci := 12) rfl dX12_readClause_18 wC_X12_must wN_X12 wM_X12_205 wI_X12_must wV_X12_must (by decide) (by decide) rfl rfl (Nat.le_of_ble_eq_true rfl) rfl (by decide) (gk_91 hG) (fun r hr => zMet_cast (Nat.add_assoc d 84 2) (mX12_must (d := d + 84) hG 3 r hr)) ?_
        intro D_6 _
        show zO _ _ _ _ _ _ [] (F, D_6, n, sl) _ _
        refine zO_live [0] ?_
        exact sX12_readClause_21 hG D_6
      · refine zO_live [0] ?_
        exact sX12_readClause_21 hG D_4
    · refine zO_live [0] ?_
      exact sX12_readClause_21 hG D_2
  exact hz r hr
theorem dX12_reads_0 : decode cX12_reads 0 = .ok (.aload_n 0, 1) := by decide +kernel
theorem dX12_reads_1 : decode cX12_reads 1 = .ok (.aload_n 0, 1) := by decide +kernel
theorem dX12_reads_2 : decode cX12_reads 2 = .ok (.getfield 170, 3) := by decide +kernel
theorem dX12_reads_5 : decode cX12_reads 5 = .ok (.invokevirtual 234, 3) := by decide +kernel
theorem dX12_reads_8 : decode cX12_reads 8 = .ok (.aload_n 0, 1) := by decide +kernel
theorem dX12_reads_9 : decode cX12_reads 9 = .ok (.iconst 0, 1) := by decide +kernel
theorem dX12_reads_10 : decode cX12_reads 10 = .ok (.putfield 170, 3) := by decide +kernel
theorem dX12_reads_13 : decode cX12_reads 13 = .ok (.aload_n 0, 1) := by decide +kernel
theorem dX12_reads_14 : decode cX12_reads 14 = .ok (.iconst 0, 1) := by decide +kernel
theorem dX12_reads_15 : decode cX12_reads 15 = .ok (.putfield 193, 3) := by decide +kernel
theorem dX12_reads_18 : decode cX12_reads 18 = .ok (.aload_n 0, 1) := by decide +kernel
theorem dX12_reads_19 : decode cX12_reads 19 = .ok (.iconst 0, 1) := by decide +kernel
theorem dX12_reads_20 : decode cX12_reads 20 = .ok (.putfield 202, 3) := by decide +kernel
theorem dX12_reads_23 : decode cX12_reads 23 = .ok (.aload_n 0, 1) := by decide +kernel
theorem dX12_reads_24 : decode cX12_reads 24 = .ok (.iconst (-1), 1) := by decide +kernel
theorem dX12_reads_25 : decode cX12_reads 25 = .ok (.putfield 186, 3) := by decide +kernel
theorem dX12_reads_28 : decode cX12_reads 28 = .ok (.aload_n 0, 1) := by decide +kernel
theorem dX12_reads_29 : decode cX12_reads 29 = .ok (.invokevirtual 237, 3) := by decide +kernel
theorem dX12_reads_32 : decode cX12_reads 32 = .ok (.iconst 1, 1) := by decide +kernel
theorem dX12_reads_33 : decode cX12_reads 33 = .ok (.istore_n 1, 1) := by decide +kernel
theorem dX12_reads_34 : decode cX12_reads 34 = .ok (.aload_n 0, 1) := by decide +kernel
theorem dX12_reads_35 : decode cX12_reads 35 = .ok (.bipush 59, 2) := by decide +kernel
theorem dX12_reads_37 : decode cX12_reads 37 = .ok (.invokestatic 221, 3) := by decide +kernel
theorem dX12_reads_40 : decode cX12_reads 40 = .ok (.invokevirtual 196, 3) := by decide +kernel
theorem dX12_reads_43 : decode cX12_reads 43 = .ok (.ifCond .eq 30, 3) := by decide +kernel
theorem dX12_reads_46 : decode cX12_reads 46 = .ok (.iload_n 1, 1) := by decide +kernel
theorem dX12_reads_47 : decode cX12_reads 47 = .ok (.bipush 12, 2) := by decide +kernel
theorem dX12_reads_49 : decode cX12_reads 49 = .ok (.if_icmp .ne 7, 3) := by decide +kernel
theorem dX12_reads_52 : decode cX12_reads 52 = .ok (.aload_n 0, 1) := by decide +kernel
theorem dX12_reads_53 : decode cX12_reads 53 = .ok (.invokevirtual 199, 3) := by decide +kernel
theorem dX12_reads_56 : decode cX12_reads 56 = .ok (.aload_n 0, 1) := by decide +kernel
theorem dX12_reads_57 : decode cX12_reads 57 = .ok (.invokevirtual 189, 3) := by decide +kernel
theorem dX12_reads_60 : decode cX12_reads 60 = .ok (.ifCond .eq 7, 3) := by decide +kernel
theorem dX12_reads_63 : decode cX12_reads 63 = .ok (.aload_n 0, 1) := by decide +kernel
theorem dX12_reads_64 : decode cX12_reads 64 = .ok (.invokevirtual 237, 3) := by decide +kernel
theorem dX12_reads_67 : decode cX12_reads 67 = .ok (.iinc 1 1, 3) := by decide +kernel
theorem dX12_reads_70 : decode cX12_reads 70 = .ok (.goto (-36), 3) := by decide +kernel
theorem dX12_reads_73 : decode cX12_reads 73 = .ok (.aload_n 0, 1) := by decide +kernel
theorem dX12_reads_74 : decode cX12_reads 74 = .ok (.invokevirtual 189, 3) := by decide +kernel
theorem dX12_reads_77 : decode cX12_reads 77 = .ok (.ifCond .eq 18, 3) := by decide +kernel
theorem dX12_reads_80 : decode cX12_reads 80 = .ok (.aload_n 0, 1) := by decide +kernel
theorem dX12_reads_81 : decode cX12_reads 81 = .ok (.getfield 193, 3) := by decide +kernel
theorem dX12_reads_84 : decode cX12_reads 84 = .ok (.aload_n 0, 1) := by decide +kernel
theorem dX12_reads_85 : decode cX12_reads 85 = .ok (.getfield 173, 3) := by decide +kernel
theorem dX12_reads_88 : decode cX12_reads 88 = .ok (.if_icmp .ge 7, 3) := by decide +kernel
theorem dX12_reads_91 : decode cX12_reads 91 = .ok (.aload_n 0, 1) := by decide +kernel
theorem dX12_reads_92 : decode cX12_reads 92 = .ok (.invokevirtual 199, 3) := by decide +kernel
theorem dX12_reads_95 : decode cX12_reads 95 = .ok (.aload_n 0, 1) := by decide +kernel
theorem dX12_reads_96 : decode cX12_reads 96 = .ok (.aload_n 0, 1) := by decide +kernel
theorem dX12_reads_97 : decode cX12_reads 97 = .ok (.getfield 186, 3) := by decide +kernel
theorem dX12_reads_100 : decode cX12_reads 100 = .ok (.putfield 40, 3) := by decide +kernel
theorem dX12_reads_103 : decode cX12_reads 103 = .ok (.aload_n 0, 1) := by decide +kernel
theorem dX12_reads_104 : decode cX12_reads 104 = .ok (.invokevirtual 189, 3) := by decide +kernel
theorem dX12_reads_107 : decode cX12_reads 107 = .ok (.ireturn, 1) := by decide +kernel
abbrev YX12_reads : zY := (yX12_reads, cX12_reads, 2, (Option.some Jvm.ClassFile.FieldType.boolean), [])
def fX12_reads_95 (F : zFs)   (D : zDa) : Option (Int × zDa) :=
  zlet (zwr D 91 10 (D 91 17)) (fun D_15 =>
    (fX12_fine F D_15).bind (fun (r_16, D_17) =>
      if (r_16 = 0 ∨ r_16 = 1) then
        some (r_16, D_17)
      else none))
def fX12_reads_67 (F : zFs) (k_34 : Int → zDa → Option (Int × zDa)) (v1 : Int) (D : zDa) : Option (Int × zDa) :=
  if (-2147483648 ≤ v1 + 1 ∧ v1 + 1 ≤ 2147483647) then
    k_34 (v1 + 1) D
  else none
def fX12_reads_56 (F : zFs) (k_34 : Int → zDa → Option (Int × zDa)) (v1 : Int) (D : zDa) : Option (Int × zDa) :=
  (fX12_fine F D).bind (fun (r_22, D_23) =>
    if r_22 = 0 then
      fX12_reads_67 F k_34 v1 D_23
    else
      (fX12_readClause F D_23).bind (fun D_25 =>
        fX12_reads_67 F k_34 v1 D_25))
def fX12_reads_34 (F : zFs)   (k_34 : Int → zDa → Option (Int × zDa)) (v1 : Int) (D : zDa) : Option (Int × zDa) :=
  (fX12_sign F 59 D).bind (fun (r_9, D_10) =>
    (fX12_takes0 F r_9 D_10).bind (fun (r_11, D_12) =>
      if r_11 = 0 then
        (fX12_fine F D_12).bind (fun (r_13, D_14) =>
          if r_13 = 0 then
            fX12_reads_95 F D_14
          else
            if (D_14 91 15) < (D_14 91 14) then
              (fX12_faults F D_14).bind (fun D_19 =>
                fX12_reads_95 F D_19)
            else
              fX12_reads_95 F D_14)
      else
        if v1 = 12 then
          (fX12_faults F D_12).bind (fun D_21 =>
            fX12_reads_56 F k_34 v1 D_21)
        else
          fX12_reads_56 F k_34 v1 D_12))
def fX12_reads (F : zFs)  (D : zDa) : Option (Int × zDa) :=
  (fX12_splits F (D 91 9) D).bind (fun D_2 =>
    zlet (zwr D_2 91 9 0) (fun D_3 =>
      zlet (zwr D_3 91 15 0) (fun D_4 =>
        zlet (zwr D_4 91 16 0) (fun D_5 =>
          zlet (zwr D_5 91 17 (-1)) (fun D_6 =>
            (fX12_readClause F D_6).bind (fun D_8 =>
              zfix (fun _ _ => none) (fX12_reads_34 F) zfu 1 D_8))))))
set_option maxHeartbeats 20000000 in
theorem sX12_reads_95 {l : Launch} {E : zE} {d : Nat} {F : zFs} {n sl : Nat} (hG : zG F)     (D : zDa) : zO l E (d + 88) YX12_reads 95 [(0, zR 91)] [] (F, D, n, sl) (zcI F n sl) (fX12_reads_95 F D) := by
  unfold fX12_reads_95
  refine zO_aload_n dX12_reads_95 rfl (zR_P _) ?_
  refine zO_aload_n dX12_reads_96 rfl (zR_P _) ?_
  refine gt12 (k := 17) (v := zI (D 91 17)) dX12_reads_97 wF_X12_186 (by decide) (gk_91 hG) rfl ?_
  refine ptI12 (k := 10) (z := (D 91 17)) dX12_reads_100 wF_X12_40 (by decide) rfl (gk_91 hG) rfl ?_
  refine zO_letD (fun D_15 eD_15 => ?_)
  refine zO_aload_n dX12_reads_103 rfl (zR_P _) ?_
  refine zO_callV (Y' := YX12_fine) (cw := zcI F n sl) (as := []) (rest := []) (na := 0) (ci := 12) rfl dX12_reads_104 wC_X12_fine wN_X12 wM_X12_189 wI_X12_fine wV_X12_fine (by decide) (by decide) rfl rfl (Nat.le_of_ble_eq_true rfl) rfl (by decide) (gk_91 hG) (fun r hr => zMet_cast (Nat.add_assoc d 87 0) (mX12_fine (d := d + 87) hG  r hr)) ?_
  rintro ⟨r_16, D_17⟩ -
  show zO _ _ _ _ _ _ [zI r_16] (F, D_17, n, sl) _ _
  refine zO_chk (fun h1 => ?_)
  exact zO_ret (rv := some (zI r_16)) dX12_reads_107 rfl (zretok_z h1) rfl
set_option maxHeartbeats 20000000 in
theorem sX12_reads_67 {l : Launch} {E : zE} {d : Nat} {F : zFs} {n sl : Nat} (hG : zG F)  (v1 : Int) (k_34 : Int → zDa → Option (Int × zDa)) (hk_34 : ∀ (u1 : Int) (D : zDa), zO l E (d + 88) YX12_reads 34 [(0, zR 91), (1, zI u1)] [] (F, D, n, sl) (zcI F n sl) (k_34 u1 D)) (D : zDa) : zO l E (d + 88) YX12_reads 67 [(0, zR 91), (1, zI v1)] [] (F, D, n, sl) (zcI F n sl) (fX12_reads_67 F k_34 v1 D) := by
  unfold fX12_reads_67
  refine zO_chk (fun h2 => ?_)
  refine zO_iinc dX12_reads_67 rfl h2 (by decide) ?_
  refine zO_ls (ls' := [(0, zR 91), (1, zI (v1 + 1))]) rfl ?_
  refine zO_goto (tgt := 34) dX12_reads_70 rfl ?_
  refine zO_live [0, 1] ?_
  exact hk_34 (v1 + 1) D
set_option maxHeartbeats 20000000 in
theorem sX12_reads_56 {l : Launch} {E : zE} {d : Nat} {F : zFs} {n sl : Nat} (hG : zG F)  (v1 : Int) (k_34 : Int → zDa → Option (Int × zDa)) (hk_34 : ∀ (u1 : Int) (D : zDa), zO l E (d + 88) YX12_reads 34 [(0, zR 91), (1, zI u1)] [] (F, D, n, sl) (zcI F n sl) (k_34 u1 D)) (D : zDa) : zO l E (d + 88) YX12_reads 56 [(0, zR 91), (1, zI v1)] [] (F, D, n, sl) (zcI F n sl) (fX12_reads_56 F k_34 v1 D) := by
  unfold fX12_reads_56
  refine zO_aload_n dX12_reads_56 rfl (zR_P _) ?_
  refine zO_callV (Y' := YX12_fine) (cw := zcI F n sl) (as := []) (rest := []) (na := 0) (ci := 12) rfl dX12_reads_57 wC_X12_fine wN_X12 wM_X12_189 wI_X12_fine wV_X12_fine (by decide) (by decide) rfl rfl (Nat.le_of_ble_eq_true rfl) rfl (by decide) (gk_91 hG) (fun r hr => zMet_cast (Nat.add_assoc d 87 0) (mX12_fine (d := d + 87) hG  r hr)) ?_
  rintro ⟨r_22, D_23⟩ -
  show zO _ _ _ _ _ _ [zI r_22] (F, D_23, n, sl) _ _
  refine zO_if_eq (tgt := 67) dX12_reads_60 rfl (fun c60 => ?_) (fun c60 => ?_)
  · refine zO_live [0, 1] ?_
    exact sX12_reads_67 hG v1 _ hk_34 D_23
  · refine zO_aload_n dX12_reads_63 rfl (zR_P _) ?_
    refine zO_callV (Y' := YX12_readClause) (cw := zcV F n sl) (as := []) (rest := []) (na := 0) (ci := 12) rfl dX12_reads_64 wC_X12_readClause wN_X12 wM_X12_237 wI_X12_readClause wV_X12_readClause (by decide) (by decide) rfl rfl (Nat.le_of_ble_eq_true rfl) rfl (by decide) (gk_91 hG) (fun r hr => zMet_cast (Nat.add_assoc d 0 87) (mX12_readClause (d := d + 0) hG  r hr)) ?_
    intro D_25 _
    show zO _ _ _ _ _ _ [] (F, D_25, n, sl) _ _
    refine zO_live [0, 1] ?_
    exact sX12_reads_67 hG v1 _ hk_34 D_25
set_option maxHeartbeats 20000000 in
theorem sX12_reads_34 {l : Launch} {E : zE} {d : Nat} {F : zFs} {n sl : Nat} (hG : zG F)     : ∀ (N : Nat) (v1 : Int) (D : zDa), zO l E (d + 88) YX12_reads 34 [(0, zR 91), (1, zI v1)] [] (F, D, n, sl) (zcI F n sl) (zfix (fun _ _ => none) (fX12_reads_34 F) N v1 D) := by
  intro N
  induction N with
  | zero => intro v1 D; exact zO_none
  | succ N hk_34 =>
    intro v1 D
    show zO _ _ _ _ _ _ _ _ _ ((fX12_reads_34 F) (zfix (fun _ _ => none) (fX12_reads_34 F) N) v1 D)
    unfold fX12_reads_34
    refine zO_aload_n dX12_reads_34 rfl (zR_P _) ?_
    refine zO_bipush dX12_reads_35 (by decide) ?_
    refine zO_callS (Y' := YX12_sign) (cw := zcI F n sl) (as := [zI 59]) (rest := [zR 91]) (na := 1) dX12_reads_37 wC_X12_sign wN_X12 wM_X12_221 wS_X12_sign (by decide) (by decide) rfl rfl (Nat.le_of_ble_eq_true rfl) (fun r hr => zMet_cast (Nat.add_assoc d 87 0) (mX12_sign (d := d + 87) hG 59 r hr)) ?_
    rintro ⟨r_9, D_10⟩ -
    show zO _ _ _ _ _ _ [zI r_9, zR 91] (F, D_10, n, sl) _ _
    refine zO_callV (Y' := YX12_takes0) (cw := zcI F n sl) (as := [zI r_9]) (rest := []) (na := 1) (ci := 12) rfl dX12_reads_40 wC_X12_takes0 wN_X12 wM_X12_196 wI_X12_takes0 wV_X12_takes0 (by decide) (by decide) rfl rfl (Nat.le_of_ble_eq_true rfl) rfl (by decide) (gk_91 hG) (fun r hr => zMet_cast (Nat.add_assoc d 86 1) (mX12_takes0 (d := d + 86) hG r_9 r hr)) ?_
    rintro ⟨r_11, D_12⟩ -
    show zO _ _ _ _ _ _ [zI r_11] (F, D_12, n, sl) _ _
    refine zO_if_eq (tgt := 73) dX12_reads_43 rfl (fun c43 => ?_) (fun c43 => ?_)
    · refine zO_aload_n dX12_reads_73 rfl (zR_P _) ?_
      refine zO_callV (Y' := YX12_fine) (cw := zcI F n sl) (as := []) (rest := []) (na := 0) (ci := 12) rfl dX12_reads_74 wC_X12_fine wN_X12 wM_X12_189 wI_X12_fine wV_X12_fine (by decide) (by decide) rfl rfl (Nat.le_of_ble_eq_true rfl) rfl (by decide) (gk_91 hG) (fun r hr => zMet_cast (Nat.add_assoc d 87 0) (mX12_fine (d := d + 87) hG  r hr)) ?_
      rintro ⟨r_13, D_14⟩ -
      show zO _ _ _ _ _ _ [zI r_13] (F, D_14, n, sl) _ _
      refine zO_if_eq (tgt := 95) dX12_reads_77 rfl (fun c77 => ?_) (fun c77 => ?_)
      · refine zO_live [0] ?_
        exact sX12_reads_95 hG D_14
      · refine zO_aload_n dX12_reads_80 rfl (zR_P _) ?_
        refine gt12 (k := 15) (v := zI (D_14 91 15)) dX12_reads_81 wF_X12_193 (by decide) (gk_91 hG) rfl ?_
        refine zO_aload_n dX12_reads_84 rfl (zR_P _) ?_
        refine gt12 (k := 14) (v := zI (D_14 91 14)) dX12_reads_85 wF_X12_173 (by decide) (gk_91 hG) rfl ?_
        refine zO_icmp_ge (tgt := 95) dX12_reads_88 rfl (fun c88 => ?_) (fun c88 => ?_)
        · refine zO_aload_n dX12_reads_91 rfl (zR_P _) ?_
          refine zO_callV (Y' := YX12_faults) (cw := zcV F n sl) (as := []) (rest := []) (na := 0) (ci := 12) rfl dX12_reads_92 wC_X12_faults wN_X12 wM_X12_199 wI_X12_faults wV_X12_faults (by decide) (by decide) rfl rfl (Nat.le_of_ble_eq_true rfl) rfl (by decide) (gk_91 hG) (fun r hr => zMet_cast (Nat.add_assoc d 86 1) (mX12_faults (d := d + 86) hG  r hr)) ?_
          intro D_19 _
          show zO _ _ _ _ _ _ [] (F, D_19, n, sl) _ _
          refine zO_live [0] ?_
          exact sX12_reads_95 hG D_19
        · refine zO_live [0] ?_
          exact sX12_reads_95 hG D_14
    · refine zO_iload_n dX12_reads_46 rfl ?_
      refine zO_bipush dX12_reads_47 (by decide) ?_
      refine zO_icmp_ne (tgt := 56) dX12_reads_49 rfl (fun c49 => ?_) (fun c49 => ?_)
      · refine zO_aload_n dX12_reads_52 rfl (zR_P _) ?_
        refine zO_callV (Y' := YX12_faults) (cw := zcV F n sl) (as := []) (rest := []) (na := 0) (ci := 12) rfl dX12_reads_53 wC_X12_faults wN_X12 wM_X12_199 wI_X12_faults wV_X12_faults (by decide) (by decide) rfl rfl (Nat.le_of_ble_eq_true rfl) rfl (by decide) (gk_91 hG) (fun r hr => zMet_cast (Nat.add_assoc d 86 1) (mX12_faults (d := d + 86) hG  r hr)) ?_
        intro D_21 _
        show zO _ _ _ _ _ _ [] (F, D_21, n, sl) _ _
        refine zO_live [0, 1] ?_
        exact sX12_reads_56 hG v1 _ hk_34 D_21
      · refine zO_live [0, 1] ?_
        exact sX12_reads_56 hG v1 _ hk_34 D_12
set_option maxHeartbeats 20000000 in
theorem mX12_reads {l : Launch} {E : zE} {d : Nat} {F : zFs} {n sl : Nat} (hG : zG F)  {D : zDa} : ∀ r, fX12_reads F   D = some r → zMet l E (d + 88) YX12_reads [zR 91] (F, D, n, sl) (zcI F n sl r) := by
  intro r hr
  refine zMet_of (plainFor_of_name (by decide)) (fun _ h => (nomatch h)) (Nat.le_of_ble_eq_true rfl) ?_
  have hz : zO l E (d + 88) YX12_reads 0 [(0, zR 91)] [] (F, D, n, sl) (zcI F n sl) (fX12_reads F   D) := by
    unfold fX12_reads
    refine zO_aload_n dX12_reads_0 rfl (zR_P _) ?_
    refine zO_aload_n dX12_reads_1 rfl (zR_P _) ?_
    refine gt12 (k := 9) (v := zI (D 91 9)) dX12_reads_2 wF_X12_170 (by decide) (gk_91 hG) rfl ?_
    refine zO_callV (Y' := YX12_splits) (cw := zcV F n sl) (as := [zI (D 91 9)]) (rest := []) (na := 1) (ci := 12) rfl dX12_reads_5 wC_X12_splits wN_X12 wM_X12_234 wI_X12_splits wV_X12_splits (by decide) (by decide) rfl rfl (Nat.le_of_ble_eq_true rfl) rfl (by decide) (gk_91 hG) (fun r hr => zMet_cast (Nat.add_assoc d 86 1) (mX12_splits (d := d + 86) hG (D 91 9) r hr)) ?_
    intro D_2 _
    show zO _ _ _ _ _ _ [] (F, D_2, n, sl) _ _
    refine zO_aload_n dX12_reads_8 rfl (zR_P _) ?_
    refine zO_iconst dX12_reads_9 (by decide) ?_
    refine ptI12 (k := 9) (z := 0) dX12_reads_10 wF_X12_170 (by decide) rfl (gk_91 hG) rfl ?_
    refine zO_letD (fun D_3 eD_3 => ?_)
    refine zO_aload_n dX12_reads_13 rfl (zR_P _) ?_
    refine zO_iconst dX12_reads_14 (by decide) ?_
    refine ptI12 (k := 15) (z := 0) dX12_reads_15 wF_X12_193 (by decide) rfl (gk_91 hG) rfl ?_
    refine zO_letD (fun D_4 eD_4 => ?_)
    refine zO_aload_n dX12_reads_18 rfl (zR_P _) ?_
    refine zO_iconst dX12_reads_19 (by decide) ?_
    refine ptI12 (k := 16) (z := 0) dX12_reads_20 wF_X12_202 (by decide) rfl (gk_91 hG) rfl ?_
    refine zO_letD (fun D_5 eD_5 => ?_)
    refine zO_aload_n dX12_reads_23 rfl (zR_P _) ?_
    refine zO_iconst dX12_reads_24 (by decide) ?_
    refine ptI12 (k := 17) (z := (-1)) dX12_reads_25 wF_X12_186 (by decide) rfl (gk_91 hG) rfl ?_
    refine zO_letD (fun D_6 eD_6 => ?_)
    refine zO_aload_n dX12_reads_28 rfl (zR_P _) ?_
    refine zO_callV (Y' := YX12_readClause) (cw := zcV F n sl) (as := []) (rest := []) (na := 0) (ci := 12) rfl dX12_reads_29 wC_X12_readClause wN_X12 wM_X12_237 wI_X12_readClause wV_X12_readClause (by decide) (by decide) rfl rfl (Nat.le_of_ble_eq_true rfl) rfl (by decide) (gk_91 hG) (fun r hr => zMet_cast (Nat.add_assoc d 0 87) (mX12_readClause (d := d + 0) hG  r hr)) ?_
    intro D_8 _
    show zO _ _ _ _ _ _ [] (F, D_8, n, sl) _ _
    refine zO_iconst dX12_reads_32 (by decide) ?_
    refine zO_istore_n dX12_reads_33 (by decide) ?_
    refine zO_ls (ls' := [(0, zR 91), (1, zI 1)]) rfl ?_
    refine zO_live [0, 1] ?_
    exact sX12_reads_34 hG zfu 1 D_8
  exact hz r hr
theorem dX12_paper_0 : decode cX12_paper 0 = .ok (.aload_n 0, 1) := by decide +kernel
theorem dX12_paper_1 : decode cX12_paper 1 = .ok (.getfield 20, 3) := by decide +kernel
theorem dX12_paper_4 : decode cX12_paper 4 = .ok (.sipush 393, 3) := by decide +kernel
theorem dX12_paper_7 : decode cX12_paper 7 = .ok (.iaload, 1) := by decide +kernel
theorem dX12_paper_8 : decode cX12_paper 8 = .ok (.bipush 6, 2) := by decide +kernel
theorem dX12_paper_10 : decode cX12_paper 10 = .ok (.if_icmp .ne 15, 3) := by decide +kernel
theorem dX12_paper_13 : decode cX12_paper 13 = .ok (.aload_n 0, 1) := by decide +kernel
theorem dX12_paper_14 : decode cX12_paper 14 = .ok (.iconst 0, 1) := by decide +kernel
theorem dX12_paper_15 : decode cX12_paper 15 = .ok (.putfield 170, 3) := by decide +kernel
theorem dX12_paper_18 : decode cX12_paper 18 = .ok (.aload_n 0, 1) := by decide +kernel
theorem dX12_paper_19 : decode cX12_paper 19 = .ok (.bipush (-5), 2) := by decide +kernel
theorem dX12_paper_21 : decode cX12_paper 21 = .ok (.invokevirtual 139, 3) := by decide +kernel
theorem dX12_paper_24 : decode cX12_paper 24 = .ok (.ireturn, 1) := by decide +kernel
theorem dX12_paper_25 : decode cX12_paper 25 = .ok (.aload_n 0, 1) := by decide +kernel
theorem dX12_paper_26 : decode cX12_paper 26 = .ok (.invokevirtual 240, 3) := by decide +kernel
theorem dX12_paper_29 : decode cX12_paper 29 = .ok (.ifCond .ne 10, 3) := by decide +kernel
theorem dX12_paper_32 : decode cX12_paper 32 = .ok (.aload_n 0, 1) := by decide +kernel
theorem dX12_paper_33 : decode cX12_paper 33 = .ok (.bipush (-6), 2) := by decide +kernel
theorem dX12_paper_35 : decode cX12_paper 35 = .ok (.invokevirtual 139, 3) := by decide +kernel
theorem dX12_paper_38 : decode cX12_paper 38 = .ok (.ireturn, 1) := by decide +kernel
theorem dX12_paper_39 : decode cX12_paper 39 = .ok (.aload_n 0, 1) := by decide +kernel
theorem dX12_paper_40 : decode cX12_paper 40 = .ok (.getfield 20, 3) := by decide +kernel
theorem dX12_paper_43 : decode cX12_paper 43 = .ok (.sipush 393, 3) := by decide +kernel
theorem dX12_paper_46 : decode cX12_paper 46 = .ok (.iaload, 1) := by decide +kernel
theorem dX12_paper_47 : decode cX12_paper 47 = .ok (.istore_n 1, 1) := by decide +kernel
theorem dX12_paper_48 : decode cX12_paper 48 = .ok (.aload_n 0, 1) := by decide +kernel
theorem dX12_paper_49 : decode cX12_paper 49 = .ok (.getfield 20, 3) := by decide +kernel
theorem dX12_paper_52 : decode cX12_paper 52 = .ok (.sipush 395, 3) := by decide +kernel
theorem dX12_paper_55 : decode cX12_paper 55 = .ok (.iload_n 1, 1) := by decide +kernel
theorem dX12_paper_56 : decode cX12_paper 56 = .ok (.iadd, 1) := by decide +kernel
theorem dX12_paper_57 : decode cX12_paper 57 = .ok (.aload_n 0, 1) := by decide +kernel
theorem dX12_paper_58 : decode cX12_paper 58 = .ok (.getfield 173, 3) := by decide +kernel
theorem dX12_paper_61 : decode cX12_paper 61 = .ok (.iastore, 1) := by decide +kernel
theorem dX12_paper_62 : decode cX12_paper 62 = .ok (.iconst 0, 1) := by decide +kernel
theorem dX12_paper_63 : decode cX12_paper 63 = .ok (.istore_n 2, 1) := by decide +kernel
theorem dX12_paper_64 : decode cX12_paper 64 = .ok (.iload_n 2, 1) := by decide +kernel
theorem dX12_paper_65 : decode cX12_paper 65 = .ok (.aload_n 0, 1) := by decide +kernel
theorem dX12_paper_66 : decode cX12_paper 66 = .ok (.getfield 173, 3) := by decide +kernel
theorem dX12_paper_69 : decode cX12_paper 69 = .ok (.if_icmp .ge 53, 3) := by decide +kernel
theorem dX12_paper_72 : decode cX12_paper 72 = .ok (.aload_n 0, 1) := by decide +kernel
theorem dX12_paper_73 : decode cX12_paper 73 = .ok (.getfield 20, 3) := by decide +kernel
theorem dX12_paper_76 : decode cX12_paper 76 = .ok (.sipush 401, 3) := by decide +kernel
theorem dX12_paper_79 : decode cX12_paper 79 = .ok (.sipush 400, 3) := by decide +kernel
theorem dX12_paper_82 : decode cX12_paper 82 = .ok (.iload_n 1, 1) := by decide +kernel
theorem dX12_paper_83 : decode cX12_paper 83 = .ok (.imul, 1) := by decide +kernel
theorem dX12_paper_84 : decode cX12_paper 84 = .ok (.iadd, 1) := by decide +kernel
theorem dX12_paper_85 : decode cX12_paper 85 = .ok (.iload_n 2, 1) := by decide +kernel
theorem dX12_paper_86 : decode cX12_paper 86 = .ok (.iadd, 1) := by decide +kernel
theorem dX12_paper_87 : decode cX12_paper 87 = .ok (.aload_n 0, 1) := by decide +kernel
theorem dX12_paper_88 : decode cX12_paper 88 = .ok (.getfield 43, 3) := by decide +kernel
theorem dX12_paper_91 : decode cX12_paper 91 = .ok (.iload_n 2, 1) := by decide +kernel
theorem dX12_paper_92 : decode cX12_paper 92 = .ok (.iaload, 1) := by decide +kernel
theorem dX12_paper_93 : decode cX12_paper 93 = .ok (.iastore, 1) := by decide +kernel
theorem dX12_paper_94 : decode cX12_paper 94 = .ok (.aload_n 0, 1) := by decide +kernel
theorem dX12_paper_95 : decode cX12_paper 95 = .ok (.getfield 20, 3) := by decide +kernel
theorem dX12_paper_98 : decode cX12_paper 98 = .ok (.sipush 2801, 3) := by decide +kernel
theorem dX12_paper_101 : decode cX12_paper 101 = .ok (.sipush 400, 3) := by decide +kernel
theorem dX12_paper_104 : decode cX12_paper 104 = .ok (.iload_n 1, 1) := by decide +kernel
theorem dX12_paper_105 : decode cX12_paper 105 = .ok (.imul, 1) := by decide +kernel
theorem dX12_paper_106 : decode cX12_paper 106 = .ok (.iadd, 1) := by decide +kernel
theorem dX12_paper_107 : decode cX12_paper 107 = .ok (.iload_n 2, 1) := by decide +kernel
theorem dX12_paper_108 : decode cX12_paper 108 = .ok (.iadd, 1) := by decide +kernel
theorem dX12_paper_109 : decode cX12_paper 109 = .ok (.aload_n 0, 1) := by decide +kernel
theorem dX12_paper_110 : decode cX12_paper 110 = .ok (.getfield 46, 3) := by decide +kernel
theorem dX12_paper_113 : decode cX12_paper 113 = .ok (.iload_n 2, 1) := by decide +kernel
theorem dX12_paper_114 : decode cX12_paper 114 = .ok (.iaload, 1) := by decide +kernel
theorem dX12_paper_115 : decode cX12_paper 115 = .ok (.iastore, 1) := by decide +kernel
theorem dX12_paper_116 : decode cX12_paper 116 = .ok (.iinc 2 1, 3) := by decide +kernel
theorem dX12_paper_119 : decode cX12_paper 119 = .ok (.goto (-55), 3) := by decide +kernel
theorem dX12_paper_122 : decode cX12_paper 122 = .ok (.aload_n 0, 1) := by decide +kernel
theorem dX12_paper_123 : decode cX12_paper 123 = .ok (.getfield 20, 3) := by decide +kernel
theorem dX12_paper_126 : decode cX12_paper 126 = .ok (.sipush 393, 3) := by decide +kernel
theorem dX12_paper_129 : decode cX12_paper 129 = .ok (.dup2, 1) := by decide +kernel
theorem dX12_paper_130 : decode cX12_paper 130 = .ok (.iaload, 1) := by decide +kernel
theorem dX12_paper_131 : decode cX12_paper 131 = .ok (.iconst 1, 1) := by decide +kernel
theorem dX12_paper_132 : decode cX12_paper 132 = .ok (.iadd, 1) := by decide +kernel
theorem dX12_paper_133 : decode cX12_paper 133 = .ok (.iastore, 1) := by decide +kernel
theorem dX12_paper_134 : decode cX12_paper 134 = .ok (.aload_n 0, 1) := by decide +kernel
theorem dX12_paper_135 : decode cX12_paper 135 = .ok (.iload_n 1, 1) := by decide +kernel
theorem dX12_paper_136 : decode cX12_paper 136 = .ok (.invokevirtual 143, 3) := by decide +kernel
theorem dX12_paper_139 : decode cX12_paper 139 = .ok (.ireturn, 1) := by decide +kernel
abbrev YX12_paper : zY := (yX12_paper, cX12_paper, 3, (Option.some Jvm.ClassFile.FieldType.int), [])
def fX12_paper_64 (F : zFs) (o1 : Int)  (k_64 : Int → zDa → Option (Int × zDa)) (v2 : Int) (D : zDa) : Option (Int × zDa) :=
  if v2 < (D 91 14) then
    if (-2147483648 ≤ 400 * o1 ∧ 400 * o1 ≤ 2147483647) ∧ (-2147483648 ≤ 401 + (400 * o1) ∧ 401 + (400 * o1) ≤ 2147483647) ∧ (-2147483648 ≤ (401 + (400 * o1)) + v2 ∧ (401 + (400 * o1)) + v2 ≤ 2147483647) ∧ (0 ≤ v2 ∧ v2 < 401) ∧ (0 ≤ ((401 + (400 * o1)) + v2) ∧ ((401 + (400 * o1)) + v2) < 5201) then
      zlet (zwr D 93 ((401 + (400 * o1)) + v2).toNat (D 99 v2.toNat)) (fun D_10 =>
        if (-2147483648 ≤ 2801 + (400 * o1) ∧ 2801 + (400 * o1) ≤ 2147483647) ∧ (-2147483648 ≤ (2801 + (400 * o1)) + v2 ∧ (2801 + (400 * o1)) + v2 ≤ 2147483647) ∧ (0 ≤ ((2801 + (400 * o1)) + v2) ∧ ((2801 + (400 * o1)) + v2) < 5201) then
          zlet (zwr D_10 93 ((2801 + (400 * o1)) + v2).toNat (D_10 100 v2.toNat)) (fun D_11 =>
            if (-2147483648 ≤ v2 + 1 ∧ v2 + 1 ≤ 2147483647) then
              k_64 (v2 + 1) D_11
            else none)
        else none)
    else none
  else
    if (-2147483648 ≤ (D 93 393) + 1 ∧ (D 93 393) + 1 ≤ 2147483647) then
      zlet (zwr D 93 393 ((D 93 393) + 1)) (fun D_12 =>
        (fX12_good F o1 D_12).bind (fun (r_13, D_14) =>
          some (r_13, D_14)))
    else none
def fX12_paper (F : zFs)  (D : zDa) : Option (Int × zDa) :=
  if (D 93 393) = 6 then
    zlet (zwr D 91 9 0) (fun D_1 =>
      (fX12_refuses F (-5) D_1).bind (fun (r_2, D_3) =>
        some (r_2, D_3)))
  else
    (fX12_reads F D).bind (fun (r_4, D_5) =>
      if r_4 = 0 then
        (fX12_refuses F (-6) D_5).bind (fun (r_6, D_7) =>
          some (r_6, D_7))
      else
        zlet ((D_5 93 393)) (fun x1_8 =>
          if (-2147483648 ≤ 395 + x1_8 ∧ 395 + x1_8 ≤ 2147483647) ∧ (0 ≤ (395 + x1_8) ∧ (395 + x1_8) < 5201) then
            zlet (zwr D_5 93 (395 + x1_8).toNat (D_5 91 14)) (fun D_9 =>
              zfix (fun _ _ => none) (fX12_paper_64 F x1_8) zfu 0 D_9)
          else none))
set_option maxHeartbeats 20000000 in
theorem sX12_paper_64 {l : Launch} {E : zE} {d : Nat} {F : zFs} {n sl : Nat} (hG : zG F)  (o1 : Int)   : ∀ (N : Nat) (v2 : Int) (D : zDa), zO l E (d + 89) YX12_paper 64 [(0, zR 91), (1, zI o1), (2, zI v2)] [] (F, D, n, sl) (zcI F n sl) (zfix (fun _ _ => none) (fX12_paper_64 F o1) N v2 D) := by
  intro N
  induction N with
  | zero => intro v2 D; exact zO_none
  | succ N hk_64 =>
    intro v2 D
    show zO _ _ _ _ _ _ _ _ _ ((fX12_paper_64 F o1) (zfix (fun _ _ => none) (fX12_paper_64 F o1) N) v2 D)
    unfold fX12_paper_64
    refine zO_iload_n dX12_paper_64 rfl ?_
    refine zO_aload_n dX12_paper_65 rfl (zR_P _) ?_
    refine gt12 (k := 14) (v := zI (D 91 14)) dX12_paper_66 wF_X12_173 (by decide) (gk_91 hG) rfl ?_
    refine zO_icmp_ge (tgt := 122) dX12_paper_69 rfl (fun c69 => ?_) (fun c69 => ?_)
    · refine zO_chk (fun h2 => ?_)
      refine zO_aload_n dX12_paper_72 rfl (zR_P _) ?_
      refine gt12 (k := 3) dX12_paper_73 wF_X12_20 (by decide) (gk_91 hG) (zgv (c := 12) (k := 3) rfl (Or.inl ⟨_, rfl⟩) (gf_91_3 hG)) ?_
      refine zO_sipush dX12_paper_76 (by decide) ?_
      refine zO_sipush dX12_paper_79 (by decide) ?_
      refine zO_iload_n dX12_paper_82 rfl ?_
      refine zO_imul dX12_paper_83 h2.1 ?_
      refine zO_iadd dX12_paper_84 h2.2.1 ?_
      refine zO_iload_n dX12_paper_85 rfl ?_
      refine zO_iadd dX12_paper_86 h2.2.2.1 ?_
      refine zO_aload_n dX12_paper_87 rfl (zR_P _) ?_
      refine gt12 (k := 11) dX12_paper_88 wF_X12_43 (by decide) (gk_91 hG) (zgv (c := 12) (k := 11) rfl (Or.inl ⟨_, rfl⟩) (gf_91_11 hG)) ?_
      refine zO_iload_n dX12_paper_91 rfl ?_
      refine zO_iald dX12_paper_92 (gk_99 hG) (gl_in (gl_99 hG) h2.2.2.2.1) ?_
      refine zO_iast dX12_paper_93 (gk_93 hG) (gl_in (gl_93 hG) h2.2.2.2.2) ?_
      refine zO_letD (fun D_10 eD_10 => ?_)
      refine zO_chk (fun h3 => ?_)
      refine zO_aload_n dX12_paper_94 rfl (zR_P _) ?_
      refine gt12 (k := 3) dX12_paper_95 wF_X12_20 (by decide) (gk_91 hG) (zgv (c := 12) (k := 3) rfl (Or.inl ⟨_, rfl⟩) (gf_91_3 hG)) ?_
      refine zO_sipush dX12_paper_98 (by decide) ?_
      refine zO_sipush dX12_paper_101 (by decide) ?_
      refine zO_iload_n dX12_paper_104 rfl ?_
      refine zO_imul dX12_paper_105 h2.1 ?_
      refine zO_iadd dX12_paper_106 h3.1 ?_
      refine zO_iload_n dX12_paper_107 rfl ?_
      refine zO_iadd dX12_paper_108 h3.2.1 ?_
      refine zO_aload_n dX12_paper_109 rfl (zR_P _) ?_
      refine gt12 (k := 12) dX12_paper_110 wF_X12_46 (by decide) (gk_91 hG) (zgv (c := 12) (k := 12) rfl (Or.inl ⟨_, rfl⟩) (gf_91_12 hG)) ?_
      refine zO_iload_n dX12_paper_113 rfl ?_
      refine zO_iald dX12_paper_114 (gk_100 hG) (gl_in (gl_100 hG) h2.2.2.2.1) ?_
      refine zO_iast dX12_paper_115 (gk_93 hG) (gl_in (gl_93 hG) h3.2.2) ?_
      refine zO_letD (fun D_11 eD_11 => ?_)
      refine zO_chk (fun h4 => ?_)
      refine zO_iinc dX12_paper_116 rfl h4 (by decide) ?_
      refine zO_ls (ls' := [(0, zR 91), (1, zI o1), (2, zI (v2 + 1))]) rfl ?_
      refine zO_goto (tgt := 64) dX12_paper_119 rfl ?_
      refine zO_live [0, 1, 2] ?_
      exact hk_64 (v2 + 1) D_11
    · refine zO_chk (fun h5 => ?_)
      refine zO_aload_n dX12_paper_122 rfl (zR_P _) ?_
      refine gt12 (k := 3) dX12_paper_123 wF_X12_20 (by decide) (gk_91 hG) (zgv (c := 12) (k := 3) rfl (Or.inl ⟨_, rfl⟩) (gf_91_3 hG)) ?_
      refine zO_sipush dX12_paper_126 (by decide) ?_
      refine zO_dup2a dX12_paper_129 (rfl) (rfl) ?_
      refine zO_iald dX12_paper_130 (gk_93 hG) (gl_in (gl_93 hG) (by decide)) ?_
      refine zO_iconst dX12_paper_131 (by decide) ?_
      refine zO_iadd dX12_paper_132 h5 ?_
      refine zO_iast dX12_paper_133 (gk_93 hG) (gl_in (gl_93 hG) (by decide)) ?_
      refine zO_letD (fun D_12 eD_12 => ?_)
      refine zO_aload_n dX12_paper_134 rfl (zR_P _) ?_
      refine zO_iload_n dX12_paper_135 rfl ?_
      refine zO_callV (Y' := YX12_good) (cw := zcI F n sl) (as := [zI o1]) (rest := []) (na := 1) (ci := 12) rfl dX12_paper_136 wC_X12_good wN_X12 wM_X12_143 wI_X12_good wV_X12_good (by decide) (by decide) rfl rfl (Nat.le_of_ble_eq_true rfl) rfl (by decide) (gk_91 hG) (fun r hr => zMet_cast (Nat.add_assoc d 88 0) (mX12_good (d := d + 88) hG o1 r hr)) ?_
      rintro ⟨r_13, D_14⟩ -
      show zO _ _ _ _ _ _ [zI r_13] (F, D_14, n, sl) _ _
      exact zO_ret (rv := some (zI r_13)) dX12_paper_139 rfl rfl rfl
set_option maxHeartbeats 20000000 in
theorem mX12_paper {l : Launch} {E : zE} {d : Nat} {F : zFs} {n sl : Nat} (hG : zG F)  {D : zDa} : ∀ r, fX12_paper F   D = some r → zMet l E (d + 89) YX12_paper [zR 91] (F, D, n, sl) (zcI F n sl r) := by
  intro r hr
  refine zMet_of (plainFor_of_name (by decide)) (fun _ h => (nomatch h)) (Nat.le_of_ble_eq_true rfl) ?_
  have hz : zO l E (d + 89) YX12_paper 0 [(0, zR 91)] [] (F, D, n, sl) (zcI F n sl) (fX12_paper F   D) := by
    unfold fX12_paper
    refine zO_aload_n dX12_paper_0 rfl (zR_P _) ?_
    refine gt12 (k := 3) dX12_paper_1 wF_X12_20 (by decide) (gk_91 hG) (zgv (c := 12) (k := 3) rfl (Or.inl ⟨_, rfl⟩) (gf_91_3 hG)) ?_
    refine zO_sipush dX12_paper_4 (by decide) ?_
    refine zO_iald dX12_paper_7 (gk_93 hG) (gl_in (gl_93 hG) (by decide)) ?_
    refine zO_bipush dX12_paper_8 (by decide) ?_
    refine zO_icmp_ne (tgt := 25) dX12_paper_10 rfl (fun c10 => ?_) (fun c10 => ?_)
    · refine zO_aload_n dX12_paper_13 rfl (zR_P _) ?_
      refine zO_iconst dX12_paper_14 (by decide) ?_
      refine ptI12 (k := 9) (z := 0) dX12_paper_15 wF_X12_170 (by decide) rfl (gk_91 hG) rfl ?_
      refine zO_letD (fun D_1 eD_1 => ?_)
      refine zO_aload_n dX12_paper_18 rfl (zR_P _) ?_
      refine zO_bipush dX12_paper_19 (by decide) ?_
      refine zO_callV (Y' := YX12_refuses) (cw := zcI F n sl) (as := [zI (-5)]) (rest := []) (na := 1) (ci := 12) rfl dX12_paper_21 wC_X12_refuses wN_X12 wM_X12_139 wI_X12_refuses wV_X12_refuses (by decide) (by decide) rfl rfl (Nat.le_of_ble_eq_true rfl) rfl (by decide) (gk_91 hG) (fun r hr => zMet_cast (Nat.add_assoc d 88 0) (mX12_refuses (d := d + 88) hG (-5) r hr)) ?_
      rintro ⟨r_2, D_3⟩ -
      show zO _ _ _ _ _ _ [zI r_2] (F, D_3, n, sl) _ _
      exact zO_ret (rv := some (zI r_2)) dX12_paper_24 rfl rfl rfl
    · refine zO_aload_n dX12_paper_25 rfl (zR_P _) ?_
      refine zO_callV (Y' := YX12_reads) (cw := zcI F n sl) (as := []) (rest := []) (na := 0) (ci := 12) rfl dX12_paper_26 wC_X12_reads wN_X12 wM_X12_240 wI_X12_reads wV_X12_reads (by decide) (by decide) rfl rfl (Nat.le_of_ble_eq_true rfl) rfl (by decide) (gk_91 hG) (fun r hr => zMet_cast (Nat.add_assoc d 0 88) (mX12_reads (d := d + 0) hG  r hr)) ?_
      rintro ⟨r_4, D_5⟩ -
      show zO _ _ _ _ _ _ [zI r_4] (F, D_5, n, sl) _ _
      refine zO_if_ne (tgt := 39) dX12_paper_29 rfl (fun c29 => ?_) (fun c29 => ?_)
      · refine zO_aload_n dX12_paper_32 rfl (zR_P _) ?_
        refine zO_bipush dX12_paper_33 (by decide) ?_
        refine zO_callV (Y' := YX12_refuses) (cw := zcI F n sl) (as := [zI (-6)]) (rest := []) (na := 1) (ci := 12) rfl dX12_paper_35 wC_X12_refuses wN_X12 wM_X12_139 wI_X12_refuses wV_X12_refuses (by decide) (by decide) rfl rfl (Nat.le_of_ble_eq_true rfl) rfl (by decide) (gk_91 hG) (fun r hr => zMet_cast (Nat.add_assoc d 88 0) (mX12_refuses (d := d + 88) hG (-6) r hr)) ?_
        rintro ⟨r_6, D_7⟩ -
        show zO _ _ _ _ _ _ [zI r_6] (F, D_7, n, sl) _ _
        exact zO_ret (rv := some (zI r_6)) dX12_paper_38 rfl rfl rfl
      · refine zO_aload_n dX12_paper_39 rfl (zR_P _) ?_
        refine gt12 (k := 3) dX12_paper_40 wF_X12_20 (by decide) (gk_91 hG) (zgv (c := 12) (k := 3) rfl (Or.inl ⟨_, rfl⟩) (gf_91_3 hG)) ?_
        refine zO_sipush dX12_paper_43 (by decide) ?_
        refine zO_iald dX12_paper_46 (gk_93 hG) (gl_in (gl_93 hG) (by decide)) ?_
        refine zO_letI (fun x1_8 ex1_8 => ?_)
        refine zO_istore_n dX12_paper_47 (by decide) ?_
        refine zO_ls (ls' := [(0, zR 91), (1, zI x1_8)]) rfl ?_
        refine zO_chk (fun h1 => ?_)
        refine zO_aload_n dX12_paper_48 rfl (zR_P _) ?_
        refine gt12 (k := 3) dX12_paper_49 wF_X12_20 (by decide) (gk_91 hG) (zgv (c := 12) (k := 3) rfl (Or.inl ⟨_, rfl⟩) (gf_91_3 hG)) ?_
        refine zO_sipush dX12_paper_52 (by decide) ?_
        refine zO_iload_n dX12_paper_55 rfl ?_
        refine zO_iadd dX12_paper_56 h1.1 ?_
        refine zO_aload_n dX12_paper_57 rfl (zR_P _) ?_
        refine gt12 (k := 14) (v := zI (D_5 91 14)) dX12_paper_58 wF_X12_173 (by decide) (gk_91 hG) rfl ?_
        refine zO_iast dX12_paper_61 (gk_93 hG) (gl_in (gl_93 hG) h1.2) ?_
        refine zO_letD (fun D_9 eD_9 => ?_)
        refine zO_iconst dX12_paper_62 (by decide) ?_
        refine zO_istore_n dX12_paper_63 (by decide) ?_
        refine zO_ls (ls' := [(0, zR 91), (1, zI x1_8), (2, zI 0)]) rfl ?_
        refine zO_live [0, 1, 2] ?_
        exact sX12_paper_64 hG x1_8 zfu 0 D_9
  exact hz r hr
theorem dX12_fault_0 : decode cX12_fault 0 = .ok (.aload_n 0, 1) := by decide +kernel
theorem dX12_fault_1 : decode cX12_fault 1 = .ok (.getfield 40, 3) := by decide +kernel
theorem dX12_fault_4 : decode cX12_fault 4 = .ok (.ireturn, 1) := by decide +kernel
abbrev YX12_fault : zY := (yX12_fault, cX12_fault, 1, (Option.some Jvm.ClassFile.FieldType.int), [])
def fX12_fault (F : zFs)  (D : zDa) : Option (Int × zDa) :=
  some ((D 91 10), D)
set_option maxHeartbeats 20000000 in
theorem mX12_fault {l : Launch} {E : zE} {d : Nat} {F : zFs} {n sl : Nat} (hG : zG F)  {D : zDa} : ∀ r, fX12_fault F   D = some r → zMet l E (d + 0) YX12_fault [zR 91] (F, D, n, sl) (zcI F n sl r) := by
  intro r hr
  refine zMet_of (plainFor_of_name (by decide)) (fun _ h => (nomatch h)) (Nat.le_of_ble_eq_true rfl) ?_
  have hz : zO l E (d + 0) YX12_fault 0 [(0, zR 91)] [] (F, D, n, sl) (zcI F n sl) (fX12_fault F   D) := by
    unfold fX12_fault
    refine zO_aload_n dX12_fault_0 rfl (zR_P _) ?_
    refine gt12 (k := 10) (v := zI (D 91 10)) dX12_fault_1 wF_X12_40 (by decide) (gk_91 hG) rfl ?_
    exact zO_ret (rv := some (zI (D 91 10))) dX12_fault_4 rfl rfl rfl
  exact hz r hr
theorem dX12_use_0 : decode cX12_use 0 = .ok (.iload_n 1, 1) := by decide +kernel
theorem dX12_use_1 : decode cX12_use 1 = .ok (.iconst (-1), 1) := by decide +kernel
theorem dX12_use_2 : decode cX12_use 2 = .ok (.if_icmp .eq 28, 3) := by decide +kernel
theorem dX12_use_5 : decode cX12_use 5 = .ok (.iload_n 1, 1) := by decide +kernel
theorem dX12_use_6 : decode cX12_use 6 = .ok (.iconst 0, 1) := by decide +kernel
theorem dX12_use_7 : decode cX12_use 7 = .ok (.aload_n 0, 1) := by decide +kernel
theorem dX12_use_8 : decode cX12_use 8 = .ok (.getfield 20, 3) := by decide +kernel
theorem dX12_use_11 : decode cX12_use 11 = .ok (.sipush 393, 3) := by decide +kernel
theorem dX12_use_14 : decode cX12_use 14 = .ok (.iaload, 1) := by decide +kernel
theorem dX12_use_15 : decode cX12_use 15 = .ok (.iconst 1, 1) := by decide +kernel
theorem dX12_use_16 : decode cX12_use 16 = .ok (.isub, 1) := by decide +kernel
theorem dX12_use_17 : decode cX12_use 17 = .ok (.invokestatic 135, 3) := by decide +kernel
theorem dX12_use_20 : decode cX12_use 20 = .ok (.ifCond .ne 10, 3) := by decide +kernel
theorem dX12_use_23 : decode cX12_use 23 = .ok (.aload_n 0, 1) := by decide +kernel
theorem dX12_use_24 : decode cX12_use 24 = .ok (.bipush (-2), 2) := by decide +kernel
theorem dX12_use_26 : decode cX12_use 26 = .ok (.invokevirtual 139, 3) := by decide +kernel
theorem dX12_use_29 : decode cX12_use 29 = .ok (.ireturn, 1) := by decide +kernel
theorem dX12_use_30 : decode cX12_use 30 = .ok (.aload_n 0, 1) := by decide +kernel
theorem dX12_use_31 : decode cX12_use 31 = .ok (.sipush 394, 3) := by decide +kernel
theorem dX12_use_34 : decode cX12_use 34 = .ok (.iload_n 1, 1) := by decide +kernel
theorem dX12_use_35 : decode cX12_use 35 = .ok (.invokevirtual 161, 3) := by decide +kernel
theorem dX12_use_38 : decode cX12_use 38 = .ok (.ireturn, 1) := by decide +kernel
abbrev YX12_use : zY := (yX12_use, cX12_use, 2, (Option.some Jvm.ClassFile.FieldType.int), [])
def fX12_use_30 (F : zFs)  (v1 : Int) (D : zDa) : Option (Int × zDa) :=
  (fX12_replaces F 394 v1 D).bind (fun (r_1, D_2) =>
    some (r_1, D_2))
def fX12_use (F : zFs) (v1 : Int) (D : zDa) : Option (Int × zDa) :=
  if v1 = (-1) then
    fX12_use_30 F v1 D
  else
    if (-2147483648 ≤ (D 93 393) - 1 ∧ (D 93 393) - 1 ≤ 2147483647) then
      (fX12_lies F v1 0 ((D 93 393) - 1) D).bind (fun (r_3, D_4) =>
        if r_3 = 0 then
          (fX12_refuses F (-2) D_4).bind (fun (r_5, D_6) =>
            some (r_5, D_6))
        else
          fX12_use_30 F v1 D_4)
    else none
set_option maxHeartbeats 20000000 in
theorem sX12_use_30 {l : Launch} {E : zE} {d : Nat} {F : zFs} {n sl : Nat} (hG : zG F)  (v1 : Int)   (D : zDa) : zO l E (d + 2) YX12_use 30 [(0, zR 91), (1, zI v1)] [] (F, D, n, sl) (zcI F n sl) (fX12_use_30 F v1 D) := by
  unfold fX12_use_30
  refine zO_aload_n dX12_use_30 rfl (zR_P _) ?_
  refine zO_sipush dX12_use_31 (by decide) ?_
  refine zO_iload_n dX12_use_34 rfl ?_
  refine zO_callV (Y' := YX12_replaces) (cw := zcI F n sl) (as := [zI 394, zI v1]) (rest := []) (na := 2) (ci := 12) rfl dX12_use_35 wC_X12_replaces wN_X12 wM_X12_161 wI_X12_replaces wV_X12_replaces (by decide) (by decide) rfl rfl (Nat.le_of_ble_eq_true rfl) rfl (by decide) (gk_91 hG) (fun r hr => zMet_cast (Nat.add_assoc d 0 1) (mX12_replaces (d := d + 0) hG 394 v1 r hr)) ?_
  rintro ⟨r_1, D_2⟩ -
  show zO _ _ _ _ _ _ [zI r_1] (F, D_2, n, sl) _ _
  exact zO_ret (rv := some (zI r_1)) dX12_use_38 rfl rfl rfl
set_option maxHeartbeats 20000000 in
theorem mX12_use {l : Launch} {E : zE} {d : Nat} {F : zFs} {n sl : Nat} (hG : zG F) (v1 : Int) {D : zDa} : ∀ r, fX12_use F  v1 D = some r → zMet l E (d + 2) YX12_use [zR 91, zI v1] (F, D, n, sl) (zcI F n sl r) := by
  intro r hr
  refine zMet_of (plainFor_of_name (by decide)) (fun _ h => (nomatch h)) (Nat.le_of_ble_eq_true rfl) ?_
  have hz : zO l E (d + 2) YX12_use 0 [(0, zR 91), (1, zI v1)] [] (F, D, n, sl) (zcI F n sl) (fX12_use F  v1 D) := by
    unfold fX12_use
    refine zO_iload_n dX12_use_0 rfl ?_
    refine zO_iconst dX12_use_1 (by decide) ?_
    refine zO_icmp_eq (tgt := 30) dX12_use_2 rfl (fun c2 => ?_) (fun c2 => ?_)
    · refine zO_live [0, 1] ?_
      exact sX12_use_30 hG v1 D
    · refine zO_chk (fun h1 => ?_)
      refine zO_iload_n dX12_use_5 rfl ?_
      refine zO_iconst dX12_use_6 (by decide) ?_
      refine zO_aload_n dX12_use_7 rfl (zR_P _) ?_
      refine gt12 (k := 3) dX12_use_8 wF_X12_20 (by decide) (gk_91 hG) (zgv (c := 12) (k := 3) rfl (Or.inl ⟨_, rfl⟩) (gf_91_3 hG)) ?_
      refine zO_sipush dX12_use_11 (by decide) ?_
      refine zO_iald dX12_use_14 (gk_93 hG) (gl_in (gl_93 hG) (by decide)) ?_
      refine zO_iconst dX12_use_15 (by decide) ?_
      refine zO_isub dX12_use_16 h1 ?_
      refine zO_callS (Y' := YX12_lies) (cw := zcI F n sl) (as := [zI v1, zI 0, zI ((D 93 393) - 1)]) (rest := []) (na := 3) dX12_use_17 wC_X12_lies wN_X12 wM_X12_135 wS_X12_lies (by decide) (by decide) rfl rfl (Nat.le_of_ble_eq_true rfl) (fun r hr => zMet_cast (Nat.add_assoc d 1 0) (mX12_lies (d := d + 1) hG v1 0 ((D 93 393) - 1) r hr)) ?_
      rintro ⟨r_3, D_4⟩ -
      show zO _ _ _ _ _ _ [zI r_3] (F, D_4, n, sl) _ _
      refine zO_if_ne (tgt := 30) dX12_use_20 rfl (fun c20 => ?_) (fun c20 => ?_)
      · refine zO_aload_n dX12_use_23 rfl (zR_P _) ?_
        refine zO_bipush dX12_use_24 (by decide) ?_
        refine zO_callV (Y' := YX12_refuses) (cw := zcI F n sl) (as := [zI (-2)]) (rest := []) (na := 1) (ci := 12) rfl dX12_use_26 wC_X12_refuses wN_X12 wM_X12_139 wI_X12_refuses wV_X12_refuses (by decide) (by decide) rfl rfl (Nat.le_of_ble_eq_true rfl) rfl (by decide) (gk_91 hG) (fun r hr => zMet_cast (Nat.add_assoc d 1 0) (mX12_refuses (d := d + 1) hG (-2) r hr)) ?_
        rintro ⟨r_5, D_6⟩ -
        show zO _ _ _ _ _ _ [zI r_5] (F, D_6, n, sl) _ _
        exact zO_ret (rv := some (zI r_5)) dX12_use_29 rfl rfl rfl
      · refine zO_live [0, 1] ?_
        exact sX12_use_30 hG v1 D_4
  exact hz r hr
theorem dX12_codeAt_0 : decode cX12_codeAt 0 = .ok (.iload_n 1, 1) := by decide +kernel
theorem dX12_codeAt_1 : decode cX12_codeAt 1 = .ok (.aload_n 0, 1) := by decide +kernel
theorem dX12_codeAt_2 : decode cX12_codeAt 2 = .ok (.getfield 243, 3) := by decide +kernel
theorem dX12_codeAt_5 : decode cX12_codeAt 5 = .ok (.if_icmp .ge 16, 3) := by decide +kernel
theorem dX12_codeAt_8 : decode cX12_codeAt 8 = .ok (.aload_n 0, 1) := by decide +kernel
theorem dX12_codeAt_9 : decode cX12_codeAt 9 = .ok (.getfield 20, 3) := by decide +kernel
theorem dX12_codeAt_12 : decode cX12_codeAt 12 = .ok (.sipush 401, 3) := by decide +kernel
theorem dX12_codeAt_15 : decode cX12_codeAt 15 = .ok (.iload_n 1, 1) := by decide +kernel
theorem dX12_codeAt_16 : decode cX12_codeAt 16 = .ok (.iadd, 1) := by decide +kernel
theorem dX12_codeAt_17 : decode cX12_codeAt 17 = .ok (.iaload, 1) := by decide +kernel
theorem dX12_codeAt_18 : decode cX12_codeAt 18 = .ok (.goto 4, 3) := by decide +kernel
theorem dX12_codeAt_21 : decode cX12_codeAt 21 = .ok (.iconst 0, 1) := by decide +kernel
theorem dX12_codeAt_22 : decode cX12_codeAt 22 = .ok (.ireturn, 1) := by decide +kernel
abbrev YX12_codeAt : zY := (yX12_codeAt, cX12_codeAt, 2, (Option.some Jvm.ClassFile.FieldType.int), [])
def fX12_codeAt (F : zFs) (v1 : Int) (D : zDa) : Option (Int × zDa) :=
  if v1 < (D 91 19) then
    if (-2147483648 ≤ 401 + v1 ∧ 401 + v1 ≤ 2147483647) ∧ (0 ≤ (401 + v1) ∧ (401 + v1) < 5201) then
      some ((D 93 (401 + v1).toNat), D)
    else none
  else
    some (0, D)
set_option maxHeartbeats 20000000 in
theorem mX12_codeAt {l : Launch} {E : zE} {d : Nat} {F : zFs} {n sl : Nat} (hG : zG F) (v1 : Int) {D : zDa} : ∀ r, fX12_codeAt F  v1 D = some r → zMet l E (d + 0) YX12_codeAt [zR 91, zI v1] (F, D, n, sl) (zcI F n sl r) := by
  intro r hr
  refine zMet_of (plainFor_of_name (by decide)) (fun _ h => (nomatch h)) (Nat.le_of_ble_eq_true rfl) ?_
  have hz : zO l E (d + 0) YX12_codeAt 0 [(0, zR 91), (1, zI v1)] [] (F, D, n, sl) (zcI F n sl) (fX12_codeAt F  v1 D) := by
    unfold fX12_codeAt
    refine zO_iload_n dX12_codeAt_0 rfl ?_
    refine zO_aload_n dX12_codeAt_1 rfl (zR_P _) ?_
    refine gt12 (k := 19) (v := zI (D 91 19)) dX12_codeAt_2 wF_X12_243 (by decide) (gk_91 hG) rfl ?_
    refine zO_icmp_ge (tgt := 21) dX12_codeAt_5 rfl (fun c5 => ?_) (fun c5 => ?_)
    · refine zO_chk (fun h1 => ?_)
      refine zO_aload_n dX12_codeAt_8 rfl (zR_P _) ?_
      refine gt12 (k := 3) dX12_codeAt_9 wF_X12_20 (by decide) (gk_91 hG) (zgv (c := 12) (k := 3) rfl (Or.inl ⟨_, rfl⟩) (gf_91_3 hG)) ?_
      refine zO_sipush dX12_codeAt_12 (by decide) ?_
      refine zO_iload_n dX12_codeAt_15 rfl ?_
      refine zO_iadd dX12_codeAt_16 h1.1 ?_
      refine zO_iald dX12_codeAt_17 (gk_93 hG) (gl_in (gl_93 hG) h1.2) ?_
      refine zO_goto (tgt := 22) dX12_codeAt_18 rfl ?_
      exact zO_ret (rv := some (zI (D 93 (401 + v1).toNat))) dX12_codeAt_22 rfl rfl rfl
    · refine zO_iconst dX12_codeAt_21 (by decide) ?_
      exact zO_ret (rv := some (zI 0)) dX12_codeAt_22 rfl rfl rfl
  exact hz r hr
theorem dX12_passes0_0 : decode cX12_passes0 0 = .ok (.aload_n 0, 1) := by decide +kernel
theorem dX12_passes0_1 : decode cX12_passes0 1 = .ok (.aload_n 0, 1) := by decide +kernel
theorem dX12_passes0_2 : decode cX12_passes0 2 = .ok (.getfield 246, 3) := by decide +kernel
theorem dX12_passes0_5 : decode cX12_passes0 5 = .ok (.invokevirtual 249, 3) := by decide +kernel
theorem dX12_passes0_8 : decode cX12_passes0 8 = .ok (.iload_n 1, 1) := by decide +kernel
theorem dX12_passes0_9 : decode cX12_passes0 9 = .ok (.if_icmp .ne 7, 3) := by decide +kernel
theorem dX12_passes0_12 : decode cX12_passes0 12 = .ok (.iconst 1, 1) := by decide +kernel
theorem dX12_passes0_13 : decode cX12_passes0 13 = .ok (.goto 4, 3) := by decide +kernel
theorem dX12_passes0_16 : decode cX12_passes0 16 = .ok (.iconst 0, 1) := by decide +kernel
theorem dX12_passes0_17 : decode cX12_passes0 17 = .ok (.istore_n 2, 1) := by decide +kernel
theorem dX12_passes0_18 : decode cX12_passes0 18 = .ok (.iload_n 2, 1) := by decide +kernel
theorem dX12_passes0_19 : decode cX12_passes0 19 = .ok (.ifCond .eq 13, 3) := by decide +kernel
theorem dX12_passes0_22 : decode cX12_passes0 22 = .ok (.aload_n 0, 1) := by decide +kernel
theorem dX12_passes0_23 : decode cX12_passes0 23 = .ok (.dup, 1) := by decide +kernel
theorem dX12_passes0_24 : decode cX12_passes0 24 = .ok (.getfield 246, 3) := by decide +kernel
theorem dX12_passes0_27 : decode cX12_passes0 27 = .ok (.iconst 1, 1) := by decide +kernel
theorem dX12_passes0_28 : decode cX12_passes0 28 = .ok (.iadd, 1) := by decide +kernel
theorem dX12_passes0_29 : decode cX12_passes0 29 = .ok (.putfield 246, 3) := by decide +kernel
theorem dX12_passes0_32 : decode cX12_passes0 32 = .ok (.iload_n 2, 1) := by decide +kernel
theorem dX12_passes0_33 : decode cX12_passes0 33 = .ok (.ireturn, 1) := by decide +kernel
abbrev YX12_passes0 : zY := (yX12_passes0, cX12_passes0, 3, (Option.some Jvm.ClassFile.FieldType.boolean), [])
def fX12_passes0_17 (F : zFs)  (s0 : Int) (D : zDa) : Option (Int × zDa) :=
  if s0 = 0 then
    if (s0 = 0 ∨ s0 = 1) then
      some (s0, D)
    else none
  else
    if (-2147483648 ≤ (D 91 18) + 1 ∧ (D 91 18) + 1 ≤ 2147483647) then
      zlet (zwr D 91 18 ((D 91 18) + 1)) (fun D_3 =>
        if (s0 = 0 ∨ s0 = 1) then
          some (s0, D_3)
        else none)
    else none
def fX12_passes0 (F : zFs) (v1 : Int) (D : zDa) : Option (Int × zDa) :=
  (fX12_codeAt F (D 91 18) D).bind (fun (r_1, D_2) =>
    if r_1 = v1 then
      fX12_passes0_17 F 1 D_2
    else
      fX12_passes0_17 F 0 D_2)
set_option maxHeartbeats 20000000 in
theorem sX12_passes0_17 {l : Launch} {E : zE} {d : Nat} {F : zFs} {n sl : Nat} (hG : zG F)  (s0 : Int)   (D : zDa) : zO l E (d + 1) YX12_passes0 17 [(0, zR 91)] [zI s0] (F, D, n, sl) (zcI F n sl) (fX12_passes0_17 F s0 D) := by
  unfold fX12_passes0_17
  refine zO_istore_n dX12_passes0_17 (by decide) ?_
  refine zO_ls (ls' := [(0, zR 91), (2, zI s0)]) rfl ?_
  refine zO_iload_n dX12_passes0_18 rfl ?_
  refine zO_if_eq (tgt := 32) dX12_passes0_19 rfl (fun c19 => ?_) (fun c19 => ?_)
  · refine zO_chk (fun h1 => ?_)
    refine zO_iload_n dX12_passes0_32 rfl ?_
    exact zO_ret (rv := some (zI s0)) dX12_passes0_33 rfl (zretok_z h1) rfl
  · refine zO_chk (fun h2 => ?_)
    refine zO_aload_n dX12_passes0_22 rfl (zR_P _) ?_
    refine zO_dup dX12_passes0_23 (rfl) ?_
    refine gt12 (k := 18) (v := zI (D 91 18)) dX12_passes0_24 wF_X12_246 (by decide) (gk_91 hG) rfl ?_
    refine zO_iconst dX12_passes0_27 (by decide) ?_
    refine zO_iadd dX12_passes0_28 h2 ?_
    refine ptI12 (k := 18) (z := ((D 91 18) + 1)) dX12_passes0_29 wF_X12_246 (by decide) rfl (gk_91 hG) rfl ?_
    refine zO_letD (fun D_3 eD_3 => ?_)
    refine zO_chk (fun h3 => ?_)
    refine zO_iload_n dX12_passes0_32 rfl ?_
    exact zO_ret (rv := some (zI s0)) dX12_passes0_33 rfl (zretok_z h3) rfl
set_option maxHeartbeats 20000000 in
theorem mX12_passes0 {l : Launch} {E : zE} {d : Nat} {F : zFs} {n sl : Nat} (hG : zG F) (v1 : Int) {D : zDa} : ∀ r, fX12_passes0 F  v1 D = some r → zMet l E (d + 1) YX12_passes0 [zR 91, zI v1] (F, D, n, sl) (zcI F n sl r) := by
  intro r hr
  refine zMet_of (plainFor_of_name (by decide)) (fun _ h => (nomatch h)) (Nat.le_of_ble_eq_true rfl) ?_
  have hz : zO l E (d + 1) YX12_passes0 0 [(0, zR 91), (1, zI v1)] [] (F, D, n, sl) (zcI F n sl) (fX12_passes0 F  v1 D) := by
    unfold fX12_passes0
    refine zO_aload_n dX12_passes0_0 rfl (zR_P _) ?_
    refine zO_aload_n dX12_passes0_1 rfl (zR_P _) ?_
    refine gt12 (k := 18) (v := zI (D 91 18)) dX12_passes0_2 wF_X12_246 (by decide) (gk_91 hG) rfl ?_
    refine zO_callV (Y' := YX12_codeAt) (cw := zcI F n sl) (as := [zI (D 91 18)]) (rest := []) (na := 1) (ci := 12) rfl dX12_passes0_5 wC_X12_codeAt wN_X12 wM_X12_249 wI_X12_codeAt wV_X12_codeAt (by decide) (by decide) rfl rfl (Nat.le_of_ble_eq_true rfl) rfl (by decide) (gk_91 hG) (fun r hr => zMet_cast (Nat.add_assoc d 0 0) (mX12_codeAt (d := d + 0) hG (D 91 18) r hr)) ?_
    rintro ⟨r_1, D_2⟩ -
    show zO _ _ _ _ _ _ [zI r_1] (F, D_2, n, sl) _ _
    refine zO_iload_n dX12_passes0_8 rfl ?_
    refine zO_icmp_ne (tgt := 16) dX12_passes0_9 rfl (fun c9 => ?_) (fun c9 => ?_)
    · refine zO_iconst dX12_passes0_12 (by decide) ?_
      refine zO_goto (tgt := 17) dX12_passes0_13 rfl ?_
      refine zO_live [0] ?_
      exact sX12_passes0_17 hG 1 D_2
    · refine zO_iconst dX12_passes0_16 (by decide) ?_
      refine zO_live [0] ?_
      exact sX12_passes0_17 hG 0 D_2
  exact hz r hr
theorem dX12_bounded_0 : decode cX12_bounded 0 = .ok (.iload_n 3, 1) := by decide +kernel
theorem dX12_bounded_1 : decode cX12_bounded 1 = .ok (.ifCond .eq 24, 3) := by decide +kernel
theorem dX12_bounded_4 : decode cX12_bounded 4 = .ok (.lload_n 1, 1) := by decide +kernel
theorem dX12_bounded_5 : decode cX12_bounded 5 = .ok (.ldc2_w 252, 3) := by decide +kernel
theorem dX12_bounded_8 : decode cX12_bounded 8 = .ok (.lcmp, 1) := by decide +kernel
theorem dX12_bounded_9 : decode cX12_bounded 9 = .ok (.ifCond .gt 11, 3) := by decide +kernel
theorem dX12_bounded_12 : decode cX12_bounded 12 = .ok (.lload_n 1, 1) := by decide +kernel
theorem dX12_bounded_13 : decode cX12_bounded 13 = .ok (.ldc2_w 254, 3) := by decide +kernel
theorem dX12_bounded_16 : decode cX12_bounded 16 = .ok (.lcmp, 1) := by decide +kernel
theorem dX12_bounded_17 : decode cX12_bounded 17 = .ok (.ifCond .ge 8, 3) := by decide +kernel
theorem dX12_bounded_20 : decode cX12_bounded 20 = .ok (.aload_n 0, 1) := by decide +kernel
theorem dX12_bounded_21 : decode cX12_bounded 21 = .ok (.iconst 1, 1) := by decide +kernel
theorem dX12_bounded_22 : decode cX12_bounded 22 = .ok (.putfield 256, 3) := by decide +kernel
theorem dX12_bounded_25 : decode cX12_bounded 25 = .ok (.aload_n 0, 1) := by decide +kernel
theorem dX12_bounded_26 : decode cX12_bounded 26 = .ok (.getfield 256, 3) := by decide +kernel
theorem dX12_bounded_29 : decode cX12_bounded 29 = .ok (.ifCond .eq 7, 3) := by decide +kernel
theorem dX12_bounded_32 : decode cX12_bounded 32 = .ok (.lconst 0, 1) := by decide +kernel
theorem dX12_bounded_33 : decode cX12_bounded 33 = .ok (.goto 4, 3) := by decide +kernel
theorem dX12_bounded_36 : decode cX12_bounded 36 = .ok (.lload_n 1, 1) := by decide +kernel
theorem dX12_bounded_37 : decode cX12_bounded 37 = .ok (.lreturn, 1) := by decide +kernel
abbrev YX12_bounded : zY := (yX12_bounded, cX12_bounded, 4, (Option.some Jvm.ClassFile.FieldType.long), [])
def fX12_bounded_25 (F : zFs)  (v1 : Int) (D : zDa) : Option (Int × zDa) :=
  if (D 91 20) = 0 then
    some (v1, D)
  else
    some (0, D)
def fX12_bounded_20 (F : zFs)  (v1 : Int) (D : zDa) : Option (Int × zDa) :=
  zlet (zwr D 91 20 1) (fun D_1 =>
    fX12_bounded_25 F v1 D_1)
def fX12_bounded (F : zFs) (v1 : Int) (v3 : Int) (D : zDa) : Option (Int × zDa) :=
  if v3 = 0 then
    fX12_bounded_25 F v1 D
  else
    if 1000000000 < v1 then
      fX12_bounded_20 F v1 D
    else
      if v1 < (-1000000000) then
        fX12_bounded_20 F v1 D
      else
        fX12_bounded_25 F v1 D
set_option maxHeartbeats 20000000 in
theorem sX12_bounded_25 {l : Launch} {E : zE} {d : Nat} {F : zFs} {n sl : Nat} (hG : zG F)  (v1 : Int)   (D : zDa) : zO l E (d + 0) YX12_bounded 25 [(0, zR 91), (1, zL v1)] [] (F, D, n, sl) (zcJ F n sl) (fX12_bounded_25 F v1 D) := by
  unfold fX12_bounded_25
  refine zO_aload_n dX12_bounded_25 rfl (zR_P _) ?_
  refine gt12 (k := 20) (v := zI (D 91 20)) dX12_bounded_26 wF_X12_256 (by decide) (gk_91 hG) rfl ?_
  refine zO_if_eq (tgt := 36) dX12_bounded_29 rfl (fun c29 => ?_) (fun c29 => ?_)
  · refine zO_lload_n dX12_bounded_36 rfl ?_
    exact zO_ret (rv := some (zL v1)) dX12_bounded_37 rfl trivial rfl
  · refine zO_lconst dX12_bounded_32 ?_
    refine zO_goto (tgt := 37) dX12_bounded_33 rfl ?_
    exact zO_ret (rv := some (zL 0)) dX12_bounded_37 rfl trivial rfl
set_option maxHeartbeats 20000000 in
theorem sX12_bounded_20 {l : Launch} {E : zE} {d : Nat} {F : zFs} {n sl : Nat} (hG : zG F)  (v1 : Int)   (D : zDa) : zO l E (d + 0) YX12_bounded 20 [(0, zR 91), (1, zL v1)] [] (F, D, n, sl) (zcJ F n sl) (fX12_bounded_20 F v1 D) := by
  unfold fX12_bounded_20
  refine zO_aload_n dX12_bounded_20 rfl (zR_P _) ?_
  refine zO_iconst dX12_bounded_21 (by decide) ?_
  refine pt12 (k := 20) (z := 1) dX12_bounded_22 wF_X12_256 (by decide) rfl (gk_91 hG) rfl (Or.inr rfl) ?_
  refine zO_letD (fun D_1 eD_1 => ?_)
  refine zO_live [0, 1] ?_
  exact sX12_bounded_25 hG v1 D_1
set_option maxHeartbeats 20000000 in
theorem mX12_bounded {l : Launch} {E : zE} {d : Nat} {F : zFs} {n sl : Nat} (hG : zG F) (v1 : Int) (v3 : Int) {D : zDa} : ∀ r, fX12_bounded F  v1 v3 D = some r → zMet l E (d + 0) YX12_bounded [zR 91, zL v1, zI v3] (F, D, n, sl) (zcJ F n sl r) := by
  intro r hr
  refine zMet_of (plainFor_of_name (by decide)) (fun _ h => (nomatch h)) (Nat.le_of_ble_eq_true rfl) ?_
  have hz : zO l E (d + 0) YX12_bounded 0 [(0, zR 91), (1, zL v1), (3, zI v3)] [] (F, D, n, sl) (zcJ F n sl) (fX12_bounded F  v1 v3 D) := by
    unfold fX12_bounded
    refine zO_iload_n dX12_bounded_0 rfl ?_
    refine zO_if_eq (tgt := 25) dX12_bounded_1 rfl (fun c1 => ?_) (fun c1 => ?_)
    · refine zO_live [0, 1] ?_
      exact sX12_bounded_25 hG v1 D
    · refine zO_lload_n dX12_bounded_4 rfl ?_
      refine zO_ldc2 (n := 1000000000) dX12_bounded_5 wK_X12_252 (by decide) ?_
      refine zO_lif_gt (tgt := 20) dX12_bounded_8 dX12_bounded_9 rfl (fun c8 => ?_) (fun c8 => ?_)
      · refine zO_live [0, 1] ?_
        exact sX12_bounded_20 hG v1 D
      · refine zO_lload_n dX12_bounded_12 rfl ?_
        refine zO_ldc2 (n := -1000000000) dX12_bounded_13 wK_X12_254 (by decide) ?_
        refine zO_lif_ge (tgt := 25) dX12_bounded_16 dX12_bounded_17 rfl (fun c16 => ?_) (fun c16 => ?_)
        · refine zO_live [0, 1] ?_
          exact sX12_bounded_20 hG v1 D
        · refine zO_live [0, 1] ?_
          exact sX12_bounded_25 hG v1 D
  exact hz r hr
theorem dX12_sumOf_0 : decode cX12_sumOf 0 = .ok (.aload_n 0, 1) := by decide +kernel
theorem dX12_sumOf_1 : decode cX12_sumOf 1 = .ok (.iload_n 1, 1) := by decide +kernel
theorem dX12_sumOf_2 : decode cX12_sumOf 2 = .ok (.invokevirtual 260, 3) := by decide +kernel
theorem dX12_sumOf_5 : decode cX12_sumOf 5 = .ok (.lstore_n 2, 1) := by decide +kernel
theorem dX12_sumOf_6 : decode cX12_sumOf 6 = .ok (.aload_n 0, 1) := by decide +kernel
theorem dX12_sumOf_7 : decode cX12_sumOf 7 = .ok (.aload_n 0, 1) := by decide +kernel
theorem dX12_sumOf_8 : decode cX12_sumOf 8 = .ok (.getfield 246, 3) := by decide +kernel
theorem dX12_sumOf_11 : decode cX12_sumOf 11 = .ok (.invokevirtual 249, 3) := by decide +kernel
theorem dX12_sumOf_14 : decode cX12_sumOf 14 = .ok (.bipush 43, 2) := by decide +kernel
theorem dX12_sumOf_16 : decode cX12_sumOf 16 = .ok (.invokestatic 221, 3) := by decide +kernel
theorem dX12_sumOf_19 : decode cX12_sumOf 19 = .ok (.if_icmp .eq 19, 3) := by decide +kernel
theorem dX12_sumOf_22 : decode cX12_sumOf 22 = .ok (.aload_n 0, 1) := by decide +kernel
theorem dX12_sumOf_23 : decode cX12_sumOf 23 = .ok (.aload_n 0, 1) := by decide +kernel
theorem dX12_sumOf_24 : decode cX12_sumOf 24 = .ok (.getfield 246, 3) := by decide +kernel
theorem dX12_sumOf_27 : decode cX12_sumOf 27 = .ok (.invokevirtual 249, 3) := by decide +kernel
theorem dX12_sumOf_30 : decode cX12_sumOf 30 = .ok (.bipush 45, 2) := by decide +kernel
theorem dX12_sumOf_32 : decode cX12_sumOf 32 = .ok (.invokestatic 221, 3) := by decide +kernel
theorem dX12_sumOf_35 : decode cX12_sumOf 35 = .ok (.if_icmp .ne 68, 3) := by decide +kernel
theorem dX12_sumOf_38 : decode cX12_sumOf 38 = .ok (.aload_n 0, 1) := by decide +kernel
theorem dX12_sumOf_39 : decode cX12_sumOf 39 = .ok (.aload_n 0, 1) := by decide +kernel
theorem dX12_sumOf_40 : decode cX12_sumOf 40 = .ok (.getfield 246, 3) := by decide +kernel
theorem dX12_sumOf_43 : decode cX12_sumOf 43 = .ok (.invokevirtual 249, 3) := by decide +kernel
theorem dX12_sumOf_46 : decode cX12_sumOf 46 = .ok (.bipush 43, 2) := by decide +kernel
theorem dX12_sumOf_48 : decode cX12_sumOf 48 = .ok (.invokestatic 221, 3) := by decide +kernel
theorem dX12_sumOf_51 : decode cX12_sumOf 51 = .ok (.if_icmp .ne 7, 3) := by decide +kernel
theorem dX12_sumOf_54 : decode cX12_sumOf 54 = .ok (.iconst 1, 1) := by decide +kernel
theorem dX12_sumOf_55 : decode cX12_sumOf 55 = .ok (.goto 4, 3) := by decide +kernel
theorem dX12_sumOf_58 : decode cX12_sumOf 58 = .ok (.iconst 0, 1) := by decide +kernel
theorem dX12_sumOf_59 : decode cX12_sumOf 59 = .ok (.istore 4, 2) := by decide +kernel
theorem dX12_sumOf_61 : decode cX12_sumOf 61 = .ok (.aload_n 0, 1) := by decide +kernel
theorem dX12_sumOf_62 : decode cX12_sumOf 62 = .ok (.dup, 1) := by decide +kernel
theorem dX12_sumOf_63 : decode cX12_sumOf 63 = .ok (.getfield 246, 3) := by decide +kernel
theorem dX12_sumOf_66 : decode cX12_sumOf 66 = .ok (.iconst 1, 1) := by decide +kernel
theorem dX12_sumOf_67 : decode cX12_sumOf 67 = .ok (.iadd, 1) := by decide +kernel
theorem dX12_sumOf_68 : decode cX12_sumOf 68 = .ok (.putfield 246, 3) := by decide +kernel
theorem dX12_sumOf_71 : decode cX12_sumOf 71 = .ok (.aload_n 0, 1) := by decide +kernel
theorem dX12_sumOf_72 : decode cX12_sumOf 72 = .ok (.iload_n 1, 1) := by decide +kernel
theorem dX12_sumOf_73 : decode cX12_sumOf 73 = .ok (.invokevirtual 260, 3) := by decide +kernel
theorem dX12_sumOf_76 : decode cX12_sumOf 76 = .ok (.lstore 5, 2) := by decide +kernel
theorem dX12_sumOf_78 : decode cX12_sumOf 78 = .ok (.aload_n 0, 1) := by decide +kernel
theorem dX12_sumOf_79 : decode cX12_sumOf 79 = .ok (.iload 4, 2) := by decide +kernel
theorem dX12_sumOf_81 : decode cX12_sumOf 81 = .ok (.ifCond .eq 10, 3) := by decide +kernel
theorem dX12_sumOf_84 : decode cX12_sumOf 84 = .ok (.lload_n 2, 1) := by decide +kernel
theorem dX12_sumOf_85 : decode cX12_sumOf 85 = .ok (.lload 5, 2) := by decide +kernel
theorem dX12_sumOf_87 : decode cX12_sumOf 87 = .ok (.ladd, 1) := by decide +kernel
theorem dX12_sumOf_88 : decode cX12_sumOf 88 = .ok (.goto 7, 3) := by decide +kernel
theorem dX12_sumOf_91 : decode cX12_sumOf 91 = .ok (.lload_n 2, 1) := by decide +kernel
theorem dX12_sumOf_92 : decode cX12_sumOf 92 = .ok (.lload 5, 2) := by decide +kernel
theorem dX12_sumOf_94 : decode cX12_sumOf 94 = .ok (.lsub, 1) := by decide +kernel
theorem dX12_sumOf_95 : decode cX12_sumOf 95 = .ok (.iload_n 1, 1) := by decide +kernel
theorem dX12_sumOf_96 : decode cX12_sumOf 96 = .ok (.invokevirtual 264, 3) := by decide +kernel
theorem dX12_sumOf_99 : decode cX12_sumOf 99 = .ok (.lstore_n 2, 1) := by decide +kernel
theorem dX12_sumOf_100 : decode cX12_sumOf 100 = .ok (.goto (-94), 3) := by decide +kernel
theorem dX12_sumOf_103 : decode cX12_sumOf 103 = .ok (.lload_n 2, 1) := by decide +kernel
theorem dX12_sumOf_104 : decode cX12_sumOf 104 = .ok (.lreturn, 1) := by decide +kernel
abbrev YX12_sumOf : zY := (yX12_sumOf, cX12_sumOf, 7, (Option.some Jvm.ClassFile.FieldType.long), [])
theorem dX12_termOf_0 : decode cX12_termOf 0 = .ok (.aload_n 0, 1) := by decide +kernel
theorem dX12_termOf_1 : decode cX12_termOf 1 = .ok (.iload_n 1, 1) := by decide +kernel
theorem dX12_termOf_2 : decode cX12_termOf 2 = .ok (.invokevirtual 268, 3) := by decide +kernel
theorem dX12_termOf_5 : decode cX12_termOf 5 = .ok (.lstore_n 2, 1) := by decide +kernel
theorem dX12_termOf_6 : decode cX12_termOf 6 = .ok (.aload_n 0, 1) := by decide +kernel
theorem dX12_termOf_7 : decode cX12_termOf 7 = .ok (.aload_n 0, 1) := by decide +kernel
theorem dX12_termOf_8 : decode cX12_termOf 8 = .ok (.getfield 246, 3) := by decide +kernel
theorem dX12_termOf_11 : decode cX12_termOf 11 = .ok (.invokevirtual 249, 3) := by decide +kernel
theorem dX12_termOf_14 : decode cX12_termOf 14 = .ok (.bipush 42, 2) := by decide +kernel
theorem dX12_termOf_16 : decode cX12_termOf 16 = .ok (.invokestatic 221, 3) := by decide +kernel
theorem dX12_termOf_19 : decode cX12_termOf 19 = .ok (.if_icmp .eq 19, 3) := by decide +kernel
theorem dX12_termOf_22 : decode cX12_termOf 22 = .ok (.aload_n 0, 1) := by decide +kernel
theorem dX12_termOf_23 : decode cX12_termOf 23 = .ok (.aload_n 0, 1) := by decide +kernel
theorem dX12_termOf_24 : decode cX12_termOf 24 = .ok (.getfield 246, 3) := by decide +kernel
theorem dX12_termOf_27 : decode cX12_termOf 27 = .ok (.invokevirtual 249, 3) := by decide +kernel
theorem dX12_termOf_30 : decode cX12_termOf 30 = .ok (.bipush 47, 2) := by decide +kernel
theorem dX12_termOf_32 : decode cX12_termOf 32 = .ok (.invokestatic 221, 3) := by decide +kernel
theorem dX12_termOf_35 : decode cX12_termOf 35 = .ok (.if_icmp .ne 103, 3) := by decide +kernel
theorem dX12_termOf_38 : decode cX12_termOf 38 = .ok (.aload_n 0, 1) := by decide +kernel
theorem dX12_termOf_39 : decode cX12_termOf 39 = .ok (.aload_n 0, 1) := by decide +kernel
theorem dX12_termOf_40 : decode cX12_termOf 40 = .ok (.getfield 246, 3) := by decide +kernel
theorem dX12_termOf_43 : decode cX12_termOf 43 = .ok (.invokevirtual 249, 3) := by decide +kernel
theorem dX12_termOf_46 : decode cX12_termOf 46 = .ok (.bipush 42, 2) := by decide +kernel
theorem dX12_termOf_48 : decode cX12_termOf 48 = .ok (.invokestatic 221, 3) := by decide +kernel
theorem dX12_termOf_51 : decode cX12_termOf 51 = .ok (.if_icmp .ne 7, 3) := by decide +kernel
theorem dX12_termOf_54 : decode cX12_termOf 54 = .ok (.iconst 1, 1) := by decide +kernel
theorem dX12_termOf_55 : decode cX12_termOf 55 = .ok (.goto 4, 3) := by decide +kernel
theorem dX12_termOf_58 : decode cX12_termOf 58 = .ok (.iconst 0, 1) := by decide +kernel
theorem dX12_termOf_59 : decode cX12_termOf 59 = .ok (.istore 4, 2) := by decide +kernel
theorem dX12_termOf_61 : decode cX12_termOf 61 = .ok (.aload_n 0, 1) := by decide +kernel
theorem dX12_termOf_62 : decode cX12_termOf 62 = .ok (.dup, 1) := by decide +kernel
theorem dX12_termOf_63 : decode cX12_termOf 63 = .ok (.getfield 246, 3) := by decide +kernel
theorem dX12_termOf_66 : decode cX12_termOf 66 = .ok (.iconst 1, 1) := by decide +kernel
theorem dX12_termOf_67 : decode cX12_termOf 67 = .ok (.iadd, 1) := by decide +kernel
theorem dX12_termOf_68 : decode cX12_termOf 68 = .ok (.putfield 246, 3) := by decide +kernel
theorem dX12_termOf_71 : decode cX12_termOf 71 = .ok (.aload_n 0, 1) := by decide +kernel
theorem dX12_termOf_72 : decode cX12_termOf 72 = .ok (.iload_n 1, 1) := by decide +kernel
theorem dX12_termOf_73 : decode cX12_termOf 73 = .ok (.invokevirtual 268, 3) := by decide +kernel
theorem dX12_termOf_76 : decode cX12_termOf 76 = .ok (.lstore 5, 2) := by decide +kernel
theorem dX12_termOf_78 : decode cX12_termOf 78 = .ok (.iload 4, 2) := by decide +kernel
theorem dX12_termOf_80 : decode cX12_termOf 80 = .ok (.ifCond .ne 33, 3) := by decide +kernel
theorem dX12_termOf_83 : decode cX12_termOf 83 = .ok (.lload 5, 2) := by decide +kernel
theorem dX12_termOf_85 : decode cX12_termOf 85 = .ok (.lconst 0, 1) := by decide +kernel
theorem dX12_termOf_86 : decode cX12_termOf 86 = .ok (.lcmp, 1) := by decide +kernel
theorem dX12_termOf_87 : decode cX12_termOf 87 = .ok (.ifCond .ne 26, 3) := by decide +kernel
theorem dX12_termOf_90 : decode cX12_termOf 90 = .ok (.aload_n 0, 1) := by decide +kernel
theorem dX12_termOf_91 : decode cX12_termOf 91 = .ok (.aload_n 0, 1) := by decide +kernel
theorem dX12_termOf_92 : decode cX12_termOf 92 = .ok (.getfield 256, 3) := by decide +kernel
theorem dX12_termOf_95 : decode cX12_termOf 95 = .ok (.ifCond .ne 7, 3) := by decide +kernel
theorem dX12_termOf_98 : decode cX12_termOf 98 = .ok (.iload_n 1, 1) := by decide +kernel
theorem dX12_termOf_99 : decode cX12_termOf 99 = .ok (.ifCond .eq 7, 3) := by decide +kernel
theorem dX12_termOf_102 : decode cX12_termOf 102 = .ok (.iconst 1, 1) := by decide +kernel
theorem dX12_termOf_103 : decode cX12_termOf 103 = .ok (.goto 4, 3) := by decide +kernel
theorem dX12_termOf_106 : decode cX12_termOf 106 = .ok (.iconst 0, 1) := by decide +kernel
theorem dX12_termOf_107 : decode cX12_termOf 107 = .ok (.putfield 256, 3) := by decide +kernel
theorem dX12_termOf_110 : decode cX12_termOf 110 = .ok (.lconst 1, 1) := by decide +kernel
theorem dX12_termOf_111 : decode cX12_termOf 111 = .ok (.lstore 5, 2) := by decide +kernel
theorem dX12_termOf_113 : decode cX12_termOf 113 = .ok (.aload_n 0, 1) := by decide +kernel
theorem dX12_termOf_114 : decode cX12_termOf 114 = .ok (.iload 4, 2) := by decide +kernel
theorem dX12_termOf_116 : decode cX12_termOf 116 = .ok (.ifCond .eq 10, 3) := by decide +kernel
theorem dX12_termOf_119 : decode cX12_termOf 119 = .ok (.lload_n 2, 1) := by decide +kernel
theorem dX12_termOf_120 : decode cX12_termOf 120 = .ok (.lload 5, 2) := by decide +kernel
theorem dX12_termOf_122 : decode cX12_termOf 122 = .ok (.lmul, 1) := by decide +kernel
theorem dX12_termOf_123 : decode cX12_termOf 123 = .ok (.goto 7, 3) := by decide +kernel
theorem dX12_termOf_126 : decode cX12_termOf 126 = .ok (.lload_n 2, 1) := by decide +kernel
theorem dX12_termOf_127 : decode cX12_termOf 127 = .ok (.lload 5, 2) := by decide +kernel
theorem dX12_termOf_129 : decode cX12_termOf 129 = .ok (.ldiv, 1) := by decide +kernel
theorem dX12_termOf_130 : decode cX12_termOf 130 = .ok (.iload_n 1, 1) := by decide +kernel
theorem dX12_termOf_131 : decode cX12_termOf 131 = .ok (.invokevirtual 264, 3) := by decide +kernel
theorem dX12_termOf_134 : decode cX12_termOf 134 = .ok (.lstore_n 2, 1) := by decide +kernel
theorem dX12_termOf_135 : decode cX12_termOf 135 = .ok (.goto (-129), 3) := by decide +kernel
theorem dX12_termOf_138 : decode cX12_termOf 138 = .ok (.lload_n 2, 1) := by decide +kernel
theorem dX12_termOf_139 : decode cX12_termOf 139 = .ok (.lreturn, 1) := by decide +kernel
abbrev YX12_termOf : zY := (yX12_termOf, cX12_termOf, 7, (Option.some Jvm.ClassFile.FieldType.long), [])
theorem dX12_partOf_0 : decode cX12_partOf 0 = .ok (.aload_n 0, 1) := by decide +kernel
theorem dX12_partOf_1 : decode cX12_partOf 1 = .ok (.bipush 91, 2) := by decide +kernel
theorem dX12_partOf_3 : decode cX12_partOf 3 = .ok (.invokestatic 221, 3) := by decide +kernel
theorem dX12_partOf_6 : decode cX12_partOf 6 = .ok (.invokevirtual 271, 3) := by decide +kernel
theorem dX12_partOf_9 : decode cX12_partOf 9 = .ok (.ifCond .eq 21, 3) := by decide +kernel
theorem dX12_partOf_12 : decode cX12_partOf 12 = .ok (.aload_n 0, 1) := by decide +kernel
theorem dX12_partOf_13 : decode cX12_partOf 13 = .ok (.iload_n 1, 1) := by decide +kernel
theorem dX12_partOf_14 : decode cX12_partOf 14 = .ok (.invokevirtual 274, 3) := by decide +kernel
theorem dX12_partOf_17 : decode cX12_partOf 17 = .ok (.lstore_n 2, 1) := by decide +kernel
theorem dX12_partOf_18 : decode cX12_partOf 18 = .ok (.aload_n 0, 1) := by decide +kernel
theorem dX12_partOf_19 : decode cX12_partOf 19 = .ok (.dup, 1) := by decide +kernel
theorem dX12_partOf_20 : decode cX12_partOf 20 = .ok (.getfield 246, 3) := by decide +kernel
theorem dX12_partOf_23 : decode cX12_partOf 23 = .ok (.iconst 1, 1) := by decide +kernel
theorem dX12_partOf_24 : decode cX12_partOf 24 = .ok (.iadd, 1) := by decide +kernel
theorem dX12_partOf_25 : decode cX12_partOf 25 = .ok (.putfield 246, 3) := by decide +kernel
theorem dX12_partOf_28 : decode cX12_partOf 28 = .ok (.lload_n 2, 1) := by decide +kernel
theorem dX12_partOf_29 : decode cX12_partOf 29 = .ok (.lreturn, 1) := by decide +kernel
theorem dX12_partOf_30 : decode cX12_partOf 30 = .ok (.aload_n 0, 1) := by decide +kernel
theorem dX12_partOf_31 : decode cX12_partOf 31 = .ok (.aload_n 0, 1) := by decide +kernel
theorem dX12_partOf_32 : decode cX12_partOf 32 = .ok (.getfield 246, 3) := by decide +kernel
theorem dX12_partOf_35 : decode cX12_partOf 35 = .ok (.invokevirtual 249, 3) := by decide +kernel
theorem dX12_partOf_38 : decode cX12_partOf 38 = .ok (.istore_n 2, 1) := by decide +kernel
theorem dX12_partOf_39 : decode cX12_partOf 39 = .ok (.aload_n 0, 1) := by decide +kernel
theorem dX12_partOf_40 : decode cX12_partOf 40 = .ok (.dup, 1) := by decide +kernel
theorem dX12_partOf_41 : decode cX12_partOf 41 = .ok (.getfield 246, 3) := by decide +kernel
theorem dX12_partOf_44 : decode cX12_partOf 44 = .ok (.iconst 1, 1) := by decide +kernel
theorem dX12_partOf_45 : decode cX12_partOf 45 = .ok (.iadd, 1) := by decide +kernel
theorem dX12_partOf_46 : decode cX12_partOf 46 = .ok (.putfield 246, 3) := by decide +kernel
theorem dX12_partOf_49 : decode cX12_partOf 49 = .ok (.iload_n 1, 1) := by decide +kernel
theorem dX12_partOf_50 : decode cX12_partOf 50 = .ok (.ifCond .eq 10, 3) := by decide +kernel
theorem dX12_partOf_53 : decode cX12_partOf 53 = .ok (.aload_n 0, 1) := by decide +kernel
theorem dX12_partOf_54 : decode cX12_partOf 54 = .ok (.getfield 256, 3) := by decide +kernel
theorem dX12_partOf_57 : decode cX12_partOf 57 = .ok (.ifCond .eq 5, 3) := by decide +kernel
theorem dX12_partOf_60 : decode cX12_partOf 60 = .ok (.lconst 0, 1) := by decide +kernel
theorem dX12_partOf_61 : decode cX12_partOf 61 = .ok (.lreturn, 1) := by decide +kernel
theorem dX12_partOf_62 : decode cX12_partOf 62 = .ok (.iload_n 2, 1) := by decide +kernel
theorem dX12_partOf_63 : decode cX12_partOf 63 = .ok (.bipush 50, 2) := by decide +kernel
theorem dX12_partOf_65 : decode cX12_partOf 65 = .ok (.if_icmp .ne 22, 3) := by decide +kernel
theorem dX12_partOf_68 : decode cX12_partOf 68 = .ok (.aload_n 0, 1) := by decide +kernel
theorem dX12_partOf_69 : decode cX12_partOf 69 = .ok (.getfield 20, 3) := by decide +kernel
theorem dX12_partOf_72 : decode cX12_partOf 72 = .ok (.sipush 2801, 3) := by decide +kernel
theorem dX12_partOf_75 : decode cX12_partOf 75 = .ok (.aload_n 0, 1) := by decide +kernel
theorem dX12_partOf_76 : decode cX12_partOf 76 = .ok (.getfield 246, 3) := by decide +kernel
theorem dX12_partOf_79 : decode cX12_partOf 79 = .ok (.iadd, 1) := by decide +kernel
theorem dX12_partOf_80 : decode cX12_partOf 80 = .ok (.iconst 1, 1) := by decide +kernel
theorem dX12_partOf_81 : decode cX12_partOf 81 = .ok (.isub, 1) := by decide +kernel
theorem dX12_partOf_82 : decode cX12_partOf 82 = .ok (.iaload, 1) := by decide +kernel
theorem dX12_partOf_83 : decode cX12_partOf 83 = .ok (.i2l, 1) := by decide +kernel
theorem dX12_partOf_84 : decode cX12_partOf 84 = .ok (.goto 13, 3) := by decide +kernel
theorem dX12_partOf_87 : decode cX12_partOf 87 = .ok (.aload_n 0, 1) := by decide +kernel
theorem dX12_partOf_88 : decode cX12_partOf 88 = .ok (.getfield 52, 3) := by decide +kernel
theorem dX12_partOf_91 : decode cX12_partOf 91 = .ok (.iload_n 2, 1) := by decide +kernel
theorem dX12_partOf_92 : decode cX12_partOf 92 = .ok (.bipush 8, 2) := by decide +kernel
theorem dX12_partOf_94 : decode cX12_partOf 94 = .ok (.isub, 1) := by decide +kernel
theorem dX12_partOf_95 : decode cX12_partOf 95 = .ok (.iaload, 1) := by decide +kernel
theorem dX12_partOf_96 : decode cX12_partOf 96 = .ok (.i2l, 1) := by decide +kernel
theorem dX12_partOf_97 : decode cX12_partOf 97 = .ok (.lreturn, 1) := by decide +kernel
abbrev YX12_partOf : zY := (yX12_partOf, cX12_partOf, 4, (Option.some Jvm.ClassFile.FieldType.long), [])
def fX12_sumOf_95 (F : zFs) (rec : Nat → Int → Int → zDa → Option (Int × zDa)) (k_6 : Int → zDa → Option (Int × zDa)) (o1 : Int) (s0 : Int) (D : zDa) : Option (Int × zDa) :=
  (fX12_bounded F s0 o1 D).bind (fun (r_14, D_15) =>
    k_6 r_14 D_15)
def fX12_sumOf_59 (F : zFs) (rec : Nat → Int → Int → zDa → Option (Int × zDa)) (k_6 : Int → zDa → Option (Int × zDa)) (o1 : Int) (v2 : Int) (s0 : Int) (D : zDa) : Option (Int × zDa) :=
  if (-2147483648 ≤ (D 91 18) + 1 ∧ (D 91 18) + 1 ≤ 2147483647) then
    zlet (zwr D 91 18 ((D 91 18) + 1)) (fun D_11 =>
      (rec 1 o1 0 D_11).bind (fun (r_12, D_13) =>
        if s0 = 0 then
          if (-9223372036854775808 ≤ v2 - r_12 ∧ v2 - r_12 ≤ 9223372036854775807) then
            fX12_sumOf_95 F rec k_6 o1 (v2 - r_12) D_13
          else none
        else
          if (-9223372036854775808 ≤ v2 + r_12 ∧ v2 + r_12 ≤ 9223372036854775807) then
            fX12_sumOf_95 F rec k_6 o1 (v2 + r_12) D_13
          else none))
  else none
def fX12_sumOf_38 (F : zFs) (rec : Nat → Int → Int → zDa → Option (Int × zDa)) (k_6 : Int → zDa → Option (Int × zDa)) (o1 : Int) (v2 : Int) (D : zDa) : Option (Int × zDa) :=
  (fX12_codeAt F (D 91 18) D).bind (fun (r_7, D_8) =>
    (fX12_sign F 43 D_8).bind (fun (r_9, D_10) =>
      if r_7 = r_9 then
        fX12_sumOf_59 F rec k_6 o1 v2 1 D_10
      else
        fX12_sumOf_59 F rec k_6 o1 v2 0 D_10))
def fX12_sumOf_6 (F : zFs) (rec : Nat → Int → Int → zDa → Option (Int × zDa)) (o1 : Int)  (k_6 : Int → zDa → Option (Int × zDa)) (v2 : Int) (D : zDa) : Option (Int × zDa) :=
  (fX12_codeAt F (D 91 18) D).bind (fun (r_3, D_4) =>
    (fX12_sign F 43 D_4).bind (fun (r_5, D_6) =>
      if r_3 = r_5 then
        fX12_sumOf_38 F rec k_6 o1 v2 D_6
      else
        (fX12_codeAt F (D_6 91 18) D_6).bind (fun (r_16, D_17) =>
          (fX12_sign F 45 D_17).bind (fun (r_18, D_19) =>
            if r_16 = r_18 then
              fX12_sumOf_38 F rec k_6 o1 v2 D_19
            else
              some (v2, D_19)))))
def bX12_sumOf (F : zFs) (rec : Nat → Int → Int → zDa → Option (Int × zDa)) (v1 : Int) (D : zDa) : Option (Int × zDa) :=
  (rec 1 v1 0 D).bind (fun (r_1, D_2) =>
    zfix (fun _ _ => none) (fX12_sumOf_6 F rec v1) zfu r_1 D_2)
set_option maxHeartbeats 20000000 in
theorem sX12_sumOf_95 {l : Launch} {E : zE} {d : Nat} {F : zFs} {n sl : Nat} (hG : zG F) (rec : Nat → Int → Int → zDa → Option (Int × zDa)) (hr0 : ∀ (a b : Int) (D : zDa) r, rec 0 a b D = some r → zMet l E (d + 2) YX12_sumOf [zR 91, zI a] (F, D, n, sl) (zcJ F n sl r)) (hr1 : ∀ (a b : Int) (D : zDa) r, rec 1 a b D = some r → zMet l E (d + 2) YX12_termOf [zR 91, zI a] (F, D, n, sl) (zcJ F n sl r)) (hr2 : ∀ (a b : Int) (D : zDa) r, rec 2 a b D = some r → zMet l E (d + 2) YX12_partOf [zR 91, zI a] (F, D, n, sl) (zcJ F n sl r))  (o1 : Int) (s0 : Int) (k_6 : Int → zDa → Option (Int × zDa)) (hk_6 : ∀ (u2 : Int) (D : zDa), zO l E (d + 3) YX12_sumOf 6 [(0, zR 91), (1, zI o1), (2, zL u2)] [] (F, D, n, sl) (zcJ F n sl) (k_6 u2 D)) (D : zDa) : zO l E (d + 3) YX12_sumOf 95 [(0, zR 91), (1, zI o1)] [zL s0, zR 91] (F, D, n, sl) (zcJ F n sl) (fX12_sumOf_95 F rec k_6 o1 s0 D) := by
  unfold fX12_sumOf_95
  refine zO_iload_n dX12_sumOf_95 rfl ?_
  refine zO_callV (Y' := YX12_bounded) (cw := zcJ F n sl) (as := [zL s0, zI o1]) (rest := []) (na := 2) (ci := 12) rfl dX12_sumOf_96 wC_X12_bounded wN_X12 wM_X12_264 wI_X12_bounded wV_X12_bounded (by decide) (by decide) rfl rfl (Nat.le_of_ble_eq_true rfl) rfl (by decide) (gk_91 hG) (fun r hr => zMet_cast (Nat.add_assoc d 2 0) (mX12_bounded (d := d + 2) hG s0 o1 r hr)) ?_
  rintro ⟨r_14, D_15⟩ -
  show zO _ _ _ _ _ _ [zL r_14] (F, D_15, n, sl) _ _
  refine zO_lstore_n dX12_sumOf_99 (by decide) ?_
  refine zO_ls (ls' := [(0, zR 91), (1, zI o1), (2, zL r_14)]) rfl ?_
  refine zO_goto (tgt := 6) dX12_sumOf_100 rfl ?_
  refine zO_live [0, 1, 2] ?_
  exact hk_6 r_14 D_15
set_option maxHeartbeats 20000000 in
theorem sX12_sumOf_59 {l : Launch} {E : zE} {d : Nat} {F : zFs} {n sl : Nat} (hG : zG F) (rec : Nat → Int → Int → zDa → Option (Int × zDa)) (hr0 : ∀ (a b : Int) (D : zDa) r, rec 0 a b D = some r → zMet l E (d + 2) YX12_sumOf [zR 91, zI a] (F, D, n, sl) (zcJ F n sl r)) (hr1 : ∀ (a b : Int) (D : zDa) r, rec 1 a b D = some r → zMet l E (d + 2) YX12_termOf [zR 91, zI a] (F, D, n, sl) (zcJ F n sl r)) (hr2 : ∀ (a b : Int) (D : zDa) r, rec 2 a b D = some r → zMet l E (d + 2) YX12_partOf [zR 91, zI a] (F, D, n, sl) (zcJ F n sl r))  (o1 : Int) (v2 : Int) (s0 : Int) (k_6 : Int → zDa → Option (Int × zDa)) (hk_6 : ∀ (u2 : Int) (D : zDa), zO l E (d + 3) YX12_sumOf 6 [(0, zR 91), (1, zI o1), (2, zL u2)] [] (F, D, n, sl) (zcJ F n sl) (k_6 u2 D)) (D : zDa) : zO l E (d + 3) YX12_sumOf 59 [(0, zR 91), (1, zI o1), (2, zL v2)] [zI s0] (F, D, n, sl) (zcJ F n sl) (fX12_sumOf_59 F rec k_6 o1 v2 s0 D) := by
  unfold fX12_sumOf_59
  refine zO_chk (fun h1 => ?_)
  refine zO_istore dX12_sumOf_59 (by decide) ?_
  refine zO_ls (ls' := [(0, zR 91), (1, zI o1), (2, zL v2), (4, zI s0)]) rfl ?_
  refine zO_aload_n dX12_sumOf_61 rfl (zR_P _) ?_
  refine zO_dup dX12_sumOf_62 (rfl) ?_
  refine gt12 (k := 18) (v := zI (D 91 18)) dX12_sumOf_63 wF_X12_246 (by decide) (gk_91 hG) rfl ?_
  refine zO_iconst dX12_sumOf_66 (by decide) ?_
  refine zO_iadd dX12_sumOf_67 h1 ?_
  refine ptI12 (k := 18) (z := ((D 91 18) + 1)) dX12_sumOf_68 wF_X12_246 (by decide) rfl (gk_91 hG) rfl ?_
  refine zO_letD (fun D_11 eD_11 => ?_)
  refine zO_aload_n dX12_sumOf_71 rfl (zR_P _) ?_
  refine zO_iload_n dX12_sumOf_72 rfl ?_
  refine zO_callV (Y' := YX12_termOf) (cw := zcJ F n sl) (as := [zI o1]) (rest := []) (na := 1) (ci := 12) rfl dX12_sumOf_73 wC_X12_termOf wN_X12 wM_X12_260 wI_X12_termOf wV_X12_termOf (by decide) (by decide) rfl rfl (Nat.le_of_ble_eq_true rfl) rfl (by decide) (gk_91 hG) (fun r hr => hr1 o1 0 _ r hr) ?_
  rintro ⟨r_12, D_13⟩ -
  show zO _ _ _ _ _ _ [zL r_12] (F, D_13, n, sl) _ _
  refine zO_lstore dX12_sumOf_76 (by decide) ?_
  refine zO_ls (ls' := [(0, zR 91), (1, zI o1), (2, zL v2), (4, zI s0), (5, zL r_12)]) rfl ?_
  refine zO_aload_n dX12_sumOf_78 rfl (zR_P _) ?_
  refine zO_iload dX12_sumOf_79 rfl ?_
  refine zO_if_eq (tgt := 91) dX12_sumOf_81 rfl (fun c81 => ?_) (fun c81 => ?_)
  · refine zO_chk (fun h2 => ?_)
    refine zO_lload_n dX12_sumOf_91 rfl ?_
    refine zO_lload dX12_sumOf_92 rfl ?_
    refine zO_lsub dX12_sumOf_94 h2 ?_
    refine zO_live [0, 1] ?_
    exact sX12_sumOf_95 hG rec hr0 hr1 hr2 o1 (v2 - r_12) _ hk_6 D_13
  · refine zO_chk (fun h3 => ?_)
    refine zO_lload_n dX12_sumOf_84 rfl ?_
    refine zO_lload dX12_sumOf_85 rfl ?_
    refine zO_ladd dX12_sumOf_87 h3 ?_
    refine zO_goto (tgt := 95) dX12_sumOf_88 rfl ?_
    refine zO_live [0, 1] ?_
    exact sX12_sumOf_95 hG rec hr0 hr1 hr2 o1 (v2 + r_12) _ hk_6 D_13
set_option maxHeartbeats 20000000 in
theorem sX12_sumOf_38 {l : Launch} {E : zE} {d : Nat} {F : zFs} {n sl : Nat} (hG : zG F) (rec : Nat → Int → Int → zDa → Option (Int × zDa)) (hr0 : ∀ (a b : Int) (D : zDa) r, rec 0 a b D = some r → zMet l E (d + 2) YX12_sumOf [zR 91, zI a] (F, D, n, sl) (zcJ F n sl r)) (hr1 : ∀ (a b : Int) (D : zDa) r, rec 1 a b D = some r → zMet l E (d + 2) YX12_termOf [zR 91, zI a] (F, D, n, sl) (zcJ F n sl r)) (hr2 : ∀ (a b : Int) (D : zDa) r, rec 2 a b D = some r → zMet l E (d + 2) YX12_partOf [zR 91, zI a] (F, D, n, sl) (zcJ F n sl r))  (o1 : Int) (v2 : Int) (k_6 : Int → zDa → Option (Int × zDa)) (hk_6 : ∀ (u2 : Int) (D : zDa), zO l E (d + 3) YX12_sumOf 6 [(0, zR 91), (1, zI o1), (2, zL u2)] [] (F, D, n, sl) (zcJ F n sl) (k_6 u2 D)) (D : zDa) : zO l E (d + 3) YX12_sumOf 38 [(0, zR 91), (1, zI o1), (2, zL v2)] [] (F, D, n, sl) (zcJ F n sl) (fX12_sumOf_38 F rec k_6 o1 v2 D) := by
  unfold fX12_sumOf_38
  refine zO_aload_n dX12_sumOf_38 rfl (zR_P _) ?_
  refine zO_aload_n dX12_sumOf_39 rfl (zR_P _) ?_
  refine gt12 (k := 18) (v := zI (D 91 18)) dX12_sumOf_40 wF_X12_246 (by decide) (gk_91 hG) rfl ?_
  refine zO_callV (Y' := YX12_codeAt) (cw := zcI F n sl) (as := [zI (D 91 18)]) (rest := []) (na := 1) (ci := 12) rfl dX12_sumOf_43 wC_X12_codeAt wN_X12 wM_X12_249 wI_X12_codeAt wV_X12_codeAt (by decide) (by decide) rfl rfl (Nat.le_of_ble_eq_true rfl) rfl (by decide) (gk_91 hG) (fun r hr => zMet_cast (Nat.add_assoc d 2 0) (mX12_codeAt (d := d + 2) hG (D 91 18) r hr)) ?_
  rintro ⟨r_7, D_8⟩ -
  show zO _ _ _ _ _ _ [zI r_7] (F, D_8, n, sl) _ _
  refine zO_bipush dX12_sumOf_46 (by decide) ?_
  refine zO_callS (Y' := YX12_sign) (cw := zcI F n sl) (as := [zI 43]) (rest := [zI r_7]) (na := 1) dX12_sumOf_48 wC_X12_sign wN_X12 wM_X12_221 wS_X12_sign (by decide) (by decide) rfl rfl (Nat.le_of_ble_eq_true rfl) (fun r hr => zMet_cast (Nat.add_assoc d 2 0) (mX12_sign (d := d + 2) hG 43 r hr)) ?_
  rintro ⟨r_9, D_10⟩ -
  show zO _ _ _ _ _ _ [zI r_9, zI r_7] (F, D_10, n, sl) _ _
  refine zO_icmp_ne (tgt := 58) dX12_sumOf_51 rfl (fun c51 => ?_) (fun c51 => ?_)
  · refine zO_iconst dX12_sumOf_54 (by decide) ?_
    refine zO_goto (tgt := 59) dX12_sumOf_55 rfl ?_
    refine zO_live [0, 1, 2] ?_
    exact sX12_sumOf_59 hG rec hr0 hr1 hr2 o1 v2 1 _ hk_6 D_10
  · refine zO_iconst dX12_sumOf_58 (by decide) ?_
    refine zO_live [0, 1, 2] ?_
    exact sX12_sumOf_59 hG rec hr0 hr1 hr2 o1 v2 0 _ hk_6 D_10
set_option maxHeartbeats 20000000 in
theorem sX12_sumOf_6 {l : Launch} {E : zE} {d : Nat} {F : zFs} {n sl : Nat} (hG : zG F) (rec : Nat → Int → Int → zDa → Option (Int × zDa)) (hr0 : ∀ (a b : Int) (D : zDa) r, rec 0 a b D = some r → zMet l E (d + 2) YX12_sumOf [zR 91, zI a] (F, D, n, sl) (zcJ F n sl r)) (hr1 : ∀ (a b : Int) (D : zDa) r, rec 1 a b D = some r → zMet l E (d + 2) YX12_termOf [zR 91, zI a] (F, D, n, sl) (zcJ F n sl r)) (hr2 : ∀ (a b : Int) (D : zDa) r, rec 2 a b D = some r → zMet l E (d + 2) YX12_partOf [zR 91, zI a] (F, D, n, sl) (zcJ F n sl r))  (o1 : Int)   : ∀ (N : Nat) (v2 : Int) (D : zDa), zO l E (d + 3) YX12_sumOf 6 [(0, zR 91), (1, zI o1), (2, zL v2)] [] (F, D, n, sl) (zcJ F n sl) (zfix (fun _ _ => none) (fX12_sumOf_6 F rec o1) N v2 D) := by
  intro N
  induction N with
  | zero => intro v2 D; exact zO_none
  | succ N hk_6 =>
    intro v2 D
    show zO _ _ _ _ _ _ _ _ _ ((fX12_sumOf_6 F rec o1) (zfix (fun _ _ => none) (fX12_sumOf_6 F rec o1) N) v2 D)
    unfold fX12_sumOf_6
    refine zO_aload_n dX12_sumOf_6 rfl (zR_P _) ?_
    refine zO_aload_n dX12_sumOf_7 rfl (zR_P _) ?_
    refine gt12 (k := 18) (v := zI (D 91 18)) dX12_sumOf_8 wF_X12_246 (by decide) (gk_91 hG) rfl ?_
    refine zO_callV (Y' := YX12_codeAt) (cw := zcI F n sl) (as := [zI (D 91 18)]) (rest := []) (na := 1) (ci := 12) rfl dX12_sumOf_11 wC_X12_codeAt wN_X12 wM_X12_249 wI_X12_codeAt wV_X12_codeAt (by decide) (by decide) rfl rfl (Nat.le_of_ble_eq_true rfl) rfl (by decide) (gk_91 hG) (fun r hr => zMet_cast (Nat.add_assoc d 2 0) (mX12_codeAt (d := d + 2) hG (D 91 18) r hr)) ?_
    rintro ⟨r_3, D_4⟩ -
    show zO _ _ _ _ _ _ [zI r_3] (F, D_4, n, sl) _ _
    refine zO_bipush dX12_sumOf_14 (by decide) ?_
    refine zO_callS (Y' := YX12_sign) (cw := zcI F n sl) (as := [zI 43]) (rest := [zI r_3]) (na := 1) dX12_sumOf_16 wC_X12_sign wN_X12 wM_X12_221 wS_X12_sign (by decide) (by decide) rfl rfl (Nat.le_of_ble_eq_true rfl) (fun r hr => zMet_cast (Nat.add_assoc d 2 0) (mX12_sign (d := d + 2) hG 43 r hr)) ?_
    rintro ⟨r_5, D_6⟩ -
    show zO _ _ _ _ _ _ [zI r_5, zI r_3] (F, D_6, n, sl) _ _
    refine zO_icmp_eq (tgt := 38) dX12_sumOf_19 rfl (fun c19 => ?_) (fun c19 => ?_)
    · refine zO_live [0, 1, 2] ?_
      exact sX12_sumOf_38 hG rec hr0 hr1 hr2 o1 v2 _ hk_6 D_6
    · refine zO_aload_n dX12_sumOf_22 rfl (zR_P _) ?_
      refine zO_aload_n dX12_sumOf_23 rfl (zR_P _) ?_
      refine gt12 (k := 18) (v := zI (D_6 91 18)) dX12_sumOf_24 wF_X12_246 (by decide) (gk_91 hG) rfl ?_
      refine zO_callV (Y' := YX12_codeAt) (cw := zcI F n sl) (as := [zI (D_6 91 18)]) (rest := []) (na := 1) (ci := 12) rfl dX12_sumOf_27 wC_X12_codeAt wN_X12 wM_X12_249 wI_X12_codeAt wV_X12_codeAt (by decide) (by decide) rfl rfl (Nat.le_of_ble_eq_true rfl) rfl (by decide) (gk_91 hG) (fun r hr => zMet_cast (Nat.add_assoc d 2 0) (mX12_codeAt (d := d + 2) hG (D_6 91 18) r hr)) ?_
      rintro ⟨r_16, D_17⟩ -
      show zO _ _ _ _ _ _ [zI r_16] (F, D_17, n, sl) _ _
      refine zO_bipush dX12_sumOf_30 (by decide) ?_
      refine zO_callS (Y' := YX12_sign) (cw := zcI F n sl) (as := [zI 45]) (rest := [zI r_16]) (na := 1) dX12_sumOf_32 wC_X12_sign wN_X12 wM_X12_221 wS_X12_sign (by decide) (by decide) rfl rfl (Nat.le_of_ble_eq_true rfl) (fun r hr => zMet_cast (Nat.add_assoc d 2 0) (mX12_sign (d := d + 2) hG 45 r hr)) ?_
      rintro ⟨r_18, D_19⟩ -
      show zO _ _ _ _ _ _ [zI r_18, zI r_16] (F, D_19, n, sl) _ _
      refine zO_icmp_ne (tgt := 103) dX12_sumOf_35 rfl (fun c35 => ?_) (fun c35 => ?_)
      · refine zO_live [0, 1, 2] ?_
        exact sX12_sumOf_38 hG rec hr0 hr1 hr2 o1 v2 _ hk_6 D_19
      · refine zO_lload_n dX12_sumOf_103 rfl ?_
        exact zO_ret (rv := some (zL v2)) dX12_sumOf_104 rfl trivial rfl
set_option maxHeartbeats 20000000 in
theorem mbX12_sumOf {l : Launch} {E : zE} {d : Nat} {F : zFs} {n sl : Nat} (hG : zG F) (rec : Nat → Int → Int → zDa → Option (Int × zDa)) (hr0 : ∀ (a b : Int) (D : zDa) r, rec 0 a b D = some r → zMet l E (d + 2) YX12_sumOf [zR 91, zI a] (F, D, n, sl) (zcJ F n sl r)) (hr1 : ∀ (a b : Int) (D : zDa) r, rec 1 a b D = some r → zMet l E (d + 2) YX12_termOf [zR 91, zI a] (F, D, n, sl) (zcJ F n sl r)) (hr2 : ∀ (a b : Int) (D : zDa) r, rec 2 a b D = some r → zMet l E (d + 2) YX12_partOf [zR 91, zI a] (F, D, n, sl) (zcJ F n sl r)) (v1 : Int) {D : zDa} : ∀ r, bX12_sumOf F rec v1 D = some r → zMet l E (d + 3) YX12_sumOf [zR 91, zI v1] (F, D, n, sl) (zcJ F n sl r) := by
  intro r hr
  refine zMet_of (plainFor_of_name (by decide)) (fun _ h => (nomatch h)) (Nat.le_of_ble_eq_true rfl) ?_
  have hz : zO l E (d + 3) YX12_sumOf 0 [(0, zR 91), (1, zI v1)] [] (F, D, n, sl) (zcJ F n sl) (bX12_sumOf F rec v1 D) := by
    unfold bX12_sumOf
    refine zO_aload_n dX12_sumOf_0 rfl (zR_P _) ?_
    refine zO_iload_n dX12_sumOf_1 rfl ?_
    refine zO_callV (Y' := YX12_termOf) (cw := zcJ F n sl) (as := [zI v1]) (rest := []) (na := 1) (ci := 12) rfl dX12_sumOf_2 wC_X12_termOf wN_X12 wM_X12_260 wI_X12_termOf wV_X12_termOf (by decide) (by decide) rfl rfl (Nat.le_of_ble_eq_true rfl) rfl (by decide) (gk_91 hG) (fun r hr => hr1 v1 0 _ r hr) ?_
    rintro ⟨r_1, D_2⟩ -
    show zO _ _ _ _ _ _ [zL r_1] (F, D_2, n, sl) _ _
    refine zO_lstore_n dX12_sumOf_5 (by decide) ?_
    refine zO_ls (ls' := [(0, zR 91), (1, zI v1), (2, zL r_1)]) rfl ?_
    refine zO_live [0, 1, 2] ?_
    exact sX12_sumOf_6 hG rec hr0 hr1 hr2 v1 zfu r_1 D_2
  exact hz r hr
def fX12_termOf_130 (F : zFs) (rec : Nat → Int → Int → zDa → Option (Int × zDa)) (k_6 : Int → zDa → Option (Int × zDa)) (o1 : Int) (s0 : Int) (D : zDa) : Option (Int × zDa) :=
  (fX12_bounded F s0 o1 D).bind (fun (r_15, D_16) =>
    k_6 r_15 D_16)
def fX12_termOf_113 (F : zFs) (rec : Nat → Int → Int → zDa → Option (Int × zDa)) (k_6 : Int → zDa → Option (Int × zDa)) (o1 : Int) (v2 : Int) (v4 : Int) (v5 : Int) (D : zDa) : Option (Int × zDa) :=
  if v4 = 0 then
    if (v5 ≠ 0) ∧ (¬ (v2 = -9223372036854775808 ∧ v5 = -1)) then
      fX12_termOf_130 F rec k_6 o1 (Int.tdiv v2 v5) D
    else none
  else
    if (-9223372036854775808 ≤ v2 * v5 ∧ v2 * v5 ≤ 9223372036854775807) then
      fX12_termOf_130 F rec k_6 o1 (v2 * v5) D
    else none
def fX12_termOf_107 (F : zFs) (rec : Nat → Int → Int → zDa → Option (Int × zDa)) (k_6 : Int → zDa → Option (Int × zDa)) (o1 : Int) (v2 : Int) (v4 : Int) (s0 : Int) (D : zDa) : Option (Int × zDa) :=
  if (s0 = 0 ∨ s0 = 1) then
    zlet (zwr D 91 20 s0) (fun D_14 =>
      fX12_termOf_113 F rec k_6 o1 v2 v4 1 D_14)
  else none
def fX12_termOf_102 (F : zFs) (rec : Nat → Int → Int → zDa → Option (Int × zDa)) (k_6 : Int → zDa → Option (Int × zDa)) (o1 : Int) (v2 : Int) (v4 : Int) (D : zDa) : Option (Int × zDa) :=
  fX12_termOf_107 F rec k_6 o1 v2 v4 1 D
def fX12_termOf_59 (F : zFs) (rec : Nat → Int → Int → zDa → Option (Int × zDa)) (k_6 : Int → zDa → Option (Int × zDa)) (o1 : Int) (v2 : Int) (s0 : Int) (D : zDa) : Option (Int × zDa) :=
  if (-2147483648 ≤ (D 91 18) + 1 ∧ (D 91 18) + 1 ≤ 2147483647) then
    zlet (zwr D 91 18 ((D 91 18) + 1)) (fun D_11 =>
      (rec 2 o1 0 D_11).bind (fun (r_12, D_13) =>
        if s0 = 0 then
          if r_12 = 0 then
            if (D_13 91 20) = 0 then
              if o1 = 0 then
                fX12_termOf_107 F rec k_6 o1 v2 s0 0 D_13
              else
                fX12_termOf_102 F rec k_6 o1 v2 s0 D_13
            else
              fX12_termOf_102 F rec k_6 o1 v2 s0 D_13
          else
            fX12_termOf_113 F rec k_6 o1 v2 s0 r_12 D_13
        else
          fX12_termOf_113 F rec k_6 o1 v2 s0 r_12 D_13))
  else none
def fX12_termOf_38 (F : zFs) (rec : Nat → Int → Int → zDa → Option (Int × zDa)) (k_6 : Int → zDa → Option (Int × zDa)) (o1 : Int) (v2 : Int) (D : zDa) : Option (Int × zDa) :=
  (fX12_codeAt F (D 91 18) D).bind (fun (r_7, D_8) =>
    (fX12_sign F 42 D_8).bind (fun (r_9, D_10) =>
      if r_7 = r_9 then
        fX12_termOf_59 F rec k_6 o1 v2 1 D_10
      else
        fX12_termOf_59 F rec k_6 o1 v2 0 D_10))
def fX12_termOf_6 (F : zFs) (rec : Nat → Int → Int → zDa → Option (Int × zDa)) (o1 : Int)  (k_6 : Int → zDa → Option (Int × zDa)) (v2 : Int) (D : zDa) : Option (Int × zDa) :=
  (fX12_codeAt F (D 91 18) D).bind (fun (r_3, D_4) =>
    (fX12_sign F 42 D_4).bind (fun (r_5, D_6) =>
      if r_3 = r_5 then
        fX12_termOf_38 F rec k_6 o1 v2 D_6
      else
        (fX12_codeAt F (D_6 91 18) D_6).bind (fun (r_17, D_18) =>
          (fX12_sign F 47 D_18).bind (fun (r_19, D_20) =>
            if r_17 = r_19 then
              fX12_termOf_38 F rec k_6 o1 v2 D_20
            else
              some (v2, D_20)))))
def bX12_termOf (F : zFs) (rec : Nat → Int → Int → zDa → Option (Int × zDa)) (v1 : Int) (D : zDa) : Option (Int × zDa) :=
  (rec 2 v1 0 D).bind (fun (r_1, D_2) =>
    zfix (fun _ _ => none) (fX12_termOf_6 F rec v1) zfu r_1 D_2)
set_option maxHeartbeats 20000000 in
theorem sX12_termOf_130 {l : Launch} {E : zE} {d : Nat} {F : zFs} {n sl : Nat} (hG : zG F) (rec : Nat → Int → Int → zDa → Option (Int × zDa)) (hr0 : ∀ (a b : Int) (D : zDa) r, rec 0 a b D = some r → zMet l E (d + 2) YX12_sumOf [zR 91, zI a] (F, D, n, sl) (zcJ F n sl r)) (hr1 : ∀ (a b : Int) (D : zDa) r, rec 1 a b D = some r → zMet l E (d + 2) YX12_termOf [zR 91, zI a] (F, D, n, sl) (zcJ F n sl r)) (hr2 : ∀ (a b : Int) (D : zDa) r, rec 2 a b D = some r → zMet l E (d + 2) YX12_partOf [zR 91, zI a] (F, D, n, sl) (zcJ F n sl r))  (o1 : Int) (s0 : Int) (k_6 : Int → zDa → Option (Int × zDa)) (hk_6 : ∀ (u2 : Int) (D : zDa), zO l E (d + 3) YX12_termOf 6 [(0, zR 91), (1, zI o1), (2, zL u2)] [] (F, D, n, sl) (zcJ F n sl) (k_6 u2 D)) (D : zDa) : zO l E (d + 3) YX12_termOf 130 [(0, zR 91), (1, zI o1)] [zL s0, zR 91] (F, D, n, sl) (zcJ F n sl) (fX12_termOf_130 F rec k_6 o1 s0 D) := by
  unfold fX12_termOf_130
  refine zO_iload_n dX12_termOf_130 rfl ?_
  refine zO_callV (Y' := YX12_bounded) (cw := zcJ F n sl) (as := [zL s0, zI o1]) (rest := []) (na := 2) (ci := 12) rfl dX12_termOf_131 wC_X12_bounded wN_X12 wM_X12_264 wI_X12_bounded wV_X12_bounded (by decide) (by decide) rfl rfl (Nat.le_of_ble_eq_true rfl) rfl (by decide) (gk_91 hG) (fun r hr => zMet_cast (Nat.add_assoc d 2 0) (mX12_bounded (d := d + 2) hG s0 o1 r hr)) ?_
  rintro ⟨r_15, D_16⟩ -
  show zO _ _ _ _ _ _ [zL r_15] (F, D_16, n, sl) _ _
  refine zO_lstore_n dX12_termOf_134 (by decide) ?_
  refine zO_ls (ls' := [(0, zR 91), (1, zI o1), (2, zL r_15)]) rfl ?_
  refine zO_goto (tgt := 6) dX12_termOf_135 rfl ?_
  refine zO_live [0, 1, 2] ?_
  exact hk_6 r_15 D_16
set_option maxHeartbeats 20000000 in
theorem sX12_termOf_113 {l : Launch} {E : zE} {d : Nat} {F : zFs} {n sl : Nat} (hG : zG F) (rec : Nat → Int → Int → zDa → Option (Int × zDa)) (hr0 : ∀ (a b : Int) (D : zDa) r, rec 0 a b D = some r → zMet l E (d + 2) YX12_sumOf [zR 91, zI a] (F, D, n, sl) (zcJ F n sl r)) (hr1 : ∀ (a b : Int) (D : zDa) r, rec 1 a b D = some r → zMet l E (d + 2) YX12_termOf [zR 91, zI a] (F, D, n, sl) (zcJ F n sl r)) (hr2 : ∀ (a b : Int) (D : zDa) r, rec 2 a b D = some r → zMet l E (d + 2) YX12_partOf [zR 91, zI a] (F, D, n, sl) (zcJ F n sl r))  (o1 : Int) (v2 : Int) (v4 : Int) (v5 : Int) (k_6 : Int → zDa → Option (Int × zDa)) (hk_6 : ∀ (u2 : Int) (D : zDa), zO l E (d + 3) YX12_termOf 6 [(0, zR 91), (1, zI o1), (2, zL u2)] [] (F, D, n, sl) (zcJ F n sl) (k_6 u2 D)) (D : zDa) : zO l E (d + 3) YX12_termOf 113 [(0, zR 91), (1, zI o1), (2, zL v2), (4, zI v4), (5, zL v5)] [] (F, D, n, sl) (zcJ F n sl) (fX12_termOf_113 F rec k_6 o1 v2 v4 v5 D) := by
  unfold fX12_termOf_113
  refine zO_aload_n dX12_termOf_113 rfl (zR_P _) ?_
  refine zO_iload dX12_termOf_114 rfl ?_
  refine zO_if_eq (tgt := 126) dX12_termOf_116 rfl (fun c116 => ?_) (fun c116 => ?_)
  · refine zO_chk (fun h3 => ?_)
    refine zO_lload_n dX12_termOf_126 rfl ?_
    refine zO_lload dX12_termOf_127 rfl ?_
    refine zO_ldiv dX12_termOf_129 h3.1 h3.2 ?_
    refine zO_live [0, 1] ?_
    exact sX12_termOf_130 hG rec hr0 hr1 hr2 o1 (Int.tdiv v2 v5) _ hk_6 D
  · refine zO_chk (fun h4 => ?_)
    refine zO_lload_n dX12_termOf_119 rfl ?_
    refine zO_lload dX12_termOf_120 rfl ?_
    refine zO_lmul dX12_termOf_122 h4 ?_
    refine zO_goto (tgt := 130) dX12_termOf_123 rfl ?_
    refine zO_live [0, 1] ?_
    exact sX12_termOf_130 hG rec hr0 hr1 hr2 o1 (v2 * v5) _ hk_6 D
set_option maxHeartbeats 20000000 in
theorem sX12_termOf_107 {l : Launch} {E : zE} {d : Nat} {F : zFs} {n sl : Nat} (hG : zG F) (rec : Nat → Int → Int → zDa → Option (Int × zDa)) (hr0 : ∀ (a b : Int) (D : zDa) r, rec 0 a b D = some r → zMet l E (d + 2) YX12_sumOf [zR 91, zI a] (F, D, n, sl) (zcJ F n sl r)) (hr1 : ∀ (a b : Int) (D : zDa) r, rec 1 a b D = some r → zMet l E (d + 2) YX12_termOf [zR 91, zI a] (F, D, n, sl) (zcJ F n sl r)) (hr2 : ∀ (a b : Int) (D : zDa) r, rec 2 a b D = some r → zMet l E (d + 2) YX12_partOf [zR 91, zI a] (F, D, n, sl) (zcJ F n sl r))  (o1 : Int) (v2 : Int) (v4 : Int) (s0 : Int) (k_6 : Int → zDa → Option (Int × zDa)) (hk_6 : ∀ (u2 : Int) (D : zDa), zO l E (d + 3) YX12_termOf 6 [(0, zR 91), (1, zI o1), (2, zL u2)] [] (F, D, n, sl) (zcJ F n sl) (k_6 u2 D)) (D : zDa) : zO l E (d + 3) YX12_termOf 107 [(0, zR 91), (1, zI o1), (2, zL v2), (4, zI v4)] [zI s0, zR 91] (F, D, n, sl) (zcJ F n sl) (fX12_termOf_107 F rec k_6 o1 v2 v4 s0 D) := by
  unfold fX12_termOf_107
  refine zO_chk (fun h2 => ?_)
  refine pt12 (k := 20) (z := s0) dX12_termOf_107 wF_X12_256 (by decide) rfl (gk_91 hG) rfl h2 ?_
  refine zO_letD (fun D_14 eD_14 => ?_)
  refine zO_lconst dX12_termOf_110 ?_
  refine zO_lstore dX12_termOf_111 (by decide) ?_
  refine zO_ls (ls' := [(0, zR 91), (1, zI o1), (2, zL v2), (4, zI v4), (5, zL 1)]) rfl ?_
  refine zO_live [0, 1, 2, 4, 5] ?_
  exact sX12_termOf_113 hG rec hr0 hr1 hr2 o1 v2 v4 1 _ hk_6 D_14
set_option maxHeartbeats 20000000 in
theorem sX12_termOf_102 {l : Launch} {E : zE} {d : Nat} {F : zFs} {n sl : Nat} (hG : zG F) (rec : Nat → Int → Int → zDa → Option (Int × zDa)) (hr0 : ∀ (a b : Int) (D : zDa) r, rec 0 a b D = some r → zMet l E (d + 2) YX12_sumOf [zR 91, zI a] (F, D, n, sl) (zcJ F n sl r)) (hr1 : ∀ (a b : Int) (D : zDa) r, rec 1 a b D = some r → zMet l E (d + 2) YX12_termOf [zR 91, zI a] (F, D, n, sl) (zcJ F n sl r)) (hr2 : ∀ (a b : Int) (D : zDa) r, rec 2 a b D = some r → zMet l E (d + 2) YX12_partOf [zR 91, zI a] (F, D, n, sl) (zcJ F n sl r))  (o1 : Int) (v2 : Int) (v4 : Int) (k_6 : Int → zDa → Option (Int × zDa)) (hk_6 : ∀ (u2 : Int) (D : zDa), zO l E (d + 3) YX12_termOf 6 [(0, zR 91), (1, zI o1), (2, zL u2)] [] (F, D, n, sl) (zcJ F n sl) (k_6 u2 D)) (D : zDa) : zO l E (d + 3) YX12_termOf 102 [(0, zR 91), (1, zI o1), (2, zL v2), (4, zI v4)] [zR 91] (F, D, n, sl) (zcJ F n sl) (fX12_termOf_102 F rec k_6 o1 v2 v4 D) := by
  unfold fX12_termOf_102
  refine zO_iconst dX12_termOf_102 (by decide) ?_
  refine zO_goto (tgt := 107) dX12_termOf_103 rfl ?_
  refine zO_live [0, 1, 2, 4] ?_
  exact sX12_termOf_107 hG rec hr0 hr1 hr2 o1 v2 v4 1 _ hk_6 D
set_option maxHeartbeats 20000000 in
theorem sX12_termOf_59 {l : Launch} {E : zE} {d : Nat} {F : zFs} {n sl : Nat} (hG : zG F) (rec : Nat → Int → Int → zDa → Option (Int × zDa)) (hr0 : ∀ (a b : Int) (D : zDa) r, rec 0 a b D = some r → zMet l E (d + 2) YX12_sumOf [zR 91, zI a] (F, D, n, sl) (zcJ F n sl r)) (hr1 : ∀ (a b : Int) (D : zDa) r, rec 1 a b D = some r → zMet l E (d + 2) YX12_termOf [zR 91, zI a] (F, D, n, sl) (zcJ F n sl r)) (hr2 : ∀ (a b : Int) (D : zDa) r, rec 2 a b D = some r → zMet l E (d + 2) YX12_partOf [zR 91, zI a] (F, D, n, sl) (zcJ F n sl r))  (o1 : Int) (v2 : Int) (s0 : Int) (k_6 : Int → zDa → Option (Int × zDa)) (hk_6 : ∀ (u2 : Int) (D : zDa), zO l E (d + 3) YX12_termOf 6 [(0, zR 91), (1, zI o1), (2, zL u2)] [] (F, D, n, sl) (zcJ F n sl) (k_6 u2 D)) (D : zDa) : zO l E (d + 3) YX12_termOf 59 [(0, zR 91), (1, zI o1), (2, zL v2)] [zI s0] (F, D, n, sl) (zcJ F n sl) (fX12_termOf_59 F rec k_6 o1 v2 s0 D) := by
  unfold fX12_termOf_59
  refine zO_chk (fun h1 => ?_)
  refine zO_istore dX12_termOf_59 (by decide) ?_
  refine zO_ls (ls' := [(0, zR 91), (1, zI o1), (2, zL v2), (4, zI s0)]) rfl ?_
  refine zO_aload_n dX12_termOf_61 rfl (zR_P _) ?_
  refine zO_dup dX12_termOf_62 (rfl) ?_
  refine gt12 (k := 18) (v := zI (D 91 18)) dX12_termOf_63 wF_X12_246 (by decide) (gk_91 hG) rfl ?_
  refine zO_iconst dX12_termOf_66 (by decide) ?_
  refine zO_iadd dX12_termOf_67 h1 ?_
  refine ptI12 (k := 18) (z := ((D 91 18) + 1)) dX12_termOf_68 wF_X12_246 (by decide) rfl (gk_91 hG) rfl ?_
  refine zO_letD (fun D_11 eD_11 => ?_)
  refine zO_aload_n dX12_termOf_71 rfl (zR_P _) ?_
  refine zO_iload_n dX12_termOf_72 rfl ?_
  refine zO_callV (Y' := YX12_partOf) (cw := zcJ F n sl) (as := [zI o1]) (rest := []) (na := 1) (ci := 12) rfl dX12_termOf_73 wC_X12_partOf wN_X12 wM_X12_268 wI_X12_partOf wV_X12_partOf (by decide) (by decide) rfl rfl (Nat.le_of_ble_eq_true rfl) rfl (by decide) (gk_91 hG) (fun r hr => hr2 o1 0 _ r hr) ?_
  rintro ⟨r_12, D_13⟩ -
  show zO _ _ _ _ _ _ [zL r_12] (F, D_13, n, sl) _ _
  refine zO_lstore dX12_termOf_76 (by decide) ?_
  refine zO_ls (ls' := [(0, zR 91), (1, zI o1), (2, zL v2), (4, zI s0), (5, zL r_12)]) rfl ?_
  refine zO_iload dX12_termOf_78 rfl ?_
  refine zO_if_ne (tgt := 113) dX12_termOf_80 rfl (fun c80 => ?_) (fun c80 => ?_)
  · refine zO_lload dX12_termOf_83 rfl ?_
    refine zO_lconst dX12_termOf_85 ?_
    refine zO_lif_ne (tgt := 113) dX12_termOf_86 dX12_termOf_87 rfl (fun c86 => ?_) (fun c86 => ?_)
    · refine zO_aload_n dX12_termOf_90 rfl (zR_P _) ?_
      refine zO_aload_n dX12_termOf_91 rfl (zR_P _) ?_
      refine gt12 (k := 20) (v := zI (D_13 91 20)) dX12_termOf_92 wF_X12_256 (by decide) (gk_91 hG) rfl ?_
      refine zO_if_ne (tgt := 102) dX12_termOf_95 rfl (fun c95 => ?_) (fun c95 => ?_)
      · refine zO_iload_n dX12_termOf_98 rfl ?_
        refine zO_if_eq (tgt := 106) dX12_termOf_99 rfl (fun c99 => ?_) (fun c99 => ?_)
        · refine zO_iconst dX12_termOf_106 (by decide) ?_
          refine zO_live [0, 1, 2, 4] ?_
          exact sX12_termOf_107 hG rec hr0 hr1 hr2 o1 v2 s0 0 _ hk_6 D_13
        · refine zO_live [0, 1, 2, 4] ?_
          exact sX12_termOf_102 hG rec hr0 hr1 hr2 o1 v2 s0 _ hk_6 D_13
      · refine zO_live [0, 1, 2, 4] ?_
        exact sX12_termOf_102 hG rec hr0 hr1 hr2 o1 v2 s0 _ hk_6 D_13
    · refine zO_live [0, 1, 2, 4, 5] ?_
      exact sX12_termOf_113 hG rec hr0 hr1 hr2 o1 v2 s0 r_12 _ hk_6 D_13
  · refine zO_live [0, 1, 2, 4, 5] ?_
    exact sX12_termOf_113 hG rec hr0 hr1 hr2 o1 v2 s0 r_12 _ hk_6 D_13
set_option maxHeartbeats 20000000 in
theorem sX12_termOf_38 {l : Launch} {E : zE} {d : Nat} {F : zFs} {n sl : Nat} (hG : zG F) (rec : Nat → Int → Int → zDa → Option (Int × zDa)) (hr0 : ∀ (a b : Int) (D : zDa) r, rec 0 a b D = some r → zMet l E (d + 2) YX12_sumOf [zR 91, zI a] (F, D, n, sl) (zcJ F n sl r)) (hr1 : ∀ (a b : Int) (D : zDa) r, rec 1 a b D = some r → zMet l E (d + 2) YX12_termOf [zR 91, zI a] (F, D, n, sl) (zcJ F n sl r)) (hr2 : ∀ (a b : Int) (D : zDa) r, rec 2 a b D = some r → zMet l E (d + 2) YX12_partOf [zR 91, zI a] (F, D, n, sl) (zcJ F n sl r))  (o1 : Int) (v2 : Int) (k_6 : Int → zDa → Option (Int × zDa)) (hk_6 : ∀ (u2 : Int) (D : zDa), zO l E (d + 3) YX12_termOf 6 [(0, zR 91), (1, zI o1), (2, zL u2)] [] (F, D, n, sl) (zcJ F n sl) (k_6 u2 D)) (D : zDa) : zO l E (d + 3) YX12_termOf 38 [(0, zR 91), (1, zI o1), (2, zL v2)] [] (F, D, n, sl) (zcJ F n sl) (fX12_termOf_38 F rec k_6 o1 v2 D) := by
  unfold fX12_termOf_38
  refine zO_aload_n dX12_termOf_38 rfl (zR_P _) ?_
  refine zO_aload_n dX12_termOf_39 rfl (zR_P _) ?_
  refine gt12 (k := 18) (v := zI (D 91 18)) dX12_termOf_40 wF_X12_246 (by decide) (gk_91 hG) rfl ?_
  refine zO_callV (Y' := YX12_codeAt) (cw := zcI F n sl) (as := [zI (D 91 18)]) (rest := []) (na := 1) (ci := 12) rfl dX12_termOf_43 wC_X12_codeAt wN_X12 wM_X12_249 wI_X12_codeAt wV_X12_codeAt (by decide) (by decide) rfl rfl (Nat.le_of_ble_eq_true rfl) rfl (by decide) (gk_91 hG) (fun r hr => zMet_cast (Nat.add_assoc d 2 0) (mX12_codeAt (d := d + 2) hG (D 91 18) r hr)) ?_
  rintro ⟨r_7, D_8⟩ -
  show zO _ _ _ _ _ _ [zI r_7] (F, D_8, n, sl) _ _
  refine zO_bipush dX12_termOf_46 (by decide) ?_
  refine zO_callS (Y' := YX12_sign) (cw := zcI F n sl) (as := [zI 42]) (rest := [zI r_7]) (na := 1) dX12_termOf_48 wC_X12_sign wN_X12 wM_X12_221 wS_X12_sign (by decide) (by decide) rfl rfl (Nat.le_of_ble_eq_true rfl) (fun r hr => zMet_cast (Nat.add_assoc d 2 0) (mX12_sign (d := d + 2) hG 42 r hr)) ?_
  rintro ⟨r_9, D_10⟩ -
  show zO _ _ _ _ _ _ [zI r_9, zI r_7] (F, D_10, n, sl) _ _
  refine zO_icmp_ne (tgt := 58) dX12_termOf_51 rfl (fun c51 => ?_) (fun c51 => ?_)
  · refine zO_iconst dX12_termOf_54 (by decide) ?_
    refine zO_goto (tgt := 59) dX12_termOf_55 rfl ?_
    refine zO_live [0, 1, 2] ?_
    exact sX12_termOf_59 hG rec hr0 hr1 hr2 o1 v2 1 _ hk_6 D_10
  · refine zO_iconst dX12_termOf_58 (by decide) ?_
    refine zO_live [0, 1, 2] ?_
    exact sX12_termOf_59 hG rec hr0 hr1 hr2 o1 v2 0 _ hk_6 D_10
set_option maxHeartbeats 20000000 in
theorem sX12_termOf_6 {l : Launch} {E : zE} {d : Nat} {F : zFs} {n sl : Nat} (hG : zG F) (rec : Nat → Int → Int → zDa → Option (Int × zDa)) (hr0 : ∀ (a b : Int) (D : zDa) r, rec 0 a b D = some r → zMet l E (d + 2) YX12_sumOf [zR 91, zI a] (F, D, n, sl) (zcJ F n sl r)) (hr1 : ∀ (a b : Int) (D : zDa) r, rec 1 a b D = some r → zMet l E (d + 2) YX12_termOf [zR 91, zI a] (F, D, n, sl) (zcJ F n sl r)) (hr2 : ∀ (a b : Int) (D : zDa) r, rec 2 a b D = some r → zMet l E (d + 2) YX12_partOf [zR 91, zI a] (F, D, n, sl) (zcJ F n sl r))  (o1 : Int)   : ∀ (N : Nat) (v2 : Int) (D : zDa), zO l E (d + 3) YX12_termOf 6 [(0, zR 91), (1, zI o1), (2, zL v2)] [] (F, D, n, sl) (zcJ F n sl) (zfix (fun _ _ => none) (fX12_termOf_6 F rec o1) N v2 D) := by
  intro N
  induction N with
  | zero => intro v2 D; exact zO_none
  | succ N hk_6 =>
    intro v2 D
    show zO _ _ _ _ _ _ _ _ _ ((fX12_termOf_6 F rec o1) (zfix (fun _ _ => none) (fX12_termOf_6 F rec o1) N) v2 D)
    unfold fX12_termOf_6
    refine zO_aload_n dX12_termOf_6 rfl (zR_P _) ?_
    refine zO_aload_n dX12_termOf_7 rfl (zR_P _) ?_
    refine gt12 (k := 18) (v := zI (D 91 18)) dX12_termOf_8 wF_X12_246 (by decide) (gk_91 hG) rfl ?_
    refine zO_callV (Y' := YX12_codeAt) (cw := zcI F n sl) (as := [zI (D 91 18)]) (rest := []) (na := 1) (ci := 12) rfl dX12_termOf_11 wC_X12_codeAt wN_X12 wM_X12_249 wI_X12_codeAt wV_X12_codeAt (by decide) (by decide) rfl rfl (Nat.le_of_ble_eq_true rfl) rfl (by decide) (gk_91 hG) (fun r hr => zMet_cast (Nat.add_assoc d 2 0) (mX12_codeAt (d := d + 2) hG (D 91 18) r hr)) ?_
    rintro ⟨r_3, D_4⟩ -
    show zO _ _ _ _ _ _ [zI r_3] (F, D_4, n, sl) _ _
    refine zO_bipush dX12_termOf_14 (by decide) ?_
    refine zO_callS (Y' := YX12_sign) (cw := zcI F n sl) (as := [zI 42]) (rest := [zI r_3]) (na := 1) dX12_termOf_16 wC_X12_sign wN_X12 wM_X12_221 wS_X12_sign (by decide) (by decide) rfl rfl (Nat.le_of_ble_eq_true rfl) (fun r hr => zMet_cast (Nat.add_assoc d 2 0) (mX12_sign (d := d + 2) hG 42 r hr)) ?_
    rintro ⟨r_5, D_6⟩ -
    show zO _ _ _ _ _ _ [zI r_5, zI r_3] (F, D_6, n, sl) _ _
    refine zO_icmp_eq (tgt := 38) dX12_termOf_19 rfl (fun c19 => ?_) (fun c19 => ?_)
    · refine zO_live [0, 1, 2] ?_
      exact sX12_termOf_38 hG rec hr0 hr1 hr2 o1 v2 _ hk_6 D_6
    · refine zO_aload_n dX12_termOf_22 rfl (zR_P _) ?_
      refine zO_aload_n dX12_termOf_23 rfl (zR_P _) ?_
      refine gt12 (k := 18) (v := zI (D_6 91 18)) dX12_termOf_24 wF_X12_246 (by decide) (gk_91 hG) rfl ?_
      refine zO_callV (Y' := YX12_codeAt) (cw := zcI F n sl) (as := [zI (D_6 91 18)]) (rest := []) (na := 1) (ci := 12) rfl dX12_termOf_27 wC_X12_codeAt wN_X12 wM_X12_249 wI_X12_codeAt wV_X12_codeAt (by decide) (by decide) rfl rfl (Nat.le_of_ble_eq_true rfl) rfl (by decide) (gk_91 hG) (fun r hr => zMet_cast (Nat.add_assoc d 2 0) (mX12_codeAt (d := d + 2) hG (D_6 91 18) r hr)) ?_
      rintro ⟨r_17, D_18⟩ -
      show zO _ _ _ _ _ _ [zI r_17] (F, D_18, n, sl) _ _
      refine zO_bipush dX12_termOf_30 (by decide) ?_
      refine zO_callS (Y' := YX12_sign) (cw := zcI F n sl) (as := [zI 47]) (rest := [zI r_17]) (na := 1) dX12_termOf_32 wC_X12_sign wN_X12 wM_X12_221 wS_X12_sign (by decide) (by decide) rfl rfl (Nat.le_of_ble_eq_true rfl) (fun r hr => zMet_cast (Nat.add_assoc d 2 0) (mX12_sign (d := d + 2) hG 47 r hr)) ?_
      rintro ⟨r_19, D_20⟩ -
      show zO _ _ _ _ _ _ [zI r_19, zI r_17] (F, D_20, n, sl) _ _
      refine zO_icmp_ne (tgt := 138) dX12_termOf_35 rfl (fun c35 => ?_) (fun c35 => ?_)
      · refine zO_live [0, 1, 2] ?_
        exact sX12_termOf_38 hG rec hr0 hr1 hr2 o1 v2 _ hk_6 D_20
      · refine zO_lload_n dX12_termOf_138 rfl ?_
        exact zO_ret (rv := some (zL v2)) dX12_termOf_139 rfl trivial rfl
set_option maxHeartbeats 20000000 in
theorem mbX12_termOf {l : Launch} {E : zE} {d : Nat} {F : zFs} {n sl : Nat} (hG : zG F) (rec : Nat → Int → Int → zDa → Option (Int × zDa)) (hr0 : ∀ (a b : Int) (D : zDa) r, rec 0 a b D = some r → zMet l E (d + 2) YX12_sumOf [zR 91, zI a] (F, D, n, sl) (zcJ F n sl r)) (hr1 : ∀ (a b : Int) (D : zDa) r, rec 1 a b D = some r → zMet l E (d + 2) YX12_termOf [zR 91, zI a] (F, D, n, sl) (zcJ F n sl r)) (hr2 : ∀ (a b : Int) (D : zDa) r, rec 2 a b D = some r → zMet l E (d + 2) YX12_partOf [zR 91, zI a] (F, D, n, sl) (zcJ F n sl r)) (v1 : Int) {D : zDa} : ∀ r, bX12_termOf F rec v1 D = some r → zMet l E (d + 3) YX12_termOf [zR 91, zI v1] (F, D, n, sl) (zcJ F n sl r) := by
  intro r hr
  refine zMet_of (plainFor_of_name (by decide)) (fun _ h => (nomatch h)) (Nat.le_of_ble_eq_true rfl) ?_
  have hz : zO l E (d + 3) YX12_termOf 0 [(0, zR 91), (1, zI v1)] [] (F, D, n, sl) (zcJ F n sl) (bX12_termOf F rec v1 D) := by
    unfold bX12_termOf
    refine zO_aload_n dX12_termOf_0 rfl (zR_P _) ?_
    refine zO_iload_n dX12_termOf_1 rfl ?_
    refine zO_callV (Y' := YX12_partOf) (cw := zcJ F n sl) (as := [zI v1]) (rest := []) (na := 1) (ci := 12) rfl dX12_termOf_2 wC_X12_partOf wN_X12 wM_X12_268 wI_X12_partOf wV_X12_partOf (by decide) (by decide) rfl rfl (Nat.le_of_ble_eq_true rfl) rfl (by decide) (gk_91 hG) (fun r hr => hr2 v1 0 _ r hr) ?_
    rintro ⟨r_1, D_2⟩ -
    show zO _ _ _ _ _ _ [zL r_1] (F, D_2, n, sl) _ _
    refine zO_lstore_n dX12_termOf_5 (by decide) ?_
    refine zO_ls (ls' := [(0, zR 91), (1, zI v1), (2, zL r_1)]) rfl ?_
    refine zO_live [0, 1, 2] ?_
    exact sX12_termOf_6 hG rec hr0 hr1 hr2 v1 zfu r_1 D_2
  exact hz r hr
def bX12_partOf (F : zFs) (rec : Nat → Int → Int → zDa → Option (Int × zDa)) (v1 : Int) (D : zDa) : Option (Int × zDa) :=
  (fX12_sign F 91 D).bind (fun (r_1, D_2) =>
    (fX12_passes0 F r_1 D_2).bind (fun (r_3, D_4) =>
      if r_3 = 0 then
        (fX12_codeAt F (D_4 91 18) D_4).bind (fun (r_5, D_6) =>
          if (-2147483648 ≤ (D_6 91 18) + 1 ∧ (D_6 91 18) + 1 ≤ 2147483647) then
            zlet (zwr D_6 91 18 ((D_6 91 18) + 1)) (fun D_7 =>
              if v1 = 0 then
                some (0, D_7)
              else
                if (D_7 91 20) = 0 then
                  if r_5 = 50 then
                    if (-2147483648 ≤ 2801 + (D_7 91 18) ∧ 2801 + (D_7 91 18) ≤ 2147483647) ∧ (-2147483648 ≤ (2801 + (D_7 91 18)) - 1 ∧ (2801 + (D_7 91 18)) - 1 ≤ 2147483647) ∧ (0 ≤ ((2801 + (D_7 91 18)) - 1) ∧ ((2801 + (D_7 91 18)) - 1) < 5201) then
                      some ((D_7 93 ((2801 + (D_7 91 18)) - 1).toNat), D_7)
                    else none
                  else
                    if (-2147483648 ≤ r_5 - 8 ∧ r_5 - 8 ≤ 2147483647) ∧ (0 ≤ (r_5 - 8) ∧ (r_5 - 8) < 7) then
                      some ((D_7 102 (r_5 - 8).toNat), D_7)
                    else none
                else
                  some (0, D_7))
          else none)
      else
        (rec 0 v1 0 D_4).bind (fun (r_8, D_9) =>
          if (-2147483648 ≤ (D_9 91 18) + 1 ∧ (D_9 91 18) + 1 ≤ 2147483647) then
            zlet (zwr D_9 91 18 ((D_9 91 18) + 1)) (fun D_10 =>
              some (r_8, D_10))
          else none)))
set_option maxHeartbeats 20000000 in
theorem mbX12_partOf {l : Launch} {E : zE} {d : Nat} {F : zFs} {n sl : Nat} (hG : zG F) (rec : Nat → Int → Int → zDa → Option (Int × zDa)) (hr0 : ∀ (a b : Int) (D : zDa) r, rec 0 a b D = some r → zMet l E (d + 2) YX12_sumOf [zR 91, zI a] (F, D, n, sl) (zcJ F n sl r)) (hr1 : ∀ (a b : Int) (D : zDa) r, rec 1 a b D = some r → zMet l E (d + 2) YX12_termOf [zR 91, zI a] (F, D, n, sl) (zcJ F n sl r)) (hr2 : ∀ (a b : Int) (D : zDa) r, rec 2 a b D = some r → zMet l E (d + 2) YX12_partOf [zR 91, zI a] (F, D, n, sl) (zcJ F n sl r)) (v1 : Int) {D : zDa} : ∀ r, bX12_partOf F rec v1 D = some r → zMet l E (d + 3) YX12_partOf [zR 91, zI v1] (F, D, n, sl) (zcJ F n sl r) := by
  intro r hr
  refine zMet_of (plainFor_of_name (by decide)) (fun _ h => (nomatch h)) (Nat.le_of_ble_eq_true rfl) ?_
  have hz : zO l E (d + 3) YX12_partOf 0 [(0, zR 91), (1, zI v1)] [] (F, D, n, sl) (zcJ F n sl) (bX12_partOf F rec v1 D) := by
    unfold bX12_partOf
    refine zO_aload_n dX12_partOf_0 rfl (zR_P _) ?_
    refine zO_bipush dX12_partOf_1 (by decide) ?_
    refine zO_callS (Y' := YX12_sign) (cw := zcI F n sl) (as := [zI 91]) (rest := [zR 91]) (na := 1) dX12_partOf_3 wC_X12_sign wN_X12 wM_X12_221 wS_X12_sign (by decide) (by decide) rfl rfl (Nat.le_of_ble_eq_true rfl) (fun r hr => zMet_cast (Nat.add_assoc d 2 0) (mX12_sign (d := d + 2) hG 91 r hr)) ?_
    rintro ⟨r_1, D_2⟩ -
    show zO _ _ _ _ _ _ [zI r_1, zR 91] (F, D_2, n, sl) _ _
    refine zO_callV (Y' := YX12_passes0) (cw := zcI F n sl) (as := [zI r_1]) (rest := []) (na := 1) (ci := 12) rfl dX12_partOf_6 wC_X12_passes0 wN_X12 wM_X12_271 wI_X12_passes0 wV_X12_passes0 (by decide) (by decide) rfl rfl (Nat.le_of_ble_eq_true rfl) rfl (by decide) (gk_91 hG) (fun r hr => zMet_cast (Nat.add_assoc d 1 1) (mX12_passes0 (d := d + 1) hG r_1 r hr)) ?_
    rintro ⟨r_3, D_4⟩ -
    show zO _ _ _ _ _ _ [zI r_3] (F, D_4, n, sl) _ _
    refine zO_if_eq (tgt := 30) dX12_partOf_9 rfl (fun c9 => ?_) (fun c9 => ?_)
    · refine zO_aload_n dX12_partOf_30 rfl (zR_P _) ?_
      refine zO_aload_n dX12_partOf_31 rfl (zR_P _) ?_
      refine gt12 (k := 18) (v := zI (D_4 91 18)) dX12_partOf_32 wF_X12_246 (by decide) (gk_91 hG) rfl ?_
      refine zO_callV (Y' := YX12_codeAt) (cw := zcI F n sl) (as := [zI (D_4 91 18)]) (rest := []) (na := 1) (ci := 12) rfl dX12_partOf_35 wC_X12_codeAt wN_X12 wM_X12_249 wI_X12_codeAt wV_X12_codeAt (by decide) (by decide) rfl rfl (Nat.le_of_ble_eq_true rfl) rfl (by decide) (gk_91 hG) (fun r hr => zMet_cast (Nat.add_assoc d 2 0) (mX12_codeAt (d := d + 2) hG (D_4 91 18) r hr)) ?_
      rintro ⟨r_5, D_6⟩ -
      show zO _ _ _ _ _ _ [zI r_5] (F, D_6, n, sl) _ _
      refine zO_chk (fun h1 => ?_)
      refine zO_istore_n dX12_partOf_38 (by decide) ?_
      refine zO_ls (ls' := [(0, zR 91), (1, zI v1), (2, zI r_5)]) rfl ?_
      refine zO_aload_n dX12_partOf_39 rfl (zR_P _) ?_
      refine zO_dup dX12_partOf_40 (rfl) ?_
      refine gt12 (k := 18) (v := zI (D_6 91 18)) dX12_partOf_41 wF_X12_246 (by decide) (gk_91 hG) rfl ?_
      refine zO_iconst dX12_partOf_44 (by decide) ?_
      refine zO_iadd dX12_partOf_45 h1 ?_
      refine ptI12 (k := 18) (z := ((D_6 91 18) + 1)) dX12_partOf_46 wF_X12_246 (by decide) rfl (gk_91 hG) rfl ?_
      refine zO_letD (fun D_7 eD_7 => ?_)
      refine zO_iload_n dX12_partOf_49 rfl ?_
      refine zO_if_eq (tgt := 60) dX12_partOf_50 rfl (fun c50 => ?_) (fun c50 => ?_)
      · refine zO_lconst dX12_partOf_60 ?_
        exact zO_ret (rv := some (zL 0)) dX12_partOf_61 rfl trivial rfl
      · refine zO_aload_n dX12_partOf_53 rfl (zR_P _) ?_
        refine gt12 (k := 20) (v := zI (D_7 91 20)) dX12_partOf_54 wF_X12_256 (by decide) (gk_91 hG) rfl ?_
        refine zO_if_eq (tgt := 62) dX12_partOf_57 rfl (fun c57 => ?_) (fun c57 => ?_)
        · refine zO_iload_n dX12_partOf_62 rfl ?_
          refine zO_bipush dX12_partOf_63 (by decide) ?_
          refine zO_icmp_ne (tgt := 87) dX12_partOf_65 rfl (fun c65 => ?_) (fun c65 => ?_)
          · refine zO_chk (fun h2 => ?_)
            refine zO_aload_n dX12_partOf_68 rfl (zR_P _) ?_
            refine gt12 (k := 3) dX12_partOf_69 wF_X12_20 (by decide) (gk_91 hG) (zgv (c := 12) (k := 3) rfl (Or.inl ⟨_, rfl⟩) (gf_91_3 hG)) ?_
            refine zO_sipush dX12_partOf_72 (by decide) ?_
            refine zO_aload_n dX12_partOf_75 rfl (zR_P _) ?_
            refine gt12 (k := 18) (v := zI (D_7 91 18)) dX12_partOf_76 wF_X12_246 (by decide) (gk_91 hG) rfl ?_
            refine zO_iadd dX12_partOf_79 h2.1 ?_
            refine zO_iconst dX12_partOf_80 (by decide) ?_
            refine zO_isub dX12_partOf_81 h2.2.1 ?_
            refine zO_iald dX12_partOf_82 (gk_93 hG) (gl_in (gl_93 hG) h2.2.2) ?_
            refine zO_i2l dX12_partOf_83 ?_
            refine zO_goto (tgt := 97) dX12_partOf_84 rfl ?_
            exact zO_ret (rv := some (zL (D_7 93 ((2801 + (D_7 91 18)) - 1).toNat))) dX12_partOf_97 rfl trivial rfl
          · refine zO_chk (fun h3 => ?_)
            refine zO_aload_n dX12_partOf_87 rfl (zR_P _) ?_
            refine gt12 (k := 21) dX12_partOf_88 wF_X12_52 (by decide) (gk_91 hG) (zgv (c := 12) (k := 21) rfl (Or.inl ⟨_, rfl⟩) (gf_91_21 hG)) ?_
            refine zO_iload_n dX12_partOf_91 rfl ?_
            refine zO_bipush dX12_partOf_92 (by decide) ?_
            refine zO_isub dX12_partOf_94 h3.1 ?_
            refine zO_iald dX12_partOf_95 (gk_102 hG) (gl_in (gl_102 hG) h3.2) ?_
            refine zO_i2l dX12_partOf_96 ?_
            exact zO_ret (rv := some (zL (D_7 102 (r_5 - 8).toNat))) dX12_partOf_97 rfl trivial rfl
        · refine zO_lconst dX12_partOf_60 ?_
          exact zO_ret (rv := some (zL 0)) dX12_partOf_61 rfl trivial rfl
    · refine zO_aload_n dX12_partOf_12 rfl (zR_P _) ?_
      refine zO_iload_n dX12_partOf_13 rfl ?_
      refine zO_callV (Y' := YX12_sumOf) (cw := zcJ F n sl) (as := [zI v1]) (rest := []) (na := 1) (ci := 12) rfl dX12_partOf_14 wC_X12_sumOf wN_X12 wM_X12_274 wI_X12_sumOf wV_X12_sumOf (by decide) (by decide) rfl rfl (Nat.le_of_ble_eq_true rfl) rfl (by decide) (gk_91 hG) (fun r hr => hr0 v1 0 _ r hr) ?_
      rintro ⟨r_8, D_9⟩ -
      show zO _ _ _ _ _ _ [zL r_8] (F, D_9, n, sl) _ _
      refine zO_chk (fun h4 => ?_)
      refine zO_lstore_n dX12_partOf_17 (by decide) ?_
      refine zO_ls (ls' := [(0, zR 91), (1, zI v1), (2, zL r_8)]) rfl ?_
      refine zO_aload_n dX12_partOf_18 rfl (zR_P _) ?_
      refine zO_dup dX12_partOf_19 (rfl) ?_
      refine gt12 (k := 18) (v := zI (D_9 91 18)) dX12_partOf_20 wF_X12_246 (by decide) (gk_91 hG) rfl ?_
      refine zO_iconst dX12_partOf_23 (by decide) ?_
      refine zO_iadd dX12_partOf_24 h4 ?_
      refine ptI12 (k := 18) (z := ((D_9 91 18) + 1)) dX12_partOf_25 wF_X12_246 (by decide) rfl (gk_91 hG) rfl ?_
      refine zO_letD (fun D_10 eD_10 => ?_)
      refine zO_lload_n dX12_partOf_28 rfl ?_
      exact zO_ret (rv := some (zL r_8)) dX12_partOf_29 rfl trivial rfl
  exact hz r hr
def R4 (F : zFs) (N : Nat) : Nat → Int → Int → zDa → Option (Int × zDa) := zfix (fun _ _ _ _ => none) (fun rec t a b D => if t = 0 then bX12_sumOf F rec a D else if t = 1 then bX12_termOf F rec a D else bX12_partOf F rec a D) N
theorem R4_succ (F : zFs) (N t : Nat) (a b : Int) (D : zDa) : R4 F (N + 1) t a b D = (if t = 0 then bX12_sumOf F (R4 F N) a D else if t = 1 then bX12_termOf F (R4 F N) a D else bX12_partOf F (R4 F N) a D) := rfl
theorem mG4 {l : Launch} {E : zE} {F : zFs} {n sl : Nat} (hG : zG F) : ∀ (N d : Nat), (∀ (a b : Int) (D : zDa) r, R4 F N 0 a b D = some r → zMet l E (d + N + 2) YX12_sumOf [zR 91, zI a] (F, D, n, sl) (zcJ F n sl r)) ∧ (∀ (a b : Int) (D : zDa) r, R4 F N 1 a b D = some r → zMet l E (d + N + 2) YX12_termOf [zR 91, zI a] (F, D, n, sl) (zcJ F n sl r)) ∧ (∀ (a b : Int) (D : zDa) r, R4 F N 2 a b D = some r → zMet l E (d + N + 2) YX12_partOf [zR 91, zI a] (F, D, n, sl) (zcJ F n sl r)) := by
  intro N
  induction N with
  | zero => intro d; refine ⟨(fun a b D r h => nomatch (show (none : Option _) = some r from h)), (fun a b D r h => nomatch (show (none : Option _) = some r from h)), (fun a b D r h => nomatch (show (none : Option _) = some r from h))⟩
  | succ N ih =>
    intro d
    have ih := ih d
    exact ⟨(fun a b D r h => zMet_cast (show d + N + 3 = d + (N + 1) + 2 by omega) (mbX12_sumOf (d := d + N) hG (R4 F N) (fun a b D r h => ih.1 a b D r h) (fun a b D r h => ih.2.1 a b D r h) (fun a b D r h => ih.2.2 a b D r h) a r (by rw [R4_succ] at h; rw [if_pos rfl] at h; exact h))), (fun a b D r h => zMet_cast (show d + N + 3 = d + (N + 1) + 2 by omega) (mbX12_termOf (d := d + N) hG (R4 F N) (fun a b D r h => ih.1 a b D r h) (fun a b D r h => ih.2.1 a b D r h) (fun a b D r h => ih.2.2 a b D r h) a r (by rw [R4_succ] at h; rw [if_neg (by decide), if_pos rfl] at h; exact h))), (fun a b D r h => zMet_cast (show d + N + 3 = d + (N + 1) + 2 by omega) (mbX12_partOf (d := d + N) hG (R4 F N) (fun a b D r h => ih.1 a b D r h) (fun a b D r h => ih.2.1 a b D r h) (fun a b D r h => ih.2.2 a b D r h) a r (by rw [R4_succ] at h; rw [if_neg (by decide), if_neg (by decide)] at h; exact h)))⟩
def fX12_sumOf (F : zFs) (v1 : Int) (D : zDa) : Option (Int × zDa) := R4 F 40 0 v1 0 D
theorem mX12_sumOf {l : Launch} {E : zE} {d : Nat} {F : zFs} {n sl : Nat} (hG : zG F) (v1 : Int) {D : zDa} : ∀ r, fX12_sumOf F v1 D = some r → zMet l E (d + 43) YX12_sumOf [zR 91, zI v1] (F, D, n, sl) (zcJ F n sl r) := fun r h => zMet_cast (show d + 1 + 40 + 2 = d + 43 by omega) ((mG4 hG 40 (d + 1)).1 v1 0 D r h)
def fX12_termOf (F : zFs) (v1 : Int) (D : zDa) : Option (Int × zDa) := R4 F 40 1 v1 0 D
theorem mX12_termOf {l : Launch} {E : zE} {d : Nat} {F : zFs} {n sl : Nat} (hG : zG F) (v1 : Int) {D : zDa} : ∀ r, fX12_termOf F v1 D = some r → zMet l E (d + 43) YX12_termOf [zR 91, zI v1] (F, D, n, sl) (zcJ F n sl r) := fun r h => zMet_cast (show d + 1 + 40 + 2 = d + 43 by omega) ((mG4 hG 40 (d + 1)).2.1 v1 0 D r h)
def fX12_partOf (F : zFs) (v1 : Int) (D : zDa) : Option (Int × zDa) := R4 F 40 2 v1 0 D
theorem mX12_partOf {l : Launch} {E : zE} {d : Nat} {F : zFs} {n sl : Nat} (hG : zG F) (v1 : Int) {D : zDa} : ∀ r, fX12_partOf F v1 D = some r → zMet l E (d + 43) YX12_partOf [zR 91, zI v1] (F, D, n, sl) (zcJ F n sl r) := fun r h => zMet_cast (show d + 1 + 40 + 2 = d + 43 by omega) ((mG4 hG 40 (d + 1)).2.2 v1 0 D r h)
