/-! printed by wip/gen/emit_all.py: X11_lesson X11_clear X11_behind X11_judge X11_learn X11_backward X11_friend X11_share X11_ill X11_year X11_intOnTape X11_row X11_lost X11_drawn X11_seldom X11_exam X11_table -/
theorem dX11_lesson_0 : decode cX11_lesson 0 = .ok (.iload_n 1, 1) := by decide +kernel
theorem dX11_lesson_1 : decode cX11_lesson 1 = .ok (.ifCond .lt 9, 3) := by decide +kernel
theorem dX11_lesson_4 : decode cX11_lesson 4 = .ok (.iload_n 1, 1) := by decide +kernel
theorem dX11_lesson_5 : decode cX11_lesson 5 = .ok (.bipush 20, 2) := by decide +kernel
theorem dX11_lesson_7 : decode cX11_lesson 7 = .ok (.if_icmp .lt 9, 3) := by decide +kernel
theorem dX11_lesson_10 : decode cX11_lesson 10 = .ok (.aload_n 0, 1) := by decide +kernel
theorem dX11_lesson_11 : decode cX11_lesson 11 = .ok (.iconst (-1), 1) := by decide +kernel
theorem dX11_lesson_12 : decode cX11_lesson 12 = .ok (.invokevirtual 112, 3) := by decide +kernel
theorem dX11_lesson_15 : decode cX11_lesson 15 = .ok (.ireturn, 1) := by decide +kernel
theorem dX11_lesson_16 : decode cX11_lesson 16 = .ok (.aload_n 0, 1) := by decide +kernel
theorem dX11_lesson_17 : decode cX11_lesson 17 = .ok (.getfield 10, 3) := by decide +kernel
theorem dX11_lesson_20 : decode cX11_lesson 20 = .ok (.iload_n 2, 1) := by decide +kernel
theorem dX11_lesson_21 : decode cX11_lesson 21 = .ok (.invokevirtual 126, 3) := by decide +kernel
theorem dX11_lesson_24 : decode cX11_lesson 24 = .ok (.ifCond .ne 10, 3) := by decide +kernel
theorem dX11_lesson_27 : decode cX11_lesson 27 = .ok (.aload_n 0, 1) := by decide +kernel
theorem dX11_lesson_28 : decode cX11_lesson 28 = .ok (.bipush (-2), 2) := by decide +kernel
theorem dX11_lesson_30 : decode cX11_lesson 30 = .ok (.invokevirtual 112, 3) := by decide +kernel
theorem dX11_lesson_33 : decode cX11_lesson 33 = .ok (.ireturn, 1) := by decide +kernel
theorem dX11_lesson_34 : decode cX11_lesson 34 = .ok (.aload_n 0, 1) := by decide +kernel
theorem dX11_lesson_35 : decode cX11_lesson 35 = .ok (.getfield 10, 3) := by decide +kernel
theorem dX11_lesson_38 : decode cX11_lesson 38 = .ok (.getfield 264, 3) := by decide +kernel
theorem dX11_lesson_41 : decode cX11_lesson 41 = .ok (.bipush 120, 2) := by decide +kernel
theorem dX11_lesson_43 : decode cX11_lesson 43 = .ok (.if_icmp .lt 10, 3) := by decide +kernel
theorem dX11_lesson_46 : decode cX11_lesson 46 = .ok (.aload_n 0, 1) := by decide +kernel
theorem dX11_lesson_47 : decode cX11_lesson 47 = .ok (.bipush (-5), 2) := by decide +kernel
theorem dX11_lesson_49 : decode cX11_lesson 49 = .ok (.invokevirtual 112, 3) := by decide +kernel
theorem dX11_lesson_52 : decode cX11_lesson 52 = .ok (.ireturn, 1) := by decide +kernel
theorem dX11_lesson_53 : decode cX11_lesson 53 = .ok (.aload_n 0, 1) := by decide +kernel
theorem dX11_lesson_54 : decode cX11_lesson 54 = .ok (.getfield 10, 3) := by decide +kernel
theorem dX11_lesson_57 : decode cX11_lesson 57 = .ok (.getfield 267, 3) := by decide +kernel
theorem dX11_lesson_60 : decode cX11_lesson 60 = .ok (.aload_n 0, 1) := by decide +kernel
theorem dX11_lesson_61 : decode cX11_lesson 61 = .ok (.getfield 10, 3) := by decide +kernel
theorem dX11_lesson_64 : decode cX11_lesson 64 = .ok (.getfield 264, 3) := by decide +kernel
theorem dX11_lesson_67 : decode cX11_lesson 67 = .ok (.iload_n 1, 1) := by decide +kernel
theorem dX11_lesson_68 : decode cX11_lesson 68 = .ok (.iastore, 1) := by decide +kernel
theorem dX11_lesson_69 : decode cX11_lesson 69 = .ok (.aload_n 0, 1) := by decide +kernel
theorem dX11_lesson_70 : decode cX11_lesson 70 = .ok (.getfield 10, 3) := by decide +kernel
theorem dX11_lesson_73 : decode cX11_lesson 73 = .ok (.getfield 270, 3) := by decide +kernel
theorem dX11_lesson_76 : decode cX11_lesson 76 = .ok (.aload_n 0, 1) := by decide +kernel
theorem dX11_lesson_77 : decode cX11_lesson 77 = .ok (.getfield 10, 3) := by decide +kernel
theorem dX11_lesson_80 : decode cX11_lesson 80 = .ok (.getfield 264, 3) := by decide +kernel
theorem dX11_lesson_83 : decode cX11_lesson 83 = .ok (.iload_n 2, 1) := by decide +kernel
theorem dX11_lesson_84 : decode cX11_lesson 84 = .ok (.iastore, 1) := by decide +kernel
theorem dX11_lesson_85 : decode cX11_lesson 85 = .ok (.aload_n 0, 1) := by decide +kernel
theorem dX11_lesson_86 : decode cX11_lesson 86 = .ok (.getfield 10, 3) := by decide +kernel
theorem dX11_lesson_89 : decode cX11_lesson 89 = .ok (.dup, 1) := by decide +kernel
theorem dX11_lesson_90 : decode cX11_lesson 90 = .ok (.getfield 264, 3) := by decide +kernel
theorem dX11_lesson_93 : decode cX11_lesson 93 = .ok (.iconst 1, 1) := by decide +kernel
theorem dX11_lesson_94 : decode cX11_lesson 94 = .ok (.iadd, 1) := by decide +kernel
theorem dX11_lesson_95 : decode cX11_lesson 95 = .ok (.putfield 264, 3) := by decide +kernel
theorem dX11_lesson_98 : decode cX11_lesson 98 = .ok (.aload_n 0, 1) := by decide +kernel
theorem dX11_lesson_99 : decode cX11_lesson 99 = .ok (.getfield 10, 3) := by decide +kernel
theorem dX11_lesson_102 : decode cX11_lesson 102 = .ok (.dup, 1) := by decide +kernel
theorem dX11_lesson_103 : decode cX11_lesson 103 = .ok (.getfield 157, 3) := by decide +kernel
theorem dX11_lesson_106 : decode cX11_lesson 106 = .ok (.iconst 1, 1) := by decide +kernel
theorem dX11_lesson_107 : decode cX11_lesson 107 = .ok (.iadd, 1) := by decide +kernel
theorem dX11_lesson_108 : decode cX11_lesson 108 = .ok (.putfield 157, 3) := by decide +kernel
theorem dX11_lesson_111 : decode cX11_lesson 111 = .ok (.aload_n 0, 1) := by decide +kernel
theorem dX11_lesson_112 : decode cX11_lesson 112 = .ok (.aload_n 0, 1) := by decide +kernel
theorem dX11_lesson_113 : decode cX11_lesson 113 = .ok (.getfield 10, 3) := by decide +kernel
theorem dX11_lesson_116 : decode cX11_lesson 116 = .ok (.getfield 264, 3) := by decide +kernel
theorem dX11_lesson_119 : decode cX11_lesson 119 = .ok (.invokevirtual 123, 3) := by decide +kernel
theorem dX11_lesson_122 : decode cX11_lesson 122 = .ok (.ireturn, 1) := by decide +kernel
abbrev YX11_lesson : zY := (yX11_lesson, cX11_lesson, 3, (Option.some Jvm.ClassFile.FieldType.int), [])
def fX11_lesson_10 (F : zFs)   (D : zDa) : Option (Int × zDa) :=
  (fX11_refuse F (-1) D).bind (fun (r_1, D_2) =>
    some (r_1, D_2))
def fX11_lesson (F : zFs) (v1 : Int) (v2 : Int) (D : zDa) : Option (Int × zDa) :=
  if v1 < 0 then
    fX11_lesson_10 F D
  else
    if v1 < 20 then
      (fX9_has F v2 D).bind (fun (r_3, D_4) =>
        if r_3 = 0 then
          (fX11_refuse F (-2) D_4).bind (fun (r_5, D_6) =>
            some (r_5, D_6))
        else
          if (D_4 1 12) < 120 then
            if (0 ≤ (D_4 1 12) ∧ (D_4 1 12) < 120) then
              zlet (zwr D_4 9 (D_4 1 12).toNat v1) (fun D_7 =>
                if (0 ≤ (D_7 1 12) ∧ (D_7 1 12) < 120) then
                  zlet (zwr D_7 10 (D_7 1 12).toNat v2) (fun D_8 =>
                    if (-2147483648 ≤ (D_8 1 12) + 1 ∧ (D_8 1 12) + 1 ≤ 2147483647) then
                      zlet (zwr D_8 1 12 ((D_8 1 12) + 1)) (fun D_9 =>
                        if (-2147483648 ≤ (D_9 1 17) + 1 ∧ (D_9 1 17) + 1 ≤ 2147483647) then
                          zlet (zwr D_9 1 17 ((D_9 1 17) + 1)) (fun D_10 =>
                            (fX11_accept F (D_10 1 12) D_10).bind (fun (r_11, D_12) =>
                              some (r_11, D_12)))
                        else none)
                    else none)
                else none)
            else none
          else
            (fX11_refuse F (-5) D_4).bind (fun (r_13, D_14) =>
              some (r_13, D_14)))
    else
      fX11_lesson_10 F D
set_option maxHeartbeats 20000000 in
theorem sX11_lesson_10 {l : Launch} {E : zE} {d : Nat} {F : zFs} {n sl : Nat} (hG : zG F)     (D : zDa) : zO l E (d + 1) YX11_lesson 10 [(0, zR 0)] [] (F, D, n, sl) (zcI F n sl) (fX11_lesson_10 F D) := by
  unfold fX11_lesson_10
  refine zO_aload_n dX11_lesson_10 rfl (zR_P _) ?_
  refine zO_iconst dX11_lesson_11 (by decide) ?_
  refine zO_callV (Y' := YX11_refuse) (cw := zcI F n sl) (as := [zI (-1)]) (rest := []) (na := 1) (ci := 11) rfl dX11_lesson_12 wC_X11_refuse wN_X11 wM_X11_112 wI_X11_refuse wV_X11_refuse (by decide) (by decide) rfl rfl (Nat.le_of_ble_eq_true rfl) rfl (by decide) (gk_0 hG) (fun r hr => zMet_cast (Nat.add_assoc d 0 0) (mX11_refuse (d := d + 0) hG (-1) r hr)) ?_
  rintro ⟨r_1, D_2⟩ -
  show zO _ _ _ _ _ _ [zI r_1] (F, D_2, n, sl) _ _
  exact zO_ret (rv := some (zI r_1)) dX11_lesson_15 rfl rfl rfl
set_option maxHeartbeats 20000000 in
theorem mX11_lesson {l : Launch} {E : zE} {d : Nat} {F : zFs} {n sl : Nat} (hG : zG F) (v1 : Int) (v2 : Int) {D : zDa} : ∀ r, fX11_lesson F  v1 v2 D = some r → zMet l E (d + 1) YX11_lesson [zR 0, zI v1, zI v2] (F, D, n, sl) (zcI F n sl r) := by
  intro r hr
  refine zMet_of (plainFor_of_name (by decide)) (fun _ h => (nomatch h)) (Nat.le_of_ble_eq_true rfl) ?_
  have hz : zO l E (d + 1) YX11_lesson 0 [(0, zR 0), (1, zI v1), (2, zI v2)] [] (F, D, n, sl) (zcI F n sl) (fX11_lesson F  v1 v2 D) := by
    unfold fX11_lesson
    refine zO_iload_n dX11_lesson_0 rfl ?_
    refine zO_if_lt (tgt := 10) dX11_lesson_1 rfl (fun c1 => ?_) (fun c1 => ?_)
    · refine zO_live [0] ?_
      exact sX11_lesson_10 hG D
    · refine zO_iload_n dX11_lesson_4 rfl ?_
      refine zO_bipush dX11_lesson_5 (by decide) ?_
      refine zO_icmp_lt (tgt := 16) dX11_lesson_7 rfl (fun c7 => ?_) (fun c7 => ?_)
      · refine zO_aload_n dX11_lesson_16 rfl (zR_P _) ?_
        refine gt11 (k := 0) dX11_lesson_17 wF_X11_10 (by decide) (gk_0 hG) (zgv (c := 11) (k := 0) rfl (Or.inr ⟨_, rfl⟩) (gf_0_0 hG)) ?_
        refine zO_iload_n dX11_lesson_20 rfl ?_
        refine zO_callV (Y' := YX9_has) (cw := zcI F n sl) (as := [zI v2]) (rest := []) (na := 1) (ci := 9) rfl dX11_lesson_21 wC_X9_has wN_X9 wM_X11_126 wI_X9_has wV_X9_has (by decide) (by decide) rfl rfl (Nat.le_of_ble_eq_true rfl) rfl (by decide) (gk_1 hG) (fun r hr => zMet_cast (Nat.add_assoc d 0 0) (mX9_has (d := d + 0) hG v2 r hr)) ?_
        rintro ⟨r_3, D_4⟩ -
        show zO _ _ _ _ _ _ [zI r_3] (F, D_4, n, sl) _ _
        refine zO_if_ne (tgt := 34) dX11_lesson_24 rfl (fun c24 => ?_) (fun c24 => ?_)
        · refine zO_aload_n dX11_lesson_27 rfl (zR_P _) ?_
          refine zO_bipush dX11_lesson_28 (by decide) ?_
          refine zO_callV (Y' := YX11_refuse) (cw := zcI F n sl) (as := [zI (-2)]) (rest := []) (na := 1) (ci := 11) rfl dX11_lesson_30 wC_X11_refuse wN_X11 wM_X11_112 wI_X11_refuse wV_X11_refuse (by decide) (by decide) rfl rfl (Nat.le_of_ble_eq_true rfl) rfl (by decide) (gk_0 hG) (fun r hr => zMet_cast (Nat.add_assoc d 0 0) (mX11_refuse (d := d + 0) hG (-2) r hr)) ?_
          rintro ⟨r_5, D_6⟩ -
          show zO _ _ _ _ _ _ [zI r_5] (F, D_6, n, sl) _ _
          exact zO_ret (rv := some (zI r_5)) dX11_lesson_33 rfl rfl rfl
        · refine zO_aload_n dX11_lesson_34 rfl (zR_P _) ?_
          refine gt11 (k := 0) dX11_lesson_35 wF_X11_10 (by decide) (gk_0 hG) (zgv (c := 11) (k := 0) rfl (Or.inr ⟨_, rfl⟩) (gf_0_0 hG)) ?_
          refine gt9 (k := 12) (v := zI (D_4 1 12)) dX11_lesson_38 wF_X11_264 (by decide) (gk_1 hG) rfl ?_
          refine zO_bipush dX11_lesson_41 (by decide) ?_
          refine zO_icmp_lt (tgt := 53) dX11_lesson_43 rfl (fun c43 => ?_) (fun c43 => ?_)
          · refine zO_chk (fun h1 => ?_)
            refine zO_aload_n dX11_lesson_53 rfl (zR_P _) ?_
            refine gt11 (k := 0) dX11_lesson_54 wF_X11_10 (by decide) (gk_0 hG) (zgv (c := 11) (k := 0) rfl (Or.inr ⟨_, rfl⟩) (gf_0_0 hG)) ?_
            refine gt9 (k := 10) dX11_lesson_57 wF_X11_267 (by decide) (gk_1 hG) (zgv (c := 9) (k := 10) rfl (Or.inl ⟨_, rfl⟩) (gf_1_10 hG)) ?_
            refine zO_aload_n dX11_lesson_60 rfl (zR_P _) ?_
            refine gt11 (k := 0) dX11_lesson_61 wF_X11_10 (by decide) (gk_0 hG) (zgv (c := 11) (k := 0) rfl (Or.inr ⟨_, rfl⟩) (gf_0_0 hG)) ?_
            refine gt9 (k := 12) (v := zI (D_4 1 12)) dX11_lesson_64 wF_X11_264 (by decide) (gk_1 hG) rfl ?_
            refine zO_iload_n dX11_lesson_67 rfl ?_
            refine zO_iast dX11_lesson_68 (gk_9 hG) (gl_in (gl_9 hG) h1) ?_
            refine zO_letD (fun D_7 eD_7 => ?_)
            refine zO_chk (fun h2 => ?_)
            refine zO_aload_n dX11_lesson_69 rfl (zR_P _) ?_
            refine gt11 (k := 0) dX11_lesson_70 wF_X11_10 (by decide) (gk_0 hG) (zgv (c := 11) (k := 0) rfl (Or.inr ⟨_, rfl⟩) (gf_0_0 hG)) ?_
            refine gt9 (k := 11) dX11_lesson_73 wF_X11_270 (by decide) (gk_1 hG) (zgv (c := 9) (k := 11) rfl (Or.inl ⟨_, rfl⟩) (gf_1_11 hG)) ?_
            refine zO_aload_n dX11_lesson_76 rfl (zR_P _) ?_
            refine gt11 (k := 0) dX11_lesson_77 wF_X11_10 (by decide) (gk_0 hG) (zgv (c := 11) (k := 0) rfl (Or.inr ⟨_, rfl⟩) (gf_0_0 hG)) ?_
            refine gt9 (k := 12) (v := zI (D_7 1 12)) dX11_lesson_80 wF_X11_264 (by decide) (gk_1 hG) rfl ?_
            refine zO_iload_n dX11_lesson_83 rfl ?_
            refine zO_iast dX11_lesson_84 (gk_10 hG) (gl_in (gl_10 hG) h2) ?_
            refine zO_letD (fun D_8 eD_8 => ?_)
            refine zO_chk (fun h3 => ?_)
            refine zO_aload_n dX11_lesson_85 rfl (zR_P _) ?_
            refine gt11 (k := 0) dX11_lesson_86 wF_X11_10 (by decide) (gk_0 hG) (zgv (c := 11) (k := 0) rfl (Or.inr ⟨_, rfl⟩) (gf_0_0 hG)) ?_
            refine zO_dup dX11_lesson_89 (rfl) ?_
            refine gt9 (k := 12) (v := zI (D_8 1 12)) dX11_lesson_90 wF_X11_264 (by decide) (gk_1 hG) rfl ?_
            refine zO_iconst dX11_lesson_93 (by decide) ?_
            refine zO_iadd dX11_lesson_94 h3 ?_
            refine ptI9 (k := 12) (z := ((D_8 1 12) + 1)) dX11_lesson_95 wF_X11_264 (by decide) rfl (gk_1 hG) rfl ?_
            refine zO_letD (fun D_9 eD_9 => ?_)
            refine zO_chk (fun h4 => ?_)
            refine zO_aload_n dX11_lesson_98 rfl (zR_P _) ?_
            refine gt11 (k := 0) dX11_lesson_99 wF_X11_10 (by decide) (gk_0 hG) (zgv (c := 11) (k := 0) rfl (Or.inr ⟨_, rfl⟩) (gf_0_0 hG)) ?_
            refine zO_dup dX11_lesson_102 (rfl) ?_
            refine gt9 (k := 17) (v := zI (D_9 1 17)) dX11_lesson_103 wF_X11_157 (by decide) (gk_1 hG) rfl ?_
            refine zO_iconst dX11_lesson_106 (by decide) ?_
            refine zO_iadd dX11_lesson_107 h4 ?_
            refine ptI9 (k := 17) (z := ((D_9 1 17) + 1)) dX11_lesson_108 wF_X11_157 (by decide) rfl (gk_1 hG) rfl ?_
            refine zO_letD (fun D_10 eD_10 => ?_)
            refine zO_aload_n dX11_lesson_111 rfl (zR_P _) ?_
            refine zO_aload_n dX11_lesson_112 rfl (zR_P _) ?_
            refine gt11 (k := 0) dX11_lesson_113 wF_X11_10 (by decide) (gk_0 hG) (zgv (c := 11) (k := 0) rfl (Or.inr ⟨_, rfl⟩) (gf_0_0 hG)) ?_
            refine gt9 (k := 12) (v := zI (D_10 1 12)) dX11_lesson_116 wF_X11_264 (by decide) (gk_1 hG) rfl ?_
            refine zO_callV (Y' := YX11_accept) (cw := zcI F n sl) (as := [zI (D_10 1 12)]) (rest := []) (na := 1) (ci := 11) rfl dX11_lesson_119 wC_X11_accept wN_X11 wM_X11_123 wI_X11_accept wV_X11_accept (by decide) (by decide) rfl rfl (Nat.le_of_ble_eq_true rfl) rfl (by decide) (gk_0 hG) (fun r hr => zMet_cast (Nat.add_assoc d 0 0) (mX11_accept (d := d + 0) hG (D_10 1 12) r hr)) ?_
            rintro ⟨r_11, D_12⟩ -
            show zO _ _ _ _ _ _ [zI r_11] (F, D_12, n, sl) _ _
            exact zO_ret (rv := some (zI r_11)) dX11_lesson_122 rfl rfl rfl
          · refine zO_aload_n dX11_lesson_46 rfl (zR_P _) ?_
            refine zO_bipush dX11_lesson_47 (by decide) ?_
            refine zO_callV (Y' := YX11_refuse) (cw := zcI F n sl) (as := [zI (-5)]) (rest := []) (na := 1) (ci := 11) rfl dX11_lesson_49 wC_X11_refuse wN_X11 wM_X11_112 wI_X11_refuse wV_X11_refuse (by decide) (by decide) rfl rfl (Nat.le_of_ble_eq_true rfl) rfl (by decide) (gk_0 hG) (fun r hr => zMet_cast (Nat.add_assoc d 0 0) (mX11_refuse (d := d + 0) hG (-5) r hr)) ?_
            rintro ⟨r_13, D_14⟩ -
            show zO _ _ _ _ _ _ [zI r_13] (F, D_14, n, sl) _ _
            exact zO_ret (rv := some (zI r_13)) dX11_lesson_52 rfl rfl rfl
      · refine zO_live [0] ?_
        exact sX11_lesson_10 hG D
  exact hz r hr
theorem dX11_clear_0 : decode cX11_clear 0 = .ok (.aload_n 0, 1) := by decide +kernel
theorem dX11_clear_1 : decode cX11_clear 1 = .ok (.getfield 10, 3) := by decide +kernel
theorem dX11_clear_4 : decode cX11_clear 4 = .ok (.getfield 264, 3) := by decide +kernel
theorem dX11_clear_7 : decode cX11_clear 7 = .ok (.istore_n 1, 1) := by decide +kernel
theorem dX11_clear_8 : decode cX11_clear 8 = .ok (.aload_n 0, 1) := by decide +kernel
theorem dX11_clear_9 : decode cX11_clear 9 = .ok (.getfield 10, 3) := by decide +kernel
theorem dX11_clear_12 : decode cX11_clear 12 = .ok (.iconst 0, 1) := by decide +kernel
theorem dX11_clear_13 : decode cX11_clear 13 = .ok (.putfield 264, 3) := by decide +kernel
theorem dX11_clear_16 : decode cX11_clear 16 = .ok (.aload_n 0, 1) := by decide +kernel
theorem dX11_clear_17 : decode cX11_clear 17 = .ok (.getfield 10, 3) := by decide +kernel
theorem dX11_clear_20 : decode cX11_clear 20 = .ok (.dup, 1) := by decide +kernel
theorem dX11_clear_21 : decode cX11_clear 21 = .ok (.getfield 157, 3) := by decide +kernel
theorem dX11_clear_24 : decode cX11_clear 24 = .ok (.iconst 1, 1) := by decide +kernel
theorem dX11_clear_25 : decode cX11_clear 25 = .ok (.iadd, 1) := by decide +kernel
theorem dX11_clear_26 : decode cX11_clear 26 = .ok (.putfield 157, 3) := by decide +kernel
theorem dX11_clear_29 : decode cX11_clear 29 = .ok (.iload_n 1, 1) := by decide +kernel
theorem dX11_clear_30 : decode cX11_clear 30 = .ok (.ireturn, 1) := by decide +kernel
abbrev YX11_clear : zY := (yX11_clear, cX11_clear, 2, (Option.some Jvm.ClassFile.FieldType.int), [])
def fX11_clear (F : zFs)  (D : zDa) : Option (Int × zDa) :=
  zlet ((D 1 12)) (fun x1_1 =>
    zlet (zwr D 1 12 0) (fun D_2 =>
      if (-2147483648 ≤ (D_2 1 17) + 1 ∧ (D_2 1 17) + 1 ≤ 2147483647) then
        zlet (zwr D_2 1 17 ((D_2 1 17) + 1)) (fun D_3 =>
          some (x1_1, D_3))
      else none))
set_option maxHeartbeats 20000000 in
theorem mX11_clear {l : Launch} {E : zE} {d : Nat} {F : zFs} {n sl : Nat} (hG : zG F)  {D : zDa} : ∀ r, fX11_clear F   D = some r → zMet l E (d + 0) YX11_clear [zR 0] (F, D, n, sl) (zcI F n sl r) := by
  intro r hr
  refine zMet_of (plainFor_of_name (by decide)) (fun _ h => (nomatch h)) (Nat.le_of_ble_eq_true rfl) ?_
  have hz : zO l E (d + 0) YX11_clear 0 [(0, zR 0)] [] (F, D, n, sl) (zcI F n sl) (fX11_clear F   D) := by
    unfold fX11_clear
    refine zO_aload_n dX11_clear_0 rfl (zR_P _) ?_
    refine gt11 (k := 0) dX11_clear_1 wF_X11_10 (by decide) (gk_0 hG) (zgv (c := 11) (k := 0) rfl (Or.inr ⟨_, rfl⟩) (gf_0_0 hG)) ?_
    refine gt9 (k := 12) (v := zI (D 1 12)) dX11_clear_4 wF_X11_264 (by decide) (gk_1 hG) rfl ?_
    refine zO_letI (fun x1_1 ex1_1 => ?_)
    refine zO_istore_n dX11_clear_7 (by decide) ?_
    refine zO_ls (ls' := [(0, zR 0), (1, zI x1_1)]) rfl ?_
    refine zO_aload_n dX11_clear_8 rfl (zR_P _) ?_
    refine gt11 (k := 0) dX11_clear_9 wF_X11_10 (by decide) (gk_0 hG) (zgv (c := 11) (k := 0) rfl (Or.inr ⟨_, rfl⟩) (gf_0_0 hG)) ?_
    refine zO_iconst dX11_clear_12 (by decide) ?_
    refine ptI9 (k := 12) (z := 0) dX11_clear_13 wF_X11_264 (by decide) rfl (gk_1 hG) rfl ?_
    refine zO_letD (fun D_2 eD_2 => ?_)
    refine zO_chk (fun h1 => ?_)
    refine zO_aload_n dX11_clear_16 rfl (zR_P _) ?_
    refine gt11 (k := 0) dX11_clear_17 wF_X11_10 (by decide) (gk_0 hG) (zgv (c := 11) (k := 0) rfl (Or.inr ⟨_, rfl⟩) (gf_0_0 hG)) ?_
    refine zO_dup dX11_clear_20 (rfl) ?_
    refine gt9 (k := 17) (v := zI (D_2 1 17)) dX11_clear_21 wF_X11_157 (by decide) (gk_1 hG) rfl ?_
    refine zO_iconst dX11_clear_24 (by decide) ?_
    refine zO_iadd dX11_clear_25 h1 ?_
    refine ptI9 (k := 17) (z := ((D_2 1 17) + 1)) dX11_clear_26 wF_X11_157 (by decide) rfl (gk_1 hG) rfl ?_
    refine zO_letD (fun D_3 eD_3 => ?_)
    refine zO_iload_n dX11_clear_29 rfl ?_
    exact zO_ret (rv := some (zI x1_1)) dX11_clear_30 rfl rfl rfl
  exact hz r hr
theorem dX11_behind_0 : decode cX11_behind 0 = .ok (.iload_n 1, 1) := by decide +kernel
theorem dX11_behind_1 : decode cX11_behind 1 = .ok (.ifCond .lt 32, 3) := by decide +kernel
theorem dX11_behind_4 : decode cX11_behind 4 = .ok (.iload_n 1, 1) := by decide +kernel
theorem dX11_behind_5 : decode cX11_behind 5 = .ok (.aload_n 0, 1) := by decide +kernel
theorem dX11_behind_6 : decode cX11_behind 6 = .ok (.getfield 10, 3) := by decide +kernel
theorem dX11_behind_9 : decode cX11_behind 9 = .ok (.getfield 154, 3) := by decide +kernel
theorem dX11_behind_12 : decode cX11_behind 12 = .ok (.iconst 5, 1) := by decide +kernel
theorem dX11_behind_13 : decode cX11_behind 13 = .ok (.iaload, 1) := by decide +kernel
theorem dX11_behind_14 : decode cX11_behind 14 = .ok (.if_icmp .ge 19, 3) := by decide +kernel
theorem dX11_behind_17 : decode cX11_behind 17 = .ok (.iload_n 2, 1) := by decide +kernel
theorem dX11_behind_18 : decode cX11_behind 18 = .ok (.iconst (-1), 1) := by decide +kernel
theorem dX11_behind_19 : decode cX11_behind 19 = .ok (.if_icmp .eq 16, 3) := by decide +kernel
theorem dX11_behind_22 : decode cX11_behind 22 = .ok (.aload_n 0, 1) := by decide +kernel
theorem dX11_behind_23 : decode cX11_behind 23 = .ok (.getfield 10, 3) := by decide +kernel
theorem dX11_behind_26 : decode cX11_behind 26 = .ok (.iload_n 2, 1) := by decide +kernel
theorem dX11_behind_27 : decode cX11_behind 27 = .ok (.invokevirtual 126, 3) := by decide +kernel
theorem dX11_behind_30 : decode cX11_behind 30 = .ok (.ifCond .ne 5, 3) := by decide +kernel
theorem dX11_behind_33 : decode cX11_behind 33 = .ok (.iconst (-1), 1) := by decide +kernel
theorem dX11_behind_34 : decode cX11_behind 34 = .ok (.ireturn, 1) := by decide +kernel
theorem dX11_behind_35 : decode cX11_behind 35 = .ok (.aload_n 0, 1) := by decide +kernel
theorem dX11_behind_36 : decode cX11_behind 36 = .ok (.getfield 87, 3) := by decide +kernel
theorem dX11_behind_39 : decode cX11_behind 39 = .ok (.invokevirtual 273, 3) := by decide +kernel
theorem dX11_behind_42 : decode cX11_behind 42 = .ok (.iload_n 2, 1) := by decide +kernel
theorem dX11_behind_43 : decode cX11_behind 43 = .ok (.iconst (-1), 1) := by decide +kernel
theorem dX11_behind_44 : decode cX11_behind 44 = .ok (.if_icmp .ne 15, 3) := by decide +kernel
theorem dX11_behind_47 : decode cX11_behind 47 = .ok (.aload_n 0, 1) := by decide +kernel
theorem dX11_behind_48 : decode cX11_behind 48 = .ok (.getfield 87, 3) := by decide +kernel
theorem dX11_behind_51 : decode cX11_behind 51 = .ok (.getfield 274, 3) := by decide +kernel
theorem dX11_behind_54 : decode cX11_behind 54 = .ok (.iload_n 1, 1) := by decide +kernel
theorem dX11_behind_55 : decode cX11_behind 55 = .ok (.iaload, 1) := by decide +kernel
theorem dX11_behind_56 : decode cX11_behind 56 = .ok (.goto 12, 3) := by decide +kernel
theorem dX11_behind_59 : decode cX11_behind 59 = .ok (.aload_n 0, 1) := by decide +kernel
theorem dX11_behind_60 : decode cX11_behind 60 = .ok (.getfield 87, 3) := by decide +kernel
theorem dX11_behind_63 : decode cX11_behind 63 = .ok (.iload_n 1, 1) := by decide +kernel
theorem dX11_behind_64 : decode cX11_behind 64 = .ok (.iload_n 2, 1) := by decide +kernel
theorem dX11_behind_65 : decode cX11_behind 65 = .ok (.invokevirtual 277, 3) := by decide +kernel
theorem dX11_behind_68 : decode cX11_behind 68 = .ok (.ireturn, 1) := by decide +kernel
abbrev YX11_behind : zY := (yX11_behind, cX11_behind, 3, (Option.some Jvm.ClassFile.FieldType.int), [])
def fX11_behind_35 (F : zFs)  (v1 : Int) (v2 : Int) (D : zDa) : Option (Int × zDa) :=
  (fX1_refresh F D).bind (fun D_2 =>
    if v2 = (-1) then
      if (0 ≤ v1 ∧ v1 < 20) then
        some ((D_2 77 v1.toNat), D_2)
      else none
    else
      (fX1_levelBehind F v1 v2 D_2).bind (fun (r_3, D_4) =>
        some (r_3, D_4)))
def fX11_behind (F : zFs) (v1 : Int) (v2 : Int) (D : zDa) : Option (Int × zDa) :=
  if v1 < 0 then
    some ((-1), D)
  else
    if v1 < (D 7 5) then
      if v2 = (-1) then
        fX11_behind_35 F v1 v2 D
      else
        (fX9_has F v2 D).bind (fun (r_5, D_6) =>
          if r_5 = 0 then
            some ((-1), D_6)
          else
            fX11_behind_35 F v1 v2 D_6)
    else
      some ((-1), D)
set_option maxHeartbeats 20000000 in
theorem sX11_behind_35 {l : Launch} {E : zE} {d : Nat} {F : zFs} {n sl : Nat} (hG : zG F)  (v1 : Int) (v2 : Int)   (D : zDa) : zO l E (d + 7) YX11_behind 35 [(0, zR 0), (1, zI v1), (2, zI v2)] [] (F, D, n, sl) (zcI F n sl) (fX11_behind_35 F v1 v2 D) := by
  unfold fX11_behind_35
  refine zO_aload_n dX11_behind_35 rfl (zR_P _) ?_
  refine gt11 (k := 15) dX11_behind_36 wF_X11_87 (by decide) (gk_0 hG) (zgv (c := 11) (k := 15) rfl (Or.inr ⟨_, rfl⟩) (gf_0_15 hG)) ?_
  refine zO_callV (Y' := YX1_refresh) (cw := zcV F n sl) (as := []) (rest := []) (na := 0) (ci := 1) rfl dX11_behind_39 wC_X1_refresh wN_X1 wM_X11_273 wI_X1_refresh wV_X1_refresh (by decide) (by decide) rfl rfl (Nat.le_of_ble_eq_true rfl) rfl (by decide) (gk_73 hG) (fun r hr => zMet_cast (Nat.add_assoc d 0 6) (mX1_refresh (d := d + 0) hG  r hr)) ?_
  intro D_2 _
  show zO _ _ _ _ _ _ [] (F, D_2, n, sl) _ _
  refine zO_iload_n dX11_behind_42 rfl ?_
  refine zO_iconst dX11_behind_43 (by decide) ?_
  refine zO_icmp_ne (tgt := 59) dX11_behind_44 rfl (fun c44 => ?_) (fun c44 => ?_)
  · refine zO_chk (fun h1 => ?_)
    refine zO_aload_n dX11_behind_47 rfl (zR_P _) ?_
    refine gt11 (k := 15) dX11_behind_48 wF_X11_87 (by decide) (gk_0 hG) (zgv (c := 11) (k := 15) rfl (Or.inr ⟨_, rfl⟩) (gf_0_15 hG)) ?_
    refine gt1 (k := 6) dX11_behind_51 wF_X11_274 (by decide) (gk_73 hG) (zgv (c := 1) (k := 6) rfl (Or.inl ⟨_, rfl⟩) (gf_73_6 hG)) ?_
    refine zO_iload_n dX11_behind_54 rfl ?_
    refine zO_iald dX11_behind_55 (gk_77 hG) (gl_in (gl_77 hG) h1) ?_
    refine zO_goto (tgt := 68) dX11_behind_56 rfl ?_
    exact zO_ret (rv := some (zI (D_2 77 v1.toNat))) dX11_behind_68 rfl rfl rfl
  · refine zO_aload_n dX11_behind_59 rfl (zR_P _) ?_
    refine gt11 (k := 15) dX11_behind_60 wF_X11_87 (by decide) (gk_0 hG) (zgv (c := 11) (k := 15) rfl (Or.inr ⟨_, rfl⟩) (gf_0_15 hG)) ?_
    refine zO_iload_n dX11_behind_63 rfl ?_
    refine zO_iload_n dX11_behind_64 rfl ?_
    refine zO_callV (Y' := YX1_levelBehind) (cw := zcI F n sl) (as := [zI v1, zI v2]) (rest := []) (na := 2) (ci := 1) rfl dX11_behind_65 wC_X1_levelBehind wN_X1 wM_X11_277 wI_X1_levelBehind wV_X1_levelBehind (by decide) (by decide) rfl rfl (Nat.le_of_ble_eq_true rfl) rfl (by decide) (gk_73 hG) (fun r hr => zMet_cast (Nat.add_assoc d 6 0) (mX1_levelBehind (d := d + 6) hG v1 v2 r hr)) ?_
    rintro ⟨r_3, D_4⟩ -
    show zO _ _ _ _ _ _ [zI r_3] (F, D_4, n, sl) _ _
    exact zO_ret (rv := some (zI r_3)) dX11_behind_68 rfl rfl rfl
set_option maxHeartbeats 20000000 in
theorem mX11_behind {l : Launch} {E : zE} {d : Nat} {F : zFs} {n sl : Nat} (hG : zG F) (v1 : Int) (v2 : Int) {D : zDa} : ∀ r, fX11_behind F  v1 v2 D = some r → zMet l E (d + 7) YX11_behind [zR 0, zI v1, zI v2] (F, D, n, sl) (zcI F n sl r) := by
  intro r hr
  refine zMet_of (plainFor_of_name (by decide)) (fun _ h => (nomatch h)) (Nat.le_of_ble_eq_true rfl) ?_
  have hz : zO l E (d + 7) YX11_behind 0 [(0, zR 0), (1, zI v1), (2, zI v2)] [] (F, D, n, sl) (zcI F n sl) (fX11_behind F  v1 v2 D) := by
    unfold fX11_behind
    refine zO_iload_n dX11_behind_0 rfl ?_
    refine zO_if_lt (tgt := 33) dX11_behind_1 rfl (fun c1 => ?_) (fun c1 => ?_)
    · refine zO_iconst dX11_behind_33 (by decide) ?_
      exact zO_ret (rv := some (zI (-1))) dX11_behind_34 rfl rfl rfl
    · refine zO_iload_n dX11_behind_4 rfl ?_
      refine zO_aload_n dX11_behind_5 rfl (zR_P _) ?_
      refine gt11 (k := 0) dX11_behind_6 wF_X11_10 (by decide) (gk_0 hG) (zgv (c := 11) (k := 0) rfl (Or.inr ⟨_, rfl⟩) (gf_0_0 hG)) ?_
      refine gt9 (k := 6) dX11_behind_9 wF_X11_154 (by decide) (gk_1 hG) (zgv (c := 9) (k := 6) rfl (Or.inl ⟨_, rfl⟩) (gf_1_6 hG)) ?_
      refine zO_iconst dX11_behind_12 (by decide) ?_
      refine zO_iald dX11_behind_13 (gk_7 hG) (gl_in (gl_7 hG) (by decide)) ?_
      refine zO_icmp_ge (tgt := 33) dX11_behind_14 rfl (fun c14 => ?_) (fun c14 => ?_)
      · refine zO_iload_n dX11_behind_17 rfl ?_
        refine zO_iconst dX11_behind_18 (by decide) ?_
        refine zO_icmp_eq (tgt := 35) dX11_behind_19 rfl (fun c19 => ?_) (fun c19 => ?_)
        · refine zO_live [0, 1, 2] ?_
          exact sX11_behind_35 hG v1 v2 D
        · refine zO_aload_n dX11_behind_22 rfl (zR_P _) ?_
          refine gt11 (k := 0) dX11_behind_23 wF_X11_10 (by decide) (gk_0 hG) (zgv (c := 11) (k := 0) rfl (Or.inr ⟨_, rfl⟩) (gf_0_0 hG)) ?_
          refine zO_iload_n dX11_behind_26 rfl ?_
          refine zO_callV (Y' := YX9_has) (cw := zcI F n sl) (as := [zI v2]) (rest := []) (na := 1) (ci := 9) rfl dX11_behind_27 wC_X9_has wN_X9 wM_X11_126 wI_X9_has wV_X9_has (by decide) (by decide) rfl rfl (Nat.le_of_ble_eq_true rfl) rfl (by decide) (gk_1 hG) (fun r hr => zMet_cast (Nat.add_assoc d 6 0) (mX9_has (d := d + 6) hG v2 r hr)) ?_
          rintro ⟨r_5, D_6⟩ -
          show zO _ _ _ _ _ _ [zI r_5] (F, D_6, n, sl) _ _
          refine zO_if_ne (tgt := 35) dX11_behind_30 rfl (fun c30 => ?_) (fun c30 => ?_)
          · refine zO_iconst dX11_behind_33 (by decide) ?_
            exact zO_ret (rv := some (zI (-1))) dX11_behind_34 rfl rfl rfl
          · refine zO_live [0, 1, 2] ?_
            exact sX11_behind_35 hG v1 v2 D_6
      · refine zO_iconst dX11_behind_33 (by decide) ?_
        exact zO_ret (rv := some (zI (-1))) dX11_behind_34 rfl rfl rfl
  exact hz r hr
theorem dX11_judge_0 : decode cX11_judge 0 = .ok (.aload_n 0, 1) := by decide +kernel
theorem dX11_judge_1 : decode cX11_judge 1 = .ok (.getfield 87, 3) := by decide +kernel
theorem dX11_judge_4 : decode cX11_judge 4 = .ok (.invokevirtual 273, 3) := by decide +kernel
theorem dX11_judge_7 : decode cX11_judge 7 = .ok (.iload_n 1, 1) := by decide +kernel
theorem dX11_judge_8 : decode cX11_judge 8 = .ok (.tableswitch 52 0 2 #[28, 36, 44], 28) := by decide +kernel
theorem dX11_judge_36 : decode cX11_judge 36 = .ok (.aload_n 0, 1) := by decide +kernel
theorem dX11_judge_37 : decode cX11_judge 37 = .ok (.getfield 87, 3) := by decide +kernel
theorem dX11_judge_40 : decode cX11_judge 40 = .ok (.getfield 280, 3) := by decide +kernel
theorem dX11_judge_43 : decode cX11_judge 43 = .ok (.ireturn, 1) := by decide +kernel
theorem dX11_judge_44 : decode cX11_judge 44 = .ok (.aload_n 0, 1) := by decide +kernel
theorem dX11_judge_45 : decode cX11_judge 45 = .ok (.getfield 87, 3) := by decide +kernel
theorem dX11_judge_48 : decode cX11_judge 48 = .ok (.getfield 283, 3) := by decide +kernel
theorem dX11_judge_51 : decode cX11_judge 51 = .ok (.ireturn, 1) := by decide +kernel
theorem dX11_judge_52 : decode cX11_judge 52 = .ok (.aload_n 0, 1) := by decide +kernel
theorem dX11_judge_53 : decode cX11_judge 53 = .ok (.getfield 87, 3) := by decide +kernel
theorem dX11_judge_56 : decode cX11_judge 56 = .ok (.getfield 286, 3) := by decide +kernel
theorem dX11_judge_59 : decode cX11_judge 59 = .ok (.ireturn, 1) := by decide +kernel
theorem dX11_judge_60 : decode cX11_judge 60 = .ok (.iconst (-1), 1) := by decide +kernel
theorem dX11_judge_61 : decode cX11_judge 61 = .ok (.ireturn, 1) := by decide +kernel
abbrev YX11_judge : zY := (yX11_judge, cX11_judge, 2, (Option.some Jvm.ClassFile.FieldType.int), [])
def fX11_judge (F : zFs) (v1 : Int) (D : zDa) : Option (Int × zDa) :=
  (fX1_refresh F D).bind (fun D_2 =>
    if v1 = 0 then
      some ((D_2 73 7), D_2)
    else
      if v1 = 1 then
        some ((D_2 73 8), D_2)
      else
        if v1 = 2 then
          some ((D_2 73 9), D_2)
        else
          some ((-1), D_2))
set_option maxHeartbeats 20000000 in
theorem mX11_judge {l : Launch} {E : zE} {d : Nat} {F : zFs} {n sl : Nat} (hG : zG F) (v1 : Int) {D : zDa} : ∀ r, fX11_judge F  v1 D = some r → zMet l E (d + 7) YX11_judge [zR 0, zI v1] (F, D, n, sl) (zcI F n sl r) := by
  intro r hr
  refine zMet_of (plainFor_of_name (by decide)) (fun _ h => (nomatch h)) (Nat.le_of_ble_eq_true rfl) ?_
  have hz : zO l E (d + 7) YX11_judge 0 [(0, zR 0), (1, zI v1)] [] (F, D, n, sl) (zcI F n sl) (fX11_judge F  v1 D) := by
    unfold fX11_judge
    refine zO_aload_n dX11_judge_0 rfl (zR_P _) ?_
    refine gt11 (k := 15) dX11_judge_1 wF_X11_87 (by decide) (gk_0 hG) (zgv (c := 11) (k := 15) rfl (Or.inr ⟨_, rfl⟩) (gf_0_15 hG)) ?_
    refine zO_callV (Y' := YX1_refresh) (cw := zcV F n sl) (as := []) (rest := []) (na := 0) (ci := 1) rfl dX11_judge_4 wC_X1_refresh wN_X1 wM_X11_273 wI_X1_refresh wV_X1_refresh (by decide) (by decide) rfl rfl (Nat.le_of_ble_eq_true rfl) rfl (by decide) (gk_73 hG) (fun r hr => zMet_cast (Nat.add_assoc d 0 6) (mX1_refresh (d := d + 0) hG  r hr)) ?_
    intro D_2 _
    show zO _ _ _ _ _ _ [] (F, D_2, n, sl) _ _
    refine zO_iload_n dX11_judge_7 rfl ?_
    refine zO_ite (fun c8_0 => ?_) (fun c8_0 => ?_)
    · refine zO_tableIn (tgt := 36) dX11_judge_8 ⟨0, c8_0, by decide, by decide, rfl⟩ rfl ?_
      refine zO_aload_n dX11_judge_36 rfl (zR_P _) ?_
      refine gt11 (k := 15) dX11_judge_37 wF_X11_87 (by decide) (gk_0 hG) (zgv (c := 11) (k := 15) rfl (Or.inr ⟨_, rfl⟩) (gf_0_15 hG)) ?_
      refine gt1 (k := 7) (v := zI (D_2 73 7)) dX11_judge_40 wF_X11_280 (by decide) (gk_73 hG) rfl ?_
      exact zO_ret (rv := some (zI (D_2 73 7))) dX11_judge_43 rfl rfl rfl
    · refine zO_ite (fun c8_1 => ?_) (fun c8_1 => ?_)
      · refine zO_tableIn (tgt := 44) dX11_judge_8 ⟨1, c8_1, by decide, by decide, rfl⟩ rfl ?_
        refine zO_aload_n dX11_judge_44 rfl (zR_P _) ?_
        refine gt11 (k := 15) dX11_judge_45 wF_X11_87 (by decide) (gk_0 hG) (zgv (c := 11) (k := 15) rfl (Or.inr ⟨_, rfl⟩) (gf_0_15 hG)) ?_
        refine gt1 (k := 8) (v := zI (D_2 73 8)) dX11_judge_48 wF_X11_283 (by decide) (gk_73 hG) rfl ?_
        exact zO_ret (rv := some (zI (D_2 73 8))) dX11_judge_51 rfl rfl rfl
      · refine zO_ite (fun c8_2 => ?_) (fun c8_2 => ?_)
        · refine zO_tableIn (tgt := 52) dX11_judge_8 ⟨2, c8_2, by decide, by decide, rfl⟩ rfl ?_
          refine zO_aload_n dX11_judge_52 rfl (zR_P _) ?_
          refine gt11 (k := 15) dX11_judge_53 wF_X11_87 (by decide) (gk_0 hG) (zgv (c := 11) (k := 15) rfl (Or.inr ⟨_, rfl⟩) (gf_0_15 hG)) ?_
          refine gt1 (k := 9) (v := zI (D_2 73 9)) dX11_judge_56 wF_X11_286 (by decide) (gk_73 hG) rfl ?_
          exact zO_ret (rv := some (zI (D_2 73 9))) dX11_judge_59 rfl rfl rfl
        · refine zO_tableOut (tgt := 60) dX11_judge_8 (by omega) rfl ?_
          refine zO_iconst dX11_judge_60 (by decide) ?_
          exact zO_ret (rv := some (zI (-1))) dX11_judge_61 rfl rfl rfl
  exact hz r hr
theorem dX11_learn_0 : decode cX11_learn 0 = .ok (.aload_n 0, 1) := by decide +kernel
theorem dX11_learn_1 : decode cX11_learn 1 = .ok (.getfield 87, 3) := by decide +kernel
theorem dX11_learn_4 : decode cX11_learn 4 = .ok (.invokevirtual 273, 3) := by decide +kernel
theorem dX11_learn_7 : decode cX11_learn 7 = .ok (.aload_n 0, 1) := by decide +kernel
theorem dX11_learn_8 : decode cX11_learn 8 = .ok (.getfield 10, 3) := by decide +kernel
theorem dX11_learn_11 : decode cX11_learn 11 = .ok (.getfield 154, 3) := by decide +kernel
theorem dX11_learn_14 : decode cX11_learn 14 = .ok (.iconst 5, 1) := by decide +kernel
theorem dX11_learn_15 : decode cX11_learn 15 = .ok (.iaload, 1) := by decide +kernel
theorem dX11_learn_16 : decode cX11_learn 16 = .ok (.iconst 1, 1) := by decide +kernel
theorem dX11_learn_17 : decode cX11_learn 17 = .ok (.isub, 1) := by decide +kernel
theorem dX11_learn_18 : decode cX11_learn 18 = .ok (.istore_n 1, 1) := by decide +kernel
theorem dX11_learn_19 : decode cX11_learn 19 = .ok (.iconst 0, 1) := by decide +kernel
theorem dX11_learn_20 : decode cX11_learn 20 = .ok (.istore_n 2, 1) := by decide +kernel
theorem dX11_learn_21 : decode cX11_learn 21 = .ok (.iload_n 2, 1) := by decide +kernel
theorem dX11_learn_22 : decode cX11_learn 22 = .ok (.aload_n 0, 1) := by decide +kernel
theorem dX11_learn_23 : decode cX11_learn 23 = .ok (.getfield 10, 3) := by decide +kernel
theorem dX11_learn_26 : decode cX11_learn 26 = .ok (.getfield 116, 3) := by decide +kernel
theorem dX11_learn_29 : decode cX11_learn 29 = .ok (.if_icmp .ge 27, 3) := by decide +kernel
theorem dX11_learn_32 : decode cX11_learn 32 = .ok (.aload_n 0, 1) := by decide +kernel
theorem dX11_learn_33 : decode cX11_learn 33 = .ok (.getfield 10, 3) := by decide +kernel
theorem dX11_learn_36 : decode cX11_learn 36 = .ok (.getfield 130, 3) := by decide +kernel
theorem dX11_learn_39 : decode cX11_learn 39 = .ok (.iload_n 2, 1) := by decide +kernel
theorem dX11_learn_40 : decode cX11_learn 40 = .ok (.aload_n 0, 1) := by decide +kernel
theorem dX11_learn_41 : decode cX11_learn 41 = .ok (.getfield 87, 3) := by decide +kernel
theorem dX11_learn_44 : decode cX11_learn 44 = .ok (.iload_n 1, 1) := by decide +kernel
theorem dX11_learn_45 : decode cX11_learn 45 = .ok (.iload_n 2, 1) := by decide +kernel
theorem dX11_learn_46 : decode cX11_learn 46 = .ok (.invokevirtual 277, 3) := by decide +kernel
theorem dX11_learn_49 : decode cX11_learn 49 = .ok (.iastore, 1) := by decide +kernel
theorem dX11_learn_50 : decode cX11_learn 50 = .ok (.iinc 2 1, 3) := by decide +kernel
theorem dX11_learn_53 : decode cX11_learn 53 = .ok (.goto (-32), 3) := by decide +kernel
theorem dX11_learn_56 : decode cX11_learn 56 = .ok (.aload_n 0, 1) := by decide +kernel
theorem dX11_learn_57 : decode cX11_learn 57 = .ok (.aload_n 0, 1) := by decide +kernel
theorem dX11_learn_58 : decode cX11_learn 58 = .ok (.getfield 10, 3) := by decide +kernel
theorem dX11_learn_61 : decode cX11_learn 61 = .ok (.invokevirtual 289, 3) := by decide +kernel
theorem dX11_learn_64 : decode cX11_learn 64 = .ok (.invokevirtual 123, 3) := by decide +kernel
theorem dX11_learn_67 : decode cX11_learn 67 = .ok (.ireturn, 1) := by decide +kernel
abbrev YX11_learn : zY := (yX11_learn, cX11_learn, 3, (Option.some Jvm.ClassFile.FieldType.int), [])
def fX11_learn_21 (F : zFs) (o1 : Int)  (k_21 : Int → zDa → Option (Int × zDa)) (v2 : Int) (D : zDa) : Option (Int × zDa) :=
  if v2 < (D 1 5) then
    (fX1_levelBehind F o1 v2 D).bind (fun (r_4, D_5) =>
      if (0 ≤ v2 ∧ v2 < 20) then
        zlet (zwr D_5 4 v2.toNat r_4) (fun D_6 =>
          if (-2147483648 ≤ v2 + 1 ∧ v2 + 1 ≤ 2147483647) then
            k_21 (v2 + 1) D_6
          else none)
      else none)
  else
    (fX9_knownCount F D).bind (fun (r_7, D_8) =>
      (fX11_accept F r_7 D_8).bind (fun (r_9, D_10) =>
        some (r_9, D_10)))
def fX11_learn (F : zFs)  (D : zDa) : Option (Int × zDa) :=
  (fX1_refresh F D).bind (fun D_2 =>
    if (-2147483648 ≤ (D_2 7 5) - 1 ∧ (D_2 7 5) - 1 ≤ 2147483647) then
      zlet (((D_2 7 5) - 1)) (fun x1_3 =>
        zfix (fun _ _ => none) (fX11_learn_21 F x1_3) zfu 0 D_2)
    else none)
set_option maxHeartbeats 20000000 in
theorem sX11_learn_21 {l : Launch} {E : zE} {d : Nat} {F : zFs} {n sl : Nat} (hG : zG F)  (o1 : Int)   : ∀ (N : Nat) (v2 : Int) (D : zDa), zO l E (d + 7) YX11_learn 21 [(0, zR 0), (1, zI o1), (2, zI v2)] [] (F, D, n, sl) (zcI F n sl) (zfix (fun _ _ => none) (fX11_learn_21 F o1) N v2 D) := by
  intro N
  induction N with
  | zero => intro v2 D; exact zO_none
  | succ N hk_21 =>
    intro v2 D
    show zO _ _ _ _ _ _ _ _ _ ((fX11_learn_21 F o1) (zfix (fun _ _ => none) (fX11_learn_21 F o1) N) v2 D)
    unfold fX11_learn_21
    refine zO_iload_n dX11_learn_21 rfl ?_
    refine zO_aload_n dX11_learn_22 rfl (zR_P _) ?_
    refine gt11 (k := 0) dX11_learn_23 wF_X11_10 (by decide) (gk_0 hG) (zgv (c := 11) (k := 0) rfl (Or.inr ⟨_, rfl⟩) (gf_0_0 hG)) ?_
    refine gt9 (k := 5) (v := zI (D 1 5)) dX11_learn_26 wF_X11_116 (by decide) (gk_1 hG) rfl ?_
    refine zO_icmp_ge (tgt := 56) dX11_learn_29 rfl (fun c29 => ?_) (fun c29 => ?_)
    · refine zO_aload_n dX11_learn_32 rfl (zR_P _) ?_
      refine gt11 (k := 0) dX11_learn_33 wF_X11_10 (by decide) (gk_0 hG) (zgv (c := 11) (k := 0) rfl (Or.inr ⟨_, rfl⟩) (gf_0_0 hG)) ?_
      refine gt9 (k := 2) dX11_learn_36 wF_X11_130 (by decide) (gk_1 hG) (zgv (c := 9) (k := 2) rfl (Or.inl ⟨_, rfl⟩) (gf_1_2 hG)) ?_
      refine zO_iload_n dX11_learn_39 rfl ?_
      refine zO_aload_n dX11_learn_40 rfl (zR_P _) ?_
      refine gt11 (k := 15) dX11_learn_41 wF_X11_87 (by decide) (gk_0 hG) (zgv (c := 11) (k := 15) rfl (Or.inr ⟨_, rfl⟩) (gf_0_15 hG)) ?_
      refine zO_iload_n dX11_learn_44 rfl ?_
      refine zO_iload_n dX11_learn_45 rfl ?_
      refine zO_callV (Y' := YX1_levelBehind) (cw := zcI F n sl) (as := [zI o1, zI v2]) (rest := [zI v2, zR 4]) (na := 2) (ci := 1) rfl dX11_learn_46 wC_X1_levelBehind wN_X1 wM_X11_277 wI_X1_levelBehind wV_X1_levelBehind (by decide) (by decide) rfl rfl (Nat.le_of_ble_eq_true rfl) rfl (by decide) (gk_73 hG) (fun r hr => zMet_cast (Nat.add_assoc d 6 0) (mX1_levelBehind (d := d + 6) hG o1 v2 r hr)) ?_
      rintro ⟨r_4, D_5⟩ -
      show zO _ _ _ _ _ _ [zI r_4, zI v2, zR 4] (F, D_5, n, sl) _ _
      refine zO_chk (fun h2 => ?_)
      refine zO_iast dX11_learn_49 (gk_4 hG) (gl_in (gl_4 hG) h2) ?_
      refine zO_letD (fun D_6 eD_6 => ?_)
      refine zO_chk (fun h3 => ?_)
      refine zO_iinc dX11_learn_50 rfl h3 (by decide) ?_
      refine zO_ls (ls' := [(0, zR 0), (1, zI o1), (2, zI (v2 + 1))]) rfl ?_
      refine zO_goto (tgt := 21) dX11_learn_53 rfl ?_
      refine zO_live [0, 1, 2] ?_
      exact hk_21 (v2 + 1) D_6
    · refine zO_aload_n dX11_learn_56 rfl (zR_P _) ?_
      refine zO_aload_n dX11_learn_57 rfl (zR_P _) ?_
      refine gt11 (k := 0) dX11_learn_58 wF_X11_10 (by decide) (gk_0 hG) (zgv (c := 11) (k := 0) rfl (Or.inr ⟨_, rfl⟩) (gf_0_0 hG)) ?_
      refine zO_callV (Y' := YX9_knownCount) (cw := zcI F n sl) (as := []) (rest := [zR 0]) (na := 0) (ci := 9) rfl dX11_learn_61 wC_X9_knownCount wN_X9 wM_X11_289 wI_X9_knownCount wV_X9_knownCount (by decide) (by decide) rfl rfl (Nat.le_of_ble_eq_true rfl) rfl (by decide) (gk_1 hG) (fun r hr => zMet_cast (Nat.add_assoc d 6 0) (mX9_knownCount (d := d + 6) hG  r hr)) ?_
      rintro ⟨r_7, D_8⟩ -
      show zO _ _ _ _ _ _ [zI r_7, zR 0] (F, D_8, n, sl) _ _
      refine zO_callV (Y' := YX11_accept) (cw := zcI F n sl) (as := [zI r_7]) (rest := []) (na := 1) (ci := 11) rfl dX11_learn_64 wC_X11_accept wN_X11 wM_X11_123 wI_X11_accept wV_X11_accept (by decide) (by decide) rfl rfl (Nat.le_of_ble_eq_true rfl) rfl (by decide) (gk_0 hG) (fun r hr => zMet_cast (Nat.add_assoc d 6 0) (mX11_accept (d := d + 6) hG r_7 r hr)) ?_
      rintro ⟨r_9, D_10⟩ -
      show zO _ _ _ _ _ _ [zI r_9] (F, D_10, n, sl) _ _
      exact zO_ret (rv := some (zI r_9)) dX11_learn_67 rfl rfl rfl
set_option maxHeartbeats 20000000 in
theorem mX11_learn {l : Launch} {E : zE} {d : Nat} {F : zFs} {n sl : Nat} (hG : zG F)  {D : zDa} : ∀ r, fX11_learn F   D = some r → zMet l E (d + 7) YX11_learn [zR 0] (F, D, n, sl) (zcI F n sl r) := by
  intro r hr
  refine zMet_of (plainFor_of_name (by decide)) (fun _ h => (nomatch h)) (Nat.le_of_ble_eq_true rfl) ?_
  have hz : zO l E (d + 7) YX11_learn 0 [(0, zR 0)] [] (F, D, n, sl) (zcI F n sl) (fX11_learn F   D) := by
    unfold fX11_learn
    refine zO_aload_n dX11_learn_0 rfl (zR_P _) ?_
    refine gt11 (k := 15) dX11_learn_1 wF_X11_87 (by decide) (gk_0 hG) (zgv (c := 11) (k := 15) rfl (Or.inr ⟨_, rfl⟩) (gf_0_15 hG)) ?_
    refine zO_callV (Y' := YX1_refresh) (cw := zcV F n sl) (as := []) (rest := []) (na := 0) (ci := 1) rfl dX11_learn_4 wC_X1_refresh wN_X1 wM_X11_273 wI_X1_refresh wV_X1_refresh (by decide) (by decide) rfl rfl (Nat.le_of_ble_eq_true rfl) rfl (by decide) (gk_73 hG) (fun r hr => zMet_cast (Nat.add_assoc d 0 6) (mX1_refresh (d := d + 0) hG  r hr)) ?_
    intro D_2 _
    show zO _ _ _ _ _ _ [] (F, D_2, n, sl) _ _
    refine zO_chk (fun h1 => ?_)
    refine zO_aload_n dX11_learn_7 rfl (zR_P _) ?_
    refine gt11 (k := 0) dX11_learn_8 wF_X11_10 (by decide) (gk_0 hG) (zgv (c := 11) (k := 0) rfl (Or.inr ⟨_, rfl⟩) (gf_0_0 hG)) ?_
    refine gt9 (k := 6) dX11_learn_11 wF_X11_154 (by decide) (gk_1 hG) (zgv (c := 9) (k := 6) rfl (Or.inl ⟨_, rfl⟩) (gf_1_6 hG)) ?_
    refine zO_iconst dX11_learn_14 (by decide) ?_
    refine zO_iald dX11_learn_15 (gk_7 hG) (gl_in (gl_7 hG) (by decide)) ?_
    refine zO_iconst dX11_learn_16 (by decide) ?_
    refine zO_isub dX11_learn_17 h1 ?_
    refine zO_letI (fun x1_3 ex1_3 => ?_)
    refine zO_istore_n dX11_learn_18 (by decide) ?_
    refine zO_ls (ls' := [(0, zR 0), (1, zI x1_3)]) rfl ?_
    refine zO_iconst dX11_learn_19 (by decide) ?_
    refine zO_istore_n dX11_learn_20 (by decide) ?_
    refine zO_ls (ls' := [(0, zR 0), (1, zI x1_3), (2, zI 0)]) rfl ?_
    refine zO_live [0, 1, 2] ?_
    exact sX11_learn_21 hG x1_3 zfu 0 D_2
  exact hz r hr
theorem dX11_backward_0 : decode cX11_backward 0 = .ok (.iload_n 2, 1) := by decide +kernel
theorem dX11_backward_1 : decode cX11_backward 1 = .ok (.iconst 1, 1) := by decide +kernel
theorem dX11_backward_2 : decode cX11_backward 2 = .ok (.if_icmp .lt 24, 3) := by decide +kernel
theorem dX11_backward_5 : decode cX11_backward 5 = .ok (.iload_n 2, 1) := by decide +kernel
theorem dX11_backward_6 : decode cX11_backward 6 = .ok (.iconst 3, 1) := by decide +kernel
theorem dX11_backward_7 : decode cX11_backward 7 = .ok (.if_icmp .ge 19, 3) := by decide +kernel
theorem dX11_backward_10 : decode cX11_backward 10 = .ok (.iload_n 1, 1) := by decide +kernel
theorem dX11_backward_11 : decode cX11_backward 11 = .ok (.iconst (-1), 1) := by decide +kernel
theorem dX11_backward_12 : decode cX11_backward 12 = .ok (.if_icmp .eq 16, 3) := by decide +kernel
theorem dX11_backward_15 : decode cX11_backward 15 = .ok (.aload_n 0, 1) := by decide +kernel
theorem dX11_backward_16 : decode cX11_backward 16 = .ok (.getfield 10, 3) := by decide +kernel
theorem dX11_backward_19 : decode cX11_backward 19 = .ok (.iload_n 1, 1) := by decide +kernel
theorem dX11_backward_20 : decode cX11_backward 20 = .ok (.invokevirtual 126, 3) := by decide +kernel
theorem dX11_backward_23 : decode cX11_backward 23 = .ok (.ifCond .ne 5, 3) := by decide +kernel
theorem dX11_backward_26 : decode cX11_backward 26 = .ok (.iconst (-1), 1) := by decide +kernel
theorem dX11_backward_27 : decode cX11_backward 27 = .ok (.ireturn, 1) := by decide +kernel
theorem dX11_backward_28 : decode cX11_backward 28 = .ok (.aload_n 0, 1) := by decide +kernel
theorem dX11_backward_29 : decode cX11_backward 29 = .ok (.getfield 69, 3) := by decide +kernel
theorem dX11_backward_32 : decode cX11_backward 32 = .ok (.invokevirtual 235, 3) := by decide +kernel
theorem dX11_backward_35 : decode cX11_backward 35 = .ok (.aload_n 0, 1) := by decide +kernel
theorem dX11_backward_36 : decode cX11_backward 36 = .ok (.getfield 78, 3) := by decide +kernel
theorem dX11_backward_39 : decode cX11_backward 39 = .ok (.aload_n 0, 1) := by decide +kernel
theorem dX11_backward_40 : decode cX11_backward 40 = .ok (.getfield 10, 3) := by decide +kernel
theorem dX11_backward_43 : decode cX11_backward 43 = .ok (.getfield 154, 3) := by decide +kernel
theorem dX11_backward_46 : decode cX11_backward 46 = .ok (.iconst 5, 1) := by decide +kernel
theorem dX11_backward_47 : decode cX11_backward 47 = .ok (.iaload, 1) := by decide +kernel
theorem dX11_backward_48 : decode cX11_backward 48 = .ok (.aload_n 0, 1) := by decide +kernel
theorem dX11_backward_49 : decode cX11_backward 49 = .ok (.getfield 10, 3) := by decide +kernel
theorem dX11_backward_52 : decode cX11_backward 52 = .ok (.getfield 154, 3) := by decide +kernel
theorem dX11_backward_55 : decode cX11_backward 55 = .ok (.bipush 6, 2) := by decide +kernel
theorem dX11_backward_57 : decode cX11_backward 57 = .ok (.iaload, 1) := by decide +kernel
theorem dX11_backward_58 : decode cX11_backward 58 = .ok (.invokevirtual 292, 3) := by decide +kernel
theorem dX11_backward_61 : decode cX11_backward 61 = .ok (.iload_n 1, 1) := by decide +kernel
theorem dX11_backward_62 : decode cX11_backward 62 = .ok (.iconst (-1), 1) := by decide +kernel
theorem dX11_backward_63 : decode cX11_backward 63 = .ok (.if_icmp .ne 26, 3) := by decide +kernel
theorem dX11_backward_66 : decode cX11_backward 66 = .ok (.iload_n 2, 1) := by decide +kernel
theorem dX11_backward_67 : decode cX11_backward 67 = .ok (.iconst 1, 1) := by decide +kernel
theorem dX11_backward_68 : decode cX11_backward 68 = .ok (.if_icmp .ne 13, 3) := by decide +kernel
theorem dX11_backward_71 : decode cX11_backward 71 = .ok (.aload_n 0, 1) := by decide +kernel
theorem dX11_backward_72 : decode cX11_backward 72 = .ok (.getfield 78, 3) := by decide +kernel
theorem dX11_backward_75 : decode cX11_backward 75 = .ok (.getfield 295, 3) := by decide +kernel
theorem dX11_backward_78 : decode cX11_backward 78 = .ok (.goto 10, 3) := by decide +kernel
theorem dX11_backward_81 : decode cX11_backward 81 = .ok (.aload_n 0, 1) := by decide +kernel
theorem dX11_backward_82 : decode cX11_backward 82 = .ok (.getfield 78, 3) := by decide +kernel
theorem dX11_backward_85 : decode cX11_backward 85 = .ok (.getfield 298, 3) := by decide +kernel
theorem dX11_backward_88 : decode cX11_backward 88 = .ok (.ireturn, 1) := by decide +kernel
theorem dX11_backward_89 : decode cX11_backward 89 = .ok (.aload_n 0, 1) := by decide +kernel
theorem dX11_backward_90 : decode cX11_backward 90 = .ok (.getfield 78, 3) := by decide +kernel
theorem dX11_backward_93 : decode cX11_backward 93 = .ok (.iload_n 1, 1) := by decide +kernel
theorem dX11_backward_94 : decode cX11_backward 94 = .ok (.iload_n 2, 1) := by decide +kernel
theorem dX11_backward_95 : decode cX11_backward 95 = .ok (.invokevirtual 301, 3) := by decide +kernel
theorem dX11_backward_98 : decode cX11_backward 98 = .ok (.ireturn, 1) := by decide +kernel
abbrev YX11_backward : zY := (yX11_backward, cX11_backward, 3, (Option.some Jvm.ClassFile.FieldType.int), [])
def fX11_backward_28  (v1 : Int) (v2 : Int) (F : zFs) (D : zDa) (n sl : Nat) : Option (Int × zM) :=
  (fX4_refresh F D n sl).bind (fun (F_2, D_3, n_4, sl_5) =>
    if zG F_2 ∧ 126 ≤ n_4 then
      (fX0_lay F_2 (D_3 7 5) (D_3 7 6) D_3).bind (fun D_7 =>
        if v1 = (-1) then
          if v2 = 1 then
            some ((D_7 71 5), (F_2, D_7, n_4, sl_5))
          else
            some ((D_7 71 6), (F_2, D_7, n_4, sl_5))
        else
          (fX0_dayOf F_2 v1 v2 D_7).bind (fun (r_8, D_9) =>
            some (r_8, (F_2, D_9, n_4, sl_5))))
    else none)
def fX11_backward (v1 : Int) (v2 : Int) (F : zFs) (D : zDa) (n sl : Nat) : Option (Int × zM) :=
  if v2 < 1 then
    some ((-1), (F, D, n, sl))
  else
    if v2 < 3 then
      if v1 = (-1) then
        fX11_backward_28 v1 v2 F D n sl
      else
        (fX9_has F v1 D).bind (fun (r_10, D_11) =>
          if r_10 = 0 then
            some ((-1), (F, D_11, n, sl))
          else
            fX11_backward_28 v1 v2 F D_11 n sl)
    else
      some ((-1), (F, D, n, sl))
set_option maxHeartbeats 20000000 in
theorem sX11_backward_28 {l : Launch} {E : zE} {d : Nat}  (v1 : Int) (v2 : Int)   (F : zFs) (D : zDa) (n sl : Nat) (hG : zG F) (hN : 126 ≤ n) : zO l E (d + 7) YX11_backward 28 [(0, zR 0), (1, zI v1), (2, zI v2)] [] (F, D, n, sl) (zmI) (fX11_backward_28 v1 v2 F D n sl) := by
  unfold fX11_backward_28
  refine zO_aload_n dX11_backward_28 rfl (zR_P _) ?_
  refine gt11 (k := 13) dX11_backward_29 wF_X11_69 (by decide) (gk_0 hG) (zgv (c := 11) (k := 13) rfl (Or.inr ⟨_, rfl⟩) (gf_0_13 hG)) ?_
  refine zO_callV (Y' := YX4_refresh) (cw := zmV) (as := []) (rest := []) (na := 0) (ci := 4) rfl dX11_backward_32 wC_X4_refresh wN_X4 wM_X11_235 wI_X4_refresh wV_X4_refresh (by decide) (by decide) rfl rfl (Nat.le_of_ble_eq_true rfl) rfl (by decide) (gk_60 hG) (fun r hr => zMet_cast (Nat.add_assoc d 0 6) (mX4_refresh (d := d + 0)  hG hN r hr)) ?_
  rintro ⟨F_2, D_3, n_4, sl_5⟩ -
  show zO _ _ _ _ _ _ [] (F_2, D_3, n_4, sl_5) _ _
  refine zO_chk (fun g5 => ?_)
  refine zO_aload_n dX11_backward_35 rfl (zR_P _) ?_
  refine gt11 (k := 14) dX11_backward_36 wF_X11_78 (by decide) (gk_0 g5.1) (zgv (c := 11) (k := 14) rfl (Or.inr ⟨_, rfl⟩) (gf_0_14 g5.1)) ?_
  refine zO_aload_n dX11_backward_39 rfl (zR_P _) ?_
  refine gt11 (k := 0) dX11_backward_40 wF_X11_10 (by decide) (gk_0 g5.1) (zgv (c := 11) (k := 0) rfl (Or.inr ⟨_, rfl⟩) (gf_0_0 g5.1)) ?_
  refine gt9 (k := 6) dX11_backward_43 wF_X11_154 (by decide) (gk_1 g5.1) (zgv (c := 9) (k := 6) rfl (Or.inl ⟨_, rfl⟩) (gf_1_6 g5.1)) ?_
  refine zO_iconst dX11_backward_46 (by decide) ?_
  refine zO_iald dX11_backward_47 (gk_7 g5.1) (gl_in (gl_7 g5.1) (by decide)) ?_
  refine zO_aload_n dX11_backward_48 rfl (zR_P _) ?_
  refine gt11 (k := 0) dX11_backward_49 wF_X11_10 (by decide) (gk_0 g5.1) (zgv (c := 11) (k := 0) rfl (Or.inr ⟨_, rfl⟩) (gf_0_0 g5.1)) ?_
  refine gt9 (k := 6) dX11_backward_52 wF_X11_154 (by decide) (gk_1 g5.1) (zgv (c := 9) (k := 6) rfl (Or.inl ⟨_, rfl⟩) (gf_1_6 g5.1)) ?_
  refine zO_bipush dX11_backward_55 (by decide) ?_
  refine zO_iald dX11_backward_57 (gk_7 g5.1) (gl_in (gl_7 g5.1) (by decide)) ?_
  refine zO_callV (Y' := YX0_lay) (cw := zcV F_2 n_4 sl_5) (as := [zI (D_3 7 5), zI (D_3 7 6)]) (rest := []) (na := 2) (ci := 0) rfl dX11_backward_58 wC_X0_lay wN_X0 wM_X11_292 wI_X0_lay wV_X0_lay (by decide) (by decide) rfl rfl (Nat.le_of_ble_eq_true rfl) rfl (by decide) (gk_71 g5.1) (fun r hr => zMet_cast (Nat.add_assoc d 0 6) (mX0_lay (d := d + 0) g5.1 (D_3 7 5) (D_3 7 6) r hr)) ?_
  intro D_7 _
  show zO _ _ _ _ _ _ [] (F_2, D_7, n_4, sl_5) _ _
  refine zO_iload_n dX11_backward_61 rfl ?_
  refine zO_iconst dX11_backward_62 (by decide) ?_
  refine zO_icmp_ne (tgt := 89) dX11_backward_63 rfl (fun c63 => ?_) (fun c63 => ?_)
  · refine zO_iload_n dX11_backward_66 rfl ?_
    refine zO_iconst dX11_backward_67 (by decide) ?_
    refine zO_icmp_ne (tgt := 81) dX11_backward_68 rfl (fun c68 => ?_) (fun c68 => ?_)
    · refine zO_aload_n dX11_backward_71 rfl (zR_P _) ?_
      refine gt11 (k := 14) dX11_backward_72 wF_X11_78 (by decide) (gk_0 g5.1) (zgv (c := 11) (k := 14) rfl (Or.inr ⟨_, rfl⟩) (gf_0_14 g5.1)) ?_
      refine gt0 (k := 5) (v := zI (D_7 71 5)) dX11_backward_75 wF_X11_295 (by decide) (gk_71 g5.1) rfl ?_
      refine zO_goto (tgt := 88) dX11_backward_78 rfl ?_
      exact zO_ret (rv := some (zI (D_7 71 5))) dX11_backward_88 rfl rfl rfl
    · refine zO_aload_n dX11_backward_81 rfl (zR_P _) ?_
      refine gt11 (k := 14) dX11_backward_82 wF_X11_78 (by decide) (gk_0 g5.1) (zgv (c := 11) (k := 14) rfl (Or.inr ⟨_, rfl⟩) (gf_0_14 g5.1)) ?_
      refine gt0 (k := 6) (v := zI (D_7 71 6)) dX11_backward_85 wF_X11_298 (by decide) (gk_71 g5.1) rfl ?_
      exact zO_ret (rv := some (zI (D_7 71 6))) dX11_backward_88 rfl rfl rfl
  · refine zO_aload_n dX11_backward_89 rfl (zR_P _) ?_
    refine gt11 (k := 14) dX11_backward_90 wF_X11_78 (by decide) (gk_0 g5.1) (zgv (c := 11) (k := 14) rfl (Or.inr ⟨_, rfl⟩) (gf_0_14 g5.1)) ?_
    refine zO_iload_n dX11_backward_93 rfl ?_
    refine zO_iload_n dX11_backward_94 rfl ?_
    refine zO_callV (Y' := YX0_dayOf) (cw := zcI F_2 n_4 sl_5) (as := [zI v1, zI v2]) (rest := []) (na := 2) (ci := 0) rfl dX11_backward_95 wC_X0_dayOf wN_X0 wM_X11_301 wI_X0_dayOf wV_X0_dayOf (by decide) (by decide) rfl rfl (Nat.le_of_ble_eq_true rfl) rfl (by decide) (gk_71 g5.1) (fun r hr => zMet_cast (Nat.add_assoc d 6 0) (mX0_dayOf (d := d + 6) g5.1 v1 v2 r hr)) ?_
    rintro ⟨r_8, D_9⟩ -
    show zO _ _ _ _ _ _ [zI r_8] (F_2, D_9, n_4, sl_5) _ _
    exact zO_ret (rv := some (zI r_8)) dX11_backward_98 rfl rfl rfl
set_option maxHeartbeats 20000000 in
theorem mX11_backward {l : Launch} {E : zE} {d : Nat} (v1 : Int) (v2 : Int) {F : zFs} {D : zDa} {n sl : Nat} (hG : zG F) (hN : 126 ≤ n) : ∀ r, fX11_backward v1 v2 F D n sl = some r → zMet l E (d + 7) YX11_backward [zR 0, zI v1, zI v2] (F, D, n, sl) (zmI r) := by
  intro r hr
  refine zMet_of (plainFor_of_name (by decide)) (fun _ h => (nomatch h)) (Nat.le_of_ble_eq_true rfl) ?_
  have hz : zO l E (d + 7) YX11_backward 0 [(0, zR 0), (1, zI v1), (2, zI v2)] [] (F, D, n, sl) (zmI) (fX11_backward v1 v2 F D n sl) := by
    unfold fX11_backward
    refine zO_iload_n dX11_backward_0 rfl ?_
    refine zO_iconst dX11_backward_1 (by decide) ?_
    refine zO_icmp_lt (tgt := 26) dX11_backward_2 rfl (fun c2 => ?_) (fun c2 => ?_)
    · refine zO_iconst dX11_backward_26 (by decide) ?_
      exact zO_ret (rv := some (zI (-1))) dX11_backward_27 rfl rfl rfl
    · refine zO_iload_n dX11_backward_5 rfl ?_
      refine zO_iconst dX11_backward_6 (by decide) ?_
      refine zO_icmp_ge (tgt := 26) dX11_backward_7 rfl (fun c7 => ?_) (fun c7 => ?_)
      · refine zO_iload_n dX11_backward_10 rfl ?_
        refine zO_iconst dX11_backward_11 (by decide) ?_
        refine zO_icmp_eq (tgt := 28) dX11_backward_12 rfl (fun c12 => ?_) (fun c12 => ?_)
        · refine zO_live [0, 1, 2] ?_
          exact sX11_backward_28 v1 v2 F D n sl hG hN
        · refine zO_aload_n dX11_backward_15 rfl (zR_P _) ?_
          refine gt11 (k := 0) dX11_backward_16 wF_X11_10 (by decide) (gk_0 hG) (zgv (c := 11) (k := 0) rfl (Or.inr ⟨_, rfl⟩) (gf_0_0 hG)) ?_
          refine zO_iload_n dX11_backward_19 rfl ?_
          refine zO_callV (Y' := YX9_has) (cw := zcI F n sl) (as := [zI v1]) (rest := []) (na := 1) (ci := 9) rfl dX11_backward_20 wC_X9_has wN_X9 wM_X11_126 wI_X9_has wV_X9_has (by decide) (by decide) rfl rfl (Nat.le_of_ble_eq_true rfl) rfl (by decide) (gk_1 hG) (fun r hr => zMet_cast (Nat.add_assoc d 6 0) (mX9_has (d := d + 6) hG v1 r hr)) ?_
          rintro ⟨r_10, D_11⟩ -
          show zO _ _ _ _ _ _ [zI r_10] (F, D_11, n, sl) _ _
          refine zO_if_ne (tgt := 28) dX11_backward_23 rfl (fun c23 => ?_) (fun c23 => ?_)
          · refine zO_iconst dX11_backward_26 (by decide) ?_
            exact zO_ret (rv := some (zI (-1))) dX11_backward_27 rfl rfl rfl
          · refine zO_live [0, 1, 2] ?_
            exact sX11_backward_28 v1 v2 F D_11 n sl hG hN
      · refine zO_iconst dX11_backward_26 (by decide) ?_
        exact zO_ret (rv := some (zI (-1))) dX11_backward_27 rfl rfl rfl
  exact hz r hr
theorem dX11_friend_0 : decode cX11_friend 0 = .ok (.iload_n 1, 1) := by decide +kernel
theorem dX11_friend_1 : decode cX11_friend 1 = .ok (.ifCond .lt 18, 3) := by decide +kernel
theorem dX11_friend_4 : decode cX11_friend 4 = .ok (.iload_n 1, 1) := by decide +kernel
theorem dX11_friend_5 : decode cX11_friend 5 = .ok (.iconst 3, 1) := by decide +kernel
theorem dX11_friend_6 : decode cX11_friend 6 = .ok (.if_icmp .ge 13, 3) := by decide +kernel
theorem dX11_friend_9 : decode cX11_friend 9 = .ok (.iload_n 2, 1) := by decide +kernel
theorem dX11_friend_10 : decode cX11_friend 10 = .ok (.ifCond .lt 9, 3) := by decide +kernel
theorem dX11_friend_13 : decode cX11_friend 13 = .ok (.iload_n 2, 1) := by decide +kernel
theorem dX11_friend_14 : decode cX11_friend 14 = .ok (.bipush 99, 2) := by decide +kernel
theorem dX11_friend_16 : decode cX11_friend 16 = .ok (.if_icmp .le 9, 3) := by decide +kernel
theorem dX11_friend_19 : decode cX11_friend 19 = .ok (.aload_n 0, 1) := by decide +kernel
theorem dX11_friend_20 : decode cX11_friend 20 = .ok (.iconst (-1), 1) := by decide +kernel
theorem dX11_friend_21 : decode cX11_friend 21 = .ok (.invokevirtual 112, 3) := by decide +kernel
theorem dX11_friend_24 : decode cX11_friend 24 = .ok (.ireturn, 1) := by decide +kernel
theorem dX11_friend_25 : decode cX11_friend 25 = .ok (.aload_n 0, 1) := by decide +kernel
theorem dX11_friend_26 : decode cX11_friend 26 = .ok (.getfield 10, 3) := by decide +kernel
theorem dX11_friend_29 : decode cX11_friend 29 = .ok (.getfield 304, 3) := by decide +kernel
theorem dX11_friend_32 : decode cX11_friend 32 = .ok (.iload_n 1, 1) := by decide +kernel
theorem dX11_friend_33 : decode cX11_friend 33 = .ok (.iaload, 1) := by decide +kernel
theorem dX11_friend_34 : decode cX11_friend 34 = .ok (.istore_n 3, 1) := by decide +kernel
theorem dX11_friend_35 : decode cX11_friend 35 = .ok (.aload_n 0, 1) := by decide +kernel
theorem dX11_friend_36 : decode cX11_friend 36 = .ok (.getfield 10, 3) := by decide +kernel
theorem dX11_friend_39 : decode cX11_friend 39 = .ok (.getfield 304, 3) := by decide +kernel
theorem dX11_friend_42 : decode cX11_friend 42 = .ok (.iload_n 1, 1) := by decide +kernel
theorem dX11_friend_43 : decode cX11_friend 43 = .ok (.iload_n 2, 1) := by decide +kernel
theorem dX11_friend_44 : decode cX11_friend 44 = .ok (.iastore, 1) := by decide +kernel
theorem dX11_friend_45 : decode cX11_friend 45 = .ok (.aload_n 0, 1) := by decide +kernel
theorem dX11_friend_46 : decode cX11_friend 46 = .ok (.iload_n 3, 1) := by decide +kernel
theorem dX11_friend_47 : decode cX11_friend 47 = .ok (.invokevirtual 123, 3) := by decide +kernel
theorem dX11_friend_50 : decode cX11_friend 50 = .ok (.ireturn, 1) := by decide +kernel
abbrev YX11_friend : zY := (yX11_friend, cX11_friend, 4, (Option.some Jvm.ClassFile.FieldType.int), [])
def fX11_friend_19 (F : zFs)   (D : zDa) : Option (Int × zDa) :=
  (fX11_refuse F (-1) D).bind (fun (r_1, D_2) =>
    some (r_1, D_2))
def fX11_friend (F : zFs) (v1 : Int) (v2 : Int) (D : zDa) : Option (Int × zDa) :=
  if v1 < 0 then
    fX11_friend_19 F D
  else
    if v1 < 3 then
      if v2 < 0 then
        fX11_friend_19 F D
      else
        if 99 < v2 then
          fX11_friend_19 F D
        else
          if (0 ≤ v1 ∧ v1 < 3) then
            zlet ((D 11 v1.toNat)) (fun x3_3 =>
              zlet (zwr D 11 v1.toNat v2) (fun D_4 =>
                (fX11_accept F x3_3 D_4).bind (fun (r_5, D_6) =>
                  some (r_5, D_6))))
          else none
    else
      fX11_friend_19 F D
set_option maxHeartbeats 20000000 in
theorem sX11_friend_19 {l : Launch} {E : zE} {d : Nat} {F : zFs} {n sl : Nat} (hG : zG F)     (D : zDa) : zO l E (d + 1) YX11_friend 19 [(0, zR 0)] [] (F, D, n, sl) (zcI F n sl) (fX11_friend_19 F D) := by
  unfold fX11_friend_19
  refine zO_aload_n dX11_friend_19 rfl (zR_P _) ?_
  refine zO_iconst dX11_friend_20 (by decide) ?_
  refine zO_callV (Y' := YX11_refuse) (cw := zcI F n sl) (as := [zI (-1)]) (rest := []) (na := 1) (ci := 11) rfl dX11_friend_21 wC_X11_refuse wN_X11 wM_X11_112 wI_X11_refuse wV_X11_refuse (by decide) (by decide) rfl rfl (Nat.le_of_ble_eq_true rfl) rfl (by decide) (gk_0 hG) (fun r hr => zMet_cast (Nat.add_assoc d 0 0) (mX11_refuse (d := d + 0) hG (-1) r hr)) ?_
  rintro ⟨r_1, D_2⟩ -
  show zO _ _ _ _ _ _ [zI r_1] (F, D_2, n, sl) _ _
  exact zO_ret (rv := some (zI r_1)) dX11_friend_24 rfl rfl rfl
set_option maxHeartbeats 20000000 in
theorem mX11_friend {l : Launch} {E : zE} {d : Nat} {F : zFs} {n sl : Nat} (hG : zG F) (v1 : Int) (v2 : Int) {D : zDa} : ∀ r, fX11_friend F  v1 v2 D = some r → zMet l E (d + 1) YX11_friend [zR 0, zI v1, zI v2] (F, D, n, sl) (zcI F n sl r) := by
  intro r hr
  refine zMet_of (plainFor_of_name (by decide)) (fun _ h => (nomatch h)) (Nat.le_of_ble_eq_true rfl) ?_
  have hz : zO l E (d + 1) YX11_friend 0 [(0, zR 0), (1, zI v1), (2, zI v2)] [] (F, D, n, sl) (zcI F n sl) (fX11_friend F  v1 v2 D) := by
    unfold fX11_friend
    refine zO_iload_n dX11_friend_0 rfl ?_
    refine zO_if_lt (tgt := 19) dX11_friend_1 rfl (fun c1 => ?_) (fun c1 => ?_)
    · refine zO_live [0] ?_
      exact sX11_friend_19 hG D
    · refine zO_iload_n dX11_friend_4 rfl ?_
      refine zO_iconst dX11_friend_5 (by decide) ?_
      refine zO_icmp_ge (tgt := 19) dX11_friend_6 rfl (fun c6 => ?_) (fun c6 => ?_)
      · refine zO_iload_n dX11_friend_9 rfl ?_
        refine zO_if_lt (tgt := 19) dX11_friend_10 rfl (fun c10 => ?_) (fun c10 => ?_)
        · refine zO_live [0] ?_
          exact sX11_friend_19 hG D
        · refine zO_iload_n dX11_friend_13 rfl ?_
          refine zO_bipush dX11_friend_14 (by decide) ?_
          refine zO_icmp_le (tgt := 25) dX11_friend_16 rfl (fun c16 => ?_) (fun c16 => ?_)
          · refine zO_live [0] ?_
            exact sX11_friend_19 hG D
          · refine zO_chk (fun h1 => ?_)
            refine zO_aload_n dX11_friend_25 rfl (zR_P _) ?_
            refine gt11 (k := 0) dX11_friend_26 wF_X11_10 (by decide) (gk_0 hG) (zgv (c := 11) (k := 0) rfl (Or.inr ⟨_, rfl⟩) (gf_0_0 hG)) ?_
            refine gt9 (k := 13) dX11_friend_29 wF_X11_304 (by decide) (gk_1 hG) (zgv (c := 9) (k := 13) rfl (Or.inl ⟨_, rfl⟩) (gf_1_13 hG)) ?_
            refine zO_iload_n dX11_friend_32 rfl ?_
            refine zO_iald dX11_friend_33 (gk_11 hG) (gl_in (gl_11 hG) h1) ?_
            refine zO_letI (fun x3_3 ex3_3 => ?_)
            refine zO_istore_n dX11_friend_34 (by decide) ?_
            refine zO_ls (ls' := [(0, zR 0), (1, zI v1), (2, zI v2), (3, zI x3_3)]) rfl ?_
            refine zO_aload_n dX11_friend_35 rfl (zR_P _) ?_
            refine gt11 (k := 0) dX11_friend_36 wF_X11_10 (by decide) (gk_0 hG) (zgv (c := 11) (k := 0) rfl (Or.inr ⟨_, rfl⟩) (gf_0_0 hG)) ?_
            refine gt9 (k := 13) dX11_friend_39 wF_X11_304 (by decide) (gk_1 hG) (zgv (c := 9) (k := 13) rfl (Or.inl ⟨_, rfl⟩) (gf_1_13 hG)) ?_
            refine zO_iload_n dX11_friend_42 rfl ?_
            refine zO_iload_n dX11_friend_43 rfl ?_
            refine zO_iast dX11_friend_44 (gk_11 hG) (gl_in (gl_11 hG) h1) ?_
            refine zO_letD (fun D_4 eD_4 => ?_)
            refine zO_aload_n dX11_friend_45 rfl (zR_P _) ?_
            refine zO_iload_n dX11_friend_46 rfl ?_
            refine zO_callV (Y' := YX11_accept) (cw := zcI F n sl) (as := [zI x3_3]) (rest := []) (na := 1) (ci := 11) rfl dX11_friend_47 wC_X11_accept wN_X11 wM_X11_123 wI_X11_accept wV_X11_accept (by decide) (by decide) rfl rfl (Nat.le_of_ble_eq_true rfl) rfl (by decide) (gk_0 hG) (fun r hr => zMet_cast (Nat.add_assoc d 0 0) (mX11_accept (d := d + 0) hG x3_3 r hr)) ?_
            rintro ⟨r_5, D_6⟩ -
            show zO _ _ _ _ _ _ [zI r_5] (F, D_6, n, sl) _ _
            exact zO_ret (rv := some (zI r_5)) dX11_friend_50 rfl rfl rfl
      · refine zO_live [0] ?_
        exact sX11_friend_19 hG D
  exact hz r hr
theorem dX11_share_0 : decode cX11_share 0 = .ok (.iload_n 1, 1) := by decide +kernel
theorem dX11_share_1 : decode cX11_share 1 = .ok (.iconst (-1), 1) := by decide +kernel
theorem dX11_share_2 : decode cX11_share 2 = .ok (.if_icmp .eq 16, 3) := by decide +kernel
theorem dX11_share_5 : decode cX11_share 5 = .ok (.aload_n 0, 1) := by decide +kernel
theorem dX11_share_6 : decode cX11_share 6 = .ok (.getfield 10, 3) := by decide +kernel
theorem dX11_share_9 : decode cX11_share 9 = .ok (.iload_n 1, 1) := by decide +kernel
theorem dX11_share_10 : decode cX11_share 10 = .ok (.invokevirtual 126, 3) := by decide +kernel
theorem dX11_share_13 : decode cX11_share 13 = .ok (.ifCond .ne 5, 3) := by decide +kernel
theorem dX11_share_16 : decode cX11_share 16 = .ok (.iconst (-1), 1) := by decide +kernel
theorem dX11_share_17 : decode cX11_share 17 = .ok (.ireturn, 1) := by decide +kernel
theorem dX11_share_18 : decode cX11_share 18 = .ok (.aload_n 0, 1) := by decide +kernel
theorem dX11_share_19 : decode cX11_share 19 = .ok (.getfield 94, 3) := by decide +kernel
theorem dX11_share_22 : decode cX11_share 22 = .ok (.invokevirtual 307, 3) := by decide +kernel
theorem dX11_share_25 : decode cX11_share 25 = .ok (.iload_n 1, 1) := by decide +kernel
theorem dX11_share_26 : decode cX11_share 26 = .ok (.iconst (-1), 1) := by decide +kernel
theorem dX11_share_27 : decode cX11_share 27 = .ok (.if_icmp .ne 11, 3) := by decide +kernel
theorem dX11_share_30 : decode cX11_share 30 = .ok (.aload_n 0, 1) := by decide +kernel
theorem dX11_share_31 : decode cX11_share 31 = .ok (.getfield 94, 3) := by decide +kernel
theorem dX11_share_34 : decode cX11_share 34 = .ok (.getfield 308, 3) := by decide +kernel
theorem dX11_share_37 : decode cX11_share 37 = .ok (.ireturn, 1) := by decide +kernel
theorem dX11_share_38 : decode cX11_share 38 = .ok (.iload_n 1, 1) := by decide +kernel
theorem dX11_share_39 : decode cX11_share 39 = .ok (.bipush 12, 2) := by decide +kernel
theorem dX11_share_41 : decode cX11_share 41 = .ok (.if_icmp .ge 15, 3) := by decide +kernel
theorem dX11_share_44 : decode cX11_share 44 = .ok (.aload_n 0, 1) := by decide +kernel
theorem dX11_share_45 : decode cX11_share 45 = .ok (.getfield 94, 3) := by decide +kernel
theorem dX11_share_48 : decode cX11_share 48 = .ok (.getfield 311, 3) := by decide +kernel
theorem dX11_share_51 : decode cX11_share 51 = .ok (.iload_n 1, 1) := by decide +kernel
theorem dX11_share_52 : decode cX11_share 52 = .ok (.iaload, 1) := by decide +kernel
theorem dX11_share_53 : decode cX11_share 53 = .ok (.goto 4, 3) := by decide +kernel
theorem dX11_share_56 : decode cX11_share 56 = .ok (.iconst (-1), 1) := by decide +kernel
theorem dX11_share_57 : decode cX11_share 57 = .ok (.ireturn, 1) := by decide +kernel
abbrev YX11_share : zY := (yX11_share, cX11_share, 2, (Option.some Jvm.ClassFile.FieldType.int), [])
def fX11_share_18  (v1 : Int) (F : zFs) (D : zDa) (n sl : Nat) : Option (Int × zM) :=
  (fX7_refresh F D n sl).bind (fun (F_2, D_3, n_4, sl_5) =>
    if zG F_2 ∧ 126 ≤ n_4 then
      if v1 = (-1) then
        some ((D_3 78 11), (F_2, D_3, n_4, sl_5))
      else
        if v1 < 12 then
          if (0 ≤ v1 ∧ v1 < 12) then
            some ((D_3 85 v1.toNat), (F_2, D_3, n_4, sl_5))
          else none
        else
          some ((-1), (F_2, D_3, n_4, sl_5))
    else none)
def fX11_share (v1 : Int) (F : zFs) (D : zDa) (n sl : Nat) : Option (Int × zM) :=
  if v1 = (-1) then
    fX11_share_18 v1 F D n sl
  else
    (fX9_has F v1 D).bind (fun (r_6, D_7) =>
      if r_6 = 0 then
        some ((-1), (F, D_7, n, sl))
      else
        fX11_share_18 v1 F D_7 n sl)
set_option maxHeartbeats 20000000 in
theorem sX11_share_18 {l : Launch} {E : zE} {d : Nat}  (v1 : Int)   (F : zFs) (D : zDa) (n sl : Nat) (hG : zG F) (hN : 126 ≤ n) : zO l E (d + 5) YX11_share 18 [(0, zR 0), (1, zI v1)] [] (F, D, n, sl) (zmI) (fX11_share_18 v1 F D n sl) := by
  unfold fX11_share_18
  refine zO_aload_n dX11_share_18 rfl (zR_P _) ?_
  refine gt11 (k := 16) dX11_share_19 wF_X11_94 (by decide) (gk_0 hG) (zgv (c := 11) (k := 16) rfl (Or.inr ⟨_, rfl⟩) (gf_0_16 hG)) ?_
  refine zO_callV (Y' := YX7_refresh) (cw := zmV) (as := []) (rest := []) (na := 0) (ci := 7) rfl dX11_share_22 wC_X7_refresh wN_X7 wM_X11_307 wI_X7_refresh wV_X7_refresh (by decide) (by decide) rfl rfl (Nat.le_of_ble_eq_true rfl) rfl (by decide) (gk_78 hG) (fun r hr => zMet_cast (Nat.add_assoc d 0 4) (mX7_refresh (d := d + 0)  hG hN r hr)) ?_
  rintro ⟨F_2, D_3, n_4, sl_5⟩ -
  show zO _ _ _ _ _ _ [] (F_2, D_3, n_4, sl_5) _ _
  refine zO_chk (fun g5 => ?_)
  refine zO_iload_n dX11_share_25 rfl ?_
  refine zO_iconst dX11_share_26 (by decide) ?_
  refine zO_icmp_ne (tgt := 38) dX11_share_27 rfl (fun c27 => ?_) (fun c27 => ?_)
  · refine zO_aload_n dX11_share_30 rfl (zR_P _) ?_
    refine gt11 (k := 16) dX11_share_31 wF_X11_94 (by decide) (gk_0 g5.1) (zgv (c := 11) (k := 16) rfl (Or.inr ⟨_, rfl⟩) (gf_0_16 g5.1)) ?_
    refine gt7 (k := 11) (v := zI (D_3 78 11)) dX11_share_34 wF_X11_308 (by decide) (gk_78 g5.1) rfl ?_
    exact zO_ret (rv := some (zI (D_3 78 11))) dX11_share_37 rfl rfl rfl
  · refine zO_iload_n dX11_share_38 rfl ?_
    refine zO_bipush dX11_share_39 (by decide) ?_
    refine zO_icmp_ge (tgt := 56) dX11_share_41 rfl (fun c41 => ?_) (fun c41 => ?_)
    · refine zO_chk (fun h1 => ?_)
      refine zO_aload_n dX11_share_44 rfl (zR_P _) ?_
      refine gt11 (k := 16) dX11_share_45 wF_X11_94 (by decide) (gk_0 g5.1) (zgv (c := 11) (k := 16) rfl (Or.inr ⟨_, rfl⟩) (gf_0_16 g5.1)) ?_
      refine gt7 (k := 10) dX11_share_48 wF_X11_311 (by decide) (gk_78 g5.1) (zgv (c := 7) (k := 10) rfl (Or.inl ⟨_, rfl⟩) (gf_78_10 g5.1)) ?_
      refine zO_iload_n dX11_share_51 rfl ?_
      refine zO_iald dX11_share_52 (gk_85 g5.1) (gl_in (gl_85 g5.1) h1) ?_
      refine zO_goto (tgt := 57) dX11_share_53 rfl ?_
      exact zO_ret (rv := some (zI (D_3 85 v1.toNat))) dX11_share_57 rfl rfl rfl
    · refine zO_iconst dX11_share_56 (by decide) ?_
      exact zO_ret (rv := some (zI (-1))) dX11_share_57 rfl rfl rfl
set_option maxHeartbeats 20000000 in
theorem mX11_share {l : Launch} {E : zE} {d : Nat} (v1 : Int) {F : zFs} {D : zDa} {n sl : Nat} (hG : zG F) (hN : 126 ≤ n) : ∀ r, fX11_share v1 F D n sl = some r → zMet l E (d + 5) YX11_share [zR 0, zI v1] (F, D, n, sl) (zmI r) := by
  intro r hr
  refine zMet_of (plainFor_of_name (by decide)) (fun _ h => (nomatch h)) (Nat.le_of_ble_eq_true rfl) ?_
  have hz : zO l E (d + 5) YX11_share 0 [(0, zR 0), (1, zI v1)] [] (F, D, n, sl) (zmI) (fX11_share v1 F D n sl) := by
    unfold fX11_share
    refine zO_iload_n dX11_share_0 rfl ?_
    refine zO_iconst dX11_share_1 (by decide) ?_
    refine zO_icmp_eq (tgt := 18) dX11_share_2 rfl (fun c2 => ?_) (fun c2 => ?_)
    · refine zO_live [0, 1] ?_
      exact sX11_share_18 v1 F D n sl hG hN
    · refine zO_aload_n dX11_share_5 rfl (zR_P _) ?_
      refine gt11 (k := 0) dX11_share_6 wF_X11_10 (by decide) (gk_0 hG) (zgv (c := 11) (k := 0) rfl (Or.inr ⟨_, rfl⟩) (gf_0_0 hG)) ?_
      refine zO_iload_n dX11_share_9 rfl ?_
      refine zO_callV (Y' := YX9_has) (cw := zcI F n sl) (as := [zI v1]) (rest := []) (na := 1) (ci := 9) rfl dX11_share_10 wC_X9_has wN_X9 wM_X11_126 wI_X9_has wV_X9_has (by decide) (by decide) rfl rfl (Nat.le_of_ble_eq_true rfl) rfl (by decide) (gk_1 hG) (fun r hr => zMet_cast (Nat.add_assoc d 4 0) (mX9_has (d := d + 4) hG v1 r hr)) ?_
      rintro ⟨r_6, D_7⟩ -
      show zO _ _ _ _ _ _ [zI r_6] (F, D_7, n, sl) _ _
      refine zO_if_ne (tgt := 18) dX11_share_13 rfl (fun c13 => ?_) (fun c13 => ?_)
      · refine zO_iconst dX11_share_16 (by decide) ?_
        exact zO_ret (rv := some (zI (-1))) dX11_share_17 rfl rfl rfl
      · refine zO_live [0, 1] ?_
        exact sX11_share_18 v1 F D_7 n sl hG hN
  exact hz r hr
theorem dX11_ill_0 : decode cX11_ill 0 = .ok (.iload_n 1, 1) := by decide +kernel
theorem dX11_ill_1 : decode cX11_ill 1 = .ok (.ifCond .lt 18, 3) := by decide +kernel
theorem dX11_ill_4 : decode cX11_ill 4 = .ok (.iload_n 1, 1) := by decide +kernel
theorem dX11_ill_5 : decode cX11_ill 5 = .ok (.iconst 3, 1) := by decide +kernel
theorem dX11_ill_6 : decode cX11_ill 6 = .ok (.if_icmp .gt 13, 3) := by decide +kernel
theorem dX11_ill_9 : decode cX11_ill 9 = .ok (.iload_n 2, 1) := by decide +kernel
theorem dX11_ill_10 : decode cX11_ill 10 = .ok (.ifCond .lt 9, 3) := by decide +kernel
theorem dX11_ill_13 : decode cX11_ill 13 = .ok (.iload_n 2, 1) := by decide +kernel
theorem dX11_ill_14 : decode cX11_ill 14 = .ok (.bipush 100, 2) := by decide +kernel
theorem dX11_ill_16 : decode cX11_ill 16 = .ok (.if_icmp .le 5, 3) := by decide +kernel
theorem dX11_ill_19 : decode cX11_ill 19 = .ok (.iconst (-1), 1) := by decide +kernel
theorem dX11_ill_20 : decode cX11_ill 20 = .ok (.ireturn, 1) := by decide +kernel
theorem dX11_ill_21 : decode cX11_ill 21 = .ok (.aload_n 0, 1) := by decide +kernel
theorem dX11_ill_22 : decode cX11_ill 22 = .ok (.getfield 69, 3) := by decide +kernel
theorem dX11_ill_25 : decode cX11_ill 25 = .ok (.invokevirtual 235, 3) := by decide +kernel
theorem dX11_ill_28 : decode cX11_ill 28 = .ok (.aload_n 0, 1) := by decide +kernel
theorem dX11_ill_29 : decode cX11_ill 29 = .ok (.getfield 10, 3) := by decide +kernel
theorem dX11_ill_32 : decode cX11_ill 32 = .ok (.getfield 154, 3) := by decide +kernel
theorem dX11_ill_35 : decode cX11_ill 35 = .ok (.iconst 4, 1) := by decide +kernel
theorem dX11_ill_36 : decode cX11_ill 36 = .ok (.iaload, 1) := by decide +kernel
theorem dX11_ill_37 : decode cX11_ill 37 = .ok (.istore_n 3, 1) := by decide +kernel
theorem dX11_ill_38 : decode cX11_ill 38 = .ok (.lconst 0, 1) := by decide +kernel
theorem dX11_ill_39 : decode cX11_ill 39 = .ok (.lstore 4, 2) := by decide +kernel
theorem dX11_ill_41 : decode cX11_ill 41 = .ok (.lconst 1, 1) := by decide +kernel
theorem dX11_ill_42 : decode cX11_ill 42 = .ok (.lstore 6, 2) := by decide +kernel
theorem dX11_ill_44 : decode cX11_ill 44 = .ok (.iconst 0, 1) := by decide +kernel
theorem dX11_ill_45 : decode cX11_ill 45 = .ok (.istore 8, 2) := by decide +kernel
theorem dX11_ill_47 : decode cX11_ill 47 = .ok (.iload 8, 2) := by decide +kernel
theorem dX11_ill_49 : decode cX11_ill 49 = .ok (.iload_n 1, 1) := by decide +kernel
theorem dX11_ill_50 : decode cX11_ill 50 = .ok (.if_icmp .gt 84, 3) := by decide +kernel
theorem dX11_ill_53 : decode cX11_ill 53 = .ok (.aload_n 0, 1) := by decide +kernel
theorem dX11_ill_54 : decode cX11_ill 54 = .ok (.getfield 69, 3) := by decide +kernel
theorem dX11_ill_57 : decode cX11_ill 57 = .ok (.iload 8, 2) := by decide +kernel
theorem dX11_ill_59 : decode cX11_ill 59 = .ok (.iload_n 2, 1) := by decide +kernel
theorem dX11_ill_60 : decode cX11_ill 60 = .ok (.imul, 1) := by decide +kernel
theorem dX11_ill_61 : decode cX11_ill 61 = .ok (.invokevirtual 238, 3) := by decide +kernel
theorem dX11_ill_64 : decode cX11_ill 64 = .ok (.aload_n 0, 1) := by decide +kernel
theorem dX11_ill_65 : decode cX11_ill 65 = .ok (.getfield 60, 3) := by decide +kernel
theorem dX11_ill_68 : decode cX11_ill 68 = .ok (.iload_n 1, 1) := by decide +kernel
theorem dX11_ill_69 : decode cX11_ill 69 = .ok (.iload 8, 2) := by decide +kernel
theorem dX11_ill_71 : decode cX11_ill 71 = .ok (.invokevirtual 314, 3) := by decide +kernel
theorem dX11_ill_74 : decode cX11_ill 74 = .ok (.lstore 9, 2) := by decide +kernel
theorem dX11_ill_76 : decode cX11_ill 76 = .ok (.iconst 0, 1) := by decide +kernel
theorem dX11_ill_77 : decode cX11_ill 77 = .ok (.istore 11, 2) := by decide +kernel
theorem dX11_ill_79 : decode cX11_ill 79 = .ok (.iload 11, 2) := by decide +kernel
theorem dX11_ill_81 : decode cX11_ill 81 = .ok (.iload_n 1, 1) := by decide +kernel
theorem dX11_ill_82 : decode cX11_ill 82 = .ok (.if_icmp .ge 31, 3) := by decide +kernel
theorem dX11_ill_85 : decode cX11_ill 85 = .ok (.lload 9, 2) := by decide +kernel
theorem dX11_ill_87 : decode cX11_ill 87 = .ok (.iload 11, 2) := by decide +kernel
theorem dX11_ill_89 : decode cX11_ill 89 = .ok (.iload 8, 2) := by decide +kernel
theorem dX11_ill_91 : decode cX11_ill 91 = .ok (.if_icmp .ge 11, 3) := by decide +kernel
theorem dX11_ill_94 : decode cX11_ill 94 = .ok (.bipush 100, 2) := by decide +kernel
theorem dX11_ill_96 : decode cX11_ill 96 = .ok (.iload_n 3, 1) := by decide +kernel
theorem dX11_ill_97 : decode cX11_ill 97 = .ok (.isub, 1) := by decide +kernel
theorem dX11_ill_98 : decode cX11_ill 98 = .ok (.i2l, 1) := by decide +kernel
theorem dX11_ill_99 : decode cX11_ill 99 = .ok (.goto 5, 3) := by decide +kernel
theorem dX11_ill_102 : decode cX11_ill 102 = .ok (.iload_n 3, 1) := by decide +kernel
theorem dX11_ill_103 : decode cX11_ill 103 = .ok (.i2l, 1) := by decide +kernel
theorem dX11_ill_104 : decode cX11_ill 104 = .ok (.lmul, 1) := by decide +kernel
theorem dX11_ill_105 : decode cX11_ill 105 = .ok (.lstore 9, 2) := by decide +kernel
theorem dX11_ill_107 : decode cX11_ill 107 = .ok (.iinc 11 1, 3) := by decide +kernel
theorem dX11_ill_110 : decode cX11_ill 110 = .ok (.goto (-31), 3) := by decide +kernel
theorem dX11_ill_113 : decode cX11_ill 113 = .ok (.lload 4, 2) := by decide +kernel
theorem dX11_ill_115 : decode cX11_ill 115 = .ok (.lload 9, 2) := by decide +kernel
theorem dX11_ill_117 : decode cX11_ill 117 = .ok (.aload_n 0, 1) := by decide +kernel
theorem dX11_ill_118 : decode cX11_ill 118 = .ok (.getfield 69, 3) := by decide +kernel
theorem dX11_ill_121 : decode cX11_ill 121 = .ok (.getfield 244, 3) := by decide +kernel
theorem dX11_ill_124 : decode cX11_ill 124 = .ok (.lmul, 1) := by decide +kernel
theorem dX11_ill_125 : decode cX11_ill 125 = .ok (.ladd, 1) := by decide +kernel
theorem dX11_ill_126 : decode cX11_ill 126 = .ok (.lstore 4, 2) := by decide +kernel
theorem dX11_ill_128 : decode cX11_ill 128 = .ok (.iinc 8 1, 3) := by decide +kernel
theorem dX11_ill_131 : decode cX11_ill 131 = .ok (.goto (-84), 3) := by decide +kernel
theorem dX11_ill_134 : decode cX11_ill 134 = .ok (.iconst 0, 1) := by decide +kernel
theorem dX11_ill_135 : decode cX11_ill 135 = .ok (.istore 8, 2) := by decide +kernel
theorem dX11_ill_137 : decode cX11_ill 137 = .ok (.iload 8, 2) := by decide +kernel
theorem dX11_ill_139 : decode cX11_ill 139 = .ok (.iload_n 1, 1) := by decide +kernel
theorem dX11_ill_140 : decode cX11_ill 140 = .ok (.if_icmp .ge 17, 3) := by decide +kernel
theorem dX11_ill_143 : decode cX11_ill 143 = .ok (.lload 6, 2) := by decide +kernel
theorem dX11_ill_145 : decode cX11_ill 145 = .ok (.ldc2_w 318, 3) := by decide +kernel
theorem dX11_ill_148 : decode cX11_ill 148 = .ok (.lmul, 1) := by decide +kernel
theorem dX11_ill_149 : decode cX11_ill 149 = .ok (.lstore 6, 2) := by decide +kernel
theorem dX11_ill_151 : decode cX11_ill 151 = .ok (.iinc 8 1, 3) := by decide +kernel
theorem dX11_ill_154 : decode cX11_ill 154 = .ok (.goto (-17), 3) := by decide +kernel
theorem dX11_ill_157 : decode cX11_ill 157 = .ok (.lload 4, 2) := by decide +kernel
theorem dX11_ill_159 : decode cX11_ill 159 = .ok (.lload 6, 2) := by decide +kernel
theorem dX11_ill_161 : decode cX11_ill 161 = .ok (.aload_n 0, 1) := by decide +kernel
theorem dX11_ill_162 : decode cX11_ill 162 = .ok (.getfield 69, 3) := by decide +kernel
theorem dX11_ill_165 : decode cX11_ill 165 = .ok (.getfield 247, 3) := by decide +kernel
theorem dX11_ill_168 : decode cX11_ill 168 = .ok (.lmul, 1) := by decide +kernel
theorem dX11_ill_169 : decode cX11_ill 169 = .ok (.invokestatic 231, 3) := by decide +kernel
theorem dX11_ill_172 : decode cX11_ill 172 = .ok (.ireturn, 1) := by decide +kernel
abbrev YX11_ill : zY := (yX11_ill, cX11_ill, 12, (Option.some Jvm.ClassFile.FieldType.int), [])
def fX11_ill_137 (o1 : Int) (o4 : Int)  (k_137 : Int → Int → zFs → zDa → Nat → Nat → Option (Int × zM)) (v6 : Int) (v8 : Int) (F : zFs) (D : zDa) (n sl : Nat) : Option (Int × zM) :=
  if v8 < o1 then
    if (-9223372036854775808 ≤ v6 * 100 ∧ v6 * 100 ≤ 9223372036854775807) then
      zlet ((v6 * 100)) (fun x6_7 =>
        if (-2147483648 ≤ v8 + 1 ∧ v8 + 1 ≤ 2147483647) then
          k_137 x6_7 (v8 + 1) F D n sl
        else none)
    else none
  else
    if (-9223372036854775808 ≤ v6 * (D 60 17) ∧ v6 * (D 60 17) ≤ 9223372036854775807) then
      (fX2_millionths F o4 (v6 * (D 60 17)) D).bind (fun (r_8, D_9) =>
        some (r_8, (F, D_9, n, sl)))
    else none
def fX11_ill_104 (k_47 : Int → Int → zFs → zDa → Nat → Nat → Option (Int × zM)) (k_79 : Int → Int → zFs → zDa → Nat → Nat → Option (Int × zM)) (o1 : Int) (o2 : Int) (o3 : Int) (o4 : Int) (o6 : Int) (o8 : Int) (v11 : Int) (s0 : Int) (s1 : Int) (F : zFs) (D : zDa) (n sl : Nat) : Option (Int × zM) :=
  if (-9223372036854775808 ≤ s1 * s0 ∧ s1 * s0 ≤ 9223372036854775807) then
    zlet ((s1 * s0)) (fun x9_14 =>
      if (-2147483648 ≤ v11 + 1 ∧ v11 + 1 ≤ 2147483647) then
        k_79 x9_14 (v11 + 1) F D n sl
      else none)
  else none
def fX11_ill_79 (o1 : Int) (o2 : Int) (o3 : Int) (o4 : Int) (o6 : Int) (o8 : Int) (k_47 : Int → Int → zFs → zDa → Nat → Nat → Option (Int × zM)) (k_79 : Int → Int → zFs → zDa → Nat → Nat → Option (Int × zM)) (v9 : Int) (v11 : Int) (F : zFs) (D : zDa) (n sl : Nat) : Option (Int × zM) :=
  if v11 < o1 then
    if v11 < o8 then
      if (-2147483648 ≤ 100 - o3 ∧ 100 - o3 ≤ 2147483647) then
        fX11_ill_104 k_47 k_79 o1 o2 o3 o4 o6 o8 v11 (100 - o3) v9 F D n sl
      else none
    else
      fX11_ill_104 k_47 k_79 o1 o2 o3 o4 o6 o8 v11 o3 v9 F D n sl
  else
    if (-9223372036854775808 ≤ v9 * (D 60 18) ∧ v9 * (D 60 18) ≤ 9223372036854775807) ∧ (-9223372036854775808 ≤ o4 + (v9 * (D 60 18)) ∧ o4 + (v9 * (D 60 18)) ≤ 9223372036854775807) then
      zlet ((o4 + (v9 * (D 60 18)))) (fun x4_15 =>
        if (-2147483648 ≤ o8 + 1 ∧ o8 + 1 ≤ 2147483647) then
          k_47 x4_15 (o8 + 1) F D n sl
        else none)
    else none
def fX11_ill_47 (o1 : Int) (o2 : Int) (o3 : Int) (o6 : Int)  (k_47 : Int → Int → zFs → zDa → Nat → Nat → Option (Int × zM)) (v4 : Int) (v8 : Int) (F : zFs) (D : zDa) (n sl : Nat) : Option (Int × zM) :=
  if o1 < v8 then
    zfix (fun _ _ _ _ _ _ => none) (fX11_ill_137 o1 v4) zfu o6 0 F D n sl
  else
    if (-2147483648 ≤ v8 * o2 ∧ v8 * o2 ≤ 2147483647) then
      (fX4_choose F (v8 * o2) D).bind (fun D_11 =>
        (fX2_sets F o1 v8 D_11).bind (fun (r_12, D_13) =>
          zfix (fun _ _ _ _ _ _ => none) (fX11_ill_79 o1 o2 o3 v4 o6 v8 k_47) zfu r_12 0 F D_13 n sl))
    else none
def fX11_ill (v1 : Int) (v2 : Int) (F : zFs) (D : zDa) (n sl : Nat) : Option (Int × zM) :=
  if v1 < 0 then
    some ((-1), (F, D, n, sl))
  else
    if 3 < v1 then
      some ((-1), (F, D, n, sl))
    else
      if v2 < 0 then
        some ((-1), (F, D, n, sl))
      else
        if 100 < v2 then
          some ((-1), (F, D, n, sl))
        else
          (fX4_refresh F D n sl).bind (fun (F_2, D_3, n_4, sl_5) =>
            if zG F_2 ∧ 126 ≤ n_4 then
              zlet ((D_3 7 4)) (fun x3_6 =>
                zfix (fun _ _ _ _ _ _ => none) (fX11_ill_47 v1 v2 x3_6 1) zfu 0 0 F_2 D_3 n_4 sl_5)
            else none)
set_option maxHeartbeats 20000000 in
theorem sX11_ill_137 {l : Launch} {E : zE} {d : Nat}  (o1 : Int) (o4 : Int)   : ∀ (N : Nat) (v6 : Int) (v8 : Int) (F : zFs) (D : zDa) (n sl : Nat), zG F → 126 ≤ n → zO l E (d + 7) YX11_ill 137 [(0, zR 0), (1, zI o1), (4, zL o4), (6, zL v6), (8, zI v8)] [] (F, D, n, sl) (zmI) (zfix (fun _ _ _ _ _ _ => none) (fX11_ill_137 o1 o4) N v6 v8 F D n sl) := by
  intro N
  induction N with
  | zero => intro v6 v8 F D n sl hG hN; exact zO_none
  | succ N hk_137 =>
    intro v6 v8 F D n sl hG hN
    show zO _ _ _ _ _ _ _ _ _ ((fX11_ill_137 o1 o4) (zfix (fun _ _ _ _ _ _ => none) (fX11_ill_137 o1 o4) N) v6 v8 F D n sl)
    unfold fX11_ill_137
    refine zO_iload dX11_ill_137 rfl ?_
    refine zO_iload_n dX11_ill_139 rfl ?_
    refine zO_icmp_ge (tgt := 157) dX11_ill_140 rfl (fun c140 => ?_) (fun c140 => ?_)
    · refine zO_chk (fun h1 => ?_)
      refine zO_lload dX11_ill_143 rfl ?_
      refine zO_ldc2 (n := 100) dX11_ill_145 wK_X11_318 (by decide) ?_
      refine zO_lmul dX11_ill_148 h1 ?_
      refine zO_letJ (fun x6_7 ex6_7 => ?_)
      refine zO_lstore dX11_ill_149 (by decide) ?_
      refine zO_ls (ls' := [(0, zR 0), (1, zI o1), (4, zL o4), (6, zL x6_7), (8, zI v8)]) rfl ?_
      refine zO_chk (fun h2 => ?_)
      refine zO_iinc dX11_ill_151 rfl h2 (by decide) ?_
      refine zO_ls (ls' := [(0, zR 0), (1, zI o1), (4, zL o4), (6, zL x6_7), (8, zI (v8 + 1))]) rfl ?_
      refine zO_goto (tgt := 137) dX11_ill_154 rfl ?_
      refine zO_live [0, 1, 4, 6, 8] ?_
      exact hk_137 x6_7 (v8 + 1) F D n sl hG hN
    · refine zO_chk (fun h3 => ?_)
      refine zO_lload dX11_ill_157 rfl ?_
      refine zO_lload dX11_ill_159 rfl ?_
      refine zO_aload_n dX11_ill_161 rfl (zR_P _) ?_
      refine gt11 (k := 13) dX11_ill_162 wF_X11_69 (by decide) (gk_0 hG) (zgv (c := 11) (k := 13) rfl (Or.inr ⟨_, rfl⟩) (gf_0_13 hG)) ?_
      refine gt4 (k := 17) (v := zL (D 60 17)) dX11_ill_165 wF_X11_247 (by decide) (gk_60 hG) rfl ?_
      refine zO_lmul dX11_ill_168 h3 ?_
      refine zO_callS (Y' := YX2_millionths) (cw := zcI F n sl) (as := [zL o4, zL (v6 * (D 60 17))]) (rest := []) (na := 2) dX11_ill_169 wC_X2_millionths wN_X2 wM_X11_231 wS_X2_millionths (by decide) (by decide) rfl rfl (Nat.le_of_ble_eq_true rfl) (fun r hr => zMet_cast (Nat.add_assoc d 6 0) (mX2_millionths (d := d + 6) hG o4 (v6 * (D 60 17)) r hr)) ?_
      rintro ⟨r_8, D_9⟩ -
      show zO _ _ _ _ _ _ [zI r_8] (F, D_9, n, sl) _ _
      exact zO_ret (rv := some (zI r_8)) dX11_ill_172 rfl rfl rfl
set_option maxHeartbeats 20000000 in
theorem sX11_ill_104 {l : Launch} {E : zE} {d : Nat}  (o1 : Int) (o2 : Int) (o3 : Int) (o4 : Int) (o6 : Int) (o8 : Int) (v11 : Int) (s0 : Int) (s1 : Int) (k_47 : Int → Int → zFs → zDa → Nat → Nat → Option (Int × zM)) (k_79 : Int → Int → zFs → zDa → Nat → Nat → Option (Int × zM)) (hk_47 : ∀ (u4 : Int) (u8 : Int) (F : zFs) (D : zDa) (n sl : Nat), zG F → 126 ≤ n → zO l E (d + 7) YX11_ill 47 [(0, zR 0), (1, zI o1), (2, zI o2), (3, zI o3), (4, zL u4), (6, zL o6), (8, zI u8)] [] (F, D, n, sl) zmI (k_47 u4 u8 F D n sl)) (hk_79 : ∀ (u9 : Int) (u11 : Int) (F : zFs) (D : zDa) (n sl : Nat), zG F → 126 ≤ n → zO l E (d + 7) YX11_ill 79 [(0, zR 0), (1, zI o1), (2, zI o2), (3, zI o3), (4, zL o4), (6, zL o6), (8, zI o8), (9, zL u9), (11, zI u11)] [] (F, D, n, sl) zmI (k_79 u9 u11 F D n sl)) (F : zFs) (D : zDa) (n sl : Nat) (hG : zG F) (hN : 126 ≤ n) : zO l E (d + 7) YX11_ill 104 [(0, zR 0), (1, zI o1), (2, zI o2), (3, zI o3), (4, zL o4), (6, zL o6), (8, zI o8), (11, zI v11)] [zL s0, zL s1] (F, D, n, sl) (zmI) (fX11_ill_104 k_47 k_79 o1 o2 o3 o4 o6 o8 v11 s0 s1 F D n sl) := by
  unfold fX11_ill_104
  refine zO_chk (fun h6 => ?_)
  refine zO_lmul dX11_ill_104 h6 ?_
  refine zO_letJ (fun x9_14 ex9_14 => ?_)
  refine zO_lstore dX11_ill_105 (by decide) ?_
  refine zO_ls (ls' := [(0, zR 0), (1, zI o1), (2, zI o2), (3, zI o3), (4, zL o4), (6, zL o6), (8, zI o8), (9, zL x9_14), (11, zI v11)]) rfl ?_
  refine zO_chk (fun h7 => ?_)
  refine zO_iinc dX11_ill_107 rfl h7 (by decide) ?_
  refine zO_ls (ls' := [(0, zR 0), (1, zI o1), (2, zI o2), (3, zI o3), (4, zL o4), (6, zL o6), (8, zI o8), (9, zL x9_14), (11, zI (v11 + 1))]) rfl ?_
  refine zO_goto (tgt := 79) dX11_ill_110 rfl ?_
  refine zO_live [0, 1, 2, 3, 4, 6, 8, 9, 11] ?_
  exact hk_79 x9_14 (v11 + 1) F D n sl hG hN
set_option maxHeartbeats 20000000 in
theorem sX11_ill_79 {l : Launch} {E : zE} {d : Nat}  (o1 : Int) (o2 : Int) (o3 : Int) (o4 : Int) (o6 : Int) (o8 : Int) (k_47 : Int → Int → zFs → zDa → Nat → Nat → Option (Int × zM)) (hk_47 : ∀ (u4 : Int) (u8 : Int) (F : zFs) (D : zDa) (n sl : Nat), zG F → 126 ≤ n → zO l E (d + 7) YX11_ill 47 [(0, zR 0), (1, zI o1), (2, zI o2), (3, zI o3), (4, zL u4), (6, zL o6), (8, zI u8)] [] (F, D, n, sl) zmI (k_47 u4 u8 F D n sl)) : ∀ (N : Nat) (v9 : Int) (v11 : Int) (F : zFs) (D : zDa) (n sl : Nat), zG F → 126 ≤ n → zO l E (d + 7) YX11_ill 79 [(0, zR 0), (1, zI o1), (2, zI o2), (3, zI o3), (4, zL o4), (6, zL o6), (8, zI o8), (9, zL v9), (11, zI v11)] [] (F, D, n, sl) (zmI) (zfix (fun _ _ _ _ _ _ => none) (fX11_ill_79 o1 o2 o3 o4 o6 o8 k_47) N v9 v11 F D n sl) := by
  intro N
  induction N with
  | zero => intro v9 v11 F D n sl hG hN; exact zO_none
  | succ N hk_79 =>
    intro v9 v11 F D n sl hG hN
    show zO _ _ _ _ _ _ _ _ _ ((fX11_ill_79 o1 o2 o3 o4 o6 o8 k_47) (zfix (fun _ _ _ _ _ _ => none) (fX11_ill_79 o1 o2 o3 o4 o6 o8 k_47) N) v9 v11 F D n sl)
    unfold fX11_ill_79
    refine zO_iload dX11_ill_79 rfl ?_
    refine zO_iload_n dX11_ill_81 rfl ?_
    refine zO_icmp_ge (tgt := 113) dX11_ill_82 rfl (fun c82 => ?_) (fun c82 => ?_)
    · refine zO_lload dX11_ill_85 rfl ?_
      refine zO_iload dX11_ill_87 rfl ?_
      refine zO_iload dX11_ill_89 rfl ?_
      refine zO_icmp_ge (tgt := 102) dX11_ill_91 rfl (fun c91 => ?_) (fun c91 => ?_)
      · refine zO_chk (fun h5 => ?_)
        refine zO_bipush dX11_ill_94 (by decide) ?_
        refine zO_iload_n dX11_ill_96 rfl ?_
        refine zO_isub dX11_ill_97 h5 ?_
        refine zO_i2l dX11_ill_98 ?_
        refine zO_goto (tgt := 104) dX11_ill_99 rfl ?_
        refine zO_live [0, 1, 2, 3, 4, 6, 8, 11] ?_
        exact sX11_ill_104 o1 o2 o3 o4 o6 o8 v11 (100 - o3) v9 _ _ hk_47 hk_79 F D n sl hG hN
      · refine zO_iload_n dX11_ill_102 rfl ?_
        refine zO_i2l dX11_ill_103 ?_
        refine zO_live [0, 1, 2, 3, 4, 6, 8, 11] ?_
        exact sX11_ill_104 o1 o2 o3 o4 o6 o8 v11 o3 v9 _ _ hk_47 hk_79 F D n sl hG hN
    · refine zO_chk (fun h8 => ?_)
      refine zO_lload dX11_ill_113 rfl ?_
      refine zO_lload dX11_ill_115 rfl ?_
      refine zO_aload_n dX11_ill_117 rfl (zR_P _) ?_
      refine gt11 (k := 13) dX11_ill_118 wF_X11_69 (by decide) (gk_0 hG) (zgv (c := 11) (k := 13) rfl (Or.inr ⟨_, rfl⟩) (gf_0_13 hG)) ?_
      refine gt4 (k := 18) (v := zL (D 60 18)) dX11_ill_121 wF_X11_244 (by decide) (gk_60 hG) rfl ?_
      refine zO_lmul dX11_ill_124 h8.1 ?_
      refine zO_ladd dX11_ill_125 h8.2 ?_
      refine zO_letJ (fun x4_15 ex4_15 => ?_)
      refine zO_lstore dX11_ill_126 (by decide) ?_
      refine zO_ls (ls' := [(0, zR 0), (1, zI o1), (2, zI o2), (3, zI o3), (4, zL x4_15), (6, zL o6), (8, zI o8), (9, zL v9), (11, zI v11)]) rfl ?_
      refine zO_chk (fun h9 => ?_)
      refine zO_iinc dX11_ill_128 rfl h9 (by decide) ?_
      refine zO_ls (ls' := [(0, zR 0), (1, zI o1), (2, zI o2), (3, zI o3), (4, zL x4_15), (6, zL o6), (8, zI (o8 + 1)), (9, zL v9), (11, zI v11)]) rfl ?_
      refine zO_goto (tgt := 47) dX11_ill_131 rfl ?_
      refine zO_live [0, 1, 2, 3, 4, 6, 8] ?_
      exact hk_47 x4_15 (o8 + 1) F D n sl hG hN
set_option maxHeartbeats 20000000 in
theorem sX11_ill_47 {l : Launch} {E : zE} {d : Nat}  (o1 : Int) (o2 : Int) (o3 : Int) (o6 : Int)   : ∀ (N : Nat) (v4 : Int) (v8 : Int) (F : zFs) (D : zDa) (n sl : Nat), zG F → 126 ≤ n → zO l E (d + 7) YX11_ill 47 [(0, zR 0), (1, zI o1), (2, zI o2), (3, zI o3), (4, zL v4), (6, zL o6), (8, zI v8)] [] (F, D, n, sl) (zmI) (zfix (fun _ _ _ _ _ _ => none) (fX11_ill_47 o1 o2 o3 o6) N v4 v8 F D n sl) := by
  intro N
  induction N with
  | zero => intro v4 v8 F D n sl hG hN; exact zO_none
  | succ N hk_47 =>
    intro v4 v8 F D n sl hG hN
    show zO _ _ _ _ _ _ _ _ _ ((fX11_ill_47 o1 o2 o3 o6) (zfix (fun _ _ _ _ _ _ => none) (fX11_ill_47 o1 o2 o3 o6) N) v4 v8 F D n sl)
    unfold fX11_ill_47
    refine zO_iload dX11_ill_47 rfl ?_
    refine zO_iload_n dX11_ill_49 rfl ?_
    refine zO_icmp_gt (tgt := 134) dX11_ill_50 rfl (fun c50 => ?_) (fun c50 => ?_)
    · refine zO_iconst dX11_ill_134 (by decide) ?_
      refine zO_istore dX11_ill_135 (by decide) ?_
      refine zO_ls (ls' := [(0, zR 0), (1, zI o1), (2, zI o2), (3, zI o3), (4, zL v4), (6, zL o6), (8, zI 0)]) rfl ?_
      refine zO_live [0, 1, 4, 6, 8] ?_
      exact sX11_ill_137 o1 v4 zfu o6 0 F D n sl hG hN
    · refine zO_chk (fun h4 => ?_)
      refine zO_aload_n dX11_ill_53 rfl (zR_P _) ?_
      refine gt11 (k := 13) dX11_ill_54 wF_X11_69 (by decide) (gk_0 hG) (zgv (c := 11) (k := 13) rfl (Or.inr ⟨_, rfl⟩) (gf_0_13 hG)) ?_
      refine zO_iload dX11_ill_57 rfl ?_
      refine zO_iload_n dX11_ill_59 rfl ?_
      refine zO_imul dX11_ill_60 h4 ?_
      refine zO_callV (Y' := YX4_choose) (cw := zcV F n sl) (as := [zI (v8 * o2)]) (rest := []) (na := 1) (ci := 4) rfl dX11_ill_61 wC_X4_choose wN_X4 wM_X11_238 wI_X4_choose wV_X4_choose (by decide) (by decide) rfl rfl (Nat.le_of_ble_eq_true rfl) rfl (by decide) (gk_60 hG) (fun r hr => zMet_cast (Nat.add_assoc d 5 1) (mX4_choose (d := d + 5) hG (v8 * o2) r hr)) ?_
      intro D_11 _
      show zO _ _ _ _ _ _ [] (F, D_11, n, sl) _ _
      refine zO_aload_n dX11_ill_64 rfl (zR_P _) ?_
      refine gt11 (k := 12) dX11_ill_65 wF_X11_60 (by decide) (gk_0 hG) (zgv (c := 11) (k := 12) rfl (Or.inr ⟨_, rfl⟩) (gf_0_12 hG)) ?_
      refine zO_iload_n dX11_ill_68 rfl ?_
      refine zO_iload dX11_ill_69 rfl ?_
      refine zO_callV (Y' := YX2_sets) (cw := zcJ F n sl) (as := [zI o1, zI v8]) (rest := []) (na := 2) (ci := 2) rfl dX11_ill_71 wC_X2_sets wN_X2 wM_X11_314 wI_X2_sets wV_X2_sets (by decide) (by decide) rfl rfl (Nat.le_of_ble_eq_true rfl) rfl (by decide) (gk_52 hG) (fun r hr => zMet_cast (Nat.add_assoc d 6 0) (mX2_sets (d := d + 6) hG o1 v8 r hr)) ?_
      rintro ⟨r_12, D_13⟩ -
      show zO _ _ _ _ _ _ [zL r_12] (F, D_13, n, sl) _ _
      refine zO_lstore dX11_ill_74 (by decide) ?_
      refine zO_ls (ls' := [(0, zR 0), (1, zI o1), (2, zI o2), (3, zI o3), (4, zL v4), (6, zL o6), (8, zI v8), (9, zL r_12)]) rfl ?_
      refine zO_iconst dX11_ill_76 (by decide) ?_
      refine zO_istore dX11_ill_77 (by decide) ?_
      refine zO_ls (ls' := [(0, zR 0), (1, zI o1), (2, zI o2), (3, zI o3), (4, zL v4), (6, zL o6), (8, zI v8), (9, zL r_12), (11, zI 0)]) rfl ?_
      refine zO_live [0, 1, 2, 3, 4, 6, 8, 9, 11] ?_
      exact sX11_ill_79 o1 o2 o3 v4 o6 v8 _ hk_47 zfu r_12 0 F D_13 n sl hG hN
set_option maxHeartbeats 20000000 in
theorem mX11_ill {l : Launch} {E : zE} {d : Nat} (v1 : Int) (v2 : Int) {F : zFs} {D : zDa} {n sl : Nat} (hG : zG F) (hN : 126 ≤ n) : ∀ r, fX11_ill v1 v2 F D n sl = some r → zMet l E (d + 7) YX11_ill [zR 0, zI v1, zI v2] (F, D, n, sl) (zmI r) := by
  intro r hr
  refine zMet_of (plainFor_of_name (by decide)) (fun _ h => (nomatch h)) (Nat.le_of_ble_eq_true rfl) ?_
  have hz : zO l E (d + 7) YX11_ill 0 [(0, zR 0), (1, zI v1), (2, zI v2)] [] (F, D, n, sl) (zmI) (fX11_ill v1 v2 F D n sl) := by
    unfold fX11_ill
    refine zO_iload_n dX11_ill_0 rfl ?_
    refine zO_if_lt (tgt := 19) dX11_ill_1 rfl (fun c1 => ?_) (fun c1 => ?_)
    · refine zO_iconst dX11_ill_19 (by decide) ?_
      exact zO_ret (rv := some (zI (-1))) dX11_ill_20 rfl rfl rfl
    · refine zO_iload_n dX11_ill_4 rfl ?_
      refine zO_iconst dX11_ill_5 (by decide) ?_
      refine zO_icmp_gt (tgt := 19) dX11_ill_6 rfl (fun c6 => ?_) (fun c6 => ?_)
      · refine zO_iconst dX11_ill_19 (by decide) ?_
        exact zO_ret (rv := some (zI (-1))) dX11_ill_20 rfl rfl rfl
      · refine zO_iload_n dX11_ill_9 rfl ?_
        refine zO_if_lt (tgt := 19) dX11_ill_10 rfl (fun c10 => ?_) (fun c10 => ?_)
        · refine zO_iconst dX11_ill_19 (by decide) ?_
          exact zO_ret (rv := some (zI (-1))) dX11_ill_20 rfl rfl rfl
        · refine zO_iload_n dX11_ill_13 rfl ?_
          refine zO_bipush dX11_ill_14 (by decide) ?_
          refine zO_icmp_le (tgt := 21) dX11_ill_16 rfl (fun c16 => ?_) (fun c16 => ?_)
          · refine zO_iconst dX11_ill_19 (by decide) ?_
            exact zO_ret (rv := some (zI (-1))) dX11_ill_20 rfl rfl rfl
          · refine zO_aload_n dX11_ill_21 rfl (zR_P _) ?_
            refine gt11 (k := 13) dX11_ill_22 wF_X11_69 (by decide) (gk_0 hG) (zgv (c := 11) (k := 13) rfl (Or.inr ⟨_, rfl⟩) (gf_0_13 hG)) ?_
            refine zO_callV (Y' := YX4_refresh) (cw := zmV) (as := []) (rest := []) (na := 0) (ci := 4) rfl dX11_ill_25 wC_X4_refresh wN_X4 wM_X11_235 wI_X4_refresh wV_X4_refresh (by decide) (by decide) rfl rfl (Nat.le_of_ble_eq_true rfl) rfl (by decide) (gk_60 hG) (fun r hr => zMet_cast (Nat.add_assoc d 0 6) (mX4_refresh (d := d + 0)  hG hN r hr)) ?_
            rintro ⟨F_2, D_3, n_4, sl_5⟩ -
            show zO _ _ _ _ _ _ [] (F_2, D_3, n_4, sl_5) _ _
            refine zO_chk (fun g5 => ?_)
            refine zO_aload_n dX11_ill_28 rfl (zR_P _) ?_
            refine gt11 (k := 0) dX11_ill_29 wF_X11_10 (by decide) (gk_0 g5.1) (zgv (c := 11) (k := 0) rfl (Or.inr ⟨_, rfl⟩) (gf_0_0 g5.1)) ?_
            refine gt9 (k := 6) dX11_ill_32 wF_X11_154 (by decide) (gk_1 g5.1) (zgv (c := 9) (k := 6) rfl (Or.inl ⟨_, rfl⟩) (gf_1_6 g5.1)) ?_
            refine zO_iconst dX11_ill_35 (by decide) ?_
            refine zO_iald dX11_ill_36 (gk_7 g5.1) (gl_in (gl_7 g5.1) (by decide)) ?_
            refine zO_letI (fun x3_6 ex3_6 => ?_)
            refine zO_istore_n dX11_ill_37 (by decide) ?_
            refine zO_ls (ls' := [(0, zR 0), (1, zI v1), (2, zI v2), (3, zI x3_6)]) rfl ?_
            refine zO_lconst dX11_ill_38 ?_
            refine zO_lstore dX11_ill_39 (by decide) ?_
            refine zO_ls (ls' := [(0, zR 0), (1, zI v1), (2, zI v2), (3, zI x3_6), (4, zL 0)]) rfl ?_
            refine zO_lconst dX11_ill_41 ?_
            refine zO_lstore dX11_ill_42 (by decide) ?_
            refine zO_ls (ls' := [(0, zR 0), (1, zI v1), (2, zI v2), (3, zI x3_6), (4, zL 0), (6, zL 1)]) rfl ?_
            refine zO_iconst dX11_ill_44 (by decide) ?_
            refine zO_istore dX11_ill_45 (by decide) ?_
            refine zO_ls (ls' := [(0, zR 0), (1, zI v1), (2, zI v2), (3, zI x3_6), (4, zL 0), (6, zL 1), (8, zI 0)]) rfl ?_
            refine zO_live [0, 1, 2, 3, 4, 6, 8] ?_
            exact sX11_ill_47 v1 v2 x3_6 1 zfu 0 0 F_2 D_3 n_4 sl_5 g5.1 g5.2
  exact hz r hr
theorem dX11_year_0 : decode cX11_year 0 = .ok (.aload_n 0, 1) := by decide +kernel
theorem dX11_year_1 : decode cX11_year 1 = .ok (.getfield 10, 3) := by decide +kernel
theorem dX11_year_4 : decode cX11_year 4 = .ok (.iload_n 1, 1) := by decide +kernel
theorem dX11_year_5 : decode cX11_year 5 = .ok (.invokevirtual 320, 3) := by decide +kernel
theorem dX11_year_8 : decode cX11_year 8 = .ok (.ifCond .ne 9, 3) := by decide +kernel
theorem dX11_year_11 : decode cX11_year 11 = .ok (.aload_n 0, 1) := by decide +kernel
theorem dX11_year_12 : decode cX11_year 12 = .ok (.iconst (-1), 1) := by decide +kernel
theorem dX11_year_13 : decode cX11_year 13 = .ok (.invokevirtual 112, 3) := by decide +kernel
theorem dX11_year_16 : decode cX11_year 16 = .ok (.ireturn, 1) := by decide +kernel
theorem dX11_year_17 : decode cX11_year 17 = .ok (.aload_n 0, 1) := by decide +kernel
theorem dX11_year_18 : decode cX11_year 18 = .ok (.getfield 10, 3) := by decide +kernel
theorem dX11_year_21 : decode cX11_year 21 = .ok (.getfield 323, 3) := by decide +kernel
theorem dX11_year_24 : decode cX11_year 24 = .ok (.bipush 40, 2) := by decide +kernel
theorem dX11_year_26 : decode cX11_year 26 = .ok (.if_icmp .lt 10, 3) := by decide +kernel
theorem dX11_year_29 : decode cX11_year 29 = .ok (.aload_n 0, 1) := by decide +kernel
theorem dX11_year_30 : decode cX11_year 30 = .ok (.bipush (-5), 2) := by decide +kernel
theorem dX11_year_32 : decode cX11_year 32 = .ok (.invokevirtual 112, 3) := by decide +kernel
theorem dX11_year_35 : decode cX11_year 35 = .ok (.ireturn, 1) := by decide +kernel
theorem dX11_year_36 : decode cX11_year 36 = .ok (.aload_n 0, 1) := by decide +kernel
theorem dX11_year_37 : decode cX11_year 37 = .ok (.getfield 10, 3) := by decide +kernel
theorem dX11_year_40 : decode cX11_year 40 = .ok (.iload_n 1, 1) := by decide +kernel
theorem dX11_year_41 : decode cX11_year 41 = .ok (.invokevirtual 326, 3) := by decide +kernel
theorem dX11_year_44 : decode cX11_year 44 = .ok (.aload_n 0, 1) := by decide +kernel
theorem dX11_year_45 : decode cX11_year 45 = .ok (.aload_n 0, 1) := by decide +kernel
theorem dX11_year_46 : decode cX11_year 46 = .ok (.getfield 10, 3) := by decide +kernel
theorem dX11_year_49 : decode cX11_year 49 = .ok (.getfield 323, 3) := by decide +kernel
theorem dX11_year_52 : decode cX11_year 52 = .ok (.invokevirtual 123, 3) := by decide +kernel
theorem dX11_year_55 : decode cX11_year 55 = .ok (.ireturn, 1) := by decide +kernel
abbrev YX11_year : zY := (yX11_year, cX11_year, 2, (Option.some Jvm.ClassFile.FieldType.int), [])
def fX11_year (F : zFs) (v1 : Int) (D : zDa) : Option (Int × zDa) :=
  (fX9_allThere F v1 D).bind (fun (r_1, D_2) =>
    if r_1 = 0 then
      (fX11_refuse F (-1) D_2).bind (fun (r_3, D_4) =>
        some (r_3, D_4))
    else
      if (D_2 1 15) < 40 then
        (fX9_addYear F v1 D_2).bind (fun D_6 =>
          (fX11_accept F (D_6 1 15) D_6).bind (fun (r_7, D_8) =>
            some (r_7, D_8)))
      else
        (fX11_refuse F (-5) D_2).bind (fun (r_9, D_10) =>
          some (r_9, D_10)))
set_option maxHeartbeats 20000000 in
theorem mX11_year {l : Launch} {E : zE} {d : Nat} {F : zFs} {n sl : Nat} (hG : zG F) (v1 : Int) {D : zDa} : ∀ r, fX11_year F  v1 D = some r → zMet l E (d + 1) YX11_year [zR 0, zI v1] (F, D, n, sl) (zcI F n sl r) := by
  intro r hr
  refine zMet_of (plainFor_of_name (by decide)) (fun _ h => (nomatch h)) (Nat.le_of_ble_eq_true rfl) ?_
  have hz : zO l E (d + 1) YX11_year 0 [(0, zR 0), (1, zI v1)] [] (F, D, n, sl) (zcI F n sl) (fX11_year F  v1 D) := by
    unfold fX11_year
    refine zO_aload_n dX11_year_0 rfl (zR_P _) ?_
    refine gt11 (k := 0) dX11_year_1 wF_X11_10 (by decide) (gk_0 hG) (zgv (c := 11) (k := 0) rfl (Or.inr ⟨_, rfl⟩) (gf_0_0 hG)) ?_
    refine zO_iload_n dX11_year_4 rfl ?_
    refine zO_callV (Y' := YX9_allThere) (cw := zcI F n sl) (as := [zI v1]) (rest := []) (na := 1) (ci := 9) rfl dX11_year_5 wC_X9_allThere wN_X9 wM_X11_320 wI_X9_allThere wV_X9_allThere (by decide) (by decide) rfl rfl (Nat.le_of_ble_eq_true rfl) rfl (by decide) (gk_1 hG) (fun r hr => zMet_cast (Nat.add_assoc d 0 0) (mX9_allThere (d := d + 0) hG v1 r hr)) ?_
    rintro ⟨r_1, D_2⟩ -
    show zO _ _ _ _ _ _ [zI r_1] (F, D_2, n, sl) _ _
    refine zO_if_ne (tgt := 17) dX11_year_8 rfl (fun c8 => ?_) (fun c8 => ?_)
    · refine zO_aload_n dX11_year_11 rfl (zR_P _) ?_
      refine zO_iconst dX11_year_12 (by decide) ?_
      refine zO_callV (Y' := YX11_refuse) (cw := zcI F n sl) (as := [zI (-1)]) (rest := []) (na := 1) (ci := 11) rfl dX11_year_13 wC_X11_refuse wN_X11 wM_X11_112 wI_X11_refuse wV_X11_refuse (by decide) (by decide) rfl rfl (Nat.le_of_ble_eq_true rfl) rfl (by decide) (gk_0 hG) (fun r hr => zMet_cast (Nat.add_assoc d 0 0) (mX11_refuse (d := d + 0) hG (-1) r hr)) ?_
      rintro ⟨r_3, D_4⟩ -
      show zO _ _ _ _ _ _ [zI r_3] (F, D_4, n, sl) _ _
      exact zO_ret (rv := some (zI r_3)) dX11_year_16 rfl rfl rfl
    · refine zO_aload_n dX11_year_17 rfl (zR_P _) ?_
      refine gt11 (k := 0) dX11_year_18 wF_X11_10 (by decide) (gk_0 hG) (zgv (c := 11) (k := 0) rfl (Or.inr ⟨_, rfl⟩) (gf_0_0 hG)) ?_
      refine gt9 (k := 15) (v := zI (D_2 1 15)) dX11_year_21 wF_X11_323 (by decide) (gk_1 hG) rfl ?_
      refine zO_bipush dX11_year_24 (by decide) ?_
      refine zO_icmp_lt (tgt := 36) dX11_year_26 rfl (fun c26 => ?_) (fun c26 => ?_)
      · refine zO_aload_n dX11_year_36 rfl (zR_P _) ?_
        refine gt11 (k := 0) dX11_year_37 wF_X11_10 (by decide) (gk_0 hG) (zgv (c := 11) (k := 0) rfl (Or.inr ⟨_, rfl⟩) (gf_0_0 hG)) ?_
        refine zO_iload_n dX11_year_40 rfl ?_
        refine zO_callV (Y' := YX9_addYear) (cw := zcV F n sl) (as := [zI v1]) (rest := []) (na := 1) (ci := 9) rfl dX11_year_41 wC_X9_addYear wN_X9 wM_X11_326 wI_X9_addYear wV_X9_addYear (by decide) (by decide) rfl rfl (Nat.le_of_ble_eq_true rfl) rfl (by decide) (gk_1 hG) (fun r hr => zMet_cast (Nat.add_assoc d 0 0) (mX9_addYear (d := d + 0) hG v1 r hr)) ?_
        intro D_6 _
        show zO _ _ _ _ _ _ [] (F, D_6, n, sl) _ _
        refine zO_aload_n dX11_year_44 rfl (zR_P _) ?_
        refine zO_aload_n dX11_year_45 rfl (zR_P _) ?_
        refine gt11 (k := 0) dX11_year_46 wF_X11_10 (by decide) (gk_0 hG) (zgv (c := 11) (k := 0) rfl (Or.inr ⟨_, rfl⟩) (gf_0_0 hG)) ?_
        refine gt9 (k := 15) (v := zI (D_6 1 15)) dX11_year_49 wF_X11_323 (by decide) (gk_1 hG) rfl ?_
        refine zO_callV (Y' := YX11_accept) (cw := zcI F n sl) (as := [zI (D_6 1 15)]) (rest := []) (na := 1) (ci := 11) rfl dX11_year_52 wC_X11_accept wN_X11 wM_X11_123 wI_X11_accept wV_X11_accept (by decide) (by decide) rfl rfl (Nat.le_of_ble_eq_true rfl) rfl (by decide) (gk_0 hG) (fun r hr => zMet_cast (Nat.add_assoc d 0 0) (mX11_accept (d := d + 0) hG (D_6 1 15) r hr)) ?_
        rintro ⟨r_7, D_8⟩ -
        show zO _ _ _ _ _ _ [zI r_7] (F, D_8, n, sl) _ _
        exact zO_ret (rv := some (zI r_7)) dX11_year_55 rfl rfl rfl
      · refine zO_aload_n dX11_year_29 rfl (zR_P _) ?_
        refine zO_bipush dX11_year_30 (by decide) ?_
        refine zO_callV (Y' := YX11_refuse) (cw := zcI F n sl) (as := [zI (-5)]) (rest := []) (na := 1) (ci := 11) rfl dX11_year_32 wC_X11_refuse wN_X11 wM_X11_112 wI_X11_refuse wV_X11_refuse (by decide) (by decide) rfl rfl (Nat.le_of_ble_eq_true rfl) rfl (by decide) (gk_0 hG) (fun r hr => zMet_cast (Nat.add_assoc d 0 0) (mX11_refuse (d := d + 0) hG (-5) r hr)) ?_
        rintro ⟨r_9, D_10⟩ -
        show zO _ _ _ _ _ _ [zI r_9] (F, D_10, n, sl) _ _
        exact zO_ret (rv := some (zI r_9)) dX11_year_35 rfl rfl rfl
  exact hz r hr
theorem dX11_intOnTape_0 : decode cX11_intOnTape 0 = .ok (.iconst 0, 1) := by decide +kernel
theorem dX11_intOnTape_1 : decode cX11_intOnTape 1 = .ok (.istore_n 2, 1) := by decide +kernel
theorem dX11_intOnTape_2 : decode cX11_intOnTape 2 = .ok (.iload_n 1, 1) := by decide +kernel
theorem dX11_intOnTape_3 : decode cX11_intOnTape 3 = .ok (.istore_n 3, 1) := by decide +kernel
theorem dX11_intOnTape_4 : decode cX11_intOnTape 4 = .ok (.iload_n 3, 1) := by decide +kernel
theorem dX11_intOnTape_5 : decode cX11_intOnTape 5 = .ok (.iload_n 1, 1) := by decide +kernel
theorem dX11_intOnTape_6 : decode cX11_intOnTape 6 = .ok (.iconst 4, 1) := by decide +kernel
theorem dX11_intOnTape_7 : decode cX11_intOnTape 7 = .ok (.iadd, 1) := by decide +kernel
theorem dX11_intOnTape_8 : decode cX11_intOnTape 8 = .ok (.if_icmp .ge 28, 3) := by decide +kernel
theorem dX11_intOnTape_11 : decode cX11_intOnTape 11 = .ok (.iload_n 3, 1) := by decide +kernel
theorem dX11_intOnTape_12 : decode cX11_intOnTape 12 = .ok (.sipush 400, 3) := by decide +kernel
theorem dX11_intOnTape_15 : decode cX11_intOnTape 15 = .ok (.if_icmp .ge 21, 3) := by decide +kernel
theorem dX11_intOnTape_18 : decode cX11_intOnTape 18 = .ok (.iload_n 2, 1) := by decide +kernel
theorem dX11_intOnTape_19 : decode cX11_intOnTape 19 = .ok (.bipush 8, 2) := by decide +kernel
theorem dX11_intOnTape_21 : decode cX11_intOnTape 21 = .ok (.ishl, 1) := by decide +kernel
theorem dX11_intOnTape_22 : decode cX11_intOnTape 22 = .ok (.aload_n 0, 1) := by decide +kernel
theorem dX11_intOnTape_23 : decode cX11_intOnTape 23 = .ok (.getfield 24, 3) := by decide +kernel
theorem dX11_intOnTape_26 : decode cX11_intOnTape 26 = .ok (.iload_n 3, 1) := by decide +kernel
theorem dX11_intOnTape_27 : decode cX11_intOnTape 27 = .ok (.iaload, 1) := by decide +kernel
theorem dX11_intOnTape_28 : decode cX11_intOnTape 28 = .ok (.ior, 1) := by decide +kernel
theorem dX11_intOnTape_29 : decode cX11_intOnTape 29 = .ok (.istore_n 2, 1) := by decide +kernel
theorem dX11_intOnTape_30 : decode cX11_intOnTape 30 = .ok (.iinc 3 1, 3) := by decide +kernel
theorem dX11_intOnTape_33 : decode cX11_intOnTape 33 = .ok (.goto (-29), 3) := by decide +kernel
theorem dX11_intOnTape_36 : decode cX11_intOnTape 36 = .ok (.iload_n 2, 1) := by decide +kernel
theorem dX11_intOnTape_37 : decode cX11_intOnTape 37 = .ok (.ireturn, 1) := by decide +kernel
abbrev YX11_intOnTape : zY := (yX11_intOnTape, cX11_intOnTape, 4, (Option.some Jvm.ClassFile.FieldType.int), [])
def fX11_intOnTape_4 (F : zFs) (o1 : Int)  (k_4 : Int → Int → zDa → Option (Int × zDa)) (v2 : Int) (v3 : Int) (D : zDa) : Option (Int × zDa) :=
  if (-2147483648 ≤ o1 + 4 ∧ o1 + 4 ≤ 2147483647) then
    if v3 < (o1 + 4) then
      if v3 < 400 then
        if (0 ≤ v3 ∧ v3 < 400) then
          zlet ((zor (zshl v2 8) (D 39 v3.toNat))) (fun x2_1 =>
            if (-2147483648 ≤ v3 + 1 ∧ v3 + 1 ≤ 2147483647) then
              k_4 x2_1 (v3 + 1) D
            else none)
        else none
      else
        some (v2, D)
    else
      some (v2, D)
  else none
def fX11_intOnTape (F : zFs) (v1 : Int) (D : zDa) : Option (Int × zDa) :=
  zfix (fun _ _ _ => none) (fX11_intOnTape_4 F v1) zfu 0 v1 D
set_option maxHeartbeats 20000000 in
theorem sX11_intOnTape_4 {l : Launch} {E : zE} {d : Nat} {F : zFs} {n sl : Nat} (hG : zG F)  (o1 : Int)   : ∀ (N : Nat) (v2 : Int) (v3 : Int) (D : zDa), zO l E (d + 0) YX11_intOnTape 4 [(0, zR 0), (1, zI o1), (2, zI v2), (3, zI v3)] [] (F, D, n, sl) (zcI F n sl) (zfix (fun _ _ _ => none) (fX11_intOnTape_4 F o1) N v2 v3 D) := by
  intro N
  induction N with
  | zero => intro v2 v3 D; exact zO_none
  | succ N hk_4 =>
    intro v2 v3 D
    show zO _ _ _ _ _ _ _ _ _ ((fX11_intOnTape_4 F o1) (zfix (fun _ _ _ => none) (fX11_intOnTape_4 F o1) N) v2 v3 D)
    unfold fX11_intOnTape_4
    refine zO_chk (fun h1 => ?_)
    refine zO_iload_n dX11_intOnTape_4 rfl ?_
    refine zO_iload_n dX11_intOnTape_5 rfl ?_
    refine zO_iconst dX11_intOnTape_6 (by decide) ?_
    refine zO_iadd dX11_intOnTape_7 h1 ?_
    refine zO_icmp_ge (tgt := 36) dX11_intOnTape_8 rfl (fun c8 => ?_) (fun c8 => ?_)
    · refine zO_iload_n dX11_intOnTape_11 rfl ?_
      refine zO_sipush dX11_intOnTape_12 (by decide) ?_
      refine zO_icmp_ge (tgt := 36) dX11_intOnTape_15 rfl (fun c15 => ?_) (fun c15 => ?_)
      · refine zO_chk (fun h2 => ?_)
        refine zO_iload_n dX11_intOnTape_18 rfl ?_
        refine zO_bipush dX11_intOnTape_19 (by decide) ?_
        refine zO_ishl dX11_intOnTape_21 ?_
        refine zO_aload_n dX11_intOnTape_22 rfl (zR_P _) ?_
        refine gt11 (k := 3) dX11_intOnTape_23 wF_X11_24 (by decide) (gk_0 hG) (zgv (c := 11) (k := 3) rfl (Or.inl ⟨_, rfl⟩) (gf_0_3 hG)) ?_
        refine zO_iload_n dX11_intOnTape_26 rfl ?_
        refine zO_iald dX11_intOnTape_27 (gk_39 hG) (gl_in (gl_39 hG) h2) ?_
        refine zO_ior dX11_intOnTape_28 ?_
        refine zO_letI (fun x2_1 ex2_1 => ?_)
        refine zO_istore_n dX11_intOnTape_29 (by decide) ?_
        refine zO_ls (ls' := [(0, zR 0), (1, zI o1), (2, zI x2_1), (3, zI v3)]) rfl ?_
        refine zO_chk (fun h3 => ?_)
        refine zO_iinc dX11_intOnTape_30 rfl h3 (by decide) ?_
        refine zO_ls (ls' := [(0, zR 0), (1, zI o1), (2, zI x2_1), (3, zI (v3 + 1))]) rfl ?_
        refine zO_goto (tgt := 4) dX11_intOnTape_33 rfl ?_
        refine zO_live [0, 1, 2, 3] ?_
        exact hk_4 x2_1 (v3 + 1) D
      · refine zO_iload_n dX11_intOnTape_36 rfl ?_
        exact zO_ret (rv := some (zI v2)) dX11_intOnTape_37 rfl rfl rfl
    · refine zO_iload_n dX11_intOnTape_36 rfl ?_
      exact zO_ret (rv := some (zI v2)) dX11_intOnTape_37 rfl rfl rfl
set_option maxHeartbeats 20000000 in
theorem mX11_intOnTape {l : Launch} {E : zE} {d : Nat} {F : zFs} {n sl : Nat} (hG : zG F) (v1 : Int) {D : zDa} : ∀ r, fX11_intOnTape F  v1 D = some r → zMet l E (d + 0) YX11_intOnTape [zR 0, zI v1] (F, D, n, sl) (zcI F n sl r) := by
  intro r hr
  refine zMet_of (plainFor_of_name (by decide)) (fun _ h => (nomatch h)) (Nat.le_of_ble_eq_true rfl) ?_
  have hz : zO l E (d + 0) YX11_intOnTape 0 [(0, zR 0), (1, zI v1)] [] (F, D, n, sl) (zcI F n sl) (fX11_intOnTape F  v1 D) := by
    unfold fX11_intOnTape
    refine zO_iconst dX11_intOnTape_0 (by decide) ?_
    refine zO_istore_n dX11_intOnTape_1 (by decide) ?_
    refine zO_ls (ls' := [(0, zR 0), (1, zI v1), (2, zI 0)]) rfl ?_
    refine zO_iload_n dX11_intOnTape_2 rfl ?_
    refine zO_istore_n dX11_intOnTape_3 (by decide) ?_
    refine zO_ls (ls' := [(0, zR 0), (1, zI v1), (2, zI 0), (3, zI v1)]) rfl ?_
    refine zO_live [0, 1, 2, 3] ?_
    exact sX11_intOnTape_4 hG v1 zfu 0 v1 D
  exact hz r hr
theorem dX11_row_0 : decode cX11_row 0 = .ok (.aload_n 0, 1) := by decide +kernel
theorem dX11_row_1 : decode cX11_row 1 = .ok (.getfield 160, 3) := by decide +kernel
theorem dX11_row_4 : decode cX11_row 4 = .ok (.istore_n 1, 1) := by decide +kernel
theorem dX11_row_5 : decode cX11_row 5 = .ok (.aload_n 0, 1) := by decide +kernel
theorem dX11_row_6 : decode cX11_row 6 = .ok (.iconst 0, 1) := by decide +kernel
theorem dX11_row_7 : decode cX11_row 7 = .ok (.putfield 160, 3) := by decide +kernel
theorem dX11_row_10 : decode cX11_row 10 = .ok (.iload_n 1, 1) := by decide +kernel
theorem dX11_row_11 : decode cX11_row 11 = .ok (.ifCond .ne 10, 3) := by decide +kernel
theorem dX11_row_14 : decode cX11_row 14 = .ok (.aload_n 0, 1) := by decide +kernel
theorem dX11_row_15 : decode cX11_row 15 = .ok (.bipush (-6), 2) := by decide +kernel
theorem dX11_row_17 : decode cX11_row 17 = .ok (.invokevirtual 112, 3) := by decide +kernel
theorem dX11_row_20 : decode cX11_row 20 = .ok (.ireturn, 1) := by decide +kernel
theorem dX11_row_21 : decode cX11_row 21 = .ok (.iconst 0, 1) := by decide +kernel
theorem dX11_row_22 : decode cX11_row 22 = .ok (.istore_n 2, 1) := by decide +kernel
theorem dX11_row_23 : decode cX11_row 23 = .ok (.aload_n 0, 1) := by decide +kernel
theorem dX11_row_24 : decode cX11_row 24 = .ok (.iconst 0, 1) := by decide +kernel
theorem dX11_row_25 : decode cX11_row 25 = .ok (.putfield 329, 3) := by decide +kernel
theorem dX11_row_28 : decode cX11_row 28 = .ok (.iconst 0, 1) := by decide +kernel
theorem dX11_row_29 : decode cX11_row 29 = .ok (.istore_n 3, 1) := by decide +kernel
theorem dX11_row_30 : decode cX11_row 30 = .ok (.iload_n 3, 1) := by decide +kernel
theorem dX11_row_31 : decode cX11_row 31 = .ok (.iload_n 1, 1) := by decide +kernel
theorem dX11_row_32 : decode cX11_row 32 = .ok (.if_icmp .ge 83, 3) := by decide +kernel
theorem dX11_row_35 : decode cX11_row 35 = .ok (.iload_n 3, 1) := by decide +kernel
theorem dX11_row_36 : decode cX11_row 36 = .ok (.iconst 4, 1) := by decide +kernel
theorem dX11_row_37 : decode cX11_row 37 = .ok (.iadd, 1) := by decide +kernel
theorem dX11_row_38 : decode cX11_row 38 = .ok (.iload_n 1, 1) := by decide +kernel
theorem dX11_row_39 : decode cX11_row 39 = .ok (.if_icmp .gt 7, 3) := by decide +kernel
theorem dX11_row_42 : decode cX11_row 42 = .ok (.iconst 1, 1) := by decide +kernel
theorem dX11_row_43 : decode cX11_row 43 = .ok (.goto 4, 3) := by decide +kernel
theorem dX11_row_46 : decode cX11_row 46 = .ok (.iconst 0, 1) := by decide +kernel
theorem dX11_row_47 : decode cX11_row 47 = .ok (.istore 4, 2) := by decide +kernel
theorem dX11_row_49 : decode cX11_row 49 = .ok (.iload 4, 2) := by decide +kernel
theorem dX11_row_51 : decode cX11_row 51 = .ok (.ifCond .eq 48, 3) := by decide +kernel
theorem dX11_row_54 : decode cX11_row 54 = .ok (.aload_n 0, 1) := by decide +kernel
theorem dX11_row_55 : decode cX11_row 55 = .ok (.getfield 10, 3) := by decide +kernel
theorem dX11_row_58 : decode cX11_row 58 = .ok (.getfield 323, 3) := by decide +kernel
theorem dX11_row_61 : decode cX11_row 61 = .ok (.bipush 40, 2) := by decide +kernel
theorem dX11_row_63 : decode cX11_row 63 = .ok (.if_icmp .ge 36, 3) := by decide +kernel
theorem dX11_row_66 : decode cX11_row 66 = .ok (.aload_n 0, 1) := by decide +kernel
theorem dX11_row_67 : decode cX11_row 67 = .ok (.getfield 10, 3) := by decide +kernel
theorem dX11_row_70 : decode cX11_row 70 = .ok (.aload_n 0, 1) := by decide +kernel
theorem dX11_row_71 : decode cX11_row 71 = .ok (.iload_n 3, 1) := by decide +kernel
theorem dX11_row_72 : decode cX11_row 72 = .ok (.invokevirtual 332, 3) := by decide +kernel
theorem dX11_row_75 : decode cX11_row 75 = .ok (.invokevirtual 320, 3) := by decide +kernel
theorem dX11_row_78 : decode cX11_row 78 = .ok (.ifCond .eq 21, 3) := by decide +kernel
theorem dX11_row_81 : decode cX11_row 81 = .ok (.aload_n 0, 1) := by decide +kernel
theorem dX11_row_82 : decode cX11_row 82 = .ok (.getfield 10, 3) := by decide +kernel
theorem dX11_row_85 : decode cX11_row 85 = .ok (.aload_n 0, 1) := by decide +kernel
theorem dX11_row_86 : decode cX11_row 86 = .ok (.iload_n 3, 1) := by decide +kernel
theorem dX11_row_87 : decode cX11_row 87 = .ok (.invokevirtual 332, 3) := by decide +kernel
theorem dX11_row_90 : decode cX11_row 90 = .ok (.invokevirtual 326, 3) := by decide +kernel
theorem dX11_row_93 : decode cX11_row 93 = .ok (.iinc 2 1, 3) := by decide +kernel
theorem dX11_row_96 : decode cX11_row 96 = .ok (.goto 13, 3) := by decide +kernel
theorem dX11_row_99 : decode cX11_row 99 = .ok (.aload_n 0, 1) := by decide +kernel
theorem dX11_row_100 : decode cX11_row 100 = .ok (.dup, 1) := by decide +kernel
theorem dX11_row_101 : decode cX11_row 101 = .ok (.getfield 329, 3) := by decide +kernel
theorem dX11_row_104 : decode cX11_row 104 = .ok (.iconst 1, 1) := by decide +kernel
theorem dX11_row_105 : decode cX11_row 105 = .ok (.iadd, 1) := by decide +kernel
theorem dX11_row_106 : decode cX11_row 106 = .ok (.putfield 329, 3) := by decide +kernel
theorem dX11_row_109 : decode cX11_row 109 = .ok (.iinc 3 4, 3) := by decide +kernel
theorem dX11_row_112 : decode cX11_row 112 = .ok (.goto (-82), 3) := by decide +kernel
theorem dX11_row_115 : decode cX11_row 115 = .ok (.aload_n 0, 1) := by decide +kernel
theorem dX11_row_116 : decode cX11_row 116 = .ok (.iload_n 2, 1) := by decide +kernel
theorem dX11_row_117 : decode cX11_row 117 = .ok (.invokevirtual 123, 3) := by decide +kernel
theorem dX11_row_120 : decode cX11_row 120 = .ok (.ireturn, 1) := by decide +kernel
abbrev YX11_row : zY := (yX11_row, cX11_row, 5, (Option.some Jvm.ClassFile.FieldType.int), [])
def fX11_row_109 (F : zFs) (k_30 : Int → Int → zDa → Option (Int × zDa)) (o1 : Int) (v2 : Int) (v3 : Int) (D : zDa) : Option (Int × zDa) :=
  if (-2147483648 ≤ v3 + 4 ∧ v3 + 4 ≤ 2147483647) then
    k_30 v2 (v3 + 4) D
  else none
def fX11_row_99 (F : zFs) (k_30 : Int → Int → zDa → Option (Int × zDa)) (o1 : Int) (v2 : Int) (v3 : Int) (D : zDa) : Option (Int × zDa) :=
  if (-2147483648 ≤ (D 0 6) + 1 ∧ (D 0 6) + 1 ≤ 2147483647) then
    zlet (zwr D 0 6 ((D 0 6) + 1)) (fun D_6 =>
      fX11_row_109 F k_30 o1 v2 v3 D_6)
  else none
def fX11_row_47 (F : zFs) (k_30 : Int → Int → zDa → Option (Int × zDa)) (o1 : Int) (v2 : Int) (v3 : Int) (s0 : Int) (D : zDa) : Option (Int × zDa) :=
  if s0 = 0 then
    fX11_row_99 F k_30 o1 v2 v3 D
  else
    if (D 1 15) < 40 then
      (fX11_intOnTape F v3 D).bind (fun (r_7, D_8) =>
        (fX9_allThere F r_7 D_8).bind (fun (r_9, D_10) =>
          if r_9 = 0 then
            fX11_row_99 F k_30 o1 v2 v3 D_10
          else
            (fX11_intOnTape F v3 D_10).bind (fun (r_11, D_12) =>
              (fX9_addYear F r_11 D_12).bind (fun D_14 =>
                if (-2147483648 ≤ v2 + 1 ∧ v2 + 1 ≤ 2147483647) then
                  fX11_row_109 F k_30 o1 (v2 + 1) v3 D_14
                else none))))
    else
      fX11_row_99 F k_30 o1 v2 v3 D
def fX11_row_30 (F : zFs) (o1 : Int)  (k_30 : Int → Int → zDa → Option (Int × zDa)) (v2 : Int) (v3 : Int) (D : zDa) : Option (Int × zDa) :=
  if v3 < o1 then
    if (-2147483648 ≤ v3 + 4 ∧ v3 + 4 ≤ 2147483647) then
      if o1 < (v3 + 4) then
        fX11_row_47 F k_30 o1 v2 v3 0 D
      else
        fX11_row_47 F k_30 o1 v2 v3 1 D
    else none
  else
    (fX11_accept F v2 D).bind (fun (r_15, D_16) =>
      some (r_15, D_16))
def fX11_row (F : zFs)  (D : zDa) : Option (Int × zDa) :=
  zlet ((D 0 4)) (fun x1_1 =>
    zlet (zwr D 0 4 0) (fun D_2 =>
      if x1_1 = 0 then
        (fX11_refuse F (-6) D_2).bind (fun (r_3, D_4) =>
          some (r_3, D_4))
      else
        zlet (zwr D_2 0 6 0) (fun D_5 =>
          zfix (fun _ _ _ => none) (fX11_row_30 F x1_1) zfu 0 0 D_5)))
set_option maxHeartbeats 20000000 in
theorem sX11_row_109 {l : Launch} {E : zE} {d : Nat} {F : zFs} {n sl : Nat} (hG : zG F)  (o1 : Int) (v2 : Int) (v3 : Int) (k_30 : Int → Int → zDa → Option (Int × zDa)) (hk_30 : ∀ (u2 : Int) (u3 : Int) (D : zDa), zO l E (d + 1) YX11_row 30 [(0, zR 0), (1, zI o1), (2, zI u2), (3, zI u3)] [] (F, D, n, sl) (zcI F n sl) (k_30 u2 u3 D)) (D : zDa) : zO l E (d + 1) YX11_row 109 [(0, zR 0), (1, zI o1), (2, zI v2), (3, zI v3)] [] (F, D, n, sl) (zcI F n sl) (fX11_row_109 F k_30 o1 v2 v3 D) := by
  unfold fX11_row_109
  refine zO_chk (fun h3 => ?_)
  refine zO_iinc dX11_row_109 rfl h3 (by decide) ?_
  refine zO_ls (ls' := [(0, zR 0), (1, zI o1), (2, zI v2), (3, zI (v3 + 4))]) rfl ?_
  refine zO_goto (tgt := 30) dX11_row_112 rfl ?_
  refine zO_live [0, 1, 2, 3] ?_
  exact hk_30 v2 (v3 + 4) D
set_option maxHeartbeats 20000000 in
theorem sX11_row_99 {l : Launch} {E : zE} {d : Nat} {F : zFs} {n sl : Nat} (hG : zG F)  (o1 : Int) (v2 : Int) (v3 : Int) (k_30 : Int → Int → zDa → Option (Int × zDa)) (hk_30 : ∀ (u2 : Int) (u3 : Int) (D : zDa), zO l E (d + 1) YX11_row 30 [(0, zR 0), (1, zI o1), (2, zI u2), (3, zI u3)] [] (F, D, n, sl) (zcI F n sl) (k_30 u2 u3 D)) (D : zDa) : zO l E (d + 1) YX11_row 99 [(0, zR 0), (1, zI o1), (2, zI v2), (3, zI v3)] [] (F, D, n, sl) (zcI F n sl) (fX11_row_99 F k_30 o1 v2 v3 D) := by
  unfold fX11_row_99
  refine zO_chk (fun h2 => ?_)
  refine zO_aload_n dX11_row_99 rfl (zR_P _) ?_
  refine zO_dup dX11_row_100 (rfl) ?_
  refine gt11 (k := 6) (v := zI (D 0 6)) dX11_row_101 wF_X11_329 (by decide) (gk_0 hG) rfl ?_
  refine zO_iconst dX11_row_104 (by decide) ?_
  refine zO_iadd dX11_row_105 h2 ?_
  refine ptI11 (k := 6) (z := ((D 0 6) + 1)) dX11_row_106 wF_X11_329 (by decide) rfl (gk_0 hG) rfl ?_
  refine zO_letD (fun D_6 eD_6 => ?_)
  refine zO_live [0, 1, 2, 3] ?_
  exact sX11_row_109 hG o1 v2 v3 _ hk_30 D_6
set_option maxHeartbeats 20000000 in
theorem sX11_row_47 {l : Launch} {E : zE} {d : Nat} {F : zFs} {n sl : Nat} (hG : zG F)  (o1 : Int) (v2 : Int) (v3 : Int) (s0 : Int) (k_30 : Int → Int → zDa → Option (Int × zDa)) (hk_30 : ∀ (u2 : Int) (u3 : Int) (D : zDa), zO l E (d + 1) YX11_row 30 [(0, zR 0), (1, zI o1), (2, zI u2), (3, zI u3)] [] (F, D, n, sl) (zcI F n sl) (k_30 u2 u3 D)) (D : zDa) : zO l E (d + 1) YX11_row 47 [(0, zR 0), (1, zI o1), (2, zI v2), (3, zI v3)] [zI s0] (F, D, n, sl) (zcI F n sl) (fX11_row_47 F k_30 o1 v2 v3 s0 D) := by
  unfold fX11_row_47
  refine zO_istore dX11_row_47 (by decide) ?_
  refine zO_ls (ls' := [(0, zR 0), (1, zI o1), (2, zI v2), (3, zI v3), (4, zI s0)]) rfl ?_
  refine zO_iload dX11_row_49 rfl ?_
  refine zO_if_eq (tgt := 99) dX11_row_51 rfl (fun c51 => ?_) (fun c51 => ?_)
  · refine zO_live [0, 1, 2, 3] ?_
    exact sX11_row_99 hG o1 v2 v3 _ hk_30 D
  · refine zO_aload_n dX11_row_54 rfl (zR_P _) ?_
    refine gt11 (k := 0) dX11_row_55 wF_X11_10 (by decide) (gk_0 hG) (zgv (c := 11) (k := 0) rfl (Or.inr ⟨_, rfl⟩) (gf_0_0 hG)) ?_
    refine gt9 (k := 15) (v := zI (D 1 15)) dX11_row_58 wF_X11_323 (by decide) (gk_1 hG) rfl ?_
    refine zO_bipush dX11_row_61 (by decide) ?_
    refine zO_icmp_ge (tgt := 99) dX11_row_63 rfl (fun c63 => ?_) (fun c63 => ?_)
    · refine zO_aload_n dX11_row_66 rfl (zR_P _) ?_
      refine gt11 (k := 0) dX11_row_67 wF_X11_10 (by decide) (gk_0 hG) (zgv (c := 11) (k := 0) rfl (Or.inr ⟨_, rfl⟩) (gf_0_0 hG)) ?_
      refine zO_aload_n dX11_row_70 rfl (zR_P _) ?_
      refine zO_iload_n dX11_row_71 rfl ?_
      refine zO_callV (Y' := YX11_intOnTape) (cw := zcI F n sl) (as := [zI v3]) (rest := [zR 1]) (na := 1) (ci := 11) rfl dX11_row_72 wC_X11_intOnTape wN_X11 wM_X11_332 wI_X11_intOnTape wV_X11_intOnTape (by decide) (by decide) rfl rfl (Nat.le_of_ble_eq_true rfl) rfl (by decide) (gk_0 hG) (fun r hr => zMet_cast (Nat.add_assoc d 0 0) (mX11_intOnTape (d := d + 0) hG v3 r hr)) ?_
      rintro ⟨r_7, D_8⟩ -
      show zO _ _ _ _ _ _ [zI r_7, zR 1] (F, D_8, n, sl) _ _
      refine zO_callV (Y' := YX9_allThere) (cw := zcI F n sl) (as := [zI r_7]) (rest := []) (na := 1) (ci := 9) rfl dX11_row_75 wC_X9_allThere wN_X9 wM_X11_320 wI_X9_allThere wV_X9_allThere (by decide) (by decide) rfl rfl (Nat.le_of_ble_eq_true rfl) rfl (by decide) (gk_1 hG) (fun r hr => zMet_cast (Nat.add_assoc d 0 0) (mX9_allThere (d := d + 0) hG r_7 r hr)) ?_
      rintro ⟨r_9, D_10⟩ -
      show zO _ _ _ _ _ _ [zI r_9] (F, D_10, n, sl) _ _
      refine zO_if_eq (tgt := 99) dX11_row_78 rfl (fun c78 => ?_) (fun c78 => ?_)
      · refine zO_live [0, 1, 2, 3] ?_
        exact sX11_row_99 hG o1 v2 v3 _ hk_30 D_10
      · refine zO_aload_n dX11_row_81 rfl (zR_P _) ?_
        refine gt11 (k := 0) dX11_row_82 wF_X11_10 (by decide) (gk_0 hG) (zgv (c := 11) (k := 0) rfl (Or.inr ⟨_, rfl⟩) (gf_0_0 hG)) ?_
        refine zO_aload_n dX11_row_85 rfl (zR_P _) ?_
        refine zO_iload_n dX11_row_86 rfl ?_
        refine zO_callV (Y' := YX11_intOnTape) (cw := zcI F n sl) (as := [zI v3]) (rest := [zR 1]) (na := 1) (ci := 11) rfl dX11_row_87 wC_X11_intOnTape wN_X11 wM_X11_332 wI_X11_intOnTape wV_X11_intOnTape (by decide) (by decide) rfl rfl (Nat.le_of_ble_eq_true rfl) rfl (by decide) (gk_0 hG) (fun r hr => zMet_cast (Nat.add_assoc d 0 0) (mX11_intOnTape (d := d + 0) hG v3 r hr)) ?_
        rintro ⟨r_11, D_12⟩ -
        show zO _ _ _ _ _ _ [zI r_11, zR 1] (F, D_12, n, sl) _ _
        refine zO_callV (Y' := YX9_addYear) (cw := zcV F n sl) (as := [zI r_11]) (rest := []) (na := 1) (ci := 9) rfl dX11_row_90 wC_X9_addYear wN_X9 wM_X11_326 wI_X9_addYear wV_X9_addYear (by decide) (by decide) rfl rfl (Nat.le_of_ble_eq_true rfl) rfl (by decide) (gk_1 hG) (fun r hr => zMet_cast (Nat.add_assoc d 0 0) (mX9_addYear (d := d + 0) hG r_11 r hr)) ?_
        intro D_14 _
        show zO _ _ _ _ _ _ [] (F, D_14, n, sl) _ _
        refine zO_chk (fun h4 => ?_)
        refine zO_iinc dX11_row_93 rfl h4 (by decide) ?_
        refine zO_ls (ls' := [(0, zR 0), (1, zI o1), (2, zI (v2 + 1)), (3, zI v3), (4, zI s0)]) rfl ?_
        refine zO_goto (tgt := 109) dX11_row_96 rfl ?_
        refine zO_live [0, 1, 2, 3] ?_
        exact sX11_row_109 hG o1 (v2 + 1) v3 _ hk_30 D_14
    · refine zO_live [0, 1, 2, 3] ?_
      exact sX11_row_99 hG o1 v2 v3 _ hk_30 D
set_option maxHeartbeats 20000000 in
theorem sX11_row_30 {l : Launch} {E : zE} {d : Nat} {F : zFs} {n sl : Nat} (hG : zG F)  (o1 : Int)   : ∀ (N : Nat) (v2 : Int) (v3 : Int) (D : zDa), zO l E (d + 1) YX11_row 30 [(0, zR 0), (1, zI o1), (2, zI v2), (3, zI v3)] [] (F, D, n, sl) (zcI F n sl) (zfix (fun _ _ _ => none) (fX11_row_30 F o1) N v2 v3 D) := by
  intro N
  induction N with
  | zero => intro v2 v3 D; exact zO_none
  | succ N hk_30 =>
    intro v2 v3 D
    show zO _ _ _ _ _ _ _ _ _ ((fX11_row_30 F o1) (zfix (fun _ _ _ => none) (fX11_row_30 F o1) N) v2 v3 D)
    unfold fX11_row_30
    refine zO_iload_n dX11_row_30 rfl ?_
    refine zO_iload_n dX11_row_31 rfl ?_
    refine zO_icmp_ge (tgt := 115) dX11_row_32 rfl (fun c32 => ?_) (fun c32 => ?_)
    · refine zO_chk (fun h1 => ?_)
      refine zO_iload_n dX11_row_35 rfl ?_
      refine zO_iconst dX11_row_36 (by decide) ?_
      refine zO_iadd dX11_row_37 h1 ?_
      refine zO_iload_n dX11_row_38 rfl ?_
      refine zO_icmp_gt (tgt := 46) dX11_row_39 rfl (fun c39 => ?_) (fun c39 => ?_)
      · refine zO_iconst dX11_row_46 (by decide) ?_
        refine zO_live [0, 1, 2, 3] ?_
        exact sX11_row_47 hG o1 v2 v3 0 _ hk_30 D
      · refine zO_iconst dX11_row_42 (by decide) ?_
        refine zO_goto (tgt := 47) dX11_row_43 rfl ?_
        refine zO_live [0, 1, 2, 3] ?_
        exact sX11_row_47 hG o1 v2 v3 1 _ hk_30 D
    · refine zO_aload_n dX11_row_115 rfl (zR_P _) ?_
      refine zO_iload_n dX11_row_116 rfl ?_
      refine zO_callV (Y' := YX11_accept) (cw := zcI F n sl) (as := [zI v2]) (rest := []) (na := 1) (ci := 11) rfl dX11_row_117 wC_X11_accept wN_X11 wM_X11_123 wI_X11_accept wV_X11_accept (by decide) (by decide) rfl rfl (Nat.le_of_ble_eq_true rfl) rfl (by decide) (gk_0 hG) (fun r hr => zMet_cast (Nat.add_assoc d 0 0) (mX11_accept (d := d + 0) hG v2 r hr)) ?_
      rintro ⟨r_15, D_16⟩ -
      show zO _ _ _ _ _ _ [zI r_15] (F, D_16, n, sl) _ _
      exact zO_ret (rv := some (zI r_15)) dX11_row_120 rfl rfl rfl
set_option maxHeartbeats 20000000 in
theorem mX11_row {l : Launch} {E : zE} {d : Nat} {F : zFs} {n sl : Nat} (hG : zG F)  {D : zDa} : ∀ r, fX11_row F   D = some r → zMet l E (d + 1) YX11_row [zR 0] (F, D, n, sl) (zcI F n sl r) := by
  intro r hr
  refine zMet_of (plainFor_of_name (by decide)) (fun _ h => (nomatch h)) (Nat.le_of_ble_eq_true rfl) ?_
  have hz : zO l E (d + 1) YX11_row 0 [(0, zR 0)] [] (F, D, n, sl) (zcI F n sl) (fX11_row F   D) := by
    unfold fX11_row
    refine zO_aload_n dX11_row_0 rfl (zR_P _) ?_
    refine gt11 (k := 4) (v := zI (D 0 4)) dX11_row_1 wF_X11_160 (by decide) (gk_0 hG) rfl ?_
    refine zO_letI (fun x1_1 ex1_1 => ?_)
    refine zO_istore_n dX11_row_4 (by decide) ?_
    refine zO_ls (ls' := [(0, zR 0), (1, zI x1_1)]) rfl ?_
    refine zO_aload_n dX11_row_5 rfl (zR_P _) ?_
    refine zO_iconst dX11_row_6 (by decide) ?_
    refine ptI11 (k := 4) (z := 0) dX11_row_7 wF_X11_160 (by decide) rfl (gk_0 hG) rfl ?_
    refine zO_letD (fun D_2 eD_2 => ?_)
    refine zO_iload_n dX11_row_10 rfl ?_
    refine zO_if_ne (tgt := 21) dX11_row_11 rfl (fun c11 => ?_) (fun c11 => ?_)
    · refine zO_aload_n dX11_row_14 rfl (zR_P _) ?_
      refine zO_bipush dX11_row_15 (by decide) ?_
      refine zO_callV (Y' := YX11_refuse) (cw := zcI F n sl) (as := [zI (-6)]) (rest := []) (na := 1) (ci := 11) rfl dX11_row_17 wC_X11_refuse wN_X11 wM_X11_112 wI_X11_refuse wV_X11_refuse (by decide) (by decide) rfl rfl (Nat.le_of_ble_eq_true rfl) rfl (by decide) (gk_0 hG) (fun r hr => zMet_cast (Nat.add_assoc d 0 0) (mX11_refuse (d := d + 0) hG (-6) r hr)) ?_
      rintro ⟨r_3, D_4⟩ -
      show zO _ _ _ _ _ _ [zI r_3] (F, D_4, n, sl) _ _
      exact zO_ret (rv := some (zI r_3)) dX11_row_20 rfl rfl rfl
    · refine zO_iconst dX11_row_21 (by decide) ?_
      refine zO_istore_n dX11_row_22 (by decide) ?_
      refine zO_ls (ls' := [(0, zR 0), (1, zI x1_1), (2, zI 0)]) rfl ?_
      refine zO_aload_n dX11_row_23 rfl (zR_P _) ?_
      refine zO_iconst dX11_row_24 (by decide) ?_
      refine ptI11 (k := 6) (z := 0) dX11_row_25 wF_X11_329 (by decide) rfl (gk_0 hG) rfl ?_
      refine zO_letD (fun D_5 eD_5 => ?_)
      refine zO_iconst dX11_row_28 (by decide) ?_
      refine zO_istore_n dX11_row_29 (by decide) ?_
      refine zO_ls (ls' := [(0, zR 0), (1, zI x1_1), (2, zI 0), (3, zI 0)]) rfl ?_
      refine zO_live [0, 1, 2, 3] ?_
      exact sX11_row_30 hG x1_1 zfu 0 0 D_5
  exact hz r hr
theorem dX11_lost_0 : decode cX11_lost 0 = .ok (.aload_n 0, 1) := by decide +kernel
theorem dX11_lost_1 : decode cX11_lost 1 = .ok (.getfield 329, 3) := by decide +kernel
theorem dX11_lost_4 : decode cX11_lost 4 = .ok (.ireturn, 1) := by decide +kernel
abbrev YX11_lost : zY := (yX11_lost, cX11_lost, 1, (Option.some Jvm.ClassFile.FieldType.int), [])
def fX11_lost (F : zFs)  (D : zDa) : Option (Int × zDa) :=
  some ((D 0 6), D)
set_option maxHeartbeats 20000000 in
theorem mX11_lost {l : Launch} {E : zE} {d : Nat} {F : zFs} {n sl : Nat} (hG : zG F)  {D : zDa} : ∀ r, fX11_lost F   D = some r → zMet l E (d + 0) YX11_lost [zR 0] (F, D, n, sl) (zcI F n sl r) := by
  intro r hr
  refine zMet_of (plainFor_of_name (by decide)) (fun _ h => (nomatch h)) (Nat.le_of_ble_eq_true rfl) ?_
  have hz : zO l E (d + 0) YX11_lost 0 [(0, zR 0)] [] (F, D, n, sl) (zcI F n sl) (fX11_lost F   D) := by
    unfold fX11_lost
    refine zO_aload_n dX11_lost_0 rfl (zR_P _) ?_
    refine gt11 (k := 6) (v := zI (D 0 6)) dX11_lost_1 wF_X11_329 (by decide) (gk_0 hG) rfl ?_
    exact zO_ret (rv := some (zI (D 0 6))) dX11_lost_4 rfl rfl rfl
  exact hz r hr
theorem dX11_drawn_0 : decode cX11_drawn 0 = .ok (.aload_n 0, 1) := by decide +kernel
theorem dX11_drawn_1 : decode cX11_drawn 1 = .ok (.getfield 10, 3) := by decide +kernel
theorem dX11_drawn_4 : decode cX11_drawn 4 = .ok (.iload_n 1, 1) := by decide +kernel
theorem dX11_drawn_5 : decode cX11_drawn 5 = .ok (.invokevirtual 126, 3) := by decide +kernel
theorem dX11_drawn_8 : decode cX11_drawn 8 = .ok (.ifCond .ne 5, 3) := by decide +kernel
theorem dX11_drawn_11 : decode cX11_drawn 11 = .ok (.iconst (-1), 1) := by decide +kernel
theorem dX11_drawn_12 : decode cX11_drawn 12 = .ok (.ireturn, 1) := by decide +kernel
theorem dX11_drawn_13 : decode cX11_drawn 13 = .ok (.iload_n 2, 1) := by decide +kernel
theorem dX11_drawn_14 : decode cX11_drawn 14 = .ok (.ifCond .ne 12, 3) := by decide +kernel
theorem dX11_drawn_17 : decode cX11_drawn 17 = .ok (.aload_n 0, 1) := by decide +kernel
theorem dX11_drawn_18 : decode cX11_drawn 18 = .ok (.getfield 10, 3) := by decide +kernel
theorem dX11_drawn_21 : decode cX11_drawn 21 = .ok (.iload_n 1, 1) := by decide +kernel
theorem dX11_drawn_22 : decode cX11_drawn 22 = .ok (.invokevirtual 335, 3) := by decide +kernel
theorem dX11_drawn_25 : decode cX11_drawn 25 = .ok (.ireturn, 1) := by decide +kernel
theorem dX11_drawn_26 : decode cX11_drawn 26 = .ok (.iload_n 2, 1) := by decide +kernel
theorem dX11_drawn_27 : decode cX11_drawn 27 = .ok (.iconst 1, 1) := by decide +kernel
theorem dX11_drawn_28 : decode cX11_drawn 28 = .ok (.if_icmp .ne 14, 3) := by decide +kernel
theorem dX11_drawn_31 : decode cX11_drawn 31 = .ok (.aload_n 0, 1) := by decide +kernel
theorem dX11_drawn_32 : decode cX11_drawn 32 = .ok (.getfield 10, 3) := by decide +kernel
theorem dX11_drawn_35 : decode cX11_drawn 35 = .ok (.iload_n 1, 1) := by decide +kernel
theorem dX11_drawn_36 : decode cX11_drawn 36 = .ok (.invokevirtual 338, 3) := by decide +kernel
theorem dX11_drawn_39 : decode cX11_drawn 39 = .ok (.goto 4, 3) := by decide +kernel
theorem dX11_drawn_42 : decode cX11_drawn 42 = .ok (.iconst (-1), 1) := by decide +kernel
theorem dX11_drawn_43 : decode cX11_drawn 43 = .ok (.ireturn, 1) := by decide +kernel
abbrev YX11_drawn : zY := (yX11_drawn, cX11_drawn, 3, (Option.some Jvm.ClassFile.FieldType.int), [])
def fX11_drawn (F : zFs) (v1 : Int) (v2 : Int) (D : zDa) : Option (Int × zDa) :=
  (fX9_has F v1 D).bind (fun (r_1, D_2) =>
    if r_1 = 0 then
      some ((-1), D_2)
    else
      if v2 = 0 then
        (fX9_timesDrawn F v1 D_2).bind (fun (r_3, D_4) =>
          some (r_3, D_4))
      else
        if v2 = 1 then
          (fX9_yearsAgo F v1 D_2).bind (fun (r_5, D_6) =>
            some (r_5, D_6))
        else
          some ((-1), D_2))
set_option maxHeartbeats 20000000 in
theorem mX11_drawn {l : Launch} {E : zE} {d : Nat} {F : zFs} {n sl : Nat} (hG : zG F) (v1 : Int) (v2 : Int) {D : zDa} : ∀ r, fX11_drawn F  v1 v2 D = some r → zMet l E (d + 1) YX11_drawn [zR 0, zI v1, zI v2] (F, D, n, sl) (zcI F n sl r) := by
  intro r hr
  refine zMet_of (plainFor_of_name (by decide)) (fun _ h => (nomatch h)) (Nat.le_of_ble_eq_true rfl) ?_
  have hz : zO l E (d + 1) YX11_drawn 0 [(0, zR 0), (1, zI v1), (2, zI v2)] [] (F, D, n, sl) (zcI F n sl) (fX11_drawn F  v1 v2 D) := by
    unfold fX11_drawn
    refine zO_aload_n dX11_drawn_0 rfl (zR_P _) ?_
    refine gt11 (k := 0) dX11_drawn_1 wF_X11_10 (by decide) (gk_0 hG) (zgv (c := 11) (k := 0) rfl (Or.inr ⟨_, rfl⟩) (gf_0_0 hG)) ?_
    refine zO_iload_n dX11_drawn_4 rfl ?_
    refine zO_callV (Y' := YX9_has) (cw := zcI F n sl) (as := [zI v1]) (rest := []) (na := 1) (ci := 9) rfl dX11_drawn_5 wC_X9_has wN_X9 wM_X11_126 wI_X9_has wV_X9_has (by decide) (by decide) rfl rfl (Nat.le_of_ble_eq_true rfl) rfl (by decide) (gk_1 hG) (fun r hr => zMet_cast (Nat.add_assoc d 0 0) (mX9_has (d := d + 0) hG v1 r hr)) ?_
    rintro ⟨r_1, D_2⟩ -
    show zO _ _ _ _ _ _ [zI r_1] (F, D_2, n, sl) _ _
    refine zO_if_ne (tgt := 13) dX11_drawn_8 rfl (fun c8 => ?_) (fun c8 => ?_)
    · refine zO_iconst dX11_drawn_11 (by decide) ?_
      exact zO_ret (rv := some (zI (-1))) dX11_drawn_12 rfl rfl rfl
    · refine zO_iload_n dX11_drawn_13 rfl ?_
      refine zO_if_ne (tgt := 26) dX11_drawn_14 rfl (fun c14 => ?_) (fun c14 => ?_)
      · refine zO_aload_n dX11_drawn_17 rfl (zR_P _) ?_
        refine gt11 (k := 0) dX11_drawn_18 wF_X11_10 (by decide) (gk_0 hG) (zgv (c := 11) (k := 0) rfl (Or.inr ⟨_, rfl⟩) (gf_0_0 hG)) ?_
        refine zO_iload_n dX11_drawn_21 rfl ?_
        refine zO_callV (Y' := YX9_timesDrawn) (cw := zcI F n sl) (as := [zI v1]) (rest := []) (na := 1) (ci := 9) rfl dX11_drawn_22 wC_X9_timesDrawn wN_X9 wM_X11_335 wI_X9_timesDrawn wV_X9_timesDrawn (by decide) (by decide) rfl rfl (Nat.le_of_ble_eq_true rfl) rfl (by decide) (gk_1 hG) (fun r hr => zMet_cast (Nat.add_assoc d 0 0) (mX9_timesDrawn (d := d + 0) hG v1 r hr)) ?_
        rintro ⟨r_3, D_4⟩ -
        show zO _ _ _ _ _ _ [zI r_3] (F, D_4, n, sl) _ _
        exact zO_ret (rv := some (zI r_3)) dX11_drawn_25 rfl rfl rfl
      · refine zO_iload_n dX11_drawn_26 rfl ?_
        refine zO_iconst dX11_drawn_27 (by decide) ?_
        refine zO_icmp_ne (tgt := 42) dX11_drawn_28 rfl (fun c28 => ?_) (fun c28 => ?_)
        · refine zO_aload_n dX11_drawn_31 rfl (zR_P _) ?_
          refine gt11 (k := 0) dX11_drawn_32 wF_X11_10 (by decide) (gk_0 hG) (zgv (c := 11) (k := 0) rfl (Or.inr ⟨_, rfl⟩) (gf_0_0 hG)) ?_
          refine zO_iload_n dX11_drawn_35 rfl ?_
          refine zO_callV (Y' := YX9_yearsAgo) (cw := zcI F n sl) (as := [zI v1]) (rest := []) (na := 1) (ci := 9) rfl dX11_drawn_36 wC_X9_yearsAgo wN_X9 wM_X11_338 wI_X9_yearsAgo wV_X9_yearsAgo (by decide) (by decide) rfl rfl (Nat.le_of_ble_eq_true rfl) rfl (by decide) (gk_1 hG) (fun r hr => zMet_cast (Nat.add_assoc d 0 0) (mX9_yearsAgo (d := d + 0) hG v1 r hr)) ?_
          rintro ⟨r_5, D_6⟩ -
          show zO _ _ _ _ _ _ [zI r_5] (F, D_6, n, sl) _ _
          refine zO_goto (tgt := 43) dX11_drawn_39 rfl ?_
          exact zO_ret (rv := some (zI r_5)) dX11_drawn_43 rfl rfl rfl
        · refine zO_iconst dX11_drawn_42 (by decide) ?_
          exact zO_ret (rv := some (zI (-1))) dX11_drawn_43 rfl rfl rfl
  exact hz r hr
theorem dX11_seldom_0 : decode cX11_seldom 0 = .ok (.iload_n 1, 1) := by decide +kernel
theorem dX11_seldom_1 : decode cX11_seldom 1 = .ok (.iconst (-1), 1) := by decide +kernel
theorem dX11_seldom_2 : decode cX11_seldom 2 = .ok (.if_icmp .eq 14, 3) := by decide +kernel
theorem dX11_seldom_5 : decode cX11_seldom 5 = .ok (.aload_n 0, 1) := by decide +kernel
theorem dX11_seldom_6 : decode cX11_seldom 6 = .ok (.getfield 10, 3) := by decide +kernel
theorem dX11_seldom_9 : decode cX11_seldom 9 = .ok (.iload_n 1, 1) := by decide +kernel
theorem dX11_seldom_10 : decode cX11_seldom 10 = .ok (.invokevirtual 126, 3) := by decide +kernel
theorem dX11_seldom_13 : decode cX11_seldom 13 = .ok (.ifCond .eq 13, 3) := by decide +kernel
theorem dX11_seldom_16 : decode cX11_seldom 16 = .ok (.aload_n 0, 1) := by decide +kernel
theorem dX11_seldom_17 : decode cX11_seldom 17 = .ok (.getfield 10, 3) := by decide +kernel
theorem dX11_seldom_20 : decode cX11_seldom 20 = .ok (.getfield 116, 3) := by decide +kernel
theorem dX11_seldom_23 : decode cX11_seldom 23 = .ok (.ifCond .ne 5, 3) := by decide +kernel
theorem dX11_seldom_26 : decode cX11_seldom 26 = .ok (.iconst (-1), 1) := by decide +kernel
theorem dX11_seldom_27 : decode cX11_seldom 27 = .ok (.ireturn, 1) := by decide +kernel
theorem dX11_seldom_28 : decode cX11_seldom 28 = .ok (.iload_n 1, 1) := by decide +kernel
theorem dX11_seldom_29 : decode cX11_seldom 29 = .ok (.iconst (-1), 1) := by decide +kernel
theorem dX11_seldom_30 : decode cX11_seldom 30 = .ok (.if_icmp .eq 23, 3) := by decide +kernel
theorem dX11_seldom_33 : decode cX11_seldom 33 = .ok (.aload_n 0, 1) := by decide +kernel
theorem dX11_seldom_34 : decode cX11_seldom 34 = .ok (.getfield 101, 3) := by decide +kernel
theorem dX11_seldom_37 : decode cX11_seldom 37 = .ok (.aload_n 0, 1) := by decide +kernel
theorem dX11_seldom_38 : decode cX11_seldom 38 = .ok (.getfield 10, 3) := by decide +kernel
theorem dX11_seldom_41 : decode cX11_seldom 41 = .ok (.iload_n 1, 1) := by decide +kernel
theorem dX11_seldom_42 : decode cX11_seldom 42 = .ok (.invokevirtual 335, 3) := by decide +kernel
theorem dX11_seldom_45 : decode cX11_seldom 45 = .ok (.aload_n 0, 1) := by decide +kernel
theorem dX11_seldom_46 : decode cX11_seldom 46 = .ok (.getfield 10, 3) := by decide +kernel
theorem dX11_seldom_49 : decode cX11_seldom 49 = .ok (.invokevirtual 341, 3) := by decide +kernel
theorem dX11_seldom_52 : decode cX11_seldom 52 = .ok (.ireturn, 1) := by decide +kernel
theorem dX11_seldom_53 : decode cX11_seldom 53 = .ok (.bipush 40, 2) := by decide +kernel
theorem dX11_seldom_55 : decode cX11_seldom 55 = .ok (.istore_n 2, 1) := by decide +kernel
theorem dX11_seldom_56 : decode cX11_seldom 56 = .ok (.iconst 0, 1) := by decide +kernel
theorem dX11_seldom_57 : decode cX11_seldom 57 = .ok (.istore_n 3, 1) := by decide +kernel
theorem dX11_seldom_58 : decode cX11_seldom 58 = .ok (.iload_n 3, 1) := by decide +kernel
theorem dX11_seldom_59 : decode cX11_seldom 59 = .ok (.aload_n 0, 1) := by decide +kernel
theorem dX11_seldom_60 : decode cX11_seldom 60 = .ok (.getfield 10, 3) := by decide +kernel
theorem dX11_seldom_63 : decode cX11_seldom 63 = .ok (.getfield 116, 3) := by decide +kernel
theorem dX11_seldom_66 : decode cX11_seldom 66 = .ok (.if_icmp .ge 22, 3) := by decide +kernel
theorem dX11_seldom_69 : decode cX11_seldom 69 = .ok (.iload_n 2, 1) := by decide +kernel
theorem dX11_seldom_70 : decode cX11_seldom 70 = .ok (.aload_n 0, 1) := by decide +kernel
theorem dX11_seldom_71 : decode cX11_seldom 71 = .ok (.getfield 10, 3) := by decide +kernel
theorem dX11_seldom_74 : decode cX11_seldom 74 = .ok (.iload_n 3, 1) := by decide +kernel
theorem dX11_seldom_75 : decode cX11_seldom 75 = .ok (.invokevirtual 335, 3) := by decide +kernel
theorem dX11_seldom_78 : decode cX11_seldom 78 = .ok (.invokestatic 345, 3) := by decide +kernel
theorem dX11_seldom_81 : decode cX11_seldom 81 = .ok (.istore_n 2, 1) := by decide +kernel
theorem dX11_seldom_82 : decode cX11_seldom 82 = .ok (.iinc 3 1, 3) := by decide +kernel
theorem dX11_seldom_85 : decode cX11_seldom 85 = .ok (.goto (-27), 3) := by decide +kernel
theorem dX11_seldom_88 : decode cX11_seldom 88 = .ok (.ldc_w 350, 3) := by decide +kernel
theorem dX11_seldom_91 : decode cX11_seldom 91 = .ok (.aload_n 0, 1) := by decide +kernel
theorem dX11_seldom_92 : decode cX11_seldom 92 = .ok (.getfield 10, 3) := by decide +kernel
theorem dX11_seldom_95 : decode cX11_seldom 95 = .ok (.getfield 116, 3) := by decide +kernel
theorem dX11_seldom_98 : decode cX11_seldom 98 = .ok (.aload_n 0, 1) := by decide +kernel
theorem dX11_seldom_99 : decode cX11_seldom 99 = .ok (.getfield 101, 3) := by decide +kernel
theorem dX11_seldom_102 : decode cX11_seldom 102 = .ok (.iload_n 2, 1) := by decide +kernel
theorem dX11_seldom_103 : decode cX11_seldom 103 = .ok (.aload_n 0, 1) := by decide +kernel
theorem dX11_seldom_104 : decode cX11_seldom 104 = .ok (.getfield 10, 3) := by decide +kernel
theorem dX11_seldom_107 : decode cX11_seldom 107 = .ok (.invokevirtual 341, 3) := by decide +kernel
theorem dX11_seldom_110 : decode cX11_seldom 110 = .ok (.imul, 1) := by decide +kernel
theorem dX11_seldom_111 : decode cX11_seldom 111 = .ok (.invokestatic 345, 3) := by decide +kernel
theorem dX11_seldom_114 : decode cX11_seldom 114 = .ok (.ireturn, 1) := by decide +kernel
abbrev YX11_seldom : zY := (yX11_seldom, cX11_seldom, 4, (Option.some Jvm.ClassFile.FieldType.int), [])
def fX11_seldom_58 (F : zFs)   (k_58 : Int → Int → zDa → Option (Int × zDa)) (v2 : Int) (v3 : Int) (D : zDa) : Option (Int × zDa) :=
  if v3 < (D 1 5) then
    (fX9_timesDrawn F v3 D).bind (fun (r_1, D_2) =>
      (fJ9_min_7cf53 F v2 r_1 D_2).bind (fun (r_3, D_4) =>
        if (-2147483648 ≤ v3 + 1 ∧ v3 + 1 ≤ 2147483647) then
          k_58 r_3 (v3 + 1) D_4
        else none))
  else
    (fX5_noMoreThan F v2 D).bind (fun (r_5, D_6) =>
      if (-2147483648 ≤ (D 1 5) * r_5 ∧ (D 1 5) * r_5 ≤ 2147483647) then
        (fJ9_min_7cf53 F 1000000 ((D 1 5) * r_5) D_6).bind (fun (r_7, D_8) =>
          some (r_7, D_8))
      else none)
def fX11_seldom_16 (F : zFs)  (v1 : Int) (D : zDa) : Option (Int × zDa) :=
  if (D 1 5) = 0 then
    some ((-1), D)
  else
    if v1 = (-1) then
      zfix (fun _ _ _ => none) (fX11_seldom_58 F) zfu 40 0 D
    else
      (fX9_timesDrawn F v1 D).bind (fun (r_9, D_10) =>
        (fX5_noMoreThan F r_9 D_10).bind (fun (r_11, D_12) =>
          some (r_11, D_12)))
def fX11_seldom (F : zFs) (v1 : Int) (D : zDa) : Option (Int × zDa) :=
  if v1 = (-1) then
    fX11_seldom_16 F v1 D
  else
    (fX9_has F v1 D).bind (fun (r_13, D_14) =>
      if r_13 = 0 then
        some ((-1), D_14)
      else
        fX11_seldom_16 F v1 D_14)
set_option maxHeartbeats 20000000 in
theorem sX11_seldom_58 {l : Launch} {E : zE} {d : Nat} {F : zFs} {n sl : Nat} (hG : zG F)     : ∀ (N : Nat) (v2 : Int) (v3 : Int) (D : zDa), zO l E (d + 2) YX11_seldom 58 [(0, zR 0), (2, zI v2), (3, zI v3)] [] (F, D, n, sl) (zcI F n sl) (zfix (fun _ _ _ => none) (fX11_seldom_58 F) N v2 v3 D) := by
  intro N
  induction N with
  | zero => intro v2 v3 D; exact zO_none
  | succ N hk_58 =>
    intro v2 v3 D
    show zO _ _ _ _ _ _ _ _ _ ((fX11_seldom_58 F) (zfix (fun _ _ _ => none) (fX11_seldom_58 F) N) v2 v3 D)
    unfold fX11_seldom_58
    refine zO_iload_n dX11_seldom_58 rfl ?_
    refine zO_aload_n dX11_seldom_59 rfl (zR_P _) ?_
    refine gt11 (k := 0) dX11_seldom_60 wF_X11_10 (by decide) (gk_0 hG) (zgv (c := 11) (k := 0) rfl (Or.inr ⟨_, rfl⟩) (gf_0_0 hG)) ?_
    refine gt9 (k := 5) (v := zI (D 1 5)) dX11_seldom_63 wF_X11_116 (by decide) (gk_1 hG) rfl ?_
    refine zO_icmp_ge (tgt := 88) dX11_seldom_66 rfl (fun c66 => ?_) (fun c66 => ?_)
    · refine zO_iload_n dX11_seldom_69 rfl ?_
      refine zO_aload_n dX11_seldom_70 rfl (zR_P _) ?_
      refine gt11 (k := 0) dX11_seldom_71 wF_X11_10 (by decide) (gk_0 hG) (zgv (c := 11) (k := 0) rfl (Or.inr ⟨_, rfl⟩) (gf_0_0 hG)) ?_
      refine zO_iload_n dX11_seldom_74 rfl ?_
      refine zO_callV (Y' := YX9_timesDrawn) (cw := zcI F n sl) (as := [zI v3]) (rest := [zI v2]) (na := 1) (ci := 9) rfl dX11_seldom_75 wC_X9_timesDrawn wN_X9 wM_X11_335 wI_X9_timesDrawn wV_X9_timesDrawn (by decide) (by decide) rfl rfl (Nat.le_of_ble_eq_true rfl) rfl (by decide) (gk_1 hG) (fun r hr => zMet_cast (Nat.add_assoc d 1 0) (mX9_timesDrawn (d := d + 1) hG v3 r hr)) ?_
      rintro ⟨r_1, D_2⟩ -
      show zO _ _ _ _ _ _ [zI r_1, zI v2] (F, D_2, n, sl) _ _
      refine zO_callS (Y' := YJ9_min_7cf53) (cw := zcI F n sl) (as := [zI v2, zI r_1]) (rest := []) (na := 2) dX11_seldom_78 wC_J9_min_7cf53 wN_J9 wM_X11_345 wS_J9_min_7cf53 (by decide) (by decide) rfl rfl (Nat.le_of_ble_eq_true rfl) (fun r hr => zMet_cast (Nat.add_assoc d 1 0) (mJ9_min_7cf53 (d := d + 1) hG v2 r_1 r hr)) ?_
      rintro ⟨r_3, D_4⟩ -
      show zO _ _ _ _ _ _ [zI r_3] (F, D_4, n, sl) _ _
      refine zO_chk (fun h1 => ?_)
      refine zO_istore_n dX11_seldom_81 (by decide) ?_
      refine zO_ls (ls' := [(0, zR 0), (2, zI r_3), (3, zI v3)]) rfl ?_
      refine zO_iinc dX11_seldom_82 rfl h1 (by decide) ?_
      refine zO_ls (ls' := [(0, zR 0), (2, zI r_3), (3, zI (v3 + 1))]) rfl ?_
      refine zO_goto (tgt := 58) dX11_seldom_85 rfl ?_
      refine zO_live [0, 2, 3] ?_
      exact hk_58 r_3 (v3 + 1) D_4
    · refine zO_ldcw (n := 1000000) dX11_seldom_88 wK_X11_350 (by decide) ?_
      refine zO_aload_n dX11_seldom_91 rfl (zR_P _) ?_
      refine gt11 (k := 0) dX11_seldom_92 wF_X11_10 (by decide) (gk_0 hG) (zgv (c := 11) (k := 0) rfl (Or.inr ⟨_, rfl⟩) (gf_0_0 hG)) ?_
      refine gt9 (k := 5) (v := zI (D 1 5)) dX11_seldom_95 wF_X11_116 (by decide) (gk_1 hG) rfl ?_
      refine zO_aload_n dX11_seldom_98 rfl (zR_P _) ?_
      refine gt11 (k := 17) dX11_seldom_99 wF_X11_101 (by decide) (gk_0 hG) (zgv (c := 11) (k := 17) rfl (Or.inr ⟨_, rfl⟩) (gf_0_17 hG)) ?_
      refine zO_iload_n dX11_seldom_102 rfl ?_
      refine zO_aload_n dX11_seldom_103 rfl (zR_P _) ?_
      refine gt11 (k := 0) dX11_seldom_104 wF_X11_10 (by decide) (gk_0 hG) (zgv (c := 11) (k := 0) rfl (Or.inr ⟨_, rfl⟩) (gf_0_0 hG)) ?_
      refine zO_callV (Y' := YX5_noMoreThan) (cw := zcI F n sl) (as := [zI v2, zR 1]) (rest := [zI (D 1 5), zI 1000000]) (na := 2) (ci := 5) rfl dX11_seldom_107 wC_X5_noMoreThan wN_X5 wM_X11_341 wI_X5_noMoreThan wV_X5_noMoreThan (by decide) (by decide) rfl rfl (Nat.le_of_ble_eq_true rfl) rfl (by decide) (gk_86 hG) (fun r hr => zMet_cast (Nat.add_assoc d 0 1) (mX5_noMoreThan (d := d + 0) hG v2 r hr)) ?_
      rintro ⟨r_5, D_6⟩ -
      show zO _ _ _ _ _ _ [zI r_5, zI (D 1 5), zI 1000000] (F, D_6, n, sl) _ _
      refine zO_chk (fun h2 => ?_)
      refine zO_imul dX11_seldom_110 h2 ?_
      refine zO_callS (Y' := YJ9_min_7cf53) (cw := zcI F n sl) (as := [zI 1000000, zI ((D 1 5) * r_5)]) (rest := []) (na := 2) dX11_seldom_111 wC_J9_min_7cf53 wN_J9 wM_X11_345 wS_J9_min_7cf53 (by decide) (by decide) rfl rfl (Nat.le_of_ble_eq_true rfl) (fun r hr => zMet_cast (Nat.add_assoc d 1 0) (mJ9_min_7cf53 (d := d + 1) hG 1000000 ((D 1 5) * r_5) r hr)) ?_
      rintro ⟨r_7, D_8⟩ -
      show zO _ _ _ _ _ _ [zI r_7] (F, D_8, n, sl) _ _
      exact zO_ret (rv := some (zI r_7)) dX11_seldom_114 rfl rfl rfl
set_option maxHeartbeats 20000000 in
theorem sX11_seldom_16 {l : Launch} {E : zE} {d : Nat} {F : zFs} {n sl : Nat} (hG : zG F)  (v1 : Int)   (D : zDa) : zO l E (d + 2) YX11_seldom 16 [(0, zR 0), (1, zI v1)] [] (F, D, n, sl) (zcI F n sl) (fX11_seldom_16 F v1 D) := by
  unfold fX11_seldom_16
  refine zO_aload_n dX11_seldom_16 rfl (zR_P _) ?_
  refine gt11 (k := 0) dX11_seldom_17 wF_X11_10 (by decide) (gk_0 hG) (zgv (c := 11) (k := 0) rfl (Or.inr ⟨_, rfl⟩) (gf_0_0 hG)) ?_
  refine gt9 (k := 5) (v := zI (D 1 5)) dX11_seldom_20 wF_X11_116 (by decide) (gk_1 hG) rfl ?_
  refine zO_if_ne (tgt := 28) dX11_seldom_23 rfl (fun c23 => ?_) (fun c23 => ?_)
  · refine zO_iconst dX11_seldom_26 (by decide) ?_
    exact zO_ret (rv := some (zI (-1))) dX11_seldom_27 rfl rfl rfl
  · refine zO_iload_n dX11_seldom_28 rfl ?_
    refine zO_iconst dX11_seldom_29 (by decide) ?_
    refine zO_icmp_eq (tgt := 53) dX11_seldom_30 rfl (fun c30 => ?_) (fun c30 => ?_)
    · refine zO_bipush dX11_seldom_53 (by decide) ?_
      refine zO_istore_n dX11_seldom_55 (by decide) ?_
      refine zO_ls (ls' := [(0, zR 0), (1, zI v1), (2, zI 40)]) rfl ?_
      refine zO_iconst dX11_seldom_56 (by decide) ?_
      refine zO_istore_n dX11_seldom_57 (by decide) ?_
      refine zO_ls (ls' := [(0, zR 0), (1, zI v1), (2, zI 40), (3, zI 0)]) rfl ?_
      refine zO_live [0, 2, 3] ?_
      exact sX11_seldom_58 hG zfu 40 0 D
    · refine zO_aload_n dX11_seldom_33 rfl (zR_P _) ?_
      refine gt11 (k := 17) dX11_seldom_34 wF_X11_101 (by decide) (gk_0 hG) (zgv (c := 11) (k := 17) rfl (Or.inr ⟨_, rfl⟩) (gf_0_17 hG)) ?_
      refine zO_aload_n dX11_seldom_37 rfl (zR_P _) ?_
      refine gt11 (k := 0) dX11_seldom_38 wF_X11_10 (by decide) (gk_0 hG) (zgv (c := 11) (k := 0) rfl (Or.inr ⟨_, rfl⟩) (gf_0_0 hG)) ?_
      refine zO_iload_n dX11_seldom_41 rfl ?_
      refine zO_callV (Y' := YX9_timesDrawn) (cw := zcI F n sl) (as := [zI v1]) (rest := [zR 86]) (na := 1) (ci := 9) rfl dX11_seldom_42 wC_X9_timesDrawn wN_X9 wM_X11_335 wI_X9_timesDrawn wV_X9_timesDrawn (by decide) (by decide) rfl rfl (Nat.le_of_ble_eq_true rfl) rfl (by decide) (gk_1 hG) (fun r hr => zMet_cast (Nat.add_assoc d 1 0) (mX9_timesDrawn (d := d + 1) hG v1 r hr)) ?_
      rintro ⟨r_9, D_10⟩ -
      show zO _ _ _ _ _ _ [zI r_9, zR 86] (F, D_10, n, sl) _ _
      refine zO_aload_n dX11_seldom_45 rfl (zR_P _) ?_
      refine gt11 (k := 0) dX11_seldom_46 wF_X11_10 (by decide) (gk_0 hG) (zgv (c := 11) (k := 0) rfl (Or.inr ⟨_, rfl⟩) (gf_0_0 hG)) ?_
      refine zO_callV (Y' := YX5_noMoreThan) (cw := zcI F n sl) (as := [zI r_9, zR 1]) (rest := []) (na := 2) (ci := 5) rfl dX11_seldom_49 wC_X5_noMoreThan wN_X5 wM_X11_341 wI_X5_noMoreThan wV_X5_noMoreThan (by decide) (by decide) rfl rfl (Nat.le_of_ble_eq_true rfl) rfl (by decide) (gk_86 hG) (fun r hr => zMet_cast (Nat.add_assoc d 0 1) (mX5_noMoreThan (d := d + 0) hG r_9 r hr)) ?_
      rintro ⟨r_11, D_12⟩ -
      show zO _ _ _ _ _ _ [zI r_11] (F, D_12, n, sl) _ _
      exact zO_ret (rv := some (zI r_11)) dX11_seldom_52 rfl rfl rfl
set_option maxHeartbeats 20000000 in
theorem mX11_seldom {l : Launch} {E : zE} {d : Nat} {F : zFs} {n sl : Nat} (hG : zG F) (v1 : Int) {D : zDa} : ∀ r, fX11_seldom F  v1 D = some r → zMet l E (d + 2) YX11_seldom [zR 0, zI v1] (F, D, n, sl) (zcI F n sl r) := by
  intro r hr
  refine zMet_of (plainFor_of_name (by decide)) (fun _ h => (nomatch h)) (Nat.le_of_ble_eq_true rfl) ?_
  have hz : zO l E (d + 2) YX11_seldom 0 [(0, zR 0), (1, zI v1)] [] (F, D, n, sl) (zcI F n sl) (fX11_seldom F  v1 D) := by
    unfold fX11_seldom
    refine zO_iload_n dX11_seldom_0 rfl ?_
    refine zO_iconst dX11_seldom_1 (by decide) ?_
    refine zO_icmp_eq (tgt := 16) dX11_seldom_2 rfl (fun c2 => ?_) (fun c2 => ?_)
    · refine zO_live [0, 1] ?_
      exact sX11_seldom_16 hG v1 D
    · refine zO_aload_n dX11_seldom_5 rfl (zR_P _) ?_
      refine gt11 (k := 0) dX11_seldom_6 wF_X11_10 (by decide) (gk_0 hG) (zgv (c := 11) (k := 0) rfl (Or.inr ⟨_, rfl⟩) (gf_0_0 hG)) ?_
      refine zO_iload_n dX11_seldom_9 rfl ?_
      refine zO_callV (Y' := YX9_has) (cw := zcI F n sl) (as := [zI v1]) (rest := []) (na := 1) (ci := 9) rfl dX11_seldom_10 wC_X9_has wN_X9 wM_X11_126 wI_X9_has wV_X9_has (by decide) (by decide) rfl rfl (Nat.le_of_ble_eq_true rfl) rfl (by decide) (gk_1 hG) (fun r hr => zMet_cast (Nat.add_assoc d 1 0) (mX9_has (d := d + 1) hG v1 r hr)) ?_
      rintro ⟨r_13, D_14⟩ -
      show zO _ _ _ _ _ _ [zI r_13] (F, D_14, n, sl) _ _
      refine zO_if_eq (tgt := 26) dX11_seldom_13 rfl (fun c13 => ?_) (fun c13 => ?_)
      · refine zO_iconst dX11_seldom_26 (by decide) ?_
        exact zO_ret (rv := some (zI (-1))) dX11_seldom_27 rfl rfl rfl
      · refine zO_live [0, 1] ?_
        exact sX11_seldom_16 hG v1 D_14
  exact hz r hr
theorem dX11_exam_0 : decode cX11_exam 0 = .ok (.iload_n 1, 1) := by decide +kernel
theorem dX11_exam_1 : decode cX11_exam 1 = .ok (.ifCond .lt 10, 3) := by decide +kernel
theorem dX11_exam_4 : decode cX11_exam 4 = .ok (.iload_n 1, 1) := by decide +kernel
theorem dX11_exam_5 : decode cX11_exam 5 = .ok (.ldc_w 350, 3) := by decide +kernel
theorem dX11_exam_8 : decode cX11_exam 8 = .ok (.if_icmp .le 9, 3) := by decide +kernel
theorem dX11_exam_11 : decode cX11_exam 11 = .ok (.aload_n 0, 1) := by decide +kernel
theorem dX11_exam_12 : decode cX11_exam 12 = .ok (.iconst (-1), 1) := by decide +kernel
theorem dX11_exam_13 : decode cX11_exam 13 = .ok (.invokevirtual 112, 3) := by decide +kernel
theorem dX11_exam_16 : decode cX11_exam 16 = .ok (.ireturn, 1) := by decide +kernel
theorem dX11_exam_17 : decode cX11_exam 17 = .ok (.aload_n 0, 1) := by decide +kernel
theorem dX11_exam_18 : decode cX11_exam 18 = .ok (.getfield 108, 3) := by decide +kernel
theorem dX11_exam_21 : decode cX11_exam 21 = .ok (.iload_n 1, 1) := by decide +kernel
theorem dX11_exam_22 : decode cX11_exam 22 = .ok (.invokevirtual 351, 3) := by decide +kernel
theorem dX11_exam_25 : decode cX11_exam 25 = .ok (.aload_n 0, 1) := by decide +kernel
theorem dX11_exam_26 : decode cX11_exam 26 = .ok (.getfield 108, 3) := by decide +kernel
theorem dX11_exam_29 : decode cX11_exam 29 = .ok (.invokevirtual 354, 3) := by decide +kernel
theorem dX11_exam_32 : decode cX11_exam 32 = .ok (.aload_n 0, 1) := by decide +kernel
theorem dX11_exam_33 : decode cX11_exam 33 = .ok (.getfield 32, 3) := by decide +kernel
theorem dX11_exam_36 : decode cX11_exam 36 = .ok (.iconst 0, 1) := by decide +kernel
theorem dX11_exam_37 : decode cX11_exam 37 = .ok (.aload_n 0, 1) := by decide +kernel
theorem dX11_exam_38 : decode cX11_exam 38 = .ok (.getfield 108, 3) := by decide +kernel
theorem dX11_exam_41 : decode cX11_exam 41 = .ok (.getfield 357, 3) := by decide +kernel
theorem dX11_exam_44 : decode cX11_exam 44 = .ok (.iastore, 1) := by decide +kernel
theorem dX11_exam_45 : decode cX11_exam 45 = .ok (.aload_n 0, 1) := by decide +kernel
theorem dX11_exam_46 : decode cX11_exam 46 = .ok (.getfield 32, 3) := by decide +kernel
theorem dX11_exam_49 : decode cX11_exam 49 = .ok (.iconst 1, 1) := by decide +kernel
theorem dX11_exam_50 : decode cX11_exam 50 = .ok (.aload_n 0, 1) := by decide +kernel
theorem dX11_exam_51 : decode cX11_exam 51 = .ok (.getfield 108, 3) := by decide +kernel
theorem dX11_exam_54 : decode cX11_exam 54 = .ok (.getfield 360, 3) := by decide +kernel
theorem dX11_exam_57 : decode cX11_exam 57 = .ok (.iastore, 1) := by decide +kernel
theorem dX11_exam_58 : decode cX11_exam 58 = .ok (.aload_n 0, 1) := by decide +kernel
theorem dX11_exam_59 : decode cX11_exam 59 = .ok (.getfield 32, 3) := by decide +kernel
theorem dX11_exam_62 : decode cX11_exam 62 = .ok (.iconst 2, 1) := by decide +kernel
theorem dX11_exam_63 : decode cX11_exam 63 = .ok (.aload_n 0, 1) := by decide +kernel
theorem dX11_exam_64 : decode cX11_exam 64 = .ok (.getfield 108, 3) := by decide +kernel
theorem dX11_exam_67 : decode cX11_exam 67 = .ok (.getfield 363, 3) := by decide +kernel
theorem dX11_exam_70 : decode cX11_exam 70 = .ok (.iastore, 1) := by decide +kernel
theorem dX11_exam_71 : decode cX11_exam 71 = .ok (.aload_n 0, 1) := by decide +kernel
theorem dX11_exam_72 : decode cX11_exam 72 = .ok (.aload_n 0, 1) := by decide +kernel
theorem dX11_exam_73 : decode cX11_exam 73 = .ok (.getfield 108, 3) := by decide +kernel
theorem dX11_exam_76 : decode cX11_exam 76 = .ok (.getfield 363, 3) := by decide +kernel
theorem dX11_exam_79 : decode cX11_exam 79 = .ok (.invokestatic 366, 3) := by decide +kernel
theorem dX11_exam_82 : decode cX11_exam 82 = .ok (.invokevirtual 123, 3) := by decide +kernel
theorem dX11_exam_85 : decode cX11_exam 85 = .ok (.ireturn, 1) := by decide +kernel
abbrev YX11_exam : zY := (yX11_exam, cX11_exam, 2, (Option.some Jvm.ClassFile.FieldType.int), [])
def fX11_exam_11 (F : zFs)   (D : zDa) : Option (Int × zDa) :=
  (fX11_refuse F (-1) D).bind (fun (r_1, D_2) =>
    some (r_1, D_2))
def fX11_exam (F : zFs) (v1 : Int) (D : zDa) : Option (Int × zDa) :=
  if v1 < 0 then
    fX11_exam_11 F D
  else
    if 1000000 < v1 then
      fX11_exam_11 F D
    else
      (fX8_begin F v1 D).bind (fun D_4 =>
        (fX8_sit F D_4).bind (fun D_6 =>
          zlet (zwr D_6 40 0 (D_6 89 6)) (fun D_7 =>
            zlet (zwr D_7 40 1 (D_7 89 7)) (fun D_8 =>
              zlet (zwr D_8 40 2 (D_8 89 8)) (fun D_9 =>
                (fJ6_bitCount_0f7a4 F (D_9 89 8) D_9).bind (fun (r_10, D_11) =>
                  (fX11_accept F r_10 D_11).bind (fun (r_12, D_13) =>
                    some (r_12, D_13))))))))
set_option maxHeartbeats 20000000 in
theorem sX11_exam_11 {l : Launch} {E : zE} {d : Nat} {F : zFs} {n sl : Nat} (hG : zG F)     (D : zDa) : zO l E (d + 5) YX11_exam 11 [(0, zR 0)] [] (F, D, n, sl) (zcI F n sl) (fX11_exam_11 F D) := by
  unfold fX11_exam_11
  refine zO_aload_n dX11_exam_11 rfl (zR_P _) ?_
  refine zO_iconst dX11_exam_12 (by decide) ?_
  refine zO_callV (Y' := YX11_refuse) (cw := zcI F n sl) (as := [zI (-1)]) (rest := []) (na := 1) (ci := 11) rfl dX11_exam_13 wC_X11_refuse wN_X11 wM_X11_112 wI_X11_refuse wV_X11_refuse (by decide) (by decide) rfl rfl (Nat.le_of_ble_eq_true rfl) rfl (by decide) (gk_0 hG) (fun r hr => zMet_cast (Nat.add_assoc d 4 0) (mX11_refuse (d := d + 4) hG (-1) r hr)) ?_
  rintro ⟨r_1, D_2⟩ -
  show zO _ _ _ _ _ _ [zI r_1] (F, D_2, n, sl) _ _
  exact zO_ret (rv := some (zI r_1)) dX11_exam_16 rfl rfl rfl
set_option maxHeartbeats 20000000 in
theorem mX11_exam {l : Launch} {E : zE} {d : Nat} {F : zFs} {n sl : Nat} (hG : zG F) (v1 : Int) {D : zDa} : ∀ r, fX11_exam F  v1 D = some r → zMet l E (d + 5) YX11_exam [zR 0, zI v1] (F, D, n, sl) (zcI F n sl r) := by
  intro r hr
  refine zMet_of (plainFor_of_name (by decide)) (fun _ h => (nomatch h)) (Nat.le_of_ble_eq_true rfl) ?_
  have hz : zO l E (d + 5) YX11_exam 0 [(0, zR 0), (1, zI v1)] [] (F, D, n, sl) (zcI F n sl) (fX11_exam F  v1 D) := by
    unfold fX11_exam
    refine zO_iload_n dX11_exam_0 rfl ?_
    refine zO_if_lt (tgt := 11) dX11_exam_1 rfl (fun c1 => ?_) (fun c1 => ?_)
    · refine zO_live [0] ?_
      exact sX11_exam_11 hG D
    · refine zO_iload_n dX11_exam_4 rfl ?_
      refine zO_ldcw (n := 1000000) dX11_exam_5 wK_X11_350 (by decide) ?_
      refine zO_icmp_le (tgt := 17) dX11_exam_8 rfl (fun c8 => ?_) (fun c8 => ?_)
      · refine zO_live [0] ?_
        exact sX11_exam_11 hG D
      · refine zO_aload_n dX11_exam_17 rfl (zR_P _) ?_
        refine gt11 (k := 18) dX11_exam_18 wF_X11_108 (by decide) (gk_0 hG) (zgv (c := 11) (k := 18) rfl (Or.inr ⟨_, rfl⟩) (gf_0_18 hG)) ?_
        refine zO_iload_n dX11_exam_21 rfl ?_
        refine zO_callV (Y' := YX8_begin) (cw := zcV F n sl) (as := [zI v1]) (rest := []) (na := 1) (ci := 8) rfl dX11_exam_22 wC_X8_begin wN_X8 wM_X11_351 wI_X8_begin wV_X8_begin (by decide) (by decide) rfl rfl (Nat.le_of_ble_eq_true rfl) rfl (by decide) (gk_89 hG) (fun r hr => zMet_cast (Nat.add_assoc d 0 4) (mX8_begin (d := d + 0) hG v1 r hr)) ?_
        intro D_4 _
        show zO _ _ _ _ _ _ [] (F, D_4, n, sl) _ _
        refine zO_aload_n dX11_exam_25 rfl (zR_P _) ?_
        refine gt11 (k := 18) dX11_exam_26 wF_X11_108 (by decide) (gk_0 hG) (zgv (c := 11) (k := 18) rfl (Or.inr ⟨_, rfl⟩) (gf_0_18 hG)) ?_
        refine zO_callV (Y' := YX8_sit) (cw := zcV F n sl) (as := []) (rest := []) (na := 0) (ci := 8) rfl dX11_exam_29 wC_X8_sit wN_X8 wM_X11_354 wI_X8_sit wV_X8_sit (by decide) (by decide) rfl rfl (Nat.le_of_ble_eq_true rfl) rfl (by decide) (gk_89 hG) (fun r hr => zMet_cast (Nat.add_assoc d 1 3) (mX8_sit (d := d + 1) hG  r hr)) ?_
        intro D_6 _
        show zO _ _ _ _ _ _ [] (F, D_6, n, sl) _ _
        refine zO_aload_n dX11_exam_32 rfl (zR_P _) ?_
        refine gt11 (k := 7) dX11_exam_33 wF_X11_32 (by decide) (gk_0 hG) (zgv (c := 11) (k := 7) rfl (Or.inl ⟨_, rfl⟩) (gf_0_7 hG)) ?_
        refine zO_iconst dX11_exam_36 (by decide) ?_
        refine zO_aload_n dX11_exam_37 rfl (zR_P _) ?_
        refine gt11 (k := 18) dX11_exam_38 wF_X11_108 (by decide) (gk_0 hG) (zgv (c := 11) (k := 18) rfl (Or.inr ⟨_, rfl⟩) (gf_0_18 hG)) ?_
        refine gt8 (k := 6) (v := zI (D_6 89 6)) dX11_exam_41 wF_X11_357 (by decide) (gk_89 hG) rfl ?_
        refine zO_iast dX11_exam_44 (gk_40 hG) (gl_in (gl_40 hG) (by decide)) ?_
        refine zO_letD (fun D_7 eD_7 => ?_)
        refine zO_aload_n dX11_exam_45 rfl (zR_P _) ?_
        refine gt11 (k := 7) dX11_exam_46 wF_X11_32 (by decide) (gk_0 hG) (zgv (c := 11) (k := 7) rfl (Or.inl ⟨_, rfl⟩) (gf_0_7 hG)) ?_
        refine zO_iconst dX11_exam_49 (by decide) ?_
        refine zO_aload_n dX11_exam_50 rfl (zR_P _) ?_
        refine gt11 (k := 18) dX11_exam_51 wF_X11_108 (by decide) (gk_0 hG) (zgv (c := 11) (k := 18) rfl (Or.inr ⟨_, rfl⟩) (gf_0_18 hG)) ?_
        refine gt8 (k := 7) (v := zI (D_7 89 7)) dX11_exam_54 wF_X11_360 (by decide) (gk_89 hG) rfl ?_
        refine zO_iast dX11_exam_57 (gk_40 hG) (gl_in (gl_40 hG) (by decide)) ?_
        refine zO_letD (fun D_8 eD_8 => ?_)
        refine zO_aload_n dX11_exam_58 rfl (zR_P _) ?_
        refine gt11 (k := 7) dX11_exam_59 wF_X11_32 (by decide) (gk_0 hG) (zgv (c := 11) (k := 7) rfl (Or.inl ⟨_, rfl⟩) (gf_0_7 hG)) ?_
        refine zO_iconst dX11_exam_62 (by decide) ?_
        refine zO_aload_n dX11_exam_63 rfl (zR_P _) ?_
        refine gt11 (k := 18) dX11_exam_64 wF_X11_108 (by decide) (gk_0 hG) (zgv (c := 11) (k := 18) rfl (Or.inr ⟨_, rfl⟩) (gf_0_18 hG)) ?_
        refine gt8 (k := 8) (v := zI (D_8 89 8)) dX11_exam_67 wF_X11_363 (by decide) (gk_89 hG) rfl ?_
        refine zO_iast dX11_exam_70 (gk_40 hG) (gl_in (gl_40 hG) (by decide)) ?_
        refine zO_letD (fun D_9 eD_9 => ?_)
        refine zO_aload_n dX11_exam_71 rfl (zR_P _) ?_
        refine zO_aload_n dX11_exam_72 rfl (zR_P _) ?_
        refine gt11 (k := 18) dX11_exam_73 wF_X11_108 (by decide) (gk_0 hG) (zgv (c := 11) (k := 18) rfl (Or.inr ⟨_, rfl⟩) (gf_0_18 hG)) ?_
        refine gt8 (k := 8) (v := zI (D_9 89 8)) dX11_exam_76 wF_X11_363 (by decide) (gk_89 hG) rfl ?_
        refine zO_callS (Y' := YJ6_bitCount_0f7a4) (cw := zcI F n sl) (as := [zI (D_9 89 8)]) (rest := [zR 0]) (na := 1) dX11_exam_79 wC_J6_bitCount_0f7a4 wN_J6 wM_X11_366 wS_J6_bitCount_0f7a4 (by decide) (by decide) rfl rfl (Nat.le_of_ble_eq_true rfl) (fun r hr => zMet_cast (Nat.add_assoc d 4 0) (mJ6_bitCount_0f7a4 (d := d + 4) hG (D_9 89 8) r hr)) ?_
        rintro ⟨r_10, D_11⟩ -
        show zO _ _ _ _ _ _ [zI r_10, zR 0] (F, D_11, n, sl) _ _
        refine zO_callV (Y' := YX11_accept) (cw := zcI F n sl) (as := [zI r_10]) (rest := []) (na := 1) (ci := 11) rfl dX11_exam_82 wC_X11_accept wN_X11 wM_X11_123 wI_X11_accept wV_X11_accept (by decide) (by decide) rfl rfl (Nat.le_of_ble_eq_true rfl) rfl (by decide) (gk_0 hG) (fun r hr => zMet_cast (Nat.add_assoc d 4 0) (mX11_accept (d := d + 4) hG r_10 r hr)) ?_
        rintro ⟨r_12, D_13⟩ -
        show zO _ _ _ _ _ _ [zI r_12] (F, D_13, n, sl) _ _
        exact zO_ret (rv := some (zI r_12)) dX11_exam_85 rfl rfl rfl
  exact hz r hr
theorem dX11_table_0 : decode cX11_table 0 = .ok (.iload_n 1, 1) := by decide +kernel
theorem dX11_table_1 : decode cX11_table 1 = .ok (.ifCond .lt 12, 3) := by decide +kernel
theorem dX11_table_4 : decode cX11_table 4 = .ok (.iload_n 1, 1) := by decide +kernel
theorem dX11_table_5 : decode cX11_table 5 = .ok (.aload_n 0, 1) := by decide +kernel
theorem dX11_table_6 : decode cX11_table 6 = .ok (.getfield 32, 3) := by decide +kernel
theorem dX11_table_9 : decode cX11_table 9 = .ok (.arraylength, 1) := by decide +kernel
theorem dX11_table_10 : decode cX11_table 10 = .ok (.if_icmp .lt 7, 3) := by decide +kernel
theorem dX11_table_13 : decode cX11_table 13 = .ok (.iconst (-1), 1) := by decide +kernel
theorem dX11_table_14 : decode cX11_table 14 = .ok (.goto 9, 3) := by decide +kernel
theorem dX11_table_17 : decode cX11_table 17 = .ok (.aload_n 0, 1) := by decide +kernel
theorem dX11_table_18 : decode cX11_table 18 = .ok (.getfield 32, 3) := by decide +kernel
theorem dX11_table_21 : decode cX11_table 21 = .ok (.iload_n 1, 1) := by decide +kernel
theorem dX11_table_22 : decode cX11_table 22 = .ok (.iaload, 1) := by decide +kernel
theorem dX11_table_23 : decode cX11_table 23 = .ok (.ireturn, 1) := by decide +kernel
abbrev YX11_table : zY := (yX11_table, cX11_table, 2, (Option.some Jvm.ClassFile.FieldType.int), [])
def fX11_table (F : zFs) (v1 : Int) (D : zDa) : Option (Int × zDa) :=
  if v1 < 0 then
    some ((-1), D)
  else
    if v1 < 3 then
      if (0 ≤ v1 ∧ v1 < 3) then
        some ((D 40 v1.toNat), D)
      else none
    else
      some ((-1), D)
set_option maxHeartbeats 20000000 in
theorem mX11_table {l : Launch} {E : zE} {d : Nat} {F : zFs} {n sl : Nat} (hG : zG F) (v1 : Int) {D : zDa} : ∀ r, fX11_table F  v1 D = some r → zMet l E (d + 0) YX11_table [zR 0, zI v1] (F, D, n, sl) (zcI F n sl r) := by
  intro r hr
  refine zMet_of (plainFor_of_name (by decide)) (fun _ h => (nomatch h)) (Nat.le_of_ble_eq_true rfl) ?_
  have hz : zO l E (d + 0) YX11_table 0 [(0, zR 0), (1, zI v1)] [] (F, D, n, sl) (zcI F n sl) (fX11_table F  v1 D) := by
    unfold fX11_table
    refine zO_iload_n dX11_table_0 rfl ?_
    refine zO_if_lt (tgt := 13) dX11_table_1 rfl (fun c1 => ?_) (fun c1 => ?_)
    · refine zO_iconst dX11_table_13 (by decide) ?_
      refine zO_goto (tgt := 23) dX11_table_14 rfl ?_
      exact zO_ret (rv := some (zI (-1))) dX11_table_23 rfl rfl rfl
    · refine zO_iload_n dX11_table_4 rfl ?_
      refine zO_aload_n dX11_table_5 rfl (zR_P _) ?_
      refine gt11 (k := 7) dX11_table_6 wF_X11_32 (by decide) (gk_0 hG) (zgv (c := 11) (k := 7) rfl (Or.inl ⟨_, rfl⟩) (gf_0_7 hG)) ?_
      refine zO_alen (kd := 20) dX11_table_9 (gk_40 hG) (by decide) ?_
      refine zO_st (st' := [zI 3, zI v1]) (by rw [gl_40 hG]; rfl) ?_
      refine zO_icmp_lt (tgt := 17) dX11_table_10 rfl (fun c10 => ?_) (fun c10 => ?_)
      · refine zO_chk (fun h1 => ?_)
        refine zO_aload_n dX11_table_17 rfl (zR_P _) ?_
        refine gt11 (k := 7) dX11_table_18 wF_X11_32 (by decide) (gk_0 hG) (zgv (c := 11) (k := 7) rfl (Or.inl ⟨_, rfl⟩) (gf_0_7 hG)) ?_
        refine zO_iload_n dX11_table_21 rfl ?_
        refine zO_iald dX11_table_22 (gk_40 hG) (gl_in (gl_40 hG) h1) ?_
        exact zO_ret (rv := some (zI (D 40 v1.toNat))) dX11_table_23 rfl rfl rfl
      · refine zO_iconst dX11_table_13 (by decide) ?_
        refine zO_goto (tgt := 23) dX11_table_14 rfl ?_
        exact zO_ret (rv := some (zI (-1))) dX11_table_23 rfl rfl rfl
  exact hz r hr
