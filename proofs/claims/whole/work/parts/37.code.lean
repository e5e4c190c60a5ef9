/-! printed by wip/gen/emit_all.py: X12_judge X12_learn X12_laysLesson X12_laysBackward X12_backward X12_friend group6 X12_share X12_ill X12_year -/
theorem dX12_judge_0 : decode cX12_judge 0 = .ok (.iload_n 1, 1) := by decide +kernel
theorem dX12_judge_1 : decode cX12_judge 1 = .ok (.iconst 0, 1) := by decide +kernel
theorem dX12_judge_2 : decode cX12_judge 2 = .ok (.iconst 2, 1) := by decide +kernel
theorem dX12_judge_3 : decode cX12_judge 3 = .ok (.invokestatic 135, 3) := by decide +kernel
theorem dX12_judge_6 : decode cX12_judge 6 = .ok (.ifCond .ne 5, 3) := by decide +kernel
theorem dX12_judge_9 : decode cX12_judge 9 = .ok (.iconst (-1), 1) := by decide +kernel
theorem dX12_judge_10 : decode cX12_judge 10 = .ok (.ireturn, 1) := by decide +kernel
theorem dX12_judge_11 : decode cX12_judge 11 = .ok (.aload_n 0, 1) := by decide +kernel
theorem dX12_judge_12 : decode cX12_judge 12 = .ok (.invokevirtual 431, 3) := by decide +kernel
theorem dX12_judge_15 : decode cX12_judge 15 = .ok (.iload_n 1, 1) := by decide +kernel
theorem dX12_judge_16 : decode cX12_judge 16 = .ok (.ifCond .ne 10, 3) := by decide +kernel
theorem dX12_judge_19 : decode cX12_judge 19 = .ok (.aload_n 0, 1) := by decide +kernel
theorem dX12_judge_20 : decode cX12_judge 20 = .ok (.getfield 416, 3) := by decide +kernel
theorem dX12_judge_23 : decode cX12_judge 23 = .ok (.goto 19, 3) := by decide +kernel
theorem dX12_judge_26 : decode cX12_judge 26 = .ok (.iload_n 1, 1) := by decide +kernel
theorem dX12_judge_27 : decode cX12_judge 27 = .ok (.iconst 1, 1) := by decide +kernel
theorem dX12_judge_28 : decode cX12_judge 28 = .ok (.if_icmp .ne 10, 3) := by decide +kernel
theorem dX12_judge_31 : decode cX12_judge 31 = .ok (.aload_n 0, 1) := by decide +kernel
theorem dX12_judge_32 : decode cX12_judge 32 = .ok (.getfield 419, 3) := by decide +kernel
theorem dX12_judge_35 : decode cX12_judge 35 = .ok (.goto 7, 3) := by decide +kernel
theorem dX12_judge_38 : decode cX12_judge 38 = .ok (.aload_n 0, 1) := by decide +kernel
theorem dX12_judge_39 : decode cX12_judge 39 = .ok (.getfield 422, 3) := by decide +kernel
theorem dX12_judge_42 : decode cX12_judge 42 = .ok (.ireturn, 1) := by decide +kernel
abbrev YX12_judge : zY := (yX12_judge, cX12_judge, 2, (Option.some Jvm.ClassFile.FieldType.int), [])
def fX12_judge (F : zFs) (v1 : Int) (D : zDa) : Option (Int × zDa) :=
  (fX12_lies F v1 0 2 D).bind (fun (r_1, D_2) =>
    if r_1 = 0 then
      some ((-1), D_2)
    else
      (fX12_lives F D_2).bind (fun D_4 =>
        if v1 = 0 then
          some ((D_4 91 43), D_4)
        else
          if v1 = 1 then
            some ((D_4 91 44), D_4)
          else
            some ((D_4 91 45), D_4)))
set_option maxHeartbeats 20000000 in
theorem mX12_judge {l : Launch} {E : zE} {d : Nat} {F : zFs} {n sl : Nat} (hG : zG F) (v1 : Int) {D : zDa} : ∀ r, fX12_judge F  v1 D = some r → zMet l E (d + 90) YX12_judge [zR 91, zI v1] (F, D, n, sl) (zcI F n sl r) := by
  intro r hr
  refine zMet_of (plainFor_of_name (by decide)) (fun _ h => (nomatch h)) (Nat.le_of_ble_eq_true rfl) ?_
  have hz : zO l E (d + 90) YX12_judge 0 [(0, zR 91), (1, zI v1)] [] (F, D, n, sl) (zcI F n sl) (fX12_judge F  v1 D) := by
    unfold fX12_judge
    refine zO_iload_n dX12_judge_0 rfl ?_
    refine zO_iconst dX12_judge_1 (by decide) ?_
    refine zO_iconst dX12_judge_2 (by decide) ?_
    refine zO_callS (Y' := YX12_lies) (cw := zcI F n sl) (as := [zI v1, zI 0, zI 2]) (rest := []) (na := 3) dX12_judge_3 wC_X12_lies wN_X12 wM_X12_135 wS_X12_lies (by decide) (by decide) rfl rfl (Nat.le_of_ble_eq_true rfl) (fun r hr => zMet_cast (Nat.add_assoc d 89 0) (mX12_lies (d := d + 89) hG v1 0 2 r hr)) ?_
    rintro ⟨r_1, D_2⟩ -
    show zO _ _ _ _ _ _ [zI r_1] (F, D_2, n, sl) _ _
    refine zO_if_ne (tgt := 11) dX12_judge_6 rfl (fun c6 => ?_) (fun c6 => ?_)
    · refine zO_iconst dX12_judge_9 (by decide) ?_
      exact zO_ret (rv := some (zI (-1))) dX12_judge_10 rfl rfl rfl
    · refine zO_aload_n dX12_judge_11 rfl (zR_P _) ?_
      refine zO_callV (Y' := YX12_lives) (cw := zcV F n sl) (as := []) (rest := []) (na := 0) (ci := 12) rfl dX12_judge_12 wC_X12_lives wN_X12 wM_X12_431 wI_X12_lives wV_X12_lives (by decide) (by decide) rfl rfl (Nat.le_of_ble_eq_true rfl) rfl (by decide) (gk_91 hG) (fun r hr => zMet_cast (Nat.add_assoc d 0 89) (mX12_lives (d := d + 0) hG  r hr)) ?_
      intro D_4 _
      show zO _ _ _ _ _ _ [] (F, D_4, n, sl) _ _
      refine zO_iload_n dX12_judge_15 rfl ?_
      refine zO_if_ne (tgt := 26) dX12_judge_16 rfl (fun c16 => ?_) (fun c16 => ?_)
      · refine zO_aload_n dX12_judge_19 rfl (zR_P _) ?_
        refine gt12 (k := 43) (v := zI (D_4 91 43)) dX12_judge_20 wF_X12_416 (by decide) (gk_91 hG) rfl ?_
        refine zO_goto (tgt := 42) dX12_judge_23 rfl ?_
        exact zO_ret (rv := some (zI (D_4 91 43))) dX12_judge_42 rfl rfl rfl
      · refine zO_iload_n dX12_judge_26 rfl ?_
        refine zO_iconst dX12_judge_27 (by decide) ?_
        refine zO_icmp_ne (tgt := 38) dX12_judge_28 rfl (fun c28 => ?_) (fun c28 => ?_)
        · refine zO_aload_n dX12_judge_31 rfl (zR_P _) ?_
          refine gt12 (k := 44) (v := zI (D_4 91 44)) dX12_judge_32 wF_X12_419 (by decide) (gk_91 hG) rfl ?_
          refine zO_goto (tgt := 42) dX12_judge_35 rfl ?_
          exact zO_ret (rv := some (zI (D_4 91 44))) dX12_judge_42 rfl rfl rfl
        · refine zO_aload_n dX12_judge_38 rfl (zR_P _) ?_
          refine gt12 (k := 45) (v := zI (D_4 91 45)) dX12_judge_39 wF_X12_422 (by decide) (gk_91 hG) rfl ?_
          exact zO_ret (rv := some (zI (D_4 91 45))) dX12_judge_42 rfl rfl rfl
  exact hz r hr
theorem dX12_learn_0 : decode cX12_learn 0 = .ok (.aload_n 0, 1) := by decide +kernel
theorem dX12_learn_1 : decode cX12_learn 1 = .ok (.invokevirtual 431, 3) := by decide +kernel
theorem dX12_learn_4 : decode cX12_learn 4 = .ok (.iconst 0, 1) := by decide +kernel
theorem dX12_learn_5 : decode cX12_learn 5 = .ok (.istore_n 1, 1) := by decide +kernel
theorem dX12_learn_6 : decode cX12_learn 6 = .ok (.iconst 0, 1) := by decide +kernel
theorem dX12_learn_7 : decode cX12_learn 7 = .ok (.istore_n 2, 1) := by decide +kernel
theorem dX12_learn_8 : decode cX12_learn 8 = .ok (.iload_n 2, 1) := by decide +kernel
theorem dX12_learn_9 : decode cX12_learn 9 = .ok (.aload_n 0, 1) := by decide +kernel
theorem dX12_learn_10 : decode cX12_learn 10 = .ok (.invokevirtual 146, 3) := by decide +kernel
theorem dX12_learn_13 : decode cX12_learn 13 = .ok (.if_icmp .ge 44, 3) := by decide +kernel
theorem dX12_learn_16 : decode cX12_learn 16 = .ok (.aload_n 0, 1) := by decide +kernel
theorem dX12_learn_17 : decode cX12_learn 17 = .ok (.getfield 20, 3) := by decide +kernel
theorem dX12_learn_20 : decode cX12_learn 20 = .ok (.iconst 0, 1) := by decide +kernel
theorem dX12_learn_21 : decode cX12_learn 21 = .ok (.iconst 5, 1) := by decide +kernel
theorem dX12_learn_22 : decode cX12_learn 22 = .ok (.iload_n 2, 1) := by decide +kernel
theorem dX12_learn_23 : decode cX12_learn 23 = .ok (.imul, 1) := by decide +kernel
theorem dX12_learn_24 : decode cX12_learn 24 = .ok (.iadd, 1) := by decide +kernel
theorem dX12_learn_25 : decode cX12_learn 25 = .ok (.iconst 2, 1) := by decide +kernel
theorem dX12_learn_26 : decode cX12_learn 26 = .ok (.iadd, 1) := by decide +kernel
theorem dX12_learn_27 : decode cX12_learn 27 = .ok (.aload_n 0, 1) := by decide +kernel
theorem dX12_learn_28 : decode cX12_learn 28 = .ok (.getfield 96, 3) := by decide +kernel
theorem dX12_learn_31 : decode cX12_learn 31 = .ok (.iload_n 2, 1) := by decide +kernel
theorem dX12_learn_32 : decode cX12_learn 32 = .ok (.iaload, 1) := by decide +kernel
theorem dX12_learn_33 : decode cX12_learn 33 = .ok (.iastore, 1) := by decide +kernel
theorem dX12_learn_34 : decode cX12_learn 34 = .ok (.iload_n 1, 1) := by decide +kernel
theorem dX12_learn_35 : decode cX12_learn 35 = .ok (.aload_n 0, 1) := by decide +kernel
theorem dX12_learn_36 : decode cX12_learn 36 = .ok (.getfield 96, 3) := by decide +kernel
theorem dX12_learn_39 : decode cX12_learn 39 = .ok (.iload_n 2, 1) := by decide +kernel
theorem dX12_learn_40 : decode cX12_learn 40 = .ok (.iaload, 1) := by decide +kernel
theorem dX12_learn_41 : decode cX12_learn 41 = .ok (.ifCond .le 7, 3) := by decide +kernel
theorem dX12_learn_44 : decode cX12_learn 44 = .ok (.iconst 1, 1) := by decide +kernel
theorem dX12_learn_45 : decode cX12_learn 45 = .ok (.goto 4, 3) := by decide +kernel
theorem dX12_learn_48 : decode cX12_learn 48 = .ok (.iconst 0, 1) := by decide +kernel
theorem dX12_learn_49 : decode cX12_learn 49 = .ok (.iadd, 1) := by decide +kernel
theorem dX12_learn_50 : decode cX12_learn 50 = .ok (.istore_n 1, 1) := by decide +kernel
theorem dX12_learn_51 : decode cX12_learn 51 = .ok (.iinc 2 1, 3) := by decide +kernel
theorem dX12_learn_54 : decode cX12_learn 54 = .ok (.goto (-46), 3) := by decide +kernel
theorem dX12_learn_57 : decode cX12_learn 57 = .ok (.aload_n 0, 1) := by decide +kernel
theorem dX12_learn_58 : decode cX12_learn 58 = .ok (.iload_n 1, 1) := by decide +kernel
theorem dX12_learn_59 : decode cX12_learn 59 = .ok (.invokevirtual 143, 3) := by decide +kernel
theorem dX12_learn_62 : decode cX12_learn 62 = .ok (.ireturn, 1) := by decide +kernel
abbrev YX12_learn : zY := (yX12_learn, cX12_learn, 3, (Option.some Jvm.ClassFile.FieldType.int), [])
def fX12_learn_49 (F : zFs) (k_8 : Int → Int → zDa → Option (Int × zDa)) (v2 : Int) (s0 : Int) (s1 : Int) (D : zDa) : Option (Int × zDa) :=
  if (-2147483648 ≤ s1 + s0 ∧ s1 + s0 ≤ 2147483647) then
    zlet ((s1 + s0)) (fun x1_6 =>
      if (-2147483648 ≤ v2 + 1 ∧ v2 + 1 ≤ 2147483647) then
        k_8 x1_6 (v2 + 1) D
      else none)
  else none
def fX12_learn_8 (F : zFs)   (k_8 : Int → Int → zDa → Option (Int × zDa)) (v1 : Int) (v2 : Int) (D : zDa) : Option (Int × zDa) :=
  (fX12_questions F D).bind (fun (r_3, D_4) =>
    if v2 < r_3 then
      if (-2147483648 ≤ 5 * v2 ∧ 5 * v2 ≤ 2147483647) ∧ (-2147483648 ≤ 0 + (5 * v2) ∧ 0 + (5 * v2) ≤ 2147483647) ∧ (-2147483648 ≤ (0 + (5 * v2)) + 2 ∧ (0 + (5 * v2)) + 2 ≤ 2147483647) ∧ (0 ≤ v2 ∧ v2 < 20) ∧ (0 ≤ ((0 + (5 * v2)) + 2) ∧ ((0 + (5 * v2)) + 2) < 5201) then
        zlet (zwr D_4 93 ((0 + (5 * v2)) + 2).toNat (D_4 115 v2.toNat)) (fun D_5 =>
          if 0 < (D_5 115 v2.toNat) then
            fX12_learn_49 F k_8 v2 1 v1 D_5
          else
            fX12_learn_49 F k_8 v2 0 v1 D_5)
      else none
    else
      (fX12_good F v1 D_4).bind (fun (r_7, D_8) =>
        some (r_7, D_8)))
def fX12_learn (F : zFs)  (D : zDa) : Option (Int × zDa) :=
  (fX12_lives F D).bind (fun D_2 =>
    zfix (fun _ _ _ => none) (fX12_learn_8 F) zfu 0 0 D_2)
set_option maxHeartbeats 20000000 in
theorem sX12_learn_49 {l : Launch} {E : zE} {d : Nat} {F : zFs} {n sl : Nat} (hG : zG F)  (v2 : Int) (s0 : Int) (s1 : Int) (k_8 : Int → Int → zDa → Option (Int × zDa)) (hk_8 : ∀ (u1 : Int) (u2 : Int) (D : zDa), zO l E (d + 90) YX12_learn 8 [(0, zR 91), (1, zI u1), (2, zI u2)] [] (F, D, n, sl) (zcI F n sl) (k_8 u1 u2 D)) (D : zDa) : zO l E (d + 90) YX12_learn 49 [(0, zR 91), (2, zI v2)] [zI s0, zI s1] (F, D, n, sl) (zcI F n sl) (fX12_learn_49 F k_8 v2 s0 s1 D) := by
  unfold fX12_learn_49
  refine zO_chk (fun h2 => ?_)
  refine zO_iadd dX12_learn_49 h2 ?_
  refine zO_letI (fun x1_6 ex1_6 => ?_)
  refine zO_istore_n dX12_learn_50 (by decide) ?_
  refine zO_ls (ls' := [(0, zR 91), (1, zI x1_6), (2, zI v2)]) rfl ?_
  refine zO_chk (fun h3 => ?_)
  refine zO_iinc dX12_learn_51 rfl h3 (by decide) ?_
  refine zO_ls (ls' := [(0, zR 91), (1, zI x1_6), (2, zI (v2 + 1))]) rfl ?_
  refine zO_goto (tgt := 8) dX12_learn_54 rfl ?_
  refine zO_live [0, 1, 2] ?_
  exact hk_8 x1_6 (v2 + 1) D
set_option maxHeartbeats 20000000 in
theorem sX12_learn_8 {l : Launch} {E : zE} {d : Nat} {F : zFs} {n sl : Nat} (hG : zG F)     : ∀ (N : Nat) (v1 : Int) (v2 : Int) (D : zDa), zO l E (d + 90) YX12_learn 8 [(0, zR 91), (1, zI v1), (2, zI v2)] [] (F, D, n, sl) (zcI F n sl) (zfix (fun _ _ _ => none) (fX12_learn_8 F) N v1 v2 D) := by
  intro N
  induction N with
  | zero => intro v1 v2 D; exact zO_none
  | succ N hk_8 =>
    intro v1 v2 D
    show zO _ _ _ _ _ _ _ _ _ ((fX12_learn_8 F) (zfix (fun _ _ _ => none) (fX12_learn_8 F) N) v1 v2 D)
    unfold fX12_learn_8
    refine zO_iload_n dX12_learn_8 rfl ?_
    refine zO_aload_n dX12_learn_9 rfl (zR_P _) ?_
    refine zO_callV (Y' := YX12_questions) (cw := zcI F n sl) (as := []) (rest := [zI v2]) (na := 0) (ci := 12) rfl dX12_learn_10 wC_X12_questions wN_X12 wM_X12_146 wI_X12_questions wV_X12_questions (by decide) (by decide) rfl rfl (Nat.le_of_ble_eq_true rfl) rfl (by decide) (gk_91 hG) (fun r hr => zMet_cast (Nat.add_assoc d 89 0) (mX12_questions (d := d + 89) hG  r hr)) ?_
    rintro ⟨r_3, D_4⟩ -
    show zO _ _ _ _ _ _ [zI r_3, zI v2] (F, D_4, n, sl) _ _
    refine zO_icmp_ge (tgt := 57) dX12_learn_13 rfl (fun c13 => ?_) (fun c13 => ?_)
    · refine zO_chk (fun h1 => ?_)
      refine zO_aload_n dX12_learn_16 rfl (zR_P _) ?_
      refine gt12 (k := 3) dX12_learn_17 wF_X12_20 (by decide) (gk_91 hG) (zgv (c := 12) (k := 3) rfl (Or.inl ⟨_, rfl⟩) (gf_91_3 hG)) ?_
      refine zO_iconst dX12_learn_20 (by decide) ?_
      refine zO_iconst dX12_learn_21 (by decide) ?_
      refine zO_iload_n dX12_learn_22 rfl ?_
      refine zO_imul dX12_learn_23 h1.1 ?_
      refine zO_iadd dX12_learn_24 h1.2.1 ?_
      refine zO_iconst dX12_learn_25 (by decide) ?_
      refine zO_iadd dX12_learn_26 h1.2.2.1 ?_
      refine zO_aload_n dX12_learn_27 rfl (zR_P _) ?_
      refine gt12 (k := 41) dX12_learn_28 wF_X12_96 (by decide) (gk_91 hG) (zgv (c := 12) (k := 41) rfl (Or.inl ⟨_, rfl⟩) (gf_91_41 hG)) ?_
      refine zO_iload_n dX12_learn_31 rfl ?_
      refine zO_iald dX12_learn_32 (gk_115 hG) (gl_in (gl_115 hG) h1.2.2.2.1) ?_
      refine zO_iast dX12_learn_33 (gk_93 hG) (gl_in (gl_93 hG) h1.2.2.2.2) ?_
      refine zO_letD (fun D_5 eD_5 => ?_)
      refine zO_iload_n dX12_learn_34 rfl ?_
      refine zO_aload_n dX12_learn_35 rfl (zR_P _) ?_
      refine gt12 (k := 41) dX12_learn_36 wF_X12_96 (by decide) (gk_91 hG) (zgv (c := 12) (k := 41) rfl (Or.inl ⟨_, rfl⟩) (gf_91_41 hG)) ?_
      refine zO_iload_n dX12_learn_39 rfl ?_
      refine zO_iald dX12_learn_40 (gk_115 hG) (gl_in (gl_115 hG) h1.2.2.2.1) ?_
      refine zO_if_le (tgt := 48) dX12_learn_41 rfl (fun c41 => ?_) (fun c41 => ?_)
      · refine zO_iconst dX12_learn_44 (by decide) ?_
        refine zO_goto (tgt := 49) dX12_learn_45 rfl ?_
        refine zO_live [0, 2] ?_
        exact sX12_learn_49 hG v2 1 v1 _ hk_8 D_5
      · refine zO_iconst dX12_learn_48 (by decide) ?_
        refine zO_live [0, 2] ?_
        exact sX12_learn_49 hG v2 0 v1 _ hk_8 D_5
    · refine zO_aload_n dX12_learn_57 rfl (zR_P _) ?_
      refine zO_iload_n dX12_learn_58 rfl ?_
      refine zO_callV (Y' := YX12_good) (cw := zcI F n sl) (as := [zI v1]) (rest := []) (na := 1) (ci := 12) rfl dX12_learn_59 wC_X12_good wN_X12 wM_X12_143 wI_X12_good wV_X12_good (by decide) (by decide) rfl rfl (Nat.le_of_ble_eq_true rfl) rfl (by decide) (gk_91 hG) (fun r hr => zMet_cast (Nat.add_assoc d 89 0) (mX12_good (d := d + 89) hG v1 r hr)) ?_
      rintro ⟨r_7, D_8⟩ -
      show zO _ _ _ _ _ _ [zI r_7] (F, D_8, n, sl) _ _
      exact zO_ret (rv := some (zI r_7)) dX12_learn_62 rfl rfl rfl
set_option maxHeartbeats 20000000 in
theorem mX12_learn {l : Launch} {E : zE} {d : Nat} {F : zFs} {n sl : Nat} (hG : zG F)  {D : zDa} : ∀ r, fX12_learn F   D = some r → zMet l E (d + 90) YX12_learn [zR 91] (F, D, n, sl) (zcI F n sl r) := by
  intro r hr
  refine zMet_of (plainFor_of_name (by decide)) (fun _ h => (nomatch h)) (Nat.le_of_ble_eq_true rfl) ?_
  have hz : zO l E (d + 90) YX12_learn 0 [(0, zR 91)] [] (F, D, n, sl) (zcI F n sl) (fX12_learn F   D) := by
    unfold fX12_learn
    refine zO_aload_n dX12_learn_0 rfl (zR_P _) ?_
    refine zO_callV (Y' := YX12_lives) (cw := zcV F n sl) (as := []) (rest := []) (na := 0) (ci := 12) rfl dX12_learn_1 wC_X12_lives wN_X12 wM_X12_431 wI_X12_lives wV_X12_lives (by decide) (by decide) rfl rfl (Nat.le_of_ble_eq_true rfl) rfl (by decide) (gk_91 hG) (fun r hr => zMet_cast (Nat.add_assoc d 0 89) (mX12_lives (d := d + 0) hG  r hr)) ?_
    intro D_2 _
    show zO _ _ _ _ _ _ [] (F, D_2, n, sl) _ _
    refine zO_iconst dX12_learn_4 (by decide) ?_
    refine zO_istore_n dX12_learn_5 (by decide) ?_
    refine zO_ls (ls' := [(0, zR 91), (1, zI 0)]) rfl ?_
    refine zO_iconst dX12_learn_6 (by decide) ?_
    refine zO_istore_n dX12_learn_7 (by decide) ?_
    refine zO_ls (ls' := [(0, zR 91), (1, zI 0), (2, zI 0)]) rfl ?_
    refine zO_live [0, 1, 2] ?_
    exact sX12_learn_8 hG zfu 0 0 D_2
  exact hz r hr
theorem dX12_laysLesson_0 : decode cX12_laysLesson 0 = .ok (.aload_n 0, 1) := by decide +kernel
theorem dX12_laysLesson_1 : decode cX12_laysLesson 1 = .ok (.getfield 434, 3) := by decide +kernel
theorem dX12_laysLesson_4 : decode cX12_laysLesson 4 = .ok (.ifCond .ne 36, 3) := by decide +kernel
theorem dX12_laysLesson_7 : decode cX12_laysLesson 7 = .ok (.aload_n 0, 1) := by decide +kernel
theorem dX12_laysLesson_8 : decode cX12_laysLesson 8 = .ok (.getfield 437, 3) := by decide +kernel
theorem dX12_laysLesson_11 : decode cX12_laysLesson 11 = .ok (.ifCond .lt 29, 3) := by decide +kernel
theorem dX12_laysLesson_14 : decode cX12_laysLesson 14 = .ok (.aload_n 0, 1) := by decide +kernel
theorem dX12_laysLesson_15 : decode cX12_laysLesson 15 = .ok (.getfield 105, 3) := by decide +kernel
theorem dX12_laysLesson_18 : decode cX12_laysLesson 18 = .ok (.aload_n 0, 1) := by decide +kernel
theorem dX12_laysLesson_19 : decode cX12_laysLesson 19 = .ok (.getfield 437, 3) := by decide +kernel
theorem dX12_laysLesson_22 : decode cX12_laysLesson 22 = .ok (.iaload, 1) := by decide +kernel
theorem dX12_laysLesson_23 : decode cX12_laysLesson 23 = .ok (.iload_n 3, 1) := by decide +kernel
theorem dX12_laysLesson_24 : decode cX12_laysLesson 24 = .ok (.if_icmp .ge 16, 3) := by decide +kernel
theorem dX12_laysLesson_27 : decode cX12_laysLesson 27 = .ok (.aload_n 0, 1) := by decide +kernel
theorem dX12_laysLesson_28 : decode cX12_laysLesson 28 = .ok (.dup, 1) := by decide +kernel
theorem dX12_laysLesson_29 : decode cX12_laysLesson 29 = .ok (.getfield 437, 3) := by decide +kernel
theorem dX12_laysLesson_32 : decode cX12_laysLesson 32 = .ok (.iconst 1, 1) := by decide +kernel
theorem dX12_laysLesson_33 : decode cX12_laysLesson 33 = .ok (.isub, 1) := by decide +kernel
theorem dX12_laysLesson_34 : decode cX12_laysLesson 34 = .ok (.putfield 437, 3) := by decide +kernel
theorem dX12_laysLesson_37 : decode cX12_laysLesson 37 = .ok (.goto (-37), 3) := by decide +kernel
theorem dX12_laysLesson_40 : decode cX12_laysLesson 40 = .ok (.aload_n 0, 1) := by decide +kernel
theorem dX12_laysLesson_41 : decode cX12_laysLesson 41 = .ok (.aload_n 0, 1) := by decide +kernel
theorem dX12_laysLesson_42 : decode cX12_laysLesson 42 = .ok (.getfield 434, 3) := by decide +kernel
theorem dX12_laysLesson_45 : decode cX12_laysLesson 45 = .ok (.ifCond .ne 10, 3) := by decide +kernel
theorem dX12_laysLesson_48 : decode cX12_laysLesson 48 = .ok (.aload_n 0, 1) := by decide +kernel
theorem dX12_laysLesson_49 : decode cX12_laysLesson 49 = .ok (.getfield 437, 3) := by decide +kernel
theorem dX12_laysLesson_52 : decode cX12_laysLesson 52 = .ok (.ifCond .ge 7, 3) := by decide +kernel
theorem dX12_laysLesson_55 : decode cX12_laysLesson 55 = .ok (.iconst 1, 1) := by decide +kernel
theorem dX12_laysLesson_56 : decode cX12_laysLesson 56 = .ok (.goto 4, 3) := by decide +kernel
theorem dX12_laysLesson_59 : decode cX12_laysLesson 59 = .ok (.iconst 0, 1) := by decide +kernel
theorem dX12_laysLesson_60 : decode cX12_laysLesson 60 = .ok (.putfield 434, 3) := by decide +kernel
theorem dX12_laysLesson_63 : decode cX12_laysLesson 63 = .ok (.aload_n 0, 1) := by decide +kernel
theorem dX12_laysLesson_64 : decode cX12_laysLesson 64 = .ok (.getfield 434, 3) := by decide +kernel
theorem dX12_laysLesson_67 : decode cX12_laysLesson 67 = .ok (.ifCond .eq 14, 3) := by decide +kernel
theorem dX12_laysLesson_70 : decode cX12_laysLesson 70 = .ok (.aload_n 0, 1) := by decide +kernel
theorem dX12_laysLesson_71 : decode cX12_laysLesson 71 = .ok (.dup, 1) := by decide +kernel
theorem dX12_laysLesson_72 : decode cX12_laysLesson 72 = .ok (.getfield 440, 3) := by decide +kernel
theorem dX12_laysLesson_75 : decode cX12_laysLesson 75 = .ok (.iconst 1, 1) := by decide +kernel
theorem dX12_laysLesson_76 : decode cX12_laysLesson 76 = .ok (.iadd, 1) := by decide +kernel
theorem dX12_laysLesson_77 : decode cX12_laysLesson 77 = .ok (.putfield 440, 3) := by decide +kernel
theorem dX12_laysLesson_80 : decode cX12_laysLesson 80 = .ok (.return_, 1) := by decide +kernel
theorem dX12_laysLesson_81 : decode cX12_laysLesson 81 = .ok (.aload_n 0, 1) := by decide +kernel
theorem dX12_laysLesson_82 : decode cX12_laysLesson 82 = .ok (.getfield 105, 3) := by decide +kernel
theorem dX12_laysLesson_85 : decode cX12_laysLesson 85 = .ok (.aload_n 0, 1) := by decide +kernel
theorem dX12_laysLesson_86 : decode cX12_laysLesson 86 = .ok (.getfield 437, 3) := by decide +kernel
theorem dX12_laysLesson_89 : decode cX12_laysLesson 89 = .ok (.dup2, 1) := by decide +kernel
theorem dX12_laysLesson_90 : decode cX12_laysLesson 90 = .ok (.iaload, 1) := by decide +kernel
theorem dX12_laysLesson_91 : decode cX12_laysLesson 91 = .ok (.iload_n 3, 1) := by decide +kernel
theorem dX12_laysLesson_92 : decode cX12_laysLesson 92 = .ok (.isub, 1) := by decide +kernel
theorem dX12_laysLesson_93 : decode cX12_laysLesson 93 = .ok (.iastore, 1) := by decide +kernel
theorem dX12_laysLesson_94 : decode cX12_laysLesson 94 = .ok (.aload_n 0, 1) := by decide +kernel
theorem dX12_laysLesson_95 : decode cX12_laysLesson 95 = .ok (.getfield 102, 3) := by decide +kernel
theorem dX12_laysLesson_98 : decode cX12_laysLesson 98 = .ok (.iconst 2, 1) := by decide +kernel
theorem dX12_laysLesson_99 : decode cX12_laysLesson 99 = .ok (.iload_n 1, 1) := by decide +kernel
theorem dX12_laysLesson_100 : decode cX12_laysLesson 100 = .ok (.imul, 1) := by decide +kernel
theorem dX12_laysLesson_101 : decode cX12_laysLesson 101 = .ok (.iload_n 2, 1) := by decide +kernel
theorem dX12_laysLesson_102 : decode cX12_laysLesson 102 = .ok (.iadd, 1) := by decide +kernel
theorem dX12_laysLesson_103 : decode cX12_laysLesson 103 = .ok (.iconst 1, 1) := by decide +kernel
theorem dX12_laysLesson_104 : decode cX12_laysLesson 104 = .ok (.isub, 1) := by decide +kernel
theorem dX12_laysLesson_105 : decode cX12_laysLesson 105 = .ok (.aload_n 0, 1) := by decide +kernel
theorem dX12_laysLesson_106 : decode cX12_laysLesson 106 = .ok (.getfield 437, 3) := by decide +kernel
theorem dX12_laysLesson_109 : decode cX12_laysLesson 109 = .ok (.iastore, 1) := by decide +kernel
theorem dX12_laysLesson_110 : decode cX12_laysLesson 110 = .ok (.aload_n 0, 1) := by decide +kernel
theorem dX12_laysLesson_111 : decode cX12_laysLesson 111 = .ok (.aload_n 0, 1) := by decide +kernel
theorem dX12_laysLesson_112 : decode cX12_laysLesson 112 = .ok (.getfield 437, 3) := by decide +kernel
theorem dX12_laysLesson_115 : decode cX12_laysLesson 115 = .ok (.putfield 443, 3) := by decide +kernel
theorem dX12_laysLesson_118 : decode cX12_laysLesson 118 = .ok (.return_, 1) := by decide +kernel
abbrev YX12_laysLesson : zY := (yX12_laysLesson, cX12_laysLesson, 4, none, [])
def fX12_laysLesson_60 (F : zFs)  (o1 : Int) (o2 : Int) (o3 : Int) (s0 : Int) (D : zDa) : Option zDa :=
  if (s0 = 0 ∨ s0 = 1) then
    zlet (zwr D 91 51 s0) (fun D_1 =>
      if (D_1 91 51) = 0 then
        if (0 ≤ (D_1 91 48) ∧ (D_1 91 48) < 20) ∧ (-2147483648 ≤ (D_1 118 (D_1 91 48).toNat) - o3 ∧ (D_1 118 (D_1 91 48).toNat) - o3 ≤ 2147483647) then
          zlet (zwr D_1 118 (D_1 91 48).toNat ((D_1 118 (D_1 91 48).toNat) - o3)) (fun D_2 =>
            if (-2147483648 ≤ 2 * o1 ∧ 2 * o1 ≤ 2147483647) ∧ (-2147483648 ≤ (2 * o1) + o2 ∧ (2 * o1) + o2 ≤ 2147483647) ∧ (-2147483648 ≤ ((2 * o1) + o2) - 1 ∧ ((2 * o1) + o2) - 1 ≤ 2147483647) ∧ (0 ≤ (((2 * o1) + o2) - 1) ∧ (((2 * o1) + o2) - 1) < 40) then
              zlet (zwr D_2 117 (((2 * o1) + o2) - 1).toNat (D_2 91 48)) (fun D_3 =>
                zlet (zwr D_3 91 50 (D_3 91 48)) (fun D_4 =>
                  some D_4))
            else none)
        else none
      else
        if (-2147483648 ≤ (D_1 91 49) + 1 ∧ (D_1 91 49) + 1 ≤ 2147483647) then
          zlet (zwr D_1 91 49 ((D_1 91 49) + 1)) (fun D_5 =>
            some D_5)
        else none)
  else none
def fX12_laysLesson_55 (F : zFs)  (o1 : Int) (o2 : Int) (o3 : Int) (D : zDa) : Option zDa :=
  fX12_laysLesson_60 F o1 o2 o3 1 D
def fX12_laysLesson_40 (F : zFs)  (o1 : Int) (o2 : Int) (o3 : Int) (D : zDa) : Option zDa :=
  if (D 91 51) = 0 then
    if (D 91 48) < 0 then
      fX12_laysLesson_55 F o1 o2 o3 D
    else
      fX12_laysLesson_60 F o1 o2 o3 0 D
  else
    fX12_laysLesson_55 F o1 o2 o3 D
def fX12_laysLesson_0 (F : zFs) (o1 : Int) (o2 : Int) (o3 : Int)  (k_0 : zDa → Option zDa)  (D : zDa) : Option zDa :=
  if (D 91 51) = 0 then
    if (D 91 48) < 0 then
      fX12_laysLesson_40 F o1 o2 o3 D
    else
      if (0 ≤ (D 91 48) ∧ (D 91 48) < 20) then
        if (D 118 (D 91 48).toNat) < o3 then
          if (-2147483648 ≤ (D 91 48) - 1 ∧ (D 91 48) - 1 ≤ 2147483647) then
            zlet (zwr D 91 48 ((D 91 48) - 1)) (fun D_6 =>
              k_0 D_6)
          else none
        else
          fX12_laysLesson_40 F o1 o2 o3 D
      else none
  else
    fX12_laysLesson_40 F o1 o2 o3 D
def fX12_laysLesson (F : zFs) (v1 : Int) (v2 : Int) (v3 : Int) (D : zDa) : Option zDa :=
  zfix (fun _ => none) (fX12_laysLesson_0 F v1 v2 v3) zfu  D
set_option maxHeartbeats 20000000 in
theorem sX12_laysLesson_60 {l : Launch} {E : zE} {d : Nat} {F : zFs} {n sl : Nat} (hG : zG F)  (o1 : Int) (o2 : Int) (o3 : Int) (s0 : Int)   (D : zDa) : zO l E (d + 0) YX12_laysLesson 60 [(0, zR 91), (1, zI o1), (2, zI o2), (3, zI o3)] [zI s0, zR 91] (F, D, n, sl) (zcV F n sl) (fX12_laysLesson_60 F o1 o2 o3 s0 D) := by
  unfold fX12_laysLesson_60
  refine zO_chk (fun h1 => ?_)
  refine pt12 (k := 51) (z := s0) dX12_laysLesson_60 wF_X12_434 (by decide) rfl (gk_91 hG) rfl h1 ?_
  refine zO_letD (fun D_1 eD_1 => ?_)
  refine zO_aload_n dX12_laysLesson_63 rfl (zR_P _) ?_
  refine gt12 (k := 51) (v := zI (D_1 91 51)) dX12_laysLesson_64 wF_X12_434 (by decide) (gk_91 hG) rfl ?_
  refine zO_if_eq (tgt := 81) dX12_laysLesson_67 rfl (fun c67 => ?_) (fun c67 => ?_)
  · refine zO_chk (fun h2 => ?_)
    refine zO_aload_n dX12_laysLesson_81 rfl (zR_P _) ?_
    refine gt12 (k := 47) dX12_laysLesson_82 wF_X12_105 (by decide) (gk_91 hG) (zgv (c := 12) (k := 47) rfl (Or.inl ⟨_, rfl⟩) (gf_91_47 hG)) ?_
    refine zO_aload_n dX12_laysLesson_85 rfl (zR_P _) ?_
    refine gt12 (k := 48) (v := zI (D_1 91 48)) dX12_laysLesson_86 wF_X12_437 (by decide) (gk_91 hG) rfl ?_
    refine zO_dup2a dX12_laysLesson_89 (rfl) (rfl) ?_
    refine zO_iald dX12_laysLesson_90 (gk_118 hG) (gl_in (gl_118 hG) h2.1) ?_
    refine zO_iload_n dX12_laysLesson_91 rfl ?_
    refine zO_isub dX12_laysLesson_92 h2.2 ?_
    refine zO_iast dX12_laysLesson_93 (gk_118 hG) (gl_in (gl_118 hG) h2.1) ?_
    refine zO_letD (fun D_2 eD_2 => ?_)
    refine zO_chk (fun h3 => ?_)
    refine zO_aload_n dX12_laysLesson_94 rfl (zR_P _) ?_
    refine gt12 (k := 46) dX12_laysLesson_95 wF_X12_102 (by decide) (gk_91 hG) (zgv (c := 12) (k := 46) rfl (Or.inl ⟨_, rfl⟩) (gf_91_46 hG)) ?_
    refine zO_iconst dX12_laysLesson_98 (by decide) ?_
    refine zO_iload_n dX12_laysLesson_99 rfl ?_
    refine zO_imul dX12_laysLesson_100 h3.1 ?_
    refine zO_iload_n dX12_laysLesson_101 rfl ?_
    refine zO_iadd dX12_laysLesson_102 h3.2.1 ?_
    refine zO_iconst dX12_laysLesson_103 (by decide) ?_
    refine zO_isub dX12_laysLesson_104 h3.2.2.1 ?_
    refine zO_aload_n dX12_laysLesson_105 rfl (zR_P _) ?_
    refine gt12 (k := 48) (v := zI (D_2 91 48)) dX12_laysLesson_106 wF_X12_437 (by decide) (gk_91 hG) rfl ?_
    refine zO_iast dX12_laysLesson_109 (gk_117 hG) (gl_in (gl_117 hG) h3.2.2.2) ?_
    refine zO_letD (fun D_3 eD_3 => ?_)
    refine zO_aload_n dX12_laysLesson_110 rfl (zR_P _) ?_
    refine zO_aload_n dX12_laysLesson_111 rfl (zR_P _) ?_
    refine gt12 (k := 48) (v := zI (D_3 91 48)) dX12_laysLesson_112 wF_X12_437 (by decide) (gk_91 hG) rfl ?_
    refine ptI12 (k := 50) (z := (D_3 91 48)) dX12_laysLesson_115 wF_X12_443 (by decide) rfl (gk_91 hG) rfl ?_
    refine zO_letD (fun D_4 eD_4 => ?_)
    exact zO_ret (rv := none) dX12_laysLesson_118 rfl trivial rfl
  · refine zO_chk (fun h4 => ?_)
    refine zO_aload_n dX12_laysLesson_70 rfl (zR_P _) ?_
    refine zO_dup dX12_laysLesson_71 (rfl) ?_
    refine gt12 (k := 49) (v := zI (D_1 91 49)) dX12_laysLesson_72 wF_X12_440 (by decide) (gk_91 hG) rfl ?_
    refine zO_iconst dX12_laysLesson_75 (by decide) ?_
    refine zO_iadd dX12_laysLesson_76 h4 ?_
    refine ptI12 (k := 49) (z := ((D_1 91 49) + 1)) dX12_laysLesson_77 wF_X12_440 (by decide) rfl (gk_91 hG) rfl ?_
    refine zO_letD (fun D_5 eD_5 => ?_)
    exact zO_ret (rv := none) dX12_laysLesson_80 rfl trivial rfl
set_option maxHeartbeats 20000000 in
theorem sX12_laysLesson_55 {l : Launch} {E : zE} {d : Nat} {F : zFs} {n sl : Nat} (hG : zG F)  (o1 : Int) (o2 : Int) (o3 : Int)   (D : zDa) : zO l E (d + 0) YX12_laysLesson 55 [(0, zR 91), (1, zI o1), (2, zI o2), (3, zI o3)] [zR 91] (F, D, n, sl) (zcV F n sl) (fX12_laysLesson_55 F o1 o2 o3 D) := by
  unfold fX12_laysLesson_55
  refine zO_iconst dX12_laysLesson_55 (by decide) ?_
  refine zO_goto (tgt := 60) dX12_laysLesson_56 rfl ?_
  refine zO_live [0, 1, 2, 3] ?_
  exact sX12_laysLesson_60 hG o1 o2 o3 1 D
set_option maxHeartbeats 20000000 in
theorem sX12_laysLesson_40 {l : Launch} {E : zE} {d : Nat} {F : zFs} {n sl : Nat} (hG : zG F)  (o1 : Int) (o2 : Int) (o3 : Int)   (D : zDa) : zO l E (d + 0) YX12_laysLesson 40 [(0, zR 91), (1, zI o1), (2, zI o2), (3, zI o3)] [] (F, D, n, sl) (zcV F n sl) (fX12_laysLesson_40 F o1 o2 o3 D) := by
  unfold fX12_laysLesson_40
  refine zO_aload_n dX12_laysLesson_40 rfl (zR_P _) ?_
  refine zO_aload_n dX12_laysLesson_41 rfl (zR_P _) ?_
  refine gt12 (k := 51) (v := zI (D 91 51)) dX12_laysLesson_42 wF_X12_434 (by decide) (gk_91 hG) rfl ?_
  refine zO_if_ne (tgt := 55) dX12_laysLesson_45 rfl (fun c45 => ?_) (fun c45 => ?_)
  · refine zO_aload_n dX12_laysLesson_48 rfl (zR_P _) ?_
    refine gt12 (k := 48) (v := zI (D 91 48)) dX12_laysLesson_49 wF_X12_437 (by decide) (gk_91 hG) rfl ?_
    refine zO_if_ge (tgt := 59) dX12_laysLesson_52 rfl (fun c52 => ?_) (fun c52 => ?_)
    · refine zO_live [0, 1, 2, 3] ?_
      exact sX12_laysLesson_55 hG o1 o2 o3 D
    · refine zO_iconst dX12_laysLesson_59 (by decide) ?_
      refine zO_live [0, 1, 2, 3] ?_
      exact sX12_laysLesson_60 hG o1 o2 o3 0 D
  · refine zO_live [0, 1, 2, 3] ?_
    exact sX12_laysLesson_55 hG o1 o2 o3 D
set_option maxHeartbeats 20000000 in
theorem sX12_laysLesson_0 {l : Launch} {E : zE} {d : Nat} {F : zFs} {n sl : Nat} (hG : zG F)  (o1 : Int) (o2 : Int) (o3 : Int)   : ∀ (N : Nat)  (D : zDa), zO l E (d + 0) YX12_laysLesson 0 [(0, zR 91), (1, zI o1), (2, zI o2), (3, zI o3)] [] (F, D, n, sl) (zcV F n sl) (zfix (fun _ => none) (fX12_laysLesson_0 F o1 o2 o3) N  D) := by
  intro N
  induction N with
  | zero => intro D; exact zO_none
  | succ N hk_0 =>
    intro D
    show zO _ _ _ _ _ _ _ _ _ ((fX12_laysLesson_0 F o1 o2 o3) (zfix (fun _ => none) (fX12_laysLesson_0 F o1 o2 o3) N)  D)
    unfold fX12_laysLesson_0
    refine zO_aload_n dX12_laysLesson_0 rfl (zR_P _) ?_
    refine gt12 (k := 51) (v := zI (D 91 51)) dX12_laysLesson_1 wF_X12_434 (by decide) (gk_91 hG) rfl ?_
    refine zO_if_ne (tgt := 40) dX12_laysLesson_4 rfl (fun c4 => ?_) (fun c4 => ?_)
    · refine zO_aload_n dX12_laysLesson_7 rfl (zR_P _) ?_
      refine gt12 (k := 48) (v := zI (D 91 48)) dX12_laysLesson_8 wF_X12_437 (by decide) (gk_91 hG) rfl ?_
      refine zO_if_lt (tgt := 40) dX12_laysLesson_11 rfl (fun c11 => ?_) (fun c11 => ?_)
      · refine zO_live [0, 1, 2, 3] ?_
        exact sX12_laysLesson_40 hG o1 o2 o3 D
      · refine zO_chk (fun h5 => ?_)
        refine zO_aload_n dX12_laysLesson_14 rfl (zR_P _) ?_
        refine gt12 (k := 47) dX12_laysLesson_15 wF_X12_105 (by decide) (gk_91 hG) (zgv (c := 12) (k := 47) rfl (Or.inl ⟨_, rfl⟩) (gf_91_47 hG)) ?_
        refine zO_aload_n dX12_laysLesson_18 rfl (zR_P _) ?_
        refine gt12 (k := 48) (v := zI (D 91 48)) dX12_laysLesson_19 wF_X12_437 (by decide) (gk_91 hG) rfl ?_
        refine zO_iald dX12_laysLesson_22 (gk_118 hG) (gl_in (gl_118 hG) h5) ?_
        refine zO_iload_n dX12_laysLesson_23 rfl ?_
        refine zO_icmp_ge (tgt := 40) dX12_laysLesson_24 rfl (fun c24 => ?_) (fun c24 => ?_)
        · refine zO_chk (fun h6 => ?_)
          refine zO_aload_n dX12_laysLesson_27 rfl (zR_P _) ?_
          refine zO_dup dX12_laysLesson_28 (rfl) ?_
          refine gt12 (k := 48) (v := zI (D 91 48)) dX12_laysLesson_29 wF_X12_437 (by decide) (gk_91 hG) rfl ?_
          refine zO_iconst dX12_laysLesson_32 (by decide) ?_
          refine zO_isub dX12_laysLesson_33 h6 ?_
          refine ptI12 (k := 48) (z := ((D 91 48) - 1)) dX12_laysLesson_34 wF_X12_437 (by decide) rfl (gk_91 hG) rfl ?_
          refine zO_letD (fun D_6 eD_6 => ?_)
          refine zO_goto (tgt := 0) dX12_laysLesson_37 rfl ?_
          refine zO_live [0, 1, 2, 3] ?_
          exact hk_0 D_6
        · refine zO_live [0, 1, 2, 3] ?_
          exact sX12_laysLesson_40 hG o1 o2 o3 D
    · refine zO_live [0, 1, 2, 3] ?_
      exact sX12_laysLesson_40 hG o1 o2 o3 D
set_option maxHeartbeats 20000000 in
theorem mX12_laysLesson {l : Launch} {E : zE} {d : Nat} {F : zFs} {n sl : Nat} (hG : zG F) (v1 : Int) (v2 : Int) (v3 : Int) {D : zDa} : ∀ r, fX12_laysLesson F  v1 v2 v3 D = some r → zMet l E (d + 0) YX12_laysLesson [zR 91, zI v1, zI v2, zI v3] (F, D, n, sl) (zcV F n sl r) := by
  intro r hr
  refine zMet_of (plainFor_of_name (by decide)) (fun _ h => (nomatch h)) (Nat.le_of_ble_eq_true rfl) ?_
  have hz : zO l E (d + 0) YX12_laysLesson 0 [(0, zR 91), (1, zI v1), (2, zI v2), (3, zI v3)] [] (F, D, n, sl) (zcV F n sl) (fX12_laysLesson F  v1 v2 v3 D) := by
    unfold fX12_laysLesson
    refine zO_live [0, 1, 2, 3] ?_
    exact sX12_laysLesson_0 hG v1 v2 v3 zfu D
  exact hz r hr
theorem dX12_laysBackward_0 : decode cX12_laysBackward 0 = .ok (.aload_n 0, 1) := by decide +kernel
theorem dX12_laysBackward_1 : decode cX12_laysBackward 1 = .ok (.aload_n 0, 1) := by decide +kernel
theorem dX12_laysBackward_2 : decode cX12_laysBackward 2 = .ok (.iconst 5, 1) := by decide +kernel
theorem dX12_laysBackward_3 : decode cX12_laysBackward 3 = .ok (.invokevirtual 318, 3) := by decide +kernel
theorem dX12_laysBackward_6 : decode cX12_laysBackward 6 = .ok (.aload_n 0, 1) := by decide +kernel
theorem dX12_laysBackward_7 : decode cX12_laysBackward 7 = .ok (.bipush 6, 2) := by decide +kernel
theorem dX12_laysBackward_9 : decode cX12_laysBackward 9 = .ok (.invokevirtual 318, 3) := by decide +kernel
theorem dX12_laysBackward_12 : decode cX12_laysBackward 12 = .ok (.imul, 1) := by decide +kernel
theorem dX12_laysBackward_13 : decode cX12_laysBackward 13 = .ok (.invokevirtual 413, 3) := by decide +kernel
theorem dX12_laysBackward_16 : decode cX12_laysBackward 16 = .ok (.iconst 0, 1) := by decide +kernel
theorem dX12_laysBackward_17 : decode cX12_laysBackward 17 = .ok (.istore_n 1, 1) := by decide +kernel
theorem dX12_laysBackward_18 : decode cX12_laysBackward 18 = .ok (.iload_n 1, 1) := by decide +kernel
theorem dX12_laysBackward_19 : decode cX12_laysBackward 19 = .ok (.bipush 40, 2) := by decide +kernel
theorem dX12_laysBackward_21 : decode cX12_laysBackward 21 = .ok (.if_icmp .ge 16, 3) := by decide +kernel
theorem dX12_laysBackward_24 : decode cX12_laysBackward 24 = .ok (.aload_n 0, 1) := by decide +kernel
theorem dX12_laysBackward_25 : decode cX12_laysBackward 25 = .ok (.getfield 102, 3) := by decide +kernel
theorem dX12_laysBackward_28 : decode cX12_laysBackward 28 = .ok (.iload_n 1, 1) := by decide +kernel
theorem dX12_laysBackward_29 : decode cX12_laysBackward 29 = .ok (.iconst (-1), 1) := by decide +kernel
theorem dX12_laysBackward_30 : decode cX12_laysBackward 30 = .ok (.iastore, 1) := by decide +kernel
theorem dX12_laysBackward_31 : decode cX12_laysBackward 31 = .ok (.iinc 1 1, 3) := by decide +kernel
theorem dX12_laysBackward_34 : decode cX12_laysBackward 34 = .ok (.goto (-16), 3) := by decide +kernel
theorem dX12_laysBackward_37 : decode cX12_laysBackward 37 = .ok (.iconst 0, 1) := by decide +kernel
theorem dX12_laysBackward_38 : decode cX12_laysBackward 38 = .ok (.istore_n 1, 1) := by decide +kernel
theorem dX12_laysBackward_39 : decode cX12_laysBackward 39 = .ok (.iload_n 1, 1) := by decide +kernel
theorem dX12_laysBackward_40 : decode cX12_laysBackward 40 = .ok (.bipush 20, 2) := by decide +kernel
theorem dX12_laysBackward_42 : decode cX12_laysBackward 42 = .ok (.if_icmp .ge 21, 3) := by decide +kernel
theorem dX12_laysBackward_45 : decode cX12_laysBackward 45 = .ok (.aload_n 0, 1) := by decide +kernel
theorem dX12_laysBackward_46 : decode cX12_laysBackward 46 = .ok (.getfield 105, 3) := by decide +kernel
theorem dX12_laysBackward_49 : decode cX12_laysBackward 49 = .ok (.iload_n 1, 1) := by decide +kernel
theorem dX12_laysBackward_50 : decode cX12_laysBackward 50 = .ok (.aload_n 0, 1) := by decide +kernel
theorem dX12_laysBackward_51 : decode cX12_laysBackward 51 = .ok (.bipush 6, 2) := by decide +kernel
theorem dX12_laysBackward_53 : decode cX12_laysBackward 53 = .ok (.invokevirtual 318, 3) := by decide +kernel
theorem dX12_laysBackward_56 : decode cX12_laysBackward 56 = .ok (.iastore, 1) := by decide +kernel
theorem dX12_laysBackward_57 : decode cX12_laysBackward 57 = .ok (.iinc 1 1, 3) := by decide +kernel
theorem dX12_laysBackward_60 : decode cX12_laysBackward 60 = .ok (.goto (-21), 3) := by decide +kernel
theorem dX12_laysBackward_63 : decode cX12_laysBackward 63 = .ok (.aload_n 0, 1) := by decide +kernel
theorem dX12_laysBackward_64 : decode cX12_laysBackward 64 = .ok (.aload_n 0, 1) := by decide +kernel
theorem dX12_laysBackward_65 : decode cX12_laysBackward 65 = .ok (.iconst 5, 1) := by decide +kernel
theorem dX12_laysBackward_66 : decode cX12_laysBackward 66 = .ok (.invokevirtual 318, 3) := by decide +kernel
theorem dX12_laysBackward_69 : decode cX12_laysBackward 69 = .ok (.iconst 1, 1) := by decide +kernel
theorem dX12_laysBackward_70 : decode cX12_laysBackward 70 = .ok (.isub, 1) := by decide +kernel
theorem dX12_laysBackward_71 : decode cX12_laysBackward 71 = .ok (.putfield 437, 3) := by decide +kernel
theorem dX12_laysBackward_74 : decode cX12_laysBackward 74 = .ok (.aload_n 0, 1) := by decide +kernel
theorem dX12_laysBackward_75 : decode cX12_laysBackward 75 = .ok (.iconst 0, 1) := by decide +kernel
theorem dX12_laysBackward_76 : decode cX12_laysBackward 76 = .ok (.putfield 440, 3) := by decide +kernel
theorem dX12_laysBackward_79 : decode cX12_laysBackward 79 = .ok (.aload_n 0, 1) := by decide +kernel
theorem dX12_laysBackward_80 : decode cX12_laysBackward 80 = .ok (.iconst (-1), 1) := by decide +kernel
theorem dX12_laysBackward_81 : decode cX12_laysBackward 81 = .ok (.putfield 443, 3) := by decide +kernel
theorem dX12_laysBackward_84 : decode cX12_laysBackward 84 = .ok (.aload_n 0, 1) := by decide +kernel
theorem dX12_laysBackward_85 : decode cX12_laysBackward 85 = .ok (.iconst 0, 1) := by decide +kernel
theorem dX12_laysBackward_86 : decode cX12_laysBackward 86 = .ok (.putfield 434, 3) := by decide +kernel
theorem dX12_laysBackward_89 : decode cX12_laysBackward 89 = .ok (.iconst 2, 1) := by decide +kernel
theorem dX12_laysBackward_90 : decode cX12_laysBackward 90 = .ok (.istore_n 1, 1) := by decide +kernel
theorem dX12_laysBackward_91 : decode cX12_laysBackward 91 = .ok (.iload_n 1, 1) := by decide +kernel
theorem dX12_laysBackward_92 : decode cX12_laysBackward 92 = .ok (.ifCond .le 112, 3) := by decide +kernel
theorem dX12_laysBackward_95 : decode cX12_laysBackward 95 = .ok (.iconst 0, 1) := by decide +kernel
theorem dX12_laysBackward_96 : decode cX12_laysBackward 96 = .ok (.istore_n 2, 1) := by decide +kernel
theorem dX12_laysBackward_97 : decode cX12_laysBackward 97 = .ok (.iconst 0, 1) := by decide +kernel
theorem dX12_laysBackward_98 : decode cX12_laysBackward 98 = .ok (.istore_n 3, 1) := by decide +kernel
theorem dX12_laysBackward_99 : decode cX12_laysBackward 99 = .ok (.iload_n 3, 1) := by decide +kernel
theorem dX12_laysBackward_100 : decode cX12_laysBackward 100 = .ok (.aload_n 0, 1) := by decide +kernel
theorem dX12_laysBackward_101 : decode cX12_laysBackward 101 = .ok (.invokevirtual 146, 3) := by decide +kernel
theorem dX12_laysBackward_104 : decode cX12_laysBackward 104 = .ok (.if_icmp .ge 94, 3) := by decide +kernel
theorem dX12_laysBackward_107 : decode cX12_laysBackward 107 = .ok (.aload_n 0, 1) := by decide +kernel
theorem dX12_laysBackward_108 : decode cX12_laysBackward 108 = .ok (.getfield 87, 3) := by decide +kernel
theorem dX12_laysBackward_111 : decode cX12_laysBackward 111 = .ok (.iload_n 3, 1) := by decide +kernel
theorem dX12_laysBackward_112 : decode cX12_laysBackward 112 = .ok (.iaload, 1) := by decide +kernel
theorem dX12_laysBackward_113 : decode cX12_laysBackward 113 = .ok (.ifCond .gt 6, 3) := by decide +kernel
theorem dX12_laysBackward_116 : decode cX12_laysBackward 116 = .ok (.goto 76, 3) := by decide +kernel
theorem dX12_laysBackward_119 : decode cX12_laysBackward 119 = .ok (.aload_n 0, 1) := by decide +kernel
theorem dX12_laysBackward_120 : decode cX12_laysBackward 120 = .ok (.iload_n 3, 1) := by decide +kernel
theorem dX12_laysBackward_121 : decode cX12_laysBackward 121 = .ok (.iload_n 2, 1) := by decide +kernel
theorem dX12_laysBackward_122 : decode cX12_laysBackward 122 = .ok (.invokevirtual 384, 3) := by decide +kernel
theorem dX12_laysBackward_125 : decode cX12_laysBackward 125 = .ok (.istore 4, 2) := by decide +kernel
theorem dX12_laysBackward_127 : decode cX12_laysBackward 127 = .ok (.aload_n 0, 1) := by decide +kernel
theorem dX12_laysBackward_128 : decode cX12_laysBackward 128 = .ok (.iload_n 3, 1) := by decide +kernel
theorem dX12_laysBackward_129 : decode cX12_laysBackward 129 = .ok (.iload_n 2, 1) := by decide +kernel
theorem dX12_laysBackward_130 : decode cX12_laysBackward 130 = .ok (.invokevirtual 387, 3) := by decide +kernel
theorem dX12_laysBackward_133 : decode cX12_laysBackward 133 = .ok (.istore_n 2, 1) := by decide +kernel
theorem dX12_laysBackward_134 : decode cX12_laysBackward 134 = .ok (.aload_n 0, 1) := by decide +kernel
theorem dX12_laysBackward_135 : decode cX12_laysBackward 135 = .ok (.getfield 87, 3) := by decide +kernel
theorem dX12_laysBackward_138 : decode cX12_laysBackward 138 = .ok (.iload_n 3, 1) := by decide +kernel
theorem dX12_laysBackward_139 : decode cX12_laysBackward 139 = .ok (.iaload, 1) := by decide +kernel
theorem dX12_laysBackward_140 : decode cX12_laysBackward 140 = .ok (.iload_n 1, 1) := by decide +kernel
theorem dX12_laysBackward_141 : decode cX12_laysBackward 141 = .ok (.if_icmp .eq 6, 3) := by decide +kernel
theorem dX12_laysBackward_144 : decode cX12_laysBackward 144 = .ok (.goto 48, 3) := by decide +kernel
theorem dX12_laysBackward_147 : decode cX12_laysBackward 147 = .ok (.iload_n 1, 1) := by decide +kernel
theorem dX12_laysBackward_148 : decode cX12_laysBackward 148 = .ok (.iconst 2, 1) := by decide +kernel
theorem dX12_laysBackward_149 : decode cX12_laysBackward 149 = .ok (.if_icmp .ne 24, 3) := by decide +kernel
theorem dX12_laysBackward_152 : decode cX12_laysBackward 152 = .ok (.aload_n 0, 1) := by decide +kernel
theorem dX12_laysBackward_153 : decode cX12_laysBackward 153 = .ok (.iload_n 3, 1) := by decide +kernel
theorem dX12_laysBackward_154 : decode cX12_laysBackward 154 = .ok (.iconst 2, 1) := by decide +kernel
theorem dX12_laysBackward_155 : decode cX12_laysBackward 155 = .ok (.aload_n 0, 1) := by decide +kernel
theorem dX12_laysBackward_156 : decode cX12_laysBackward 156 = .ok (.getfield 81, 3) := by decide +kernel
theorem dX12_laysBackward_159 : decode cX12_laysBackward 159 = .ok (.iconst 4, 1) := by decide +kernel
theorem dX12_laysBackward_160 : decode cX12_laysBackward 160 = .ok (.iload_n 3, 1) := by decide +kernel
theorem dX12_laysBackward_161 : decode cX12_laysBackward 161 = .ok (.imul, 1) := by decide +kernel
theorem dX12_laysBackward_162 : decode cX12_laysBackward 162 = .ok (.iconst 2, 1) := by decide +kernel
theorem dX12_laysBackward_163 : decode cX12_laysBackward 163 = .ok (.iload 4, 2) := by decide +kernel
theorem dX12_laysBackward_165 : decode cX12_laysBackward 165 = .ok (.imul, 1) := by decide +kernel
theorem dX12_laysBackward_166 : decode cX12_laysBackward 166 = .ok (.iadd, 1) := by decide +kernel
theorem dX12_laysBackward_167 : decode cX12_laysBackward 167 = .ok (.iconst 1, 1) := by decide +kernel
theorem dX12_laysBackward_168 : decode cX12_laysBackward 168 = .ok (.iadd, 1) := by decide +kernel
theorem dX12_laysBackward_169 : decode cX12_laysBackward 169 = .ok (.iaload, 1) := by decide +kernel
theorem dX12_laysBackward_170 : decode cX12_laysBackward 170 = .ok (.invokevirtual 446, 3) := by decide +kernel
theorem dX12_laysBackward_173 : decode cX12_laysBackward 173 = .ok (.aload_n 0, 1) := by decide +kernel
theorem dX12_laysBackward_174 : decode cX12_laysBackward 174 = .ok (.iload_n 3, 1) := by decide +kernel
theorem dX12_laysBackward_175 : decode cX12_laysBackward 175 = .ok (.iconst 1, 1) := by decide +kernel
theorem dX12_laysBackward_176 : decode cX12_laysBackward 176 = .ok (.aload_n 0, 1) := by decide +kernel
theorem dX12_laysBackward_177 : decode cX12_laysBackward 177 = .ok (.getfield 81, 3) := by decide +kernel
theorem dX12_laysBackward_180 : decode cX12_laysBackward 180 = .ok (.iconst 4, 1) := by decide +kernel
theorem dX12_laysBackward_181 : decode cX12_laysBackward 181 = .ok (.iload_n 3, 1) := by decide +kernel
theorem dX12_laysBackward_182 : decode cX12_laysBackward 182 = .ok (.imul, 1) := by decide +kernel
theorem dX12_laysBackward_183 : decode cX12_laysBackward 183 = .ok (.iconst 2, 1) := by decide +kernel
theorem dX12_laysBackward_184 : decode cX12_laysBackward 184 = .ok (.iload 4, 2) := by decide +kernel
theorem dX12_laysBackward_186 : decode cX12_laysBackward 186 = .ok (.imul, 1) := by decide +kernel
theorem dX12_laysBackward_187 : decode cX12_laysBackward 187 = .ok (.iadd, 1) := by decide +kernel
theorem dX12_laysBackward_188 : decode cX12_laysBackward 188 = .ok (.iaload, 1) := by decide +kernel
theorem dX12_laysBackward_189 : decode cX12_laysBackward 189 = .ok (.invokevirtual 446, 3) := by decide +kernel
theorem dX12_laysBackward_192 : decode cX12_laysBackward 192 = .ok (.iinc 3 1, 3) := by decide +kernel
theorem dX12_laysBackward_195 : decode cX12_laysBackward 195 = .ok (.goto (-96), 3) := by decide +kernel
theorem dX12_laysBackward_198 : decode cX12_laysBackward 198 = .ok (.iinc 1 (-1), 3) := by decide +kernel
theorem dX12_laysBackward_201 : decode cX12_laysBackward 201 = .ok (.goto (-110), 3) := by decide +kernel
theorem dX12_laysBackward_204 : decode cX12_laysBackward 204 = .ok (.return_, 1) := by decide +kernel
abbrev YX12_laysBackward : zY := (yX12_laysBackward, cX12_laysBackward, 5, none, [])
def fX12_laysBackward_192 (F : zFs) (k_91 : Int → zDa → Option zDa) (k_99 : Int → Int → zDa → Option zDa) (o1 : Int) (v2 : Int) (v3 : Int) (D : zDa) : Option zDa :=
  if (-2147483648 ≤ v3 + 1 ∧ v3 + 1 ≤ 2147483647) then
    k_99 v2 (v3 + 1) D
  else none
def fX12_laysBackward_173 (F : zFs) (k_91 : Int → zDa → Option zDa) (k_99 : Int → Int → zDa → Option zDa) (o1 : Int) (v2 : Int) (v3 : Int) (v4 : Int) (D : zDa) : Option zDa :=
  if (-2147483648 ≤ 4 * v3 ∧ 4 * v3 ≤ 2147483647) ∧ (-2147483648 ≤ 2 * v4 ∧ 2 * v4 ≤ 2147483647) ∧ (-2147483648 ≤ (4 * v3) + (2 * v4) ∧ (4 * v3) + (2 * v4) ≤ 2147483647) ∧ (0 ≤ ((4 * v3) + (2 * v4)) ∧ ((4 * v3) + (2 * v4)) < 80) then
    (fX12_laysLesson F v3 1 (D 111 ((4 * v3) + (2 * v4)).toNat) D).bind (fun D_26 =>
      fX12_laysBackward_192 F k_91 k_99 o1 v2 v3 D_26)
  else none
def fX12_laysBackward_99 (F : zFs) (o1 : Int) (k_91 : Int → zDa → Option zDa) (k_99 : Int → Int → zDa → Option zDa) (v2 : Int) (v3 : Int) (D : zDa) : Option zDa :=
  (fX12_questions F D).bind (fun (r_17, D_18) =>
    if v3 < r_17 then
      if (0 ≤ v3 ∧ v3 < 20) then
        if 0 < (D_18 112 v3.toNat) then
          (fX12_helpedBy F v3 v2 D_18).bind (fun (r_19, D_20) =>
            (fX12_kingsWith F v3 v2 D_20).bind (fun (r_21, D_22) =>
              if (D_22 112 v3.toNat) = o1 then
                if o1 = 2 then
                  if (-2147483648 ≤ 4 * v3 ∧ 4 * v3 ≤ 2147483647) ∧ (-2147483648 ≤ 2 * r_19 ∧ 2 * r_19 ≤ 2147483647) ∧ (-2147483648 ≤ (4 * v3) + (2 * r_19) ∧ (4 * v3) + (2 * r_19) ≤ 2147483647) ∧ (-2147483648 ≤ ((4 * v3) + (2 * r_19)) + 1 ∧ ((4 * v3) + (2 * r_19)) + 1 ≤ 2147483647) ∧ (0 ≤ (((4 * v3) + (2 * r_19)) + 1) ∧ (((4 * v3) + (2 * r_19)) + 1) < 80) then
                    (fX12_laysLesson F v3 2 (D_22 111 (((4 * v3) + (2 * r_19)) + 1).toNat) D_22).bind (fun D_24 =>
                      fX12_laysBackward_173 F k_91 k_99 o1 r_21 v3 r_19 D_24)
                  else none
                else
                  fX12_laysBackward_173 F k_91 k_99 o1 r_21 v3 r_19 D_22
              else
                fX12_laysBackward_192 F k_91 k_99 o1 r_21 v3 D_22))
        else
          fX12_laysBackward_192 F k_91 k_99 o1 v2 v3 D_18
      else none
    else
      if (-2147483648 ≤ o1 + (-1) ∧ o1 + (-1) ≤ 2147483647) then
        k_91 (o1 + (-1)) D_18
      else none)
def fX12_laysBackward_91 (F : zFs)   (k_91 : Int → zDa → Option zDa) (v1 : Int) (D : zDa) : Option zDa :=
  if 0 < v1 then
    zfix (fun _ _ _ => none) (fX12_laysBackward_99 F v1 k_91) zfu 0 0 D
  else
    some D
def fX12_laysBackward_39 (F : zFs)   (k_39 : Int → zDa → Option zDa) (v1 : Int) (D : zDa) : Option zDa :=
  if v1 < 20 then
    (fX12_term F 6 D).bind (fun (r_8, D_9) =>
      if (0 ≤ v1 ∧ v1 < 20) then
        zlet (zwr D_9 118 v1.toNat r_8) (fun D_10 =>
          if (-2147483648 ≤ v1 + 1 ∧ v1 + 1 ≤ 2147483647) then
            k_39 (v1 + 1) D_10
          else none)
      else none)
  else
    (fX12_term F 5 D).bind (fun (r_11, D_12) =>
      if (-2147483648 ≤ r_11 - 1 ∧ r_11 - 1 ≤ 2147483647) then
        zlet (zwr D_12 91 48 (r_11 - 1)) (fun D_13 =>
          zlet (zwr D_13 91 49 0) (fun D_14 =>
            zlet (zwr D_14 91 50 (-1)) (fun D_15 =>
              zlet (zwr D_15 91 51 0) (fun D_16 =>
                zfix (fun _ _ => none) (fX12_laysBackward_91 F) zfu 2 D_16))))
      else none)
def fX12_laysBackward_18 (F : zFs)   (k_18 : Int → zDa → Option zDa) (v1 : Int) (D : zDa) : Option zDa :=
  if v1 < 40 then
    if (0 ≤ v1 ∧ v1 < 40) then
      zlet (zwr D 117 v1.toNat (-1)) (fun D_7 =>
        if (-2147483648 ≤ v1 + 1 ∧ v1 + 1 ≤ 2147483647) then
          k_18 (v1 + 1) D_7
        else none)
    else none
  else
    zfix (fun _ _ => none) (fX12_laysBackward_39 F) zfu 0 D
def fX12_laysBackward (F : zFs)  (D : zDa) : Option zDa :=
  (fX12_term F 5 D).bind (fun (r_1, D_2) =>
    (fX12_term F 6 D_2).bind (fun (r_3, D_4) =>
      if (-2147483648 ≤ r_1 * r_3 ∧ r_1 * r_3 ≤ 2147483647) then
        (fX12_firsts F (r_1 * r_3) D_4).bind (fun D_6 =>
          zfix (fun _ _ => none) (fX12_laysBackward_18 F) zfu 0 D_6)
      else none))
set_option maxHeartbeats 20000000 in
theorem sX12_laysBackward_192 {l : Launch} {E : zE} {d : Nat} {F : zFs} {n sl : Nat} (hG : zG F)  (o1 : Int) (v2 : Int) (v3 : Int) (k_91 : Int → zDa → Option zDa) (k_99 : Int → Int → zDa → Option zDa) (hk_91 : ∀ (u1 : Int) (D : zDa), zO l E (d + 92) YX12_laysBackward 91 [(0, zR 91), (1, zI u1)] [] (F, D, n, sl) (zcV F n sl) (k_91 u1 D)) (hk_99 : ∀ (u2 : Int) (u3 : Int) (D : zDa), zO l E (d + 92) YX12_laysBackward 99 [(0, zR 91), (1, zI o1), (2, zI u2), (3, zI u3)] [] (F, D, n, sl) (zcV F n sl) (k_99 u2 u3 D)) (D : zDa) : zO l E (d + 92) YX12_laysBackward 192 [(0, zR 91), (1, zI o1), (2, zI v2), (3, zI v3)] [] (F, D, n, sl) (zcV F n sl) (fX12_laysBackward_192 F k_91 k_99 o1 v2 v3 D) := by
  unfold fX12_laysBackward_192
  refine zO_chk (fun h10 => ?_)
  refine zO_iinc dX12_laysBackward_192 rfl h10 (by decide) ?_
  refine zO_ls (ls' := [(0, zR 91), (1, zI o1), (2, zI v2), (3, zI (v3 + 1))]) rfl ?_
  refine zO_goto (tgt := 99) dX12_laysBackward_195 rfl ?_
  refine zO_live [0, 1, 2, 3] ?_
  exact hk_99 v2 (v3 + 1) D
set_option maxHeartbeats 20000000 in
theorem sX12_laysBackward_173 {l : Launch} {E : zE} {d : Nat} {F : zFs} {n sl : Nat} (hG : zG F)  (o1 : Int) (v2 : Int) (v3 : Int) (v4 : Int) (k_91 : Int → zDa → Option zDa) (k_99 : Int → Int → zDa → Option zDa) (hk_91 : ∀ (u1 : Int) (D : zDa), zO l E (d + 92) YX12_laysBackward 91 [(0, zR 91), (1, zI u1)] [] (F, D, n, sl) (zcV F n sl) (k_91 u1 D)) (hk_99 : ∀ (u2 : Int) (u3 : Int) (D : zDa), zO l E (d + 92) YX12_laysBackward 99 [(0, zR 91), (1, zI o1), (2, zI u2), (3, zI u3)] [] (F, D, n, sl) (zcV F n sl) (k_99 u2 u3 D)) (D : zDa) : zO l E (d + 92) YX12_laysBackward 173 [(0, zR 91), (1, zI o1), (2, zI v2), (3, zI v3), (4, zI v4)] [] (F, D, n, sl) (zcV F n sl) (fX12_laysBackward_173 F k_91 k_99 o1 v2 v3 v4 D) := by
  unfold fX12_laysBackward_173
  refine zO_chk (fun h9 => ?_)
  refine zO_aload_n dX12_laysBackward_173 rfl (zR_P _) ?_
  refine zO_iload_n dX12_laysBackward_174 rfl ?_
  refine zO_iconst dX12_laysBackward_175 (by decide) ?_
  refine zO_aload_n dX12_laysBackward_176 rfl (zR_P _) ?_
  refine gt12 (k := 33) dX12_laysBackward_177 wF_X12_81 (by decide) (gk_91 hG) (zgv (c := 12) (k := 33) rfl (Or.inl ⟨_, rfl⟩) (gf_91_33 hG)) ?_
  refine zO_iconst dX12_laysBackward_180 (by decide) ?_
  refine zO_iload_n dX12_laysBackward_181 rfl ?_
  refine zO_imul dX12_laysBackward_182 h9.1 ?_
  refine zO_iconst dX12_laysBackward_183 (by decide) ?_
  refine zO_iload dX12_laysBackward_184 rfl ?_
  refine zO_imul dX12_laysBackward_186 h9.2.1 ?_
  refine zO_iadd dX12_laysBackward_187 h9.2.2.1 ?_
  refine zO_iald dX12_laysBackward_188 (gk_111 hG) (gl_in (gl_111 hG) h9.2.2.2) ?_
  refine zO_callV (Y' := YX12_laysLesson) (cw := zcV F n sl) (as := [zI v3, zI 1, zI (D 111 ((4 * v3) + (2 * v4)).toNat)]) (rest := []) (na := 3) (ci := 12) rfl dX12_laysBackward_189 wC_X12_laysLesson wN_X12 wM_X12_446 wI_X12_laysLesson wV_X12_laysLesson (by decide) (by decide) rfl rfl (Nat.le_of_ble_eq_true rfl) rfl (by decide) (gk_91 hG) (fun r hr => zMet_cast (Nat.add_assoc d 91 0) (mX12_laysLesson (d := d + 91) hG v3 1 (D 111 ((4 * v3) + (2 * v4)).toNat) r hr)) ?_
  intro D_26 _
  show zO _ _ _ _ _ _ [] (F, D_26, n, sl) _ _
  refine zO_live [0, 1, 2, 3] ?_
  exact sX12_laysBackward_192 hG o1 v2 v3 _ _ hk_91 hk_99 D_26
set_option maxHeartbeats 20000000 in
theorem sX12_laysBackward_99 {l : Launch} {E : zE} {d : Nat} {F : zFs} {n sl : Nat} (hG : zG F)  (o1 : Int) (k_91 : Int → zDa → Option zDa) (hk_91 : ∀ (u1 : Int) (D : zDa), zO l E (d + 92) YX12_laysBackward 91 [(0, zR 91), (1, zI u1)] [] (F, D, n, sl) (zcV F n sl) (k_91 u1 D)) : ∀ (N : Nat) (v2 : Int) (v3 : Int) (D : zDa), zO l E (d + 92) YX12_laysBackward 99 [(0, zR 91), (1, zI o1), (2, zI v2), (3, zI v3)] [] (F, D, n, sl) (zcV F n sl) (zfix (fun _ _ _ => none) (fX12_laysBackward_99 F o1 k_91) N v2 v3 D) := by
  intro N
  induction N with
  | zero => intro v2 v3 D; exact zO_none
  | succ N hk_99 =>
    intro v2 v3 D
    show zO _ _ _ _ _ _ _ _ _ ((fX12_laysBackward_99 F o1 k_91) (zfix (fun _ _ _ => none) (fX12_laysBackward_99 F o1 k_91) N) v2 v3 D)
    unfold fX12_laysBackward_99
    refine zO_iload_n dX12_laysBackward_99 rfl ?_
    refine zO_aload_n dX12_laysBackward_100 rfl (zR_P _) ?_
    refine zO_callV (Y' := YX12_questions) (cw := zcI F n sl) (as := []) (rest := [zI v3]) (na := 0) (ci := 12) rfl dX12_laysBackward_101 wC_X12_questions wN_X12 wM_X12_146 wI_X12_questions wV_X12_questions (by decide) (by decide) rfl rfl (Nat.le_of_ble_eq_true rfl) rfl (by decide) (gk_91 hG) (fun r hr => zMet_cast (Nat.add_assoc d 91 0) (mX12_questions (d := d + 91) hG  r hr)) ?_
    rintro ⟨r_17, D_18⟩ -
    show zO _ _ _ _ _ _ [zI r_17, zI v3] (F, D_18, n, sl) _ _
    refine zO_icmp_ge (tgt := 198) dX12_laysBackward_104 rfl (fun c104 => ?_) (fun c104 => ?_)
    · refine zO_chk (fun h7 => ?_)
      refine zO_aload_n dX12_laysBackward_107 rfl (zR_P _) ?_
      refine gt12 (k := 38) dX12_laysBackward_108 wF_X12_87 (by decide) (gk_91 hG) (zgv (c := 12) (k := 38) rfl (Or.inl ⟨_, rfl⟩) (gf_91_38 hG)) ?_
      refine zO_iload_n dX12_laysBackward_111 rfl ?_
      refine zO_iald dX12_laysBackward_112 (gk_112 hG) (gl_in (gl_112 hG) h7) ?_
      refine zO_if_gt (tgt := 119) dX12_laysBackward_113 rfl (fun c113 => ?_) (fun c113 => ?_)
      · refine zO_aload_n dX12_laysBackward_119 rfl (zR_P _) ?_
        refine zO_iload_n dX12_laysBackward_120 rfl ?_
        refine zO_iload_n dX12_laysBackward_121 rfl ?_
        refine zO_callV (Y' := YX12_helpedBy) (cw := zcI F n sl) (as := [zI v3, zI v2]) (rest := []) (na := 2) (ci := 12) rfl dX12_laysBackward_122 wC_X12_helpedBy wN_X12 wM_X12_384 wI_X12_helpedBy wV_X12_helpedBy (by decide) (by decide) rfl rfl (Nat.le_of_ble_eq_true rfl) rfl (by decide) (gk_91 hG) (fun r hr => zMet_cast (Nat.add_assoc d 90 1) (mX12_helpedBy (d := d + 90) hG v3 v2 r hr)) ?_
        rintro ⟨r_19, D_20⟩ -
        show zO _ _ _ _ _ _ [zI r_19] (F, D_20, n, sl) _ _
        refine zO_istore dX12_laysBackward_125 (by decide) ?_
        refine zO_ls (ls' := [(0, zR 91), (1, zI o1), (2, zI v2), (3, zI v3), (4, zI r_19)]) rfl ?_
        refine zO_aload_n dX12_laysBackward_127 rfl (zR_P _) ?_
        refine zO_iload_n dX12_laysBackward_128 rfl ?_
        refine zO_iload_n dX12_laysBackward_129 rfl ?_
        refine zO_callV (Y' := YX12_kingsWith) (cw := zcI F n sl) (as := [zI v3, zI v2]) (rest := []) (na := 2) (ci := 12) rfl dX12_laysBackward_130 wC_X12_kingsWith wN_X12 wM_X12_387 wI_X12_kingsWith wV_X12_kingsWith (by decide) (by decide) rfl rfl (Nat.le_of_ble_eq_true rfl) rfl (by decide) (gk_91 hG) (fun r hr => zMet_cast (Nat.add_assoc d 90 1) (mX12_kingsWith (d := d + 90) hG v3 v2 r hr)) ?_
        rintro ⟨r_21, D_22⟩ -
        show zO _ _ _ _ _ _ [zI r_21] (F, D_22, n, sl) _ _
        refine zO_istore_n dX12_laysBackward_133 (by decide) ?_
        refine zO_ls (ls' := [(0, zR 91), (1, zI o1), (2, zI r_21), (3, zI v3), (4, zI r_19)]) rfl ?_
        refine zO_aload_n dX12_laysBackward_134 rfl (zR_P _) ?_
        refine gt12 (k := 38) dX12_laysBackward_135 wF_X12_87 (by decide) (gk_91 hG) (zgv (c := 12) (k := 38) rfl (Or.inl ⟨_, rfl⟩) (gf_91_38 hG)) ?_
        refine zO_iload_n dX12_laysBackward_138 rfl ?_
        refine zO_iald dX12_laysBackward_139 (gk_112 hG) (gl_in (gl_112 hG) h7) ?_
        refine zO_iload_n dX12_laysBackward_140 rfl ?_
        refine zO_icmp_eq (tgt := 147) dX12_laysBackward_141 rfl (fun c141 => ?_) (fun c141 => ?_)
        · refine zO_iload_n dX12_laysBackward_147 rfl ?_
          refine zO_iconst dX12_laysBackward_148 (by decide) ?_
          refine zO_icmp_ne (tgt := 173) dX12_laysBackward_149 rfl (fun c149 => ?_) (fun c149 => ?_)
          · refine zO_chk (fun h8 => ?_)
            refine zO_aload_n dX12_laysBackward_152 rfl (zR_P _) ?_
            refine zO_iload_n dX12_laysBackward_153 rfl ?_
            refine zO_iconst dX12_laysBackward_154 (by decide) ?_
            refine zO_aload_n dX12_laysBackward_155 rfl (zR_P _) ?_
            refine gt12 (k := 33) dX12_laysBackward_156 wF_X12_81 (by decide) (gk_91 hG) (zgv (c := 12) (k := 33) rfl (Or.inl ⟨_, rfl⟩) (gf_91_33 hG)) ?_
            refine zO_iconst dX12_laysBackward_159 (by decide) ?_
            refine zO_iload_n dX12_laysBackward_160 rfl ?_
            refine zO_imul dX12_laysBackward_161 h8.1 ?_
            refine zO_iconst dX12_laysBackward_162 (by decide) ?_
            refine zO_iload dX12_laysBackward_163 rfl ?_
            refine zO_imul dX12_laysBackward_165 h8.2.1 ?_
            refine zO_iadd dX12_laysBackward_166 h8.2.2.1 ?_
            refine zO_iconst dX12_laysBackward_167 (by decide) ?_
            refine zO_iadd dX12_laysBackward_168 h8.2.2.2.1 ?_
            refine zO_iald dX12_laysBackward_169 (gk_111 hG) (gl_in (gl_111 hG) h8.2.2.2.2) ?_
            refine zO_callV (Y' := YX12_laysLesson) (cw := zcV F n sl) (as := [zI v3, zI 2, zI (D_22 111 (((4 * v3) + (2 * r_19)) + 1).toNat)]) (rest := []) (na := 3) (ci := 12) rfl dX12_laysBackward_170 wC_X12_laysLesson wN_X12 wM_X12_446 wI_X12_laysLesson wV_X12_laysLesson (by decide) (by decide) rfl rfl (Nat.le_of_ble_eq_true rfl) rfl (by decide) (gk_91 hG) (fun r hr => zMet_cast (Nat.add_assoc d 91 0) (mX12_laysLesson (d := d + 91) hG v3 2 (D_22 111 (((4 * v3) + (2 * r_19)) + 1).toNat) r hr)) ?_
            intro D_24 _
            show zO _ _ _ _ _ _ [] (F, D_24, n, sl) _ _
            refine zO_live [0, 1, 2, 3, 4] ?_
            exact sX12_laysBackward_173 hG o1 r_21 v3 r_19 _ _ hk_91 hk_99 D_24
          · refine zO_live [0, 1, 2, 3, 4] ?_
            exact sX12_laysBackward_173 hG o1 r_21 v3 r_19 _ _ hk_91 hk_99 D_22
        · refine zO_goto (tgt := 192) dX12_laysBackward_144 rfl ?_
          refine zO_live [0, 1, 2, 3] ?_
          exact sX12_laysBackward_192 hG o1 r_21 v3 _ _ hk_91 hk_99 D_22
      · refine zO_goto (tgt := 192) dX12_laysBackward_116 rfl ?_
        refine zO_live [0, 1, 2, 3] ?_
        exact sX12_laysBackward_192 hG o1 v2 v3 _ _ hk_91 hk_99 D_18
    · refine zO_chk (fun h11 => ?_)
      refine zO_iinc dX12_laysBackward_198 rfl h11 (by decide) ?_
      refine zO_ls (ls' := [(0, zR 91), (1, zI (o1 + (-1))), (2, zI v2), (3, zI v3)]) rfl ?_
      refine zO_goto (tgt := 91) dX12_laysBackward_201 rfl ?_
      refine zO_live [0, 1] ?_
      exact hk_91 (o1 + (-1)) D_18
set_option maxHeartbeats 20000000 in
theorem sX12_laysBackward_91 {l : Launch} {E : zE} {d : Nat} {F : zFs} {n sl : Nat} (hG : zG F)     : ∀ (N : Nat) (v1 : Int) (D : zDa), zO l E (d + 92) YX12_laysBackward 91 [(0, zR 91), (1, zI v1)] [] (F, D, n, sl) (zcV F n sl) (zfix (fun _ _ => none) (fX12_laysBackward_91 F) N v1 D) := by
  intro N
  induction N with
  | zero => intro v1 D; exact zO_none
  | succ N hk_91 =>
    intro v1 D
    show zO _ _ _ _ _ _ _ _ _ ((fX12_laysBackward_91 F) (zfix (fun _ _ => none) (fX12_laysBackward_91 F) N) v1 D)
    unfold fX12_laysBackward_91
    refine zO_iload_n dX12_laysBackward_91 rfl ?_
    refine zO_if_le (tgt := 204) dX12_laysBackward_92 rfl (fun c92 => ?_) (fun c92 => ?_)
    · refine zO_iconst dX12_laysBackward_95 (by decide) ?_
      refine zO_istore_n dX12_laysBackward_96 (by decide) ?_
      refine zO_ls (ls' := [(0, zR 91), (1, zI v1), (2, zI 0)]) rfl ?_
      refine zO_iconst dX12_laysBackward_97 (by decide) ?_
      refine zO_istore_n dX12_laysBackward_98 (by decide) ?_
      refine zO_ls (ls' := [(0, zR 91), (1, zI v1), (2, zI 0), (3, zI 0)]) rfl ?_
      refine zO_live [0, 1, 2, 3] ?_
      exact sX12_laysBackward_99 hG v1 _ hk_91 zfu 0 0 D
    · exact zO_ret (rv := none) dX12_laysBackward_204 rfl trivial rfl
set_option maxHeartbeats 20000000 in
theorem sX12_laysBackward_39 {l : Launch} {E : zE} {d : Nat} {F : zFs} {n sl : Nat} (hG : zG F)     : ∀ (N : Nat) (v1 : Int) (D : zDa), zO l E (d + 92) YX12_laysBackward 39 [(0, zR 91), (1, zI v1)] [] (F, D, n, sl) (zcV F n sl) (zfix (fun _ _ => none) (fX12_laysBackward_39 F) N v1 D) := by
  intro N
  induction N with
  | zero => intro v1 D; exact zO_none
  | succ N hk_39 =>
    intro v1 D
    show zO _ _ _ _ _ _ _ _ _ ((fX12_laysBackward_39 F) (zfix (fun _ _ => none) (fX12_laysBackward_39 F) N) v1 D)
    unfold fX12_laysBackward_39
    refine zO_iload_n dX12_laysBackward_39 rfl ?_
    refine zO_bipush dX12_laysBackward_40 (by decide) ?_
    refine zO_icmp_ge (tgt := 63) dX12_laysBackward_42 rfl (fun c42 => ?_) (fun c42 => ?_)
    · refine zO_aload_n dX12_laysBackward_45 rfl (zR_P _) ?_
      refine gt12 (k := 47) dX12_laysBackward_46 wF_X12_105 (by decide) (gk_91 hG) (zgv (c := 12) (k := 47) rfl (Or.inl ⟨_, rfl⟩) (gf_91_47 hG)) ?_
      refine zO_iload_n dX12_laysBackward_49 rfl ?_
      refine zO_aload_n dX12_laysBackward_50 rfl (zR_P _) ?_
      refine zO_bipush dX12_laysBackward_51 (by decide) ?_
      refine zO_callV (Y' := YX12_term) (cw := zcI F n sl) (as := [zI 6]) (rest := [zI v1, zR 118]) (na := 1) (ci := 12) rfl dX12_laysBackward_53 wC_X12_term wN_X12 wM_X12_318 wI_X12_term wV_X12_term (by decide) (by decide) rfl rfl (Nat.le_of_ble_eq_true rfl) rfl (by decide) (gk_91 hG) (fun r hr => zMet_cast (Nat.add_assoc d 91 0) (mX12_term (d := d + 91) hG 6 r hr)) ?_
      rintro ⟨r_8, D_9⟩ -
      show zO _ _ _ _ _ _ [zI r_8, zI v1, zR 118] (F, D_9, n, sl) _ _
      refine zO_chk (fun h4 => ?_)
      refine zO_iast dX12_laysBackward_56 (gk_118 hG) (gl_in (gl_118 hG) h4) ?_
      refine zO_letD (fun D_10 eD_10 => ?_)
      refine zO_chk (fun h5 => ?_)
      refine zO_iinc dX12_laysBackward_57 rfl h5 (by decide) ?_
      refine zO_ls (ls' := [(0, zR 91), (1, zI (v1 + 1))]) rfl ?_
      refine zO_goto (tgt := 39) dX12_laysBackward_60 rfl ?_
      refine zO_live [0, 1] ?_
      exact hk_39 (v1 + 1) D_10
    · refine zO_aload_n dX12_laysBackward_63 rfl (zR_P _) ?_
      refine zO_aload_n dX12_laysBackward_64 rfl (zR_P _) ?_
      refine zO_iconst dX12_laysBackward_65 (by decide) ?_
      refine zO_callV (Y' := YX12_term) (cw := zcI F n sl) (as := [zI 5]) (rest := [zR 91]) (na := 1) (ci := 12) rfl dX12_laysBackward_66 wC_X12_term wN_X12 wM_X12_318 wI_X12_term wV_X12_term (by decide) (by decide) rfl rfl (Nat.le_of_ble_eq_true rfl) rfl (by decide) (gk_91 hG) (fun r hr => zMet_cast (Nat.add_assoc d 91 0) (mX12_term (d := d + 91) hG 5 r hr)) ?_
      rintro ⟨r_11, D_12⟩ -
      show zO _ _ _ _ _ _ [zI r_11, zR 91] (F, D_12, n, sl) _ _
      refine zO_chk (fun h6 => ?_)
      refine zO_iconst dX12_laysBackward_69 (by decide) ?_
      refine zO_isub dX12_laysBackward_70 h6 ?_
      refine ptI12 (k := 48) (z := (r_11 - 1)) dX12_laysBackward_71 wF_X12_437 (by decide) rfl (gk_91 hG) rfl ?_
      refine zO_letD (fun D_13 eD_13 => ?_)
      refine zO_aload_n dX12_laysBackward_74 rfl (zR_P _) ?_
      refine zO_iconst dX12_laysBackward_75 (by decide) ?_
      refine ptI12 (k := 49) (z := 0) dX12_laysBackward_76 wF_X12_440 (by decide) rfl (gk_91 hG) rfl ?_
      refine zO_letD (fun D_14 eD_14 => ?_)
      refine zO_aload_n dX12_laysBackward_79 rfl (zR_P _) ?_
      refine zO_iconst dX12_laysBackward_80 (by decide) ?_
      refine ptI12 (k := 50) (z := (-1)) dX12_laysBackward_81 wF_X12_443 (by decide) rfl (gk_91 hG) rfl ?_
      refine zO_letD (fun D_15 eD_15 => ?_)
      refine zO_aload_n dX12_laysBackward_84 rfl (zR_P _) ?_
      refine zO_iconst dX12_laysBackward_85 (by decide) ?_
      refine pt12 (k := 51) (z := 0) dX12_laysBackward_86 wF_X12_434 (by decide) rfl (gk_91 hG) rfl (Or.inl rfl) ?_
      refine zO_letD (fun D_16 eD_16 => ?_)
      refine zO_iconst dX12_laysBackward_89 (by decide) ?_
      refine zO_istore_n dX12_laysBackward_90 (by decide) ?_
      refine zO_ls (ls' := [(0, zR 91), (1, zI 2)]) rfl ?_
      refine zO_live [0, 1] ?_
      exact sX12_laysBackward_91 hG zfu 2 D_16
set_option maxHeartbeats 20000000 in
theorem sX12_laysBackward_18 {l : Launch} {E : zE} {d : Nat} {F : zFs} {n sl : Nat} (hG : zG F)     : ∀ (N : Nat) (v1 : Int) (D : zDa), zO l E (d + 92) YX12_laysBackward 18 [(0, zR 91), (1, zI v1)] [] (F, D, n, sl) (zcV F n sl) (zfix (fun _ _ => none) (fX12_laysBackward_18 F) N v1 D) := by
  intro N
  induction N with
  | zero => intro v1 D; exact zO_none
  | succ N hk_18 =>
    intro v1 D
    show zO _ _ _ _ _ _ _ _ _ ((fX12_laysBackward_18 F) (zfix (fun _ _ => none) (fX12_laysBackward_18 F) N) v1 D)
    unfold fX12_laysBackward_18
    refine zO_iload_n dX12_laysBackward_18 rfl ?_
    refine zO_bipush dX12_laysBackward_19 (by decide) ?_
    refine zO_icmp_ge (tgt := 37) dX12_laysBackward_21 rfl (fun c21 => ?_) (fun c21 => ?_)
    · refine zO_chk (fun h2 => ?_)
      refine zO_aload_n dX12_laysBackward_24 rfl (zR_P _) ?_
      refine gt12 (k := 46) dX12_laysBackward_25 wF_X12_102 (by decide) (gk_91 hG) (zgv (c := 12) (k := 46) rfl (Or.inl ⟨_, rfl⟩) (gf_91_46 hG)) ?_
      refine zO_iload_n dX12_laysBackward_28 rfl ?_
      refine zO_iconst dX12_laysBackward_29 (by decide) ?_
      refine zO_iast dX12_laysBackward_30 (gk_117 hG) (gl_in (gl_117 hG) h2) ?_
      refine zO_letD (fun D_7 eD_7 => ?_)
      refine zO_chk (fun h3 => ?_)
      refine zO_iinc dX12_laysBackward_31 rfl h3 (by decide) ?_
      refine zO_ls (ls' := [(0, zR 91), (1, zI (v1 + 1))]) rfl ?_
      refine zO_goto (tgt := 18) dX12_laysBackward_34 rfl ?_
      refine zO_live [0, 1] ?_
      exact hk_18 (v1 + 1) D_7
    · refine zO_iconst dX12_laysBackward_37 (by decide) ?_
      refine zO_istore_n dX12_laysBackward_38 (by decide) ?_
      refine zO_ls (ls' := [(0, zR 91), (1, zI 0)]) rfl ?_
      refine zO_live [0, 1] ?_
      exact sX12_laysBackward_39 hG zfu 0 D
set_option maxHeartbeats 20000000 in
theorem mX12_laysBackward {l : Launch} {E : zE} {d : Nat} {F : zFs} {n sl : Nat} (hG : zG F)  {D : zDa} : ∀ r, fX12_laysBackward F   D = some r → zMet l E (d + 92) YX12_laysBackward [zR 91] (F, D, n, sl) (zcV F n sl r) := by
  intro r hr
  refine zMet_of (plainFor_of_name (by decide)) (fun _ h => (nomatch h)) (Nat.le_of_ble_eq_true rfl) ?_
  have hz : zO l E (d + 92) YX12_laysBackward 0 [(0, zR 91)] [] (F, D, n, sl) (zcV F n sl) (fX12_laysBackward F   D) := by
    unfold fX12_laysBackward
    refine zO_aload_n dX12_laysBackward_0 rfl (zR_P _) ?_
    refine zO_aload_n dX12_laysBackward_1 rfl (zR_P _) ?_
    refine zO_iconst dX12_laysBackward_2 (by decide) ?_
    refine zO_callV (Y' := YX12_term) (cw := zcI F n sl) (as := [zI 5]) (rest := [zR 91]) (na := 1) (ci := 12) rfl dX12_laysBackward_3 wC_X12_term wN_X12 wM_X12_318 wI_X12_term wV_X12_term (by decide) (by decide) rfl rfl (Nat.le_of_ble_eq_true rfl) rfl (by decide) (gk_91 hG) (fun r hr => zMet_cast (Nat.add_assoc d 91 0) (mX12_term (d := d + 91) hG 5 r hr)) ?_
    rintro ⟨r_1, D_2⟩ -
    show zO _ _ _ _ _ _ [zI r_1, zR 91] (F, D_2, n, sl) _ _
    refine zO_aload_n dX12_laysBackward_6 rfl (zR_P _) ?_
    refine zO_bipush dX12_laysBackward_7 (by decide) ?_
    refine zO_callV (Y' := YX12_term) (cw := zcI F n sl) (as := [zI 6]) (rest := [zI r_1, zR 91]) (na := 1) (ci := 12) rfl dX12_laysBackward_9 wC_X12_term wN_X12 wM_X12_318 wI_X12_term wV_X12_term (by decide) (by decide) rfl rfl (Nat.le_of_ble_eq_true rfl) rfl (by decide) (gk_91 hG) (fun r hr => zMet_cast (Nat.add_assoc d 91 0) (mX12_term (d := d + 91) hG 6 r hr)) ?_
    rintro ⟨r_3, D_4⟩ -
    show zO _ _ _ _ _ _ [zI r_3, zI r_1, zR 91] (F, D_4, n, sl) _ _
    refine zO_chk (fun h1 => ?_)
    refine zO_imul dX12_laysBackward_12 h1 ?_
    refine zO_callV (Y' := YX12_firsts) (cw := zcV F n sl) (as := [zI (r_1 * r_3)]) (rest := []) (na := 1) (ci := 12) rfl dX12_laysBackward_13 wC_X12_firsts wN_X12 wM_X12_413 wI_X12_firsts wV_X12_firsts (by decide) (by decide) rfl rfl (Nat.le_of_ble_eq_true rfl) rfl (by decide) (gk_91 hG) (fun r hr => zMet_cast (Nat.add_assoc d 0 91) (mX12_firsts (d := d + 0) hG (r_1 * r_3) r hr)) ?_
    intro D_6 _
    show zO _ _ _ _ _ _ [] (F, D_6, n, sl) _ _
    refine zO_iconst dX12_laysBackward_16 (by decide) ?_
    refine zO_istore_n dX12_laysBackward_17 (by decide) ?_
    refine zO_ls (ls' := [(0, zR 91), (1, zI 0)]) rfl ?_
    refine zO_live [0, 1] ?_
    exact sX12_laysBackward_18 hG zfu 0 D_6
  exact hz r hr
theorem dX12_backward_0 : decode cX12_backward 0 = .ok (.iload_n 1, 1) := by decide +kernel
theorem dX12_backward_1 : decode cX12_backward 1 = .ok (.iconst (-1), 1) := by decide +kernel
theorem dX12_backward_2 : decode cX12_backward 2 = .ok (.if_icmp .eq 11, 3) := by decide +kernel
theorem dX12_backward_5 : decode cX12_backward 5 = .ok (.aload_n 0, 1) := by decide +kernel
theorem dX12_backward_6 : decode cX12_backward 6 = .ok (.iload_n 1, 1) := by decide +kernel
theorem dX12_backward_7 : decode cX12_backward 7 = .ok (.invokevirtual 158, 3) := by decide +kernel
theorem dX12_backward_10 : decode cX12_backward 10 = .ok (.ifCond .eq 12, 3) := by decide +kernel
theorem dX12_backward_13 : decode cX12_backward 13 = .ok (.iload_n 2, 1) := by decide +kernel
theorem dX12_backward_14 : decode cX12_backward 14 = .ok (.iconst 1, 1) := by decide +kernel
theorem dX12_backward_15 : decode cX12_backward 15 = .ok (.iconst 2, 1) := by decide +kernel
theorem dX12_backward_16 : decode cX12_backward 16 = .ok (.invokestatic 135, 3) := by decide +kernel
theorem dX12_backward_19 : decode cX12_backward 19 = .ok (.ifCond .ne 5, 3) := by decide +kernel
theorem dX12_backward_22 : decode cX12_backward 22 = .ok (.iconst (-1), 1) := by decide +kernel
theorem dX12_backward_23 : decode cX12_backward 23 = .ok (.ireturn, 1) := by decide +kernel
theorem dX12_backward_24 : decode cX12_backward 24 = .ok (.aload_n 0, 1) := by decide +kernel
theorem dX12_backward_25 : decode cX12_backward 25 = .ok (.invokevirtual 450, 3) := by decide +kernel
theorem dX12_backward_28 : decode cX12_backward 28 = .ok (.iload_n 1, 1) := by decide +kernel
theorem dX12_backward_29 : decode cX12_backward 29 = .ok (.iconst (-1), 1) := by decide +kernel
theorem dX12_backward_30 : decode cX12_backward 30 = .ok (.if_icmp .eq 18, 3) := by decide +kernel
theorem dX12_backward_33 : decode cX12_backward 33 = .ok (.aload_n 0, 1) := by decide +kernel
theorem dX12_backward_34 : decode cX12_backward 34 = .ok (.getfield 102, 3) := by decide +kernel
theorem dX12_backward_37 : decode cX12_backward 37 = .ok (.iconst 2, 1) := by decide +kernel
theorem dX12_backward_38 : decode cX12_backward 38 = .ok (.iload_n 1, 1) := by decide +kernel
theorem dX12_backward_39 : decode cX12_backward 39 = .ok (.imul, 1) := by decide +kernel
theorem dX12_backward_40 : decode cX12_backward 40 = .ok (.iload_n 2, 1) := by decide +kernel
theorem dX12_backward_41 : decode cX12_backward 41 = .ok (.iadd, 1) := by decide +kernel
theorem dX12_backward_42 : decode cX12_backward 42 = .ok (.iconst 1, 1) := by decide +kernel
theorem dX12_backward_43 : decode cX12_backward 43 = .ok (.isub, 1) := by decide +kernel
theorem dX12_backward_44 : decode cX12_backward 44 = .ok (.iaload, 1) := by decide +kernel
theorem dX12_backward_45 : decode cX12_backward 45 = .ok (.goto 19, 3) := by decide +kernel
theorem dX12_backward_48 : decode cX12_backward 48 = .ok (.iload_n 2, 1) := by decide +kernel
theorem dX12_backward_49 : decode cX12_backward 49 = .ok (.iconst 1, 1) := by decide +kernel
theorem dX12_backward_50 : decode cX12_backward 50 = .ok (.if_icmp .ne 10, 3) := by decide +kernel
theorem dX12_backward_53 : decode cX12_backward 53 = .ok (.aload_n 0, 1) := by decide +kernel
theorem dX12_backward_54 : decode cX12_backward 54 = .ok (.getfield 440, 3) := by decide +kernel
theorem dX12_backward_57 : decode cX12_backward 57 = .ok (.goto 7, 3) := by decide +kernel
theorem dX12_backward_60 : decode cX12_backward 60 = .ok (.aload_n 0, 1) := by decide +kernel
theorem dX12_backward_61 : decode cX12_backward 61 = .ok (.getfield 443, 3) := by decide +kernel
theorem dX12_backward_64 : decode cX12_backward 64 = .ok (.ireturn, 1) := by decide +kernel
abbrev YX12_backward : zY := (yX12_backward, cX12_backward, 3, (Option.some Jvm.ClassFile.FieldType.int), [])
def fX12_backward_13 (F : zFs)  (v1 : Int) (v2 : Int) (D : zDa) : Option (Int × zDa) :=
  (fX12_lies F v2 1 2 D).bind (fun (r_1, D_2) =>
    if r_1 = 0 then
      some ((-1), D_2)
    else
      (fX12_laysBackward F D_2).bind (fun D_4 =>
        if v1 = (-1) then
          if v2 = 1 then
            some ((D_4 91 49), D_4)
          else
            some ((D_4 91 50), D_4)
        else
          if (-2147483648 ≤ 2 * v1 ∧ 2 * v1 ≤ 2147483647) ∧ (-2147483648 ≤ (2 * v1) + v2 ∧ (2 * v1) + v2 ≤ 2147483647) ∧ (-2147483648 ≤ ((2 * v1) + v2) - 1 ∧ ((2 * v1) + v2) - 1 ≤ 2147483647) ∧ (0 ≤ (((2 * v1) + v2) - 1) ∧ (((2 * v1) + v2) - 1) < 40) then
            some ((D_4 117 (((2 * v1) + v2) - 1).toNat), D_4)
          else none))
def fX12_backward (F : zFs) (v1 : Int) (v2 : Int) (D : zDa) : Option (Int × zDa) :=
  if v1 = (-1) then
    fX12_backward_13 F v1 v2 D
  else
    (fX12_isQuestion F v1 D).bind (fun (r_5, D_6) =>
      if r_5 = 0 then
        some ((-1), D_6)
      else
        fX12_backward_13 F v1 v2 D_6)
set_option maxHeartbeats 20000000 in
theorem sX12_backward_13 {l : Launch} {E : zE} {d : Nat} {F : zFs} {n sl : Nat} (hG : zG F)  (v1 : Int) (v2 : Int)   (D : zDa) : zO l E (d + 93) YX12_backward 13 [(0, zR 91), (1, zI v1), (2, zI v2)] [] (F, D, n, sl) (zcI F n sl) (fX12_backward_13 F v1 v2 D) := by
  unfold fX12_backward_13
  refine zO_iload_n dX12_backward_13 rfl ?_
  refine zO_iconst dX12_backward_14 (by decide) ?_
  refine zO_iconst dX12_backward_15 (by decide) ?_
  refine zO_callS (Y' := YX12_lies) (cw := zcI F n sl) (as := [zI v2, zI 1, zI 2]) (rest := []) (na := 3) dX12_backward_16 wC_X12_lies wN_X12 wM_X12_135 wS_X12_lies (by decide) (by decide) rfl rfl (Nat.le_of_ble_eq_true rfl) (fun r hr => zMet_cast (Nat.add_assoc d 92 0) (mX12_lies (d := d + 92) hG v2 1 2 r hr)) ?_
  rintro ⟨r_1, D_2⟩ -
  show zO _ _ _ _ _ _ [zI r_1] (F, D_2, n, sl) _ _
  refine zO_if_ne (tgt := 24) dX12_backward_19 rfl (fun c19 => ?_) (fun c19 => ?_)
  · refine zO_iconst dX12_backward_22 (by decide) ?_
    exact zO_ret (rv := some (zI (-1))) dX12_backward_23 rfl rfl rfl
  · refine zO_aload_n dX12_backward_24 rfl (zR_P _) ?_
    refine zO_callV (Y' := YX12_laysBackward) (cw := zcV F n sl) (as := []) (rest := []) (na := 0) (ci := 12) rfl dX12_backward_25 wC_X12_laysBackward wN_X12 wM_X12_450 wI_X12_laysBackward wV_X12_laysBackward (by decide) (by decide) rfl rfl (Nat.le_of_ble_eq_true rfl) rfl (by decide) (gk_91 hG) (fun r hr => zMet_cast (Nat.add_assoc d 0 92) (mX12_laysBackward (d := d + 0) hG  r hr)) ?_
    intro D_4 _
    show zO _ _ _ _ _ _ [] (F, D_4, n, sl) _ _
    refine zO_iload_n dX12_backward_28 rfl ?_
    refine zO_iconst dX12_backward_29 (by decide) ?_
    refine zO_icmp_eq (tgt := 48) dX12_backward_30 rfl (fun c30 => ?_) (fun c30 => ?_)
    · refine zO_iload_n dX12_backward_48 rfl ?_
      refine zO_iconst dX12_backward_49 (by decide) ?_
      refine zO_icmp_ne (tgt := 60) dX12_backward_50 rfl (fun c50 => ?_) (fun c50 => ?_)
      · refine zO_aload_n dX12_backward_53 rfl (zR_P _) ?_
        refine gt12 (k := 49) (v := zI (D_4 91 49)) dX12_backward_54 wF_X12_440 (by decide) (gk_91 hG) rfl ?_
        refine zO_goto (tgt := 64) dX12_backward_57 rfl ?_
        exact zO_ret (rv := some (zI (D_4 91 49))) dX12_backward_64 rfl rfl rfl
      · refine zO_aload_n dX12_backward_60 rfl (zR_P _) ?_
        refine gt12 (k := 50) (v := zI (D_4 91 50)) dX12_backward_61 wF_X12_443 (by decide) (gk_91 hG) rfl ?_
        exact zO_ret (rv := some (zI (D_4 91 50))) dX12_backward_64 rfl rfl rfl
    · refine zO_chk (fun h1 => ?_)
      refine zO_aload_n dX12_backward_33 rfl (zR_P _) ?_
      refine gt12 (k := 46) dX12_backward_34 wF_X12_102 (by decide) (gk_91 hG) (zgv (c := 12) (k := 46) rfl (Or.inl ⟨_, rfl⟩) (gf_91_46 hG)) ?_
      refine zO_iconst dX12_backward_37 (by decide) ?_
      refine zO_iload_n dX12_backward_38 rfl ?_
      refine zO_imul dX12_backward_39 h1.1 ?_
      refine zO_iload_n dX12_backward_40 rfl ?_
      refine zO_iadd dX12_backward_41 h1.2.1 ?_
      refine zO_iconst dX12_backward_42 (by decide) ?_
      refine zO_isub dX12_backward_43 h1.2.2.1 ?_
      refine zO_iald dX12_backward_44 (gk_117 hG) (gl_in (gl_117 hG) h1.2.2.2) ?_
      refine zO_goto (tgt := 64) dX12_backward_45 rfl ?_
      exact zO_ret (rv := some (zI (D_4 117 (((2 * v1) + v2) - 1).toNat))) dX12_backward_64 rfl rfl rfl
set_option maxHeartbeats 20000000 in
theorem mX12_backward {l : Launch} {E : zE} {d : Nat} {F : zFs} {n sl : Nat} (hG : zG F) (v1 : Int) (v2 : Int) {D : zDa} : ∀ r, fX12_backward F  v1 v2 D = some r → zMet l E (d + 93) YX12_backward [zR 91, zI v1, zI v2] (F, D, n, sl) (zcI F n sl r) := by
  intro r hr
  refine zMet_of (plainFor_of_name (by decide)) (fun _ h => (nomatch h)) (Nat.le_of_ble_eq_true rfl) ?_
  have hz : zO l E (d + 93) YX12_backward 0 [(0, zR 91), (1, zI v1), (2, zI v2)] [] (F, D, n, sl) (zcI F n sl) (fX12_backward F  v1 v2 D) := by
    unfold fX12_backward
    refine zO_iload_n dX12_backward_0 rfl ?_
    refine zO_iconst dX12_backward_1 (by decide) ?_
    refine zO_icmp_eq (tgt := 13) dX12_backward_2 rfl (fun c2 => ?_) (fun c2 => ?_)
    · refine zO_live [0, 1, 2] ?_
      exact sX12_backward_13 hG v1 v2 D
    · refine zO_aload_n dX12_backward_5 rfl (zR_P _) ?_
      refine zO_iload_n dX12_backward_6 rfl ?_
      refine zO_callV (Y' := YX12_isQuestion) (cw := zcI F n sl) (as := [zI v1]) (rest := []) (na := 1) (ci := 12) rfl dX12_backward_7 wC_X12_isQuestion wN_X12 wM_X12_158 wI_X12_isQuestion wV_X12_isQuestion (by decide) (by decide) rfl rfl (Nat.le_of_ble_eq_true rfl) rfl (by decide) (gk_91 hG) (fun r hr => zMet_cast (Nat.add_assoc d 91 1) (mX12_isQuestion (d := d + 91) hG v1 r hr)) ?_
      rintro ⟨r_5, D_6⟩ -
      show zO _ _ _ _ _ _ [zI r_5] (F, D_6, n, sl) _ _
      refine zO_if_eq (tgt := 22) dX12_backward_10 rfl (fun c10 => ?_) (fun c10 => ?_)
      · refine zO_iconst dX12_backward_22 (by decide) ?_
        exact zO_ret (rv := some (zI (-1))) dX12_backward_23 rfl rfl rfl
      · refine zO_live [0, 1, 2] ?_
        exact sX12_backward_13 hG v1 v2 D_6
  exact hz r hr
theorem dX12_friend_0 : decode cX12_friend 0 = .ok (.iload_n 1, 1) := by decide +kernel
theorem dX12_friend_1 : decode cX12_friend 1 = .ok (.iconst 0, 1) := by decide +kernel
theorem dX12_friend_2 : decode cX12_friend 2 = .ok (.iconst 2, 1) := by decide +kernel
theorem dX12_friend_3 : decode cX12_friend 3 = .ok (.invokestatic 135, 3) := by decide +kernel
theorem dX12_friend_6 : decode cX12_friend 6 = .ok (.ifCond .eq 26, 3) := by decide +kernel
theorem dX12_friend_9 : decode cX12_friend 9 = .ok (.iload_n 2, 1) := by decide +kernel
theorem dX12_friend_10 : decode cX12_friend 10 = .ok (.iconst 0, 1) := by decide +kernel
theorem dX12_friend_11 : decode cX12_friend 11 = .ok (.bipush 99, 2) := by decide +kernel
theorem dX12_friend_13 : decode cX12_friend 13 = .ok (.invokestatic 135, 3) := by decide +kernel
theorem dX12_friend_16 : decode cX12_friend 16 = .ok (.ifCond .eq 16, 3) := by decide +kernel
theorem dX12_friend_19 : decode cX12_friend 19 = .ok (.aload_n 0, 1) := by decide +kernel
theorem dX12_friend_20 : decode cX12_friend 20 = .ok (.sipush 347, 3) := by decide +kernel
theorem dX12_friend_23 : decode cX12_friend 23 = .ok (.iload_n 1, 1) := by decide +kernel
theorem dX12_friend_24 : decode cX12_friend 24 = .ok (.iadd, 1) := by decide +kernel
theorem dX12_friend_25 : decode cX12_friend 25 = .ok (.iload_n 2, 1) := by decide +kernel
theorem dX12_friend_26 : decode cX12_friend 26 = .ok (.invokevirtual 161, 3) := by decide +kernel
theorem dX12_friend_29 : decode cX12_friend 29 = .ok (.goto 8, 3) := by decide +kernel
theorem dX12_friend_32 : decode cX12_friend 32 = .ok (.aload_n 0, 1) := by decide +kernel
theorem dX12_friend_33 : decode cX12_friend 33 = .ok (.iconst (-1), 1) := by decide +kernel
theorem dX12_friend_34 : decode cX12_friend 34 = .ok (.invokevirtual 139, 3) := by decide +kernel
theorem dX12_friend_37 : decode cX12_friend 37 = .ok (.ireturn, 1) := by decide +kernel
abbrev YX12_friend : zY := (yX12_friend, cX12_friend, 3, (Option.some Jvm.ClassFile.FieldType.int), [])
def fX12_friend_32 (F : zFs)   (D : zDa) : Option (Int × zDa) :=
  (fX12_refuses F (-1) D).bind (fun (r_3, D_4) =>
    some (r_3, D_4))
def fX12_friend (F : zFs) (v1 : Int) (v2 : Int) (D : zDa) : Option (Int × zDa) :=
  (fX12_lies F v1 0 2 D).bind (fun (r_1, D_2) =>
    if r_1 = 0 then
      fX12_friend_32 F D_2
    else
      (fX12_lies F v2 0 99 D_2).bind (fun (r_5, D_6) =>
        if r_5 = 0 then
          fX12_friend_32 F D_6
        else
          if (-2147483648 ≤ 347 + v1 ∧ 347 + v1 ≤ 2147483647) then
            (fX12_replaces F (347 + v1) v2 D_6).bind (fun (r_7, D_8) =>
              some (r_7, D_8))
          else none))
set_option maxHeartbeats 20000000 in
theorem sX12_friend_32 {l : Launch} {E : zE} {d : Nat} {F : zFs} {n sl : Nat} (hG : zG F)     (D : zDa) : zO l E (d + 2) YX12_friend 32 [(0, zR 91)] [] (F, D, n, sl) (zcI F n sl) (fX12_friend_32 F D) := by
  unfold fX12_friend_32
  refine zO_aload_n dX12_friend_32 rfl (zR_P _) ?_
  refine zO_iconst dX12_friend_33 (by decide) ?_
  refine zO_callV (Y' := YX12_refuses) (cw := zcI F n sl) (as := [zI (-1)]) (rest := []) (na := 1) (ci := 12) rfl dX12_friend_34 wC_X12_refuses wN_X12 wM_X12_139 wI_X12_refuses wV_X12_refuses (by decide) (by decide) rfl rfl (Nat.le_of_ble_eq_true rfl) rfl (by decide) (gk_91 hG) (fun r hr => zMet_cast (Nat.add_assoc d 1 0) (mX12_refuses (d := d + 1) hG (-1) r hr)) ?_
  rintro ⟨r_3, D_4⟩ -
  show zO _ _ _ _ _ _ [zI r_3] (F, D_4, n, sl) _ _
  exact zO_ret (rv := some (zI r_3)) dX12_friend_37 rfl rfl rfl
set_option maxHeartbeats 20000000 in
theorem mX12_friend {l : Launch} {E : zE} {d : Nat} {F : zFs} {n sl : Nat} (hG : zG F) (v1 : Int) (v2 : Int) {D : zDa} : ∀ r, fX12_friend F  v1 v2 D = some r → zMet l E (d + 2) YX12_friend [zR 91, zI v1, zI v2] (F, D, n, sl) (zcI F n sl r) := by
  intro r hr
  refine zMet_of (plainFor_of_name (by decide)) (fun _ h => (nomatch h)) (Nat.le_of_ble_eq_true rfl) ?_
  have hz : zO l E (d + 2) YX12_friend 0 [(0, zR 91), (1, zI v1), (2, zI v2)] [] (F, D, n, sl) (zcI F n sl) (fX12_friend F  v1 v2 D) := by
    unfold fX12_friend
    refine zO_iload_n dX12_friend_0 rfl ?_
    refine zO_iconst dX12_friend_1 (by decide) ?_
    refine zO_iconst dX12_friend_2 (by decide) ?_
    refine zO_callS (Y' := YX12_lies) (cw := zcI F n sl) (as := [zI v1, zI 0, zI 2]) (rest := []) (na := 3) dX12_friend_3 wC_X12_lies wN_X12 wM_X12_135 wS_X12_lies (by decide) (by decide) rfl rfl (Nat.le_of_ble_eq_true rfl) (fun r hr => zMet_cast (Nat.add_assoc d 1 0) (mX12_lies (d := d + 1) hG v1 0 2 r hr)) ?_
    rintro ⟨r_1, D_2⟩ -
    show zO _ _ _ _ _ _ [zI r_1] (F, D_2, n, sl) _ _
    refine zO_if_eq (tgt := 32) dX12_friend_6 rfl (fun c6 => ?_) (fun c6 => ?_)
    · refine zO_live [0] ?_
      exact sX12_friend_32 hG D_2
    · refine zO_iload_n dX12_friend_9 rfl ?_
      refine zO_iconst dX12_friend_10 (by decide) ?_
      refine zO_bipush dX12_friend_11 (by decide) ?_
      refine zO_callS (Y' := YX12_lies) (cw := zcI F n sl) (as := [zI v2, zI 0, zI 99]) (rest := []) (na := 3) dX12_friend_13 wC_X12_lies wN_X12 wM_X12_135 wS_X12_lies (by decide) (by decide) rfl rfl (Nat.le_of_ble_eq_true rfl) (fun r hr => zMet_cast (Nat.add_assoc d 1 0) (mX12_lies (d := d + 1) hG v2 0 99 r hr)) ?_
      rintro ⟨r_5, D_6⟩ -
      show zO _ _ _ _ _ _ [zI r_5] (F, D_6, n, sl) _ _
      refine zO_if_eq (tgt := 32) dX12_friend_16 rfl (fun c16 => ?_) (fun c16 => ?_)
      · refine zO_live [0] ?_
        exact sX12_friend_32 hG D_6
      · refine zO_chk (fun h1 => ?_)
        refine zO_aload_n dX12_friend_19 rfl (zR_P _) ?_
        refine zO_sipush dX12_friend_20 (by decide) ?_
        refine zO_iload_n dX12_friend_23 rfl ?_
        refine zO_iadd dX12_friend_24 h1 ?_
        refine zO_iload_n dX12_friend_25 rfl ?_
        refine zO_callV (Y' := YX12_replaces) (cw := zcI F n sl) (as := [zI (347 + v1), zI v2]) (rest := []) (na := 2) (ci := 12) rfl dX12_friend_26 wC_X12_replaces wN_X12 wM_X12_161 wI_X12_replaces wV_X12_replaces (by decide) (by decide) rfl rfl (Nat.le_of_ble_eq_true rfl) rfl (by decide) (gk_91 hG) (fun r hr => zMet_cast (Nat.add_assoc d 0 1) (mX12_replaces (d := d + 0) hG (347 + v1) v2 r hr)) ?_
        rintro ⟨r_7, D_8⟩ -
        show zO _ _ _ _ _ _ [zI r_7] (F, D_8, n, sl) _ _
        refine zO_goto (tgt := 37) dX12_friend_29 rfl ?_
        exact zO_ret (rv := some (zI r_7)) dX12_friend_37 rfl rfl rfl
  exact hz r hr
theorem dX12_shares_0 : decode cX12_shares 0 = .ok (.iload_n 2, 1) := by decide +kernel
theorem dX12_shares_1 : decode cX12_shares 1 = .ok (.aload_n 0, 1) := by decide +kernel
theorem dX12_shares_2 : decode cX12_shares 2 = .ok (.getfield 453, 3) := by decide +kernel
theorem dX12_shares_5 : decode cX12_shares 5 = .ok (.iadd, 1) := by decide +kernel
theorem dX12_shares_6 : decode cX12_shares 6 = .ok (.iload_n 1, 1) := by decide +kernel
theorem dX12_shares_7 : decode cX12_shares 7 = .ok (.isub, 1) := by decide +kernel
theorem dX12_shares_8 : decode cX12_shares 8 = .ok (.aload_n 0, 1) := by decide +kernel
theorem dX12_shares_9 : decode cX12_shares 9 = .ok (.getfield 456, 3) := by decide +kernel
theorem dX12_shares_12 : decode cX12_shares 12 = .ok (.if_icmp .gt 4, 3) := by decide +kernel
theorem dX12_shares_15 : decode cX12_shares 15 = .ok (.return_, 1) := by decide +kernel
theorem dX12_shares_16 : decode cX12_shares 16 = .ok (.iload_n 1, 1) := by decide +kernel
theorem dX12_shares_17 : decode cX12_shares 17 = .ok (.aload_n 0, 1) := by decide +kernel
theorem dX12_shares_18 : decode cX12_shares 18 = .ok (.getfield 453, 3) := by decide +kernel
theorem dX12_shares_21 : decode cX12_shares 21 = .ok (.if_icmp .ne 37, 3) := by decide +kernel
theorem dX12_shares_24 : decode cX12_shares 24 = .ok (.aload_n 0, 1) := by decide +kernel
theorem dX12_shares_25 : decode cX12_shares 25 = .ok (.iload_n 2, 1) := by decide +kernel
theorem dX12_shares_26 : decode cX12_shares 26 = .ok (.putfield 456, 3) := by decide +kernel
theorem dX12_shares_29 : decode cX12_shares 29 = .ok (.iconst 0, 1) := by decide +kernel
theorem dX12_shares_30 : decode cX12_shares 30 = .ok (.istore_n 3, 1) := by decide +kernel
theorem dX12_shares_31 : decode cX12_shares 31 = .ok (.iload_n 3, 1) := by decide +kernel
theorem dX12_shares_32 : decode cX12_shares 32 = .ok (.aload_n 0, 1) := by decide +kernel
theorem dX12_shares_33 : decode cX12_shares 33 = .ok (.getfield 453, 3) := by decide +kernel
theorem dX12_shares_36 : decode cX12_shares 36 = .ok (.if_icmp .ge 21, 3) := by decide +kernel
theorem dX12_shares_39 : decode cX12_shares 39 = .ok (.aload_n 0, 1) := by decide +kernel
theorem dX12_shares_40 : decode cX12_shares 40 = .ok (.getfield 114, 3) := by decide +kernel
theorem dX12_shares_43 : decode cX12_shares 43 = .ok (.iload_n 3, 1) := by decide +kernel
theorem dX12_shares_44 : decode cX12_shares 44 = .ok (.aload_n 0, 1) := by decide +kernel
theorem dX12_shares_45 : decode cX12_shares 45 = .ok (.getfield 111, 3) := by decide +kernel
theorem dX12_shares_48 : decode cX12_shares 48 = .ok (.iload_n 3, 1) := by decide +kernel
theorem dX12_shares_49 : decode cX12_shares 49 = .ok (.iaload, 1) := by decide +kernel
theorem dX12_shares_50 : decode cX12_shares 50 = .ok (.iastore, 1) := by decide +kernel
theorem dX12_shares_51 : decode cX12_shares 51 = .ok (.iinc 3 1, 3) := by decide +kernel
theorem dX12_shares_54 : decode cX12_shares 54 = .ok (.goto (-23), 3) := by decide +kernel
theorem dX12_shares_57 : decode cX12_shares 57 = .ok (.return_, 1) := by decide +kernel
theorem dX12_shares_58 : decode cX12_shares 58 = .ok (.iconst 0, 1) := by decide +kernel
theorem dX12_shares_59 : decode cX12_shares 59 = .ok (.istore_n 3, 1) := by decide +kernel
theorem dX12_shares_60 : decode cX12_shares 60 = .ok (.iload_n 3, 1) := by decide +kernel
theorem dX12_shares_61 : decode cX12_shares 61 = .ok (.iconst 3, 1) := by decide +kernel
theorem dX12_shares_62 : decode cX12_shares 62 = .ok (.if_icmp .ge 74, 3) := by decide +kernel
theorem dX12_shares_65 : decode cX12_shares 65 = .ok (.aload_n 0, 1) := by decide +kernel
theorem dX12_shares_66 : decode cX12_shares 66 = .ok (.getfield 108, 3) := by decide +kernel
theorem dX12_shares_69 : decode cX12_shares 69 = .ok (.iload_n 3, 1) := by decide +kernel
theorem dX12_shares_70 : decode cX12_shares 70 = .ok (.iaload, 1) := by decide +kernel
theorem dX12_shares_71 : decode cX12_shares 71 = .ok (.aload_n 0, 1) := by decide +kernel
theorem dX12_shares_72 : decode cX12_shares 72 = .ok (.getfield 117, 3) := by decide +kernel
theorem dX12_shares_75 : decode cX12_shares 75 = .ok (.iload_n 1, 1) := by decide +kernel
theorem dX12_shares_76 : decode cX12_shares 76 = .ok (.iaload, 1) := by decide +kernel
theorem dX12_shares_77 : decode cX12_shares 77 = .ok (.if_icmp .ge 6, 3) := by decide +kernel
theorem dX12_shares_80 : decode cX12_shares 80 = .ok (.goto 50, 3) := by decide +kernel
theorem dX12_shares_83 : decode cX12_shares 83 = .ok (.aload_n 0, 1) := by decide +kernel
theorem dX12_shares_84 : decode cX12_shares 84 = .ok (.getfield 108, 3) := by decide +kernel
theorem dX12_shares_87 : decode cX12_shares 87 = .ok (.iload_n 3, 1) := by decide +kernel
theorem dX12_shares_88 : decode cX12_shares 88 = .ok (.dup2, 1) := by decide +kernel
theorem dX12_shares_89 : decode cX12_shares 89 = .ok (.iaload, 1) := by decide +kernel
theorem dX12_shares_90 : decode cX12_shares 90 = .ok (.aload_n 0, 1) := by decide +kernel
theorem dX12_shares_91 : decode cX12_shares 91 = .ok (.getfield 117, 3) := by decide +kernel
theorem dX12_shares_94 : decode cX12_shares 94 = .ok (.iload_n 1, 1) := by decide +kernel
theorem dX12_shares_95 : decode cX12_shares 95 = .ok (.iaload, 1) := by decide +kernel
theorem dX12_shares_96 : decode cX12_shares 96 = .ok (.isub, 1) := by decide +kernel
theorem dX12_shares_97 : decode cX12_shares 97 = .ok (.iastore, 1) := by decide +kernel
theorem dX12_shares_98 : decode cX12_shares 98 = .ok (.aload_n 0, 1) := by decide +kernel
theorem dX12_shares_99 : decode cX12_shares 99 = .ok (.getfield 111, 3) := by decide +kernel
theorem dX12_shares_102 : decode cX12_shares 102 = .ok (.iload_n 1, 1) := by decide +kernel
theorem dX12_shares_103 : decode cX12_shares 103 = .ok (.iload_n 3, 1) := by decide +kernel
theorem dX12_shares_104 : decode cX12_shares 104 = .ok (.iastore, 1) := by decide +kernel
theorem dX12_shares_105 : decode cX12_shares 105 = .ok (.aload_n 0, 1) := by decide +kernel
theorem dX12_shares_106 : decode cX12_shares 106 = .ok (.iload_n 1, 1) := by decide +kernel
theorem dX12_shares_107 : decode cX12_shares 107 = .ok (.iconst 1, 1) := by decide +kernel
theorem dX12_shares_108 : decode cX12_shares 108 = .ok (.iadd, 1) := by decide +kernel
theorem dX12_shares_109 : decode cX12_shares 109 = .ok (.iload_n 2, 1) := by decide +kernel
theorem dX12_shares_110 : decode cX12_shares 110 = .ok (.iconst 1, 1) := by decide +kernel
theorem dX12_shares_111 : decode cX12_shares 111 = .ok (.iadd, 1) := by decide +kernel
theorem dX12_shares_112 : decode cX12_shares 112 = .ok (.invokevirtual 459, 3) := by decide +kernel
theorem dX12_shares_115 : decode cX12_shares 115 = .ok (.aload_n 0, 1) := by decide +kernel
theorem dX12_shares_116 : decode cX12_shares 116 = .ok (.getfield 108, 3) := by decide +kernel
theorem dX12_shares_119 : decode cX12_shares 119 = .ok (.iload_n 3, 1) := by decide +kernel
theorem dX12_shares_120 : decode cX12_shares 120 = .ok (.dup2, 1) := by decide +kernel
theorem dX12_shares_121 : decode cX12_shares 121 = .ok (.iaload, 1) := by decide +kernel
theorem dX12_shares_122 : decode cX12_shares 122 = .ok (.aload_n 0, 1) := by decide +kernel
theorem dX12_shares_123 : decode cX12_shares 123 = .ok (.getfield 117, 3) := by decide +kernel
theorem dX12_shares_126 : decode cX12_shares 126 = .ok (.iload_n 1, 1) := by decide +kernel
theorem dX12_shares_127 : decode cX12_shares 127 = .ok (.iaload, 1) := by decide +kernel
theorem dX12_shares_128 : decode cX12_shares 128 = .ok (.iadd, 1) := by decide +kernel
theorem dX12_shares_129 : decode cX12_shares 129 = .ok (.iastore, 1) := by decide +kernel
theorem dX12_shares_130 : decode cX12_shares 130 = .ok (.iinc 3 1, 3) := by decide +kernel
theorem dX12_shares_133 : decode cX12_shares 133 = .ok (.goto (-73), 3) := by decide +kernel
theorem dX12_shares_136 : decode cX12_shares 136 = .ok (.aload_n 0, 1) := by decide +kernel
theorem dX12_shares_137 : decode cX12_shares 137 = .ok (.getfield 111, 3) := by decide +kernel
theorem dX12_shares_140 : decode cX12_shares 140 = .ok (.iload_n 1, 1) := by decide +kernel
theorem dX12_shares_141 : decode cX12_shares 141 = .ok (.iconst (-1), 1) := by decide +kernel
theorem dX12_shares_142 : decode cX12_shares 142 = .ok (.iastore, 1) := by decide +kernel
theorem dX12_shares_143 : decode cX12_shares 143 = .ok (.aload_n 0, 1) := by decide +kernel
theorem dX12_shares_144 : decode cX12_shares 144 = .ok (.iload_n 1, 1) := by decide +kernel
theorem dX12_shares_145 : decode cX12_shares 145 = .ok (.iconst 1, 1) := by decide +kernel
theorem dX12_shares_146 : decode cX12_shares 146 = .ok (.iadd, 1) := by decide +kernel
theorem dX12_shares_147 : decode cX12_shares 147 = .ok (.iload_n 2, 1) := by decide +kernel
theorem dX12_shares_148 : decode cX12_shares 148 = .ok (.invokevirtual 459, 3) := by decide +kernel
theorem dX12_shares_151 : decode cX12_shares 151 = .ok (.return_, 1) := by decide +kernel
abbrev YX12_shares : zY := (yX12_shares, cX12_shares, 4, none, [])
def fX12_shares_31 (F : zFs) (rec : Nat → Int → Int → zDa → Option zDa)   (k_31 : Int → zDa → Option zDa) (v3 : Int) (D : zDa) : Option zDa :=
  if v3 < (D 91 56) then
    if (0 ≤ v3 ∧ v3 < 12) then
      zlet (zwr D 121 v3.toNat (D 120 v3.toNat)) (fun D_2 =>
        if (-2147483648 ≤ v3 + 1 ∧ v3 + 1 ≤ 2147483647) then
          k_31 (v3 + 1) D_2
        else none)
    else none
  else
    some D
def fX12_shares_130 (F : zFs) (rec : Nat → Int → Int → zDa → Option zDa) (k_60 : Int → zDa → Option zDa) (o1 : Int) (o2 : Int) (v3 : Int) (D : zDa) : Option zDa :=
  if (-2147483648 ≤ v3 + 1 ∧ v3 + 1 ≤ 2147483647) then
    k_60 (v3 + 1) D
  else none
def fX12_shares_60 (F : zFs) (rec : Nat → Int → Int → zDa → Option zDa) (o1 : Int) (o2 : Int)  (k_60 : Int → zDa → Option zDa) (v3 : Int) (D : zDa) : Option zDa :=
  if v3 < 3 then
    if (0 ≤ v3 ∧ v3 < 3) ∧ (0 ≤ o1 ∧ o1 < 12) then
      if (D 119 v3.toNat) < (D 122 o1.toNat) then
        fX12_shares_130 F rec k_60 o1 o2 v3 D
      else
        if (-2147483648 ≤ (D 119 v3.toNat) - (D 122 o1.toNat) ∧ (D 119 v3.toNat) - (D 122 o1.toNat) ≤ 2147483647) then
          zlet (zwr D 119 v3.toNat ((D 119 v3.toNat) - (D 122 o1.toNat))) (fun D_3 =>
            zlet (zwr D_3 120 o1.toNat v3) (fun D_4 =>
              if (-2147483648 ≤ o1 + 1 ∧ o1 + 1 ≤ 2147483647) ∧ (-2147483648 ≤ o2 + 1 ∧ o2 + 1 ≤ 2147483647) then
                (rec 0 (o1 + 1) (o2 + 1) D_4).bind (fun D_6 =>
                  if (-2147483648 ≤ (D_6 119 v3.toNat) + (D_6 122 o1.toNat) ∧ (D_6 119 v3.toNat) + (D_6 122 o1.toNat) ≤ 2147483647) then
                    zlet (zwr D_6 119 v3.toNat ((D_6 119 v3.toNat) + (D_6 122 o1.toNat))) (fun D_7 =>
                      fX12_shares_130 F rec k_60 o1 o2 v3 D_7)
                  else none)
              else none))
        else none
    else none
  else
    if (0 ≤ o1 ∧ o1 < 12) then
      zlet (zwr D 120 o1.toNat (-1)) (fun D_8 =>
        if (-2147483648 ≤ o1 + 1 ∧ o1 + 1 ≤ 2147483647) then
          (rec 0 (o1 + 1) o2 D_8).bind (fun D_10 =>
            some D_10)
        else none)
    else none
def bX12_shares (F : zFs) (rec : Nat → Int → Int → zDa → Option zDa) (v1 : Int) (v2 : Int) (D : zDa) : Option zDa :=
  if (-2147483648 ≤ v2 + (D 91 56) ∧ v2 + (D 91 56) ≤ 2147483647) ∧ (-2147483648 ≤ (v2 + (D 91 56)) - v1 ∧ (v2 + (D 91 56)) - v1 ≤ 2147483647) then
    if (D 91 57) < ((v2 + (D 91 56)) - v1) then
      if v1 = (D 91 56) then
        zlet (zwr D 91 57 v2) (fun D_1 =>
          zfix (fun _ _ => none) (fX12_shares_31 F rec) zfu 0 D_1)
      else
        zfix (fun _ _ => none) (fX12_shares_60 F rec v1 v2) zfu 0 D
    else
      some D
  else none
set_option maxHeartbeats 20000000 in
theorem sX12_shares_31 {l : Launch} {E : zE} {d : Nat} {F : zFs} {n sl : Nat} (hG : zG F) (rec : Nat → Int → Int → zDa → Option zDa) (hr0 : ∀ (a b : Int) (D : zDa) r, rec 0 a b D = some r → zMet l E (d + 0) YX12_shares [zR 91, zI a, zI b] (F, D, n, sl) (zcV F n sl r))     : ∀ (N : Nat) (v3 : Int) (D : zDa), zO l E (d + 1) YX12_shares 31 [(0, zR 91), (3, zI v3)] [] (F, D, n, sl) (zcV F n sl) (zfix (fun _ _ => none) (fX12_shares_31 F rec) N v3 D) := by
  intro N
  induction N with
  | zero => intro v3 D; exact zO_none
  | succ N hk_31 =>
    intro v3 D
    show zO _ _ _ _ _ _ _ _ _ ((fX12_shares_31 F rec) (zfix (fun _ _ => none) (fX12_shares_31 F rec) N) v3 D)
    unfold fX12_shares_31
    refine zO_iload_n dX12_shares_31 rfl ?_
    refine zO_aload_n dX12_shares_32 rfl (zR_P _) ?_
    refine gt12 (k := 56) (v := zI (D 91 56)) dX12_shares_33 wF_X12_453 (by decide) (gk_91 hG) rfl ?_
    refine zO_icmp_ge (tgt := 57) dX12_shares_36 rfl (fun c36 => ?_) (fun c36 => ?_)
    · refine zO_chk (fun h2 => ?_)
      refine zO_aload_n dX12_shares_39 rfl (zR_P _) ?_
      refine gt12 (k := 54) dX12_shares_40 wF_X12_114 (by decide) (gk_91 hG) (zgv (c := 12) (k := 54) rfl (Or.inl ⟨_, rfl⟩) (gf_91_54 hG)) ?_
      refine zO_iload_n dX12_shares_43 rfl ?_
      refine zO_aload_n dX12_shares_44 rfl (zR_P _) ?_
      refine gt12 (k := 53) dX12_shares_45 wF_X12_111 (by decide) (gk_91 hG) (zgv (c := 12) (k := 53) rfl (Or.inl ⟨_, rfl⟩) (gf_91_53 hG)) ?_
      refine zO_iload_n dX12_shares_48 rfl ?_
      refine zO_iald dX12_shares_49 (gk_120 hG) (gl_in (gl_120 hG) h2) ?_
      refine zO_iast dX12_shares_50 (gk_121 hG) (gl_in (gl_121 hG) h2) ?_
      refine zO_letD (fun D_2 eD_2 => ?_)
      refine zO_chk (fun h3 => ?_)
      refine zO_iinc dX12_shares_51 rfl h3 (by decide) ?_
      refine zO_ls (ls' := [(0, zR 91), (3, zI (v3 + 1))]) rfl ?_
      refine zO_goto (tgt := 31) dX12_shares_54 rfl ?_
      refine zO_live [0, 3] ?_
      exact hk_31 (v3 + 1) D_2
    · exact zO_ret (rv := none) dX12_shares_57 rfl trivial rfl
set_option maxHeartbeats 20000000 in
theorem sX12_shares_130 {l : Launch} {E : zE} {d : Nat} {F : zFs} {n sl : Nat} (hG : zG F) (rec : Nat → Int → Int → zDa → Option zDa) (hr0 : ∀ (a b : Int) (D : zDa) r, rec 0 a b D = some r → zMet l E (d + 0) YX12_shares [zR 91, zI a, zI b] (F, D, n, sl) (zcV F n sl r))  (o1 : Int) (o2 : Int) (v3 : Int) (k_60 : Int → zDa → Option zDa) (hk_60 : ∀ (u3 : Int) (D : zDa), zO l E (d + 1) YX12_shares 60 [(0, zR 91), (1, zI o1), (2, zI o2), (3, zI u3)] [] (F, D, n, sl) (zcV F n sl) (k_60 u3 D)) (D : zDa) : zO l E (d + 1) YX12_shares 130 [(0, zR 91), (1, zI o1), (2, zI o2), (3, zI v3)] [] (F, D, n, sl) (zcV F n sl) (fX12_shares_130 F rec k_60 o1 o2 v3 D) := by
  unfold fX12_shares_130
  refine zO_chk (fun h5 => ?_)
  refine zO_iinc dX12_shares_130 rfl h5 (by decide) ?_
  refine zO_ls (ls' := [(0, zR 91), (1, zI o1), (2, zI o2), (3, zI (v3 + 1))]) rfl ?_
  refine zO_goto (tgt := 60) dX12_shares_133 rfl ?_
  refine zO_live [0, 1, 2, 3] ?_
  exact hk_60 (v3 + 1) D
set_option maxHeartbeats 20000000 in
theorem sX12_shares_60 {l : Launch} {E : zE} {d : Nat} {F : zFs} {n sl : Nat} (hG : zG F) (rec : Nat → Int → Int → zDa → Option zDa) (hr0 : ∀ (a b : Int) (D : zDa) r, rec 0 a b D = some r → zMet l E (d + 0) YX12_shares [zR 91, zI a, zI b] (F, D, n, sl) (zcV F n sl r))  (o1 : Int) (o2 : Int)   : ∀ (N : Nat) (v3 : Int) (D : zDa), zO l E (d + 1) YX12_shares 60 [(0, zR 91), (1, zI o1), (2, zI o2), (3, zI v3)] [] (F, D, n, sl) (zcV F n sl) (zfix (fun _ _ => none) (fX12_shares_60 F rec o1 o2) N v3 D) := by
  intro N
  induction N with
  | zero => intro v3 D; exact zO_none
  | succ N hk_60 =>
    intro v3 D
    show zO _ _ _ _ _ _ _ _ _ ((fX12_shares_60 F rec o1 o2) (zfix (fun _ _ => none) (fX12_shares_60 F rec o1 o2) N) v3 D)
    unfold fX12_shares_60
    refine zO_iload_n dX12_shares_60 rfl ?_
    refine zO_iconst dX12_shares_61 (by decide) ?_
    refine zO_icmp_ge (tgt := 136) dX12_shares_62 rfl (fun c62 => ?_) (fun c62 => ?_)
    · refine zO_chk (fun h4 => ?_)
      refine zO_aload_n dX12_shares_65 rfl (zR_P _) ?_
      refine gt12 (k := 52) dX12_shares_66 wF_X12_108 (by decide) (gk_91 hG) (zgv (c := 12) (k := 52) rfl (Or.inl ⟨_, rfl⟩) (gf_91_52 hG)) ?_
      refine zO_iload_n dX12_shares_69 rfl ?_
      refine zO_iald dX12_shares_70 (gk_119 hG) (gl_in (gl_119 hG) h4.1) ?_
      refine zO_aload_n dX12_shares_71 rfl (zR_P _) ?_
      refine gt12 (k := 55) dX12_shares_72 wF_X12_117 (by decide) (gk_91 hG) (zgv (c := 12) (k := 55) rfl (Or.inl ⟨_, rfl⟩) (gf_91_55 hG)) ?_
      refine zO_iload_n dX12_shares_75 rfl ?_
      refine zO_iald dX12_shares_76 (gk_122 hG) (gl_in (gl_122 hG) h4.2) ?_
      refine zO_icmp_ge (tgt := 83) dX12_shares_77 rfl (fun c77 => ?_) (fun c77 => ?_)
      · refine zO_goto (tgt := 130) dX12_shares_80 rfl ?_
        refine zO_live [0, 1, 2, 3] ?_
        exact sX12_shares_130 hG rec hr0 o1 o2 v3 _ hk_60 D
      · refine zO_chk (fun h6 => ?_)
        refine zO_aload_n dX12_shares_83 rfl (zR_P _) ?_
        refine gt12 (k := 52) dX12_shares_84 wF_X12_108 (by decide) (gk_91 hG) (zgv (c := 12) (k := 52) rfl (Or.inl ⟨_, rfl⟩) (gf_91_52 hG)) ?_
        refine zO_iload_n dX12_shares_87 rfl ?_
        refine zO_dup2a dX12_shares_88 (rfl) (rfl) ?_
        refine zO_iald dX12_shares_89 (gk_119 hG) (gl_in (gl_119 hG) h4.1) ?_
        refine zO_aload_n dX12_shares_90 rfl (zR_P _) ?_
        refine gt12 (k := 55) dX12_shares_91 wF_X12_117 (by decide) (gk_91 hG) (zgv (c := 12) (k := 55) rfl (Or.inl ⟨_, rfl⟩) (gf_91_55 hG)) ?_
        refine zO_iload_n dX12_shares_94 rfl ?_
        refine zO_iald dX12_shares_95 (gk_122 hG) (gl_in (gl_122 hG) h4.2) ?_
        refine zO_isub dX12_shares_96 h6 ?_
        refine zO_iast dX12_shares_97 (gk_119 hG) (gl_in (gl_119 hG) h4.1) ?_
        refine zO_letD (fun D_3 eD_3 => ?_)
        refine zO_aload_n dX12_shares_98 rfl (zR_P _) ?_
        refine gt12 (k := 53) dX12_shares_99 wF_X12_111 (by decide) (gk_91 hG) (zgv (c := 12) (k := 53) rfl (Or.inl ⟨_, rfl⟩) (gf_91_53 hG)) ?_
        refine zO_iload_n dX12_shares_102 rfl ?_
        refine zO_iload_n dX12_shares_103 rfl ?_
        refine zO_iast dX12_shares_104 (gk_120 hG) (gl_in (gl_120 hG) h4.2) ?_
        refine zO_letD (fun D_4 eD_4 => ?_)
        refine zO_chk (fun h7 => ?_)
        refine zO_aload_n dX12_shares_105 rfl (zR_P _) ?_
        refine zO_iload_n dX12_shares_106 rfl ?_
        refine zO_iconst dX12_shares_107 (by decide) ?_
        refine zO_iadd dX12_shares_108 h7.1 ?_
        refine zO_iload_n dX12_shares_109 rfl ?_
        refine zO_iconst dX12_shares_110 (by decide) ?_
        refine zO_iadd dX12_shares_111 h7.2 ?_
        refine zO_callV (Y' := YX12_shares) (cw := zcV F n sl) (as := [zI (o1 + 1), zI (o2 + 1)]) (rest := []) (na := 2) (ci := 12) rfl dX12_shares_112 wC_X12_shares wN_X12 wM_X12_459 wI_X12_shares wV_X12_shares (by decide) (by decide) rfl rfl (Nat.le_of_ble_eq_true rfl) rfl (by decide) (gk_91 hG) (fun r hr => hr0 (o1 + 1) (o2 + 1) _ r hr) ?_
        intro D_6 _
        show zO _ _ _ _ _ _ [] (F, D_6, n, sl) _ _
        refine zO_chk (fun h8 => ?_)
        refine zO_aload_n dX12_shares_115 rfl (zR_P _) ?_
        refine gt12 (k := 52) dX12_shares_116 wF_X12_108 (by decide) (gk_91 hG) (zgv (c := 12) (k := 52) rfl (Or.inl ⟨_, rfl⟩) (gf_91_52 hG)) ?_
        refine zO_iload_n dX12_shares_119 rfl ?_
        refine zO_dup2a dX12_shares_120 (rfl) (rfl) ?_
        refine zO_iald dX12_shares_121 (gk_119 hG) (gl_in (gl_119 hG) h4.1) ?_
        refine zO_aload_n dX12_shares_122 rfl (zR_P _) ?_
        refine gt12 (k := 55) dX12_shares_123 wF_X12_117 (by decide) (gk_91 hG) (zgv (c := 12) (k := 55) rfl (Or.inl ⟨_, rfl⟩) (gf_91_55 hG)) ?_
        refine zO_iload_n dX12_shares_126 rfl ?_
        refine zO_iald dX12_shares_127 (gk_122 hG) (gl_in (gl_122 hG) h4.2) ?_
        refine zO_iadd dX12_shares_128 h8 ?_
        refine zO_iast dX12_shares_129 (gk_119 hG) (gl_in (gl_119 hG) h4.1) ?_
        refine zO_letD (fun D_7 eD_7 => ?_)
        refine zO_live [0, 1, 2, 3] ?_
        exact sX12_shares_130 hG rec hr0 o1 o2 v3 _ hk_60 D_7
    · refine zO_chk (fun h9 => ?_)
      refine zO_aload_n dX12_shares_136 rfl (zR_P _) ?_
      refine gt12 (k := 53) dX12_shares_137 wF_X12_111 (by decide) (gk_91 hG) (zgv (c := 12) (k := 53) rfl (Or.inl ⟨_, rfl⟩) (gf_91_53 hG)) ?_
      refine zO_iload_n dX12_shares_140 rfl ?_
      refine zO_iconst dX12_shares_141 (by decide) ?_
      refine zO_iast dX12_shares_142 (gk_120 hG) (gl_in (gl_120 hG) h9) ?_
      refine zO_letD (fun D_8 eD_8 => ?_)
      refine zO_chk (fun h10 => ?_)
      refine zO_aload_n dX12_shares_143 rfl (zR_P _) ?_
      refine zO_iload_n dX12_shares_144 rfl ?_
      refine zO_iconst dX12_shares_145 (by decide) ?_
      refine zO_iadd dX12_shares_146 h10 ?_
      refine zO_iload_n dX12_shares_147 rfl ?_
      refine zO_callV (Y' := YX12_shares) (cw := zcV F n sl) (as := [zI (o1 + 1), zI o2]) (rest := []) (na := 2) (ci := 12) rfl dX12_shares_148 wC_X12_shares wN_X12 wM_X12_459 wI_X12_shares wV_X12_shares (by decide) (by decide) rfl rfl (Nat.le_of_ble_eq_true rfl) rfl (by decide) (gk_91 hG) (fun r hr => hr0 (o1 + 1) o2 _ r hr) ?_
      intro D_10 _
      show zO _ _ _ _ _ _ [] (F, D_10, n, sl) _ _
      exact zO_ret (rv := none) dX12_shares_151 rfl trivial rfl
set_option maxHeartbeats 20000000 in
theorem mbX12_shares {l : Launch} {E : zE} {d : Nat} {F : zFs} {n sl : Nat} (hG : zG F) (rec : Nat → Int → Int → zDa → Option zDa) (hr0 : ∀ (a b : Int) (D : zDa) r, rec 0 a b D = some r → zMet l E (d + 0) YX12_shares [zR 91, zI a, zI b] (F, D, n, sl) (zcV F n sl r)) (v1 : Int) (v2 : Int) {D : zDa} : ∀ r, bX12_shares F rec v1 v2 D = some r → zMet l E (d + 1) YX12_shares [zR 91, zI v1, zI v2] (F, D, n, sl) (zcV F n sl r) := by
  intro r hr
  refine zMet_of (plainFor_of_name (by decide)) (fun _ h => (nomatch h)) (Nat.le_of_ble_eq_true rfl) ?_
  have hz : zO l E (d + 1) YX12_shares 0 [(0, zR 91), (1, zI v1), (2, zI v2)] [] (F, D, n, sl) (zcV F n sl) (bX12_shares F rec v1 v2 D) := by
    unfold bX12_shares
    refine zO_chk (fun h1 => ?_)
    refine zO_iload_n dX12_shares_0 rfl ?_
    refine zO_aload_n dX12_shares_1 rfl (zR_P _) ?_
    refine gt12 (k := 56) (v := zI (D 91 56)) dX12_shares_2 wF_X12_453 (by decide) (gk_91 hG) rfl ?_
    refine zO_iadd dX12_shares_5 h1.1 ?_
    refine zO_iload_n dX12_shares_6 rfl ?_
    refine zO_isub dX12_shares_7 h1.2 ?_
    refine zO_aload_n dX12_shares_8 rfl (zR_P _) ?_
    refine gt12 (k := 57) (v := zI (D 91 57)) dX12_shares_9 wF_X12_456 (by decide) (gk_91 hG) rfl ?_
    refine zO_icmp_gt (tgt := 16) dX12_shares_12 rfl (fun c12 => ?_) (fun c12 => ?_)
    · refine zO_iload_n dX12_shares_16 rfl ?_
      refine zO_aload_n dX12_shares_17 rfl (zR_P _) ?_
      refine gt12 (k := 56) (v := zI (D 91 56)) dX12_shares_18 wF_X12_453 (by decide) (gk_91 hG) rfl ?_
      refine zO_icmp_ne (tgt := 58) dX12_shares_21 rfl (fun c21 => ?_) (fun c21 => ?_)
      · refine zO_aload_n dX12_shares_24 rfl (zR_P _) ?_
        refine zO_iload_n dX12_shares_25 rfl ?_
        refine ptI12 (k := 57) (z := v2) dX12_shares_26 wF_X12_456 (by decide) rfl (gk_91 hG) rfl ?_
        refine zO_letD (fun D_1 eD_1 => ?_)
        refine zO_iconst dX12_shares_29 (by decide) ?_
        refine zO_istore_n dX12_shares_30 (by decide) ?_
        refine zO_ls (ls' := [(0, zR 91), (1, zI v1), (2, zI v2), (3, zI 0)]) rfl ?_
        refine zO_live [0, 3] ?_
        exact sX12_shares_31 hG rec hr0 zfu 0 D_1
      · refine zO_iconst dX12_shares_58 (by decide) ?_
        refine zO_istore_n dX12_shares_59 (by decide) ?_
        refine zO_ls (ls' := [(0, zR 91), (1, zI v1), (2, zI v2), (3, zI 0)]) rfl ?_
        refine zO_live [0, 1, 2, 3] ?_
        exact sX12_shares_60 hG rec hr0 v1 v2 zfu 0 D
    · exact zO_ret (rv := none) dX12_shares_15 rfl trivial rfl
  exact hz r hr
def R6 (F : zFs) (N : Nat) : Nat → Int → Int → zDa → Option zDa := zfix (fun _ _ _ _ => none) (fun rec t a b D => bX12_shares F rec a b D) N
theorem R6_succ (F : zFs) (N t : Nat) (a b : Int) (D : zDa) : R6 F (N + 1) t a b D = (bX12_shares F (R6 F N) a b D) := rfl
theorem mG6 {l : Launch} {E : zE} {F : zFs} {n sl : Nat} (hG : zG F) : ∀ (N d : Nat), (∀ (a b : Int) (D : zDa) r, R6 F N 0 a b D = some r → zMet l E (d + N + 0) YX12_shares [zR 91, zI a, zI b] (F, D, n, sl) (zcV F n sl r)) := by
  intro N
  induction N with
  | zero => intro d a b D r h; cases h
  | succ N ih =>
    intro d
    have ih := ih d
    exact (fun a b D r h => zMet_cast (show d + N + 1 = d + (N + 1) + 0 by omega) (mbX12_shares (d := d + N) hG (R6 F N) (fun a b D r h => ih a b D r h) a b r (by rw [R6_succ] at h; exact h)))
def fX12_shares (F : zFs) (v1 : Int) (v2 : Int) (D : zDa) : Option zDa := R6 F 40 0 v1 v2 D
theorem mX12_shares {l : Launch} {E : zE} {d : Nat} {F : zFs} {n sl : Nat} (hG : zG F) (v1 : Int) (v2 : Int) {D : zDa} : ∀ r, fX12_shares F v1 v2 D = some r → zMet l E (d + 41) YX12_shares [zR 91, zI v1, zI v2] (F, D, n, sl) (zcV F n sl r) := fun r h => zMet_cast (show d + 1 + 40 + 0 = d + 41 by omega) ((mG6 hG 40 (d + 1)) v1 v2 D r h)
theorem dX12_share_0 : decode cX12_share 0 = .ok (.aload_n 0, 1) := by decide +kernel
theorem dX12_share_1 : decode cX12_share 1 = .ok (.bipush 12, 2) := by decide +kernel
theorem dX12_share_3 : decode cX12_share 3 = .ok (.aload_n 0, 1) := by decide +kernel
theorem dX12_share_4 : decode cX12_share 4 = .ok (.invokevirtual 146, 3) := by decide +kernel
theorem dX12_share_7 : decode cX12_share 7 = .ok (.invokestatic 394, 3) := by decide +kernel
theorem dX12_share_10 : decode cX12_share 10 = .ok (.putfield 453, 3) := by decide +kernel
theorem dX12_share_13 : decode cX12_share 13 = .ok (.iload_n 1, 1) := by decide +kernel
theorem dX12_share_14 : decode cX12_share 14 = .ok (.iconst (-1), 1) := by decide +kernel
theorem dX12_share_15 : decode cX12_share 15 = .ok (.if_icmp .eq 19, 3) := by decide +kernel
theorem dX12_share_18 : decode cX12_share 18 = .ok (.iload_n 1, 1) := by decide +kernel
theorem dX12_share_19 : decode cX12_share 19 = .ok (.iconst 0, 1) := by decide +kernel
theorem dX12_share_20 : decode cX12_share 20 = .ok (.aload_n 0, 1) := by decide +kernel
theorem dX12_share_21 : decode cX12_share 21 = .ok (.getfield 453, 3) := by decide +kernel
theorem dX12_share_24 : decode cX12_share 24 = .ok (.iconst 1, 1) := by decide +kernel
theorem dX12_share_25 : decode cX12_share 25 = .ok (.isub, 1) := by decide +kernel
theorem dX12_share_26 : decode cX12_share 26 = .ok (.invokestatic 135, 3) := by decide +kernel
theorem dX12_share_29 : decode cX12_share 29 = .ok (.ifCond .ne 5, 3) := by decide +kernel
theorem dX12_share_32 : decode cX12_share 32 = .ok (.iconst (-1), 1) := by decide +kernel
theorem dX12_share_33 : decode cX12_share 33 = .ok (.ireturn, 1) := by decide +kernel
theorem dX12_share_34 : decode cX12_share 34 = .ok (.aload_n 0, 1) := by decide +kernel
theorem dX12_share_35 : decode cX12_share 35 = .ok (.getfield 120, 3) := by decide +kernel
theorem dX12_share_38 : decode cX12_share 38 = .ok (.aload_n 0, 1) := by decide +kernel
theorem dX12_share_39 : decode cX12_share 39 = .ok (.getfield 11, 3) := by decide +kernel
theorem dX12_share_42 : decode cX12_share 42 = .ok (.if_icmp .eq 90, 3) := by decide +kernel
theorem dX12_share_45 : decode cX12_share 45 = .ok (.aload_n 0, 1) := by decide +kernel
theorem dX12_share_46 : decode cX12_share 46 = .ok (.aload_n 0, 1) := by decide +kernel
theorem dX12_share_47 : decode cX12_share 47 = .ok (.getfield 11, 3) := by decide +kernel
theorem dX12_share_50 : decode cX12_share 50 = .ok (.putfield 120, 3) := by decide +kernel
theorem dX12_share_53 : decode cX12_share 53 = .ok (.iconst 0, 1) := by decide +kernel
theorem dX12_share_54 : decode cX12_share 54 = .ok (.istore_n 2, 1) := by decide +kernel
theorem dX12_share_55 : decode cX12_share 55 = .ok (.iload_n 2, 1) := by decide +kernel
theorem dX12_share_56 : decode cX12_share 56 = .ok (.aload_n 0, 1) := by decide +kernel
theorem dX12_share_57 : decode cX12_share 57 = .ok (.getfield 453, 3) := by decide +kernel
theorem dX12_share_60 : decode cX12_share 60 = .ok (.if_icmp .ge 32, 3) := by decide +kernel
theorem dX12_share_63 : decode cX12_share 63 = .ok (.aload_n 0, 1) := by decide +kernel
theorem dX12_share_64 : decode cX12_share 64 = .ok (.getfield 117, 3) := by decide +kernel
theorem dX12_share_67 : decode cX12_share 67 = .ok (.iload_n 2, 1) := by decide +kernel
theorem dX12_share_68 : decode cX12_share 68 = .ok (.aload_n 0, 1) := by decide +kernel
theorem dX12_share_69 : decode cX12_share 69 = .ok (.iload_n 2, 1) := by decide +kernel
theorem dX12_share_70 : decode cX12_share 70 = .ok (.iconst 1, 1) := by decide +kernel
theorem dX12_share_71 : decode cX12_share 71 = .ok (.iconst 0, 1) := by decide +kernel
theorem dX12_share_72 : decode cX12_share 72 = .ok (.iconst 0, 1) := by decide +kernel
theorem dX12_share_73 : decode cX12_share 73 = .ok (.invokevirtual 298, 3) := by decide +kernel
theorem dX12_share_76 : decode cX12_share 76 = .ok (.aload_n 0, 1) := by decide +kernel
theorem dX12_share_77 : decode cX12_share 77 = .ok (.iload_n 2, 1) := by decide +kernel
theorem dX12_share_78 : decode cX12_share 78 = .ok (.iconst 2, 1) := by decide +kernel
theorem dX12_share_79 : decode cX12_share 79 = .ok (.iconst 0, 1) := by decide +kernel
theorem dX12_share_80 : decode cX12_share 80 = .ok (.iconst 0, 1) := by decide +kernel
theorem dX12_share_81 : decode cX12_share 81 = .ok (.invokevirtual 298, 3) := by decide +kernel
theorem dX12_share_84 : decode cX12_share 84 = .ok (.iadd, 1) := by decide +kernel
theorem dX12_share_85 : decode cX12_share 85 = .ok (.iastore, 1) := by decide +kernel
theorem dX12_share_86 : decode cX12_share 86 = .ok (.iinc 2 1, 3) := by decide +kernel
theorem dX12_share_89 : decode cX12_share 89 = .ok (.goto (-34), 3) := by decide +kernel
theorem dX12_share_92 : decode cX12_share 92 = .ok (.iconst 0, 1) := by decide +kernel
theorem dX12_share_93 : decode cX12_share 93 = .ok (.istore_n 2, 1) := by decide +kernel
theorem dX12_share_94 : decode cX12_share 94 = .ok (.iload_n 2, 1) := by decide +kernel
theorem dX12_share_95 : decode cX12_share 95 = .ok (.iconst 3, 1) := by decide +kernel
theorem dX12_share_96 : decode cX12_share 96 = .ok (.if_icmp .ge 25, 3) := by decide +kernel
theorem dX12_share_99 : decode cX12_share 99 = .ok (.aload_n 0, 1) := by decide +kernel
theorem dX12_share_100 : decode cX12_share 100 = .ok (.getfield 108, 3) := by decide +kernel
theorem dX12_share_103 : decode cX12_share 103 = .ok (.iload_n 2, 1) := by decide +kernel
theorem dX12_share_104 : decode cX12_share 104 = .ok (.aload_n 0, 1) := by decide +kernel
theorem dX12_share_105 : decode cX12_share 105 = .ok (.getfield 20, 3) := by decide +kernel
theorem dX12_share_108 : decode cX12_share 108 = .ok (.sipush 347, 3) := by decide +kernel
theorem dX12_share_111 : decode cX12_share 111 = .ok (.iload_n 2, 1) := by decide +kernel
theorem dX12_share_112 : decode cX12_share 112 = .ok (.iadd, 1) := by decide +kernel
theorem dX12_share_113 : decode cX12_share 113 = .ok (.iaload, 1) := by decide +kernel
theorem dX12_share_114 : decode cX12_share 114 = .ok (.iastore, 1) := by decide +kernel
theorem dX12_share_115 : decode cX12_share 115 = .ok (.iinc 2 1, 3) := by decide +kernel
theorem dX12_share_118 : decode cX12_share 118 = .ok (.goto (-24), 3) := by decide +kernel
theorem dX12_share_121 : decode cX12_share 121 = .ok (.aload_n 0, 1) := by decide +kernel
theorem dX12_share_122 : decode cX12_share 122 = .ok (.iconst (-1), 1) := by decide +kernel
theorem dX12_share_123 : decode cX12_share 123 = .ok (.putfield 456, 3) := by decide +kernel
theorem dX12_share_126 : decode cX12_share 126 = .ok (.aload_n 0, 1) := by decide +kernel
theorem dX12_share_127 : decode cX12_share 127 = .ok (.iconst 0, 1) := by decide +kernel
theorem dX12_share_128 : decode cX12_share 128 = .ok (.iconst 0, 1) := by decide +kernel
theorem dX12_share_129 : decode cX12_share 129 = .ok (.invokevirtual 459, 3) := by decide +kernel
theorem dX12_share_132 : decode cX12_share 132 = .ok (.iload_n 1, 1) := by decide +kernel
theorem dX12_share_133 : decode cX12_share 133 = .ok (.iconst (-1), 1) := by decide +kernel
theorem dX12_share_134 : decode cX12_share 134 = .ok (.if_icmp .ne 10, 3) := by decide +kernel
theorem dX12_share_137 : decode cX12_share 137 = .ok (.aload_n 0, 1) := by decide +kernel
theorem dX12_share_138 : decode cX12_share 138 = .ok (.getfield 456, 3) := by decide +kernel
theorem dX12_share_141 : decode cX12_share 141 = .ok (.goto 9, 3) := by decide +kernel
theorem dX12_share_144 : decode cX12_share 144 = .ok (.aload_n 0, 1) := by decide +kernel
theorem dX12_share_145 : decode cX12_share 145 = .ok (.getfield 114, 3) := by decide +kernel
theorem dX12_share_148 : decode cX12_share 148 = .ok (.iload_n 1, 1) := by decide +kernel
theorem dX12_share_149 : decode cX12_share 149 = .ok (.iaload, 1) := by decide +kernel
theorem dX12_share_150 : decode cX12_share 150 = .ok (.ireturn, 1) := by decide +kernel
abbrev YX12_share : zY := (yX12_share, cX12_share, 3, (Option.some Jvm.ClassFile.FieldType.int), [])
def fX12_share_132 (F : zFs)  (v1 : Int) (D : zDa) : Option (Int × zDa) :=
  if v1 = (-1) then
    some ((D 91 57), D)
  else
    if (0 ≤ v1 ∧ v1 < 12) then
      some ((D 121 v1.toNat), D)
    else none
def fX12_share_94 (F : zFs) (o1 : Int)  (k_94 : Int → zDa → Option (Int × zDa)) (v2 : Int) (D : zDa) : Option (Int × zDa) :=
  if v2 < 3 then
    if (-2147483648 ≤ 347 + v2 ∧ 347 + v2 ≤ 2147483647) ∧ (0 ≤ (347 + v2) ∧ (347 + v2) < 5201) ∧ (0 ≤ v2 ∧ v2 < 3) then
      zlet (zwr D 119 v2.toNat (D 93 (347 + v2).toNat)) (fun D_12 =>
        if (-2147483648 ≤ v2 + 1 ∧ v2 + 1 ≤ 2147483647) then
          k_94 (v2 + 1) D_12
        else none)
    else none
  else
    zlet (zwr D 91 57 (-1)) (fun D_13 =>
      (fX12_shares F 0 0 D_13).bind (fun D_15 =>
        fX12_share_132 F o1 D_15))
def fX12_share_55 (F : zFs) (o1 : Int)  (k_55 : Int → zDa → Option (Int × zDa)) (v2 : Int) (D : zDa) : Option (Int × zDa) :=
  if v2 < (D 91 56) then
    (fX12_takesOf F v2 1 0 0 D).bind (fun (r_7, D_8) =>
      (fX12_takesOf F v2 2 0 0 D_8).bind (fun (r_9, D_10) =>
        if (-2147483648 ≤ r_7 + r_9 ∧ r_7 + r_9 ≤ 2147483647) ∧ (0 ≤ v2 ∧ v2 < 12) then
          zlet (zwr D_10 122 v2.toNat (r_7 + r_9)) (fun D_11 =>
            if (-2147483648 ≤ v2 + 1 ∧ v2 + 1 ≤ 2147483647) then
              k_55 (v2 + 1) D_11
            else none)
        else none))
  else
    zfix (fun _ _ => none) (fX12_share_94 F o1) zfu 0 D
def fX12_share_34 (F : zFs)  (v1 : Int) (D : zDa) : Option (Int × zDa) :=
  if (D 91 58) = (D 91 1) then
    fX12_share_132 F v1 D
  else
    zlet (zwr D 91 58 (D 91 1)) (fun D_6 =>
      zfix (fun _ _ => none) (fX12_share_55 F v1) zfu 0 D_6)
def fX12_share (F : zFs) (v1 : Int) (D : zDa) : Option (Int × zDa) :=
  (fX12_questions F D).bind (fun (r_1, D_2) =>
    (fX12_lesser F 12 r_1 D_2).bind (fun (r_3, D_4) =>
      zlet (zwr D_4 91 56 r_3) (fun D_5 =>
        if v1 = (-1) then
          fX12_share_34 F v1 D_5
        else
          if (-2147483648 ≤ (D_5 91 56) - 1 ∧ (D_5 91 56) - 1 ≤ 2147483647) then
            (fX12_lies F v1 0 ((D_5 91 56) - 1) D_5).bind (fun (r_16, D_17) =>
              if r_16 = 0 then
                some ((-1), D_17)
              else
                fX12_share_34 F v1 D_17)
          else none)))
set_option maxHeartbeats 20000000 in
theorem sX12_share_132 {l : Launch} {E : zE} {d : Nat} {F : zFs} {n sl : Nat} (hG : zG F)  (v1 : Int)   (D : zDa) : zO l E (d + 88) YX12_share 132 [(0, zR 91), (1, zI v1)] [] (F, D, n, sl) (zcI F n sl) (fX12_share_132 F v1 D) := by
  unfold fX12_share_132
  refine zO_iload_n dX12_share_132 rfl ?_
  refine zO_iconst dX12_share_133 (by decide) ?_
  refine zO_icmp_ne (tgt := 144) dX12_share_134 rfl (fun c134 => ?_) (fun c134 => ?_)
  · refine zO_aload_n dX12_share_137 rfl (zR_P _) ?_
    refine gt12 (k := 57) (v := zI (D 91 57)) dX12_share_138 wF_X12_456 (by decide) (gk_91 hG) rfl ?_
    refine zO_goto (tgt := 150) dX12_share_141 rfl ?_
    exact zO_ret (rv := some (zI (D 91 57))) dX12_share_150 rfl rfl rfl
  · refine zO_chk (fun h1 => ?_)
    refine zO_aload_n dX12_share_144 rfl (zR_P _) ?_
    refine gt12 (k := 54) dX12_share_145 wF_X12_114 (by decide) (gk_91 hG) (zgv (c := 12) (k := 54) rfl (Or.inl ⟨_, rfl⟩) (gf_91_54 hG)) ?_
    refine zO_iload_n dX12_share_148 rfl ?_
    refine zO_iald dX12_share_149 (gk_121 hG) (gl_in (gl_121 hG) h1) ?_
    exact zO_ret (rv := some (zI (D 121 v1.toNat))) dX12_share_150 rfl rfl rfl
set_option maxHeartbeats 20000000 in
theorem sX12_share_94 {l : Launch} {E : zE} {d : Nat} {F : zFs} {n sl : Nat} (hG : zG F)  (o1 : Int)   : ∀ (N : Nat) (v2 : Int) (D : zDa), zO l E (d + 88) YX12_share 94 [(0, zR 91), (1, zI o1), (2, zI v2)] [] (F, D, n, sl) (zcI F n sl) (zfix (fun _ _ => none) (fX12_share_94 F o1) N v2 D) := by
  intro N
  induction N with
  | zero => intro v2 D; exact zO_none
  | succ N hk_94 =>
    intro v2 D
    show zO _ _ _ _ _ _ _ _ _ ((fX12_share_94 F o1) (zfix (fun _ _ => none) (fX12_share_94 F o1) N) v2 D)
    unfold fX12_share_94
    refine zO_iload_n dX12_share_94 rfl ?_
    refine zO_iconst dX12_share_95 (by decide) ?_
    refine zO_icmp_ge (tgt := 121) dX12_share_96 rfl (fun c96 => ?_) (fun c96 => ?_)
    · refine zO_chk (fun h4 => ?_)
      refine zO_aload_n dX12_share_99 rfl (zR_P _) ?_
      refine gt12 (k := 52) dX12_share_100 wF_X12_108 (by decide) (gk_91 hG) (zgv (c := 12) (k := 52) rfl (Or.inl ⟨_, rfl⟩) (gf_91_52 hG)) ?_
      refine zO_iload_n dX12_share_103 rfl ?_
      refine zO_aload_n dX12_share_104 rfl (zR_P _) ?_
      refine gt12 (k := 3) dX12_share_105 wF_X12_20 (by decide) (gk_91 hG) (zgv (c := 12) (k := 3) rfl (Or.inl ⟨_, rfl⟩) (gf_91_3 hG)) ?_
      refine zO_sipush dX12_share_108 (by decide) ?_
      refine zO_iload_n dX12_share_111 rfl ?_
      refine zO_iadd dX12_share_112 h4.1 ?_
      refine zO_iald dX12_share_113 (gk_93 hG) (gl_in (gl_93 hG) h4.2.1) ?_
      refine zO_iast dX12_share_114 (gk_119 hG) (gl_in (gl_119 hG) h4.2.2) ?_
      refine zO_letD (fun D_12 eD_12 => ?_)
      refine zO_chk (fun h5 => ?_)
      refine zO_iinc dX12_share_115 rfl h5 (by decide) ?_
      refine zO_ls (ls' := [(0, zR 91), (1, zI o1), (2, zI (v2 + 1))]) rfl ?_
      refine zO_goto (tgt := 94) dX12_share_118 rfl ?_
      refine zO_live [0, 1, 2] ?_
      exact hk_94 (v2 + 1) D_12
    · refine zO_aload_n dX12_share_121 rfl (zR_P _) ?_
      refine zO_iconst dX12_share_122 (by decide) ?_
      refine ptI12 (k := 57) (z := (-1)) dX12_share_123 wF_X12_456 (by decide) rfl (gk_91 hG) rfl ?_
      refine zO_letD (fun D_13 eD_13 => ?_)
      refine zO_aload_n dX12_share_126 rfl (zR_P _) ?_
      refine zO_iconst dX12_share_127 (by decide) ?_
      refine zO_iconst dX12_share_128 (by decide) ?_
      refine zO_callV (Y' := YX12_shares) (cw := zcV F n sl) (as := [zI 0, zI 0]) (rest := []) (na := 2) (ci := 12) rfl dX12_share_129 wC_X12_shares wN_X12 wM_X12_459 wI_X12_shares wV_X12_shares (by decide) (by decide) rfl rfl (Nat.le_of_ble_eq_true rfl) rfl (by decide) (gk_91 hG) (fun r hr => zMet_cast (Nat.add_assoc d 46 41) (mX12_shares (d := d + 46) hG 0 0 r hr)) ?_
      intro D_15 _
      show zO _ _ _ _ _ _ [] (F, D_15, n, sl) _ _
      refine zO_live [0, 1] ?_
      exact sX12_share_132 hG o1 D_15
set_option maxHeartbeats 20000000 in
theorem sX12_share_55 {l : Launch} {E : zE} {d : Nat} {F : zFs} {n sl : Nat} (hG : zG F)  (o1 : Int)   : ∀ (N : Nat) (v2 : Int) (D : zDa), zO l E (d + 88) YX12_share 55 [(0, zR 91), (1, zI o1), (2, zI v2)] [] (F, D, n, sl) (zcI F n sl) (zfix (fun _ _ => none) (fX12_share_55 F o1) N v2 D) := by
  intro N
  induction N with
  | zero => intro v2 D; exact zO_none
  | succ N hk_55 =>
    intro v2 D
    show zO _ _ _ _ _ _ _ _ _ ((fX12_share_55 F o1) (zfix (fun _ _ => none) (fX12_share_55 F o1) N) v2 D)
    unfold fX12_share_55
    refine zO_iload_n dX12_share_55 rfl ?_
    refine zO_aload_n dX12_share_56 rfl (zR_P _) ?_
    refine gt12 (k := 56) (v := zI (D 91 56)) dX12_share_57 wF_X12_453 (by decide) (gk_91 hG) rfl ?_
    refine zO_icmp_ge (tgt := 92) dX12_share_60 rfl (fun c60 => ?_) (fun c60 => ?_)
    · refine zO_aload_n dX12_share_63 rfl (zR_P _) ?_
      refine gt12 (k := 55) dX12_share_64 wF_X12_117 (by decide) (gk_91 hG) (zgv (c := 12) (k := 55) rfl (Or.inl ⟨_, rfl⟩) (gf_91_55 hG)) ?_
      refine zO_iload_n dX12_share_67 rfl ?_
      refine zO_aload_n dX12_share_68 rfl (zR_P _) ?_
      refine zO_iload_n dX12_share_69 rfl ?_
      refine zO_iconst dX12_share_70 (by decide) ?_
      refine zO_iconst dX12_share_71 (by decide) ?_
      refine zO_iconst dX12_share_72 (by decide) ?_
      refine zO_callV (Y' := YX12_takesOf) (cw := zcI F n sl) (as := [zI v2, zI 1, zI 0, zI 0]) (rest := [zI v2, zR 122]) (na := 4) (ci := 12) rfl dX12_share_73 wC_X12_takesOf wN_X12 wM_X12_298 wI_X12_takesOf wV_X12_takesOf (by decide) (by decide) rfl rfl (Nat.le_of_ble_eq_true rfl) rfl (by decide) (gk_91 hG) (fun r hr => zMet_cast (Nat.add_assoc d 0 87) (mX12_takesOf (d := d + 0) hG v2 1 0 0 r hr)) ?_
      rintro ⟨r_7, D_8⟩ -
      show zO _ _ _ _ _ _ [zI r_7, zI v2, zR 122] (F, D_8, n, sl) _ _
      refine zO_aload_n dX12_share_76 rfl (zR_P _) ?_
      refine zO_iload_n dX12_share_77 rfl ?_
      refine zO_iconst dX12_share_78 (by decide) ?_
      refine zO_iconst dX12_share_79 (by decide) ?_
      refine zO_iconst dX12_share_80 (by decide) ?_
      refine zO_callV (Y' := YX12_takesOf) (cw := zcI F n sl) (as := [zI v2, zI 2, zI 0, zI 0]) (rest := [zI r_7, zI v2, zR 122]) (na := 4) (ci := 12) rfl dX12_share_81 wC_X12_takesOf wN_X12 wM_X12_298 wI_X12_takesOf wV_X12_takesOf (by decide) (by decide) rfl rfl (Nat.le_of_ble_eq_true rfl) rfl (by decide) (gk_91 hG) (fun r hr => zMet_cast (Nat.add_assoc d 0 87) (mX12_takesOf (d := d + 0) hG v2 2 0 0 r hr)) ?_
      rintro ⟨r_9, D_10⟩ -
      show zO _ _ _ _ _ _ [zI r_9, zI r_7, zI v2, zR 122] (F, D_10, n, sl) _ _
      refine zO_chk (fun h2 => ?_)
      refine zO_iadd dX12_share_84 h2.1 ?_
      refine zO_iast dX12_share_85 (gk_122 hG) (gl_in (gl_122 hG) h2.2) ?_
      refine zO_letD (fun D_11 eD_11 => ?_)
      refine zO_chk (fun h3 => ?_)
      refine zO_iinc dX12_share_86 rfl h3 (by decide) ?_
      refine zO_ls (ls' := [(0, zR 91), (1, zI o1), (2, zI (v2 + 1))]) rfl ?_
      refine zO_goto (tgt := 55) dX12_share_89 rfl ?_
      refine zO_live [0, 1, 2] ?_
      exact hk_55 (v2 + 1) D_11
    · refine zO_iconst dX12_share_92 (by decide) ?_
      refine zO_istore_n dX12_share_93 (by decide) ?_
      refine zO_ls (ls' := [(0, zR 91), (1, zI o1), (2, zI 0)]) rfl ?_
      refine zO_live [0, 1, 2] ?_
      exact sX12_share_94 hG o1 zfu 0 D
set_option maxHeartbeats 20000000 in
theorem sX12_share_34 {l : Launch} {E : zE} {d : Nat} {F : zFs} {n sl : Nat} (hG : zG F)  (v1 : Int)   (D : zDa) : zO l E (d + 88) YX12_share 34 [(0, zR 91), (1, zI v1)] [] (F, D, n, sl) (zcI F n sl) (fX12_share_34 F v1 D) := by
  unfold fX12_share_34
  refine zO_aload_n dX12_share_34 rfl (zR_P _) ?_
  refine gt12 (k := 58) (v := zI (D 91 58)) dX12_share_35 wF_X12_120 (by decide) (gk_91 hG) rfl ?_
  refine zO_aload_n dX12_share_38 rfl (zR_P _) ?_
  refine gt12 (k := 1) (v := zI (D 91 1)) dX12_share_39 wF_X12_11 (by decide) (gk_91 hG) rfl ?_
  refine zO_icmp_eq (tgt := 132) dX12_share_42 rfl (fun c42 => ?_) (fun c42 => ?_)
  · refine zO_live [0, 1] ?_
    exact sX12_share_132 hG v1 D
  · refine zO_aload_n dX12_share_45 rfl (zR_P _) ?_
    refine zO_aload_n dX12_share_46 rfl (zR_P _) ?_
    refine gt12 (k := 1) (v := zI (D 91 1)) dX12_share_47 wF_X12_11 (by decide) (gk_91 hG) rfl ?_
    refine ptI12 (k := 58) (z := (D 91 1)) dX12_share_50 wF_X12_120 (by decide) rfl (gk_91 hG) rfl ?_
    refine zO_letD (fun D_6 eD_6 => ?_)
    refine zO_iconst dX12_share_53 (by decide) ?_
    refine zO_istore_n dX12_share_54 (by decide) ?_
    refine zO_ls (ls' := [(0, zR 91), (1, zI v1), (2, zI 0)]) rfl ?_
    refine zO_live [0, 1, 2] ?_
    exact sX12_share_55 hG v1 zfu 0 D_6
set_option maxHeartbeats 20000000 in
theorem mX12_share {l : Launch} {E : zE} {d : Nat} {F : zFs} {n sl : Nat} (hG : zG F) (v1 : Int) {D : zDa} : ∀ r, fX12_share F  v1 D = some r → zMet l E (d + 88) YX12_share [zR 91, zI v1] (F, D, n, sl) (zcI F n sl r) := by
  intro r hr
  refine zMet_of (plainFor_of_name (by decide)) (fun _ h => (nomatch h)) (Nat.le_of_ble_eq_true rfl) ?_
  have hz : zO l E (d + 88) YX12_share 0 [(0, zR 91), (1, zI v1)] [] (F, D, n, sl) (zcI F n sl) (fX12_share F  v1 D) := by
    unfold fX12_share
    refine zO_aload_n dX12_share_0 rfl (zR_P _) ?_
    refine zO_bipush dX12_share_1 (by decide) ?_
    refine zO_aload_n dX12_share_3 rfl (zR_P _) ?_
    refine zO_callV (Y' := YX12_questions) (cw := zcI F n sl) (as := []) (rest := [zI 12, zR 91]) (na := 0) (ci := 12) rfl dX12_share_4 wC_X12_questions wN_X12 wM_X12_146 wI_X12_questions wV_X12_questions (by decide) (by decide) rfl rfl (Nat.le_of_ble_eq_true rfl) rfl (by decide) (gk_91 hG) (fun r hr => zMet_cast (Nat.add_assoc d 87 0) (mX12_questions (d := d + 87) hG  r hr)) ?_
    rintro ⟨r_1, D_2⟩ -
    show zO _ _ _ _ _ _ [zI r_1, zI 12, zR 91] (F, D_2, n, sl) _ _
    refine zO_callS (Y' := YX12_lesser) (cw := zcI F n sl) (as := [zI 12, zI r_1]) (rest := [zR 91]) (na := 2) dX12_share_7 wC_X12_lesser wN_X12 wM_X12_394 wS_X12_lesser (by decide) (by decide) rfl rfl (Nat.le_of_ble_eq_true rfl) (fun r hr => zMet_cast (Nat.add_assoc d 87 0) (mX12_lesser (d := d + 87) hG 12 r_1 r hr)) ?_
    rintro ⟨r_3, D_4⟩ -
    show zO _ _ _ _ _ _ [zI r_3, zR 91] (F, D_4, n, sl) _ _
    refine ptI12 (k := 56) (z := r_3) dX12_share_10 wF_X12_453 (by decide) rfl (gk_91 hG) rfl ?_
    refine zO_letD (fun D_5 eD_5 => ?_)
    refine zO_iload_n dX12_share_13 rfl ?_
    refine zO_iconst dX12_share_14 (by decide) ?_
    refine zO_icmp_eq (tgt := 34) dX12_share_15 rfl (fun c15 => ?_) (fun c15 => ?_)
    · refine zO_live [0, 1] ?_
      exact sX12_share_34 hG v1 D_5
    · refine zO_chk (fun h6 => ?_)
      refine zO_iload_n dX12_share_18 rfl ?_
      refine zO_iconst dX12_share_19 (by decide) ?_
      refine zO_aload_n dX12_share_20 rfl (zR_P _) ?_
      refine gt12 (k := 56) (v := zI (D_5 91 56)) dX12_share_21 wF_X12_453 (by decide) (gk_91 hG) rfl ?_
      refine zO_iconst dX12_share_24 (by decide) ?_
      refine zO_isub dX12_share_25 h6 ?_
      refine zO_callS (Y' := YX12_lies) (cw := zcI F n sl) (as := [zI v1, zI 0, zI ((D_5 91 56) - 1)]) (rest := []) (na := 3) dX12_share_26 wC_X12_lies wN_X12 wM_X12_135 wS_X12_lies (by decide) (by decide) rfl rfl (Nat.le_of_ble_eq_true rfl) (fun r hr => zMet_cast (Nat.add_assoc d 87 0) (mX12_lies (d := d + 87) hG v1 0 ((D_5 91 56) - 1) r hr)) ?_
      rintro ⟨r_16, D_17⟩ -
      show zO _ _ _ _ _ _ [zI r_16] (F, D_17, n, sl) _ _
      refine zO_if_ne (tgt := 34) dX12_share_29 rfl (fun c29 => ?_) (fun c29 => ?_)
      · refine zO_iconst dX12_share_32 (by decide) ?_
        exact zO_ret (rv := some (zI (-1))) dX12_share_33 rfl rfl rfl
      · refine zO_live [0, 1] ?_
        exact sX12_share_34 hG v1 D_17
  exact hz r hr
theorem dX12_ill_0 : decode cX12_ill 0 = .ok (.iload_n 1, 1) := by decide +kernel
theorem dX12_ill_1 : decode cX12_ill 1 = .ok (.iconst 0, 1) := by decide +kernel
theorem dX12_ill_2 : decode cX12_ill 2 = .ok (.iconst 3, 1) := by decide +kernel
theorem dX12_ill_3 : decode cX12_ill 3 = .ok (.invokestatic 135, 3) := by decide +kernel
theorem dX12_ill_6 : decode cX12_ill 6 = .ok (.ifCond .eq 13, 3) := by decide +kernel
theorem dX12_ill_9 : decode cX12_ill 9 = .ok (.iload_n 2, 1) := by decide +kernel
theorem dX12_ill_10 : decode cX12_ill 10 = .ok (.iconst 0, 1) := by decide +kernel
theorem dX12_ill_11 : decode cX12_ill 11 = .ok (.bipush 100, 2) := by decide +kernel
theorem dX12_ill_13 : decode cX12_ill 13 = .ok (.invokestatic 135, 3) := by decide +kernel
theorem dX12_ill_16 : decode cX12_ill 16 = .ok (.ifCond .ne 5, 3) := by decide +kernel
theorem dX12_ill_19 : decode cX12_ill 19 = .ok (.iconst (-1), 1) := by decide +kernel
theorem dX12_ill_20 : decode cX12_ill 20 = .ok (.ireturn, 1) := by decide +kernel
theorem dX12_ill_21 : decode cX12_ill 21 = .ok (.lconst 0, 1) := by decide +kernel
theorem dX12_ill_22 : decode cX12_ill 22 = .ok (.lstore_n 3, 1) := by decide +kernel
theorem dX12_ill_23 : decode cX12_ill 23 = .ok (.lconst 1, 1) := by decide +kernel
theorem dX12_ill_24 : decode cX12_ill 24 = .ok (.lstore 5, 2) := by decide +kernel
theorem dX12_ill_26 : decode cX12_ill 26 = .ok (.iconst 0, 1) := by decide +kernel
theorem dX12_ill_27 : decode cX12_ill 27 = .ok (.istore 7, 2) := by decide +kernel
theorem dX12_ill_29 : decode cX12_ill 29 = .ok (.iload 7, 2) := by decide +kernel
theorem dX12_ill_31 : decode cX12_ill 31 = .ok (.iload_n 1, 1) := by decide +kernel
theorem dX12_ill_32 : decode cX12_ill 32 = .ok (.if_icmp .gt 79, 3) := by decide +kernel
theorem dX12_ill_35 : decode cX12_ill 35 = .ok (.aload_n 0, 1) := by decide +kernel
theorem dX12_ill_36 : decode cX12_ill 36 = .ok (.iload 7, 2) := by decide +kernel
theorem dX12_ill_38 : decode cX12_ill 38 = .ok (.iload_n 2, 1) := by decide +kernel
theorem dX12_ill_39 : decode cX12_ill 39 = .ok (.imul, 1) := by decide +kernel
theorem dX12_ill_40 : decode cX12_ill 40 = .ok (.invokevirtual 406, 3) := by decide +kernel
theorem dX12_ill_43 : decode cX12_ill 43 = .ok (.iload_n 1, 1) := by decide +kernel
theorem dX12_ill_44 : decode cX12_ill 44 = .ok (.iload 7, 2) := by decide +kernel
theorem dX12_ill_46 : decode cX12_ill 46 = .ok (.invokestatic 311, 3) := by decide +kernel
theorem dX12_ill_49 : decode cX12_ill 49 = .ok (.lstore 8, 2) := by decide +kernel
theorem dX12_ill_51 : decode cX12_ill 51 = .ok (.iconst 0, 1) := by decide +kernel
theorem dX12_ill_52 : decode cX12_ill 52 = .ok (.istore 10, 2) := by decide +kernel
theorem dX12_ill_54 : decode cX12_ill 54 = .ok (.iload 10, 2) := by decide +kernel
theorem dX12_ill_56 : decode cX12_ill 56 = .ok (.iload_n 1, 1) := by decide +kernel
theorem dX12_ill_57 : decode cX12_ill 57 = .ok (.if_icmp .ge 38, 3) := by decide +kernel
theorem dX12_ill_60 : decode cX12_ill 60 = .ok (.lload 8, 2) := by decide +kernel
theorem dX12_ill_62 : decode cX12_ill 62 = .ok (.iload 10, 2) := by decide +kernel
theorem dX12_ill_64 : decode cX12_ill 64 = .ok (.iload 7, 2) := by decide +kernel
theorem dX12_ill_66 : decode cX12_ill 66 = .ok (.if_icmp .ge 14, 3) := by decide +kernel
theorem dX12_ill_69 : decode cX12_ill 69 = .ok (.bipush 100, 2) := by decide +kernel
theorem dX12_ill_71 : decode cX12_ill 71 = .ok (.aload_n 0, 1) := by decide +kernel
theorem dX12_ill_72 : decode cX12_ill 72 = .ok (.iconst 4, 1) := by decide +kernel
theorem dX12_ill_73 : decode cX12_ill 73 = .ok (.invokevirtual 318, 3) := by decide +kernel
theorem dX12_ill_76 : decode cX12_ill 76 = .ok (.isub, 1) := by decide +kernel
theorem dX12_ill_77 : decode cX12_ill 77 = .ok (.goto 8, 3) := by decide +kernel
theorem dX12_ill_80 : decode cX12_ill 80 = .ok (.aload_n 0, 1) := by decide +kernel
theorem dX12_ill_81 : decode cX12_ill 81 = .ok (.iconst 4, 1) := by decide +kernel
theorem dX12_ill_82 : decode cX12_ill 82 = .ok (.invokevirtual 318, 3) := by decide +kernel
theorem dX12_ill_85 : decode cX12_ill 85 = .ok (.i2l, 1) := by decide +kernel
theorem dX12_ill_86 : decode cX12_ill 86 = .ok (.lmul, 1) := by decide +kernel
theorem dX12_ill_87 : decode cX12_ill 87 = .ok (.lstore 8, 2) := by decide +kernel
theorem dX12_ill_89 : decode cX12_ill 89 = .ok (.iinc 10 1, 3) := by decide +kernel
theorem dX12_ill_92 : decode cX12_ill 92 = .ok (.goto (-38), 3) := by decide +kernel
theorem dX12_ill_95 : decode cX12_ill 95 = .ok (.lload_n 3, 1) := by decide +kernel
theorem dX12_ill_96 : decode cX12_ill 96 = .ok (.lload 8, 2) := by decide +kernel
theorem dX12_ill_98 : decode cX12_ill 98 = .ok (.aload_n 0, 1) := by decide +kernel
theorem dX12_ill_99 : decode cX12_ill 99 = .ok (.getfield 400, 3) := by decide +kernel
theorem dX12_ill_102 : decode cX12_ill 102 = .ok (.lmul, 1) := by decide +kernel
theorem dX12_ill_103 : decode cX12_ill 103 = .ok (.ladd, 1) := by decide +kernel
theorem dX12_ill_104 : decode cX12_ill 104 = .ok (.lstore_n 3, 1) := by decide +kernel
theorem dX12_ill_105 : decode cX12_ill 105 = .ok (.iinc 7 1, 3) := by decide +kernel
theorem dX12_ill_108 : decode cX12_ill 108 = .ok (.goto (-79), 3) := by decide +kernel
theorem dX12_ill_111 : decode cX12_ill 111 = .ok (.iconst 0, 1) := by decide +kernel
theorem dX12_ill_112 : decode cX12_ill 112 = .ok (.istore 7, 2) := by decide +kernel
theorem dX12_ill_114 : decode cX12_ill 114 = .ok (.iload 7, 2) := by decide +kernel
theorem dX12_ill_116 : decode cX12_ill 116 = .ok (.iload_n 1, 1) := by decide +kernel
theorem dX12_ill_117 : decode cX12_ill 117 = .ok (.if_icmp .ge 17, 3) := by decide +kernel
theorem dX12_ill_120 : decode cX12_ill 120 = .ok (.lload 5, 2) := by decide +kernel
theorem dX12_ill_122 : decode cX12_ill 122 = .ok (.ldc2_w 328, 3) := by decide +kernel
theorem dX12_ill_125 : decode cX12_ill 125 = .ok (.lmul, 1) := by decide +kernel
theorem dX12_ill_126 : decode cX12_ill 126 = .ok (.lstore 5, 2) := by decide +kernel
theorem dX12_ill_128 : decode cX12_ill 128 = .ok (.iinc 7 1, 3) := by decide +kernel
theorem dX12_ill_131 : decode cX12_ill 131 = .ok (.goto (-17), 3) := by decide +kernel
theorem dX12_ill_134 : decode cX12_ill 134 = .ok (.lload_n 3, 1) := by decide +kernel
theorem dX12_ill_135 : decode cX12_ill 135 = .ok (.lload 5, 2) := by decide +kernel
theorem dX12_ill_137 : decode cX12_ill 137 = .ok (.aload_n 0, 1) := by decide +kernel
theorem dX12_ill_138 : decode cX12_ill 138 = .ok (.getfield 381, 3) := by decide +kernel
theorem dX12_ill_141 : decode cX12_ill 141 = .ok (.lmul, 1) := by decide +kernel
theorem dX12_ill_142 : decode cX12_ill 142 = .ok (.invokestatic 371, 3) := by decide +kernel
theorem dX12_ill_145 : decode cX12_ill 145 = .ok (.ireturn, 1) := by decide +kernel
abbrev YX12_ill : zY := (yX12_ill, cX12_ill, 11, (Option.some Jvm.ClassFile.FieldType.int), [])
def fX12_ill_114 (F : zFs) (o1 : Int) (o3 : Int)  (k_114 : Int → Int → zDa → Option (Int × zDa)) (v5 : Int) (v7 : Int) (D : zDa) : Option (Int × zDa) :=
  if v7 < o1 then
    if (-9223372036854775808 ≤ v5 * 100 ∧ v5 * 100 ≤ 9223372036854775807) then
      zlet ((v5 * 100)) (fun x5_5 =>
        if (-2147483648 ≤ v7 + 1 ∧ v7 + 1 ≤ 2147483647) then
          k_114 x5_5 (v7 + 1) D
        else none)
    else none
  else
    if (-9223372036854775808 ≤ v5 * (D 91 34) ∧ v5 * (D 91 34) ≤ 9223372036854775807) then
      (fX12_millionths F o3 (v5 * (D 91 34)) D).bind (fun (r_6, D_7) =>
        some (r_6, D_7))
    else none
def fX12_ill_85 (F : zFs) (k_29 : Int → Int → zDa → Option (Int × zDa)) (k_54 : Int → Int → zDa → Option (Int × zDa)) (o1 : Int) (o2 : Int) (o3 : Int) (o5 : Int) (o7 : Int) (v10 : Int) (s0 : Int) (s1 : Int) (D : zDa) : Option (Int × zDa) :=
  if (-9223372036854775808 ≤ s1 * s0 ∧ s1 * s0 ≤ 9223372036854775807) then
    zlet ((s1 * s0)) (fun x8_14 =>
      if (-2147483648 ≤ v10 + 1 ∧ v10 + 1 ≤ 2147483647) then
        k_54 x8_14 (v10 + 1) D
      else none)
  else none
def fX12_ill_54 (F : zFs) (o1 : Int) (o2 : Int) (o3 : Int) (o5 : Int) (o7 : Int) (k_29 : Int → Int → zDa → Option (Int × zDa)) (k_54 : Int → Int → zDa → Option (Int × zDa)) (v8 : Int) (v10 : Int) (D : zDa) : Option (Int × zDa) :=
  if v10 < o1 then
    if v10 < o7 then
      (fX12_term F 4 D).bind (fun (r_12, D_13) =>
        if (-2147483648 ≤ 100 - r_12 ∧ 100 - r_12 ≤ 2147483647) then
          fX12_ill_85 F k_29 k_54 o1 o2 o3 o5 o7 v10 (100 - r_12) v8 D_13
        else none)
    else
      (fX12_term F 4 D).bind (fun (r_15, D_16) =>
        fX12_ill_85 F k_29 k_54 o1 o2 o3 o5 o7 v10 r_15 v8 D_16)
  else
    if (-9223372036854775808 ≤ v8 * (D 91 36) ∧ v8 * (D 91 36) ≤ 9223372036854775807) ∧ (-9223372036854775808 ≤ o3 + (v8 * (D 91 36)) ∧ o3 + (v8 * (D 91 36)) ≤ 9223372036854775807) then
      zlet ((o3 + (v8 * (D 91 36)))) (fun x3_17 =>
        if (-2147483648 ≤ o7 + 1 ∧ o7 + 1 ≤ 2147483647) then
          k_29 x3_17 (o7 + 1) D
        else none)
    else none
def fX12_ill_29 (F : zFs) (o1 : Int) (o2 : Int) (o5 : Int)  (k_29 : Int → Int → zDa → Option (Int × zDa)) (v3 : Int) (v7 : Int) (D : zDa) : Option (Int × zDa) :=
  if o1 < v7 then
    zfix (fun _ _ _ => none) (fX12_ill_114 F o1 v3) zfu o5 0 D
  else
    if (-2147483648 ≤ v7 * o2 ∧ v7 * o2 ≤ 2147483647) then
      (fX12_bests F (v7 * o2) D).bind (fun D_9 =>
        (fX12_choose F o1 v7 D_9).bind (fun (r_10, D_11) =>
          zfix (fun _ _ _ => none) (fX12_ill_54 F o1 o2 v3 o5 v7 k_29) zfu r_10 0 D_11))
    else none
def fX12_ill (F : zFs) (v1 : Int) (v2 : Int) (D : zDa) : Option (Int × zDa) :=
  (fX12_lies F v1 0 3 D).bind (fun (r_1, D_2) =>
    if r_1 = 0 then
      some ((-1), D_2)
    else
      (fX12_lies F v2 0 100 D_2).bind (fun (r_3, D_4) =>
        if r_3 = 0 then
          some ((-1), D_4)
        else
          zfix (fun _ _ _ => none) (fX12_ill_29 F v1 v2 1) zfu 0 0 D_4))
set_option maxHeartbeats 20000000 in
theorem sX12_ill_114 {l : Launch} {E : zE} {d : Nat} {F : zFs} {n sl : Nat} (hG : zG F)  (o1 : Int) (o3 : Int)   : ∀ (N : Nat) (v5 : Int) (v7 : Int) (D : zDa), zO l E (d + 91) YX12_ill 114 [(0, zR 91), (1, zI o1), (3, zL o3), (5, zL v5), (7, zI v7)] [] (F, D, n, sl) (zcI F n sl) (zfix (fun _ _ _ => none) (fX12_ill_114 F o1 o3) N v5 v7 D) := by
  intro N
  induction N with
  | zero => intro v5 v7 D; exact zO_none
  | succ N hk_114 =>
    intro v5 v7 D
    show zO _ _ _ _ _ _ _ _ _ ((fX12_ill_114 F o1 o3) (zfix (fun _ _ _ => none) (fX12_ill_114 F o1 o3) N) v5 v7 D)
    unfold fX12_ill_114
    refine zO_iload dX12_ill_114 rfl ?_
    refine zO_iload_n dX12_ill_116 rfl ?_
    refine zO_icmp_ge (tgt := 134) dX12_ill_117 rfl (fun c117 => ?_) (fun c117 => ?_)
    · refine zO_chk (fun h1 => ?_)
      refine zO_lload dX12_ill_120 rfl ?_
      refine zO_ldc2 (n := 100) dX12_ill_122 wK_X12_328 (by decide) ?_
      refine zO_lmul dX12_ill_125 h1 ?_
      refine zO_letJ (fun x5_5 ex5_5 => ?_)
      refine zO_lstore dX12_ill_126 (by decide) ?_
      refine zO_ls (ls' := [(0, zR 91), (1, zI o1), (3, zL o3), (5, zL x5_5), (7, zI v7)]) rfl ?_
      refine zO_chk (fun h2 => ?_)
      refine zO_iinc dX12_ill_128 rfl h2 (by decide) ?_
      refine zO_ls (ls' := [(0, zR 91), (1, zI o1), (3, zL o3), (5, zL x5_5), (7, zI (v7 + 1))]) rfl ?_
      refine zO_goto (tgt := 114) dX12_ill_131 rfl ?_
      refine zO_live [0, 1, 3, 5, 7] ?_
      exact hk_114 x5_5 (v7 + 1) D
    · refine zO_chk (fun h3 => ?_)
      refine zO_lload_n dX12_ill_134 rfl ?_
      refine zO_lload dX12_ill_135 rfl ?_
      refine zO_aload_n dX12_ill_137 rfl (zR_P _) ?_
      refine gt12 (k := 34) (v := zL (D 91 34)) dX12_ill_138 wF_X12_381 (by decide) (gk_91 hG) rfl ?_
      refine zO_lmul dX12_ill_141 h3 ?_
      refine zO_callS (Y' := YX12_millionths) (cw := zcI F n sl) (as := [zL o3, zL (v5 * (D 91 34))]) (rest := []) (na := 2) dX12_ill_142 wC_X12_millionths wN_X12 wM_X12_371 wS_X12_millionths (by decide) (by decide) rfl rfl (Nat.le_of_ble_eq_true rfl) (fun r hr => zMet_cast (Nat.add_assoc d 90 0) (mX12_millionths (d := d + 90) hG o3 (v5 * (D 91 34)) r hr)) ?_
      rintro ⟨r_6, D_7⟩ -
      show zO _ _ _ _ _ _ [zI r_6] (F, D_7, n, sl) _ _
      exact zO_ret (rv := some (zI r_6)) dX12_ill_145 rfl rfl rfl
set_option maxHeartbeats 20000000 in
theorem sX12_ill_85 {l : Launch} {E : zE} {d : Nat} {F : zFs} {n sl : Nat} (hG : zG F)  (o1 : Int) (o2 : Int) (o3 : Int) (o5 : Int) (o7 : Int) (v10 : Int) (s0 : Int) (s1 : Int) (k_29 : Int → Int → zDa → Option (Int × zDa)) (k_54 : Int → Int → zDa → Option (Int × zDa)) (hk_29 : ∀ (u3 : Int) (u7 : Int) (D : zDa), zO l E (d + 91) YX12_ill 29 [(0, zR 91), (1, zI o1), (2, zI o2), (3, zL u3), (5, zL o5), (7, zI u7)] [] (F, D, n, sl) (zcI F n sl) (k_29 u3 u7 D)) (hk_54 : ∀ (u8 : Int) (u10 : Int) (D : zDa), zO l E (d + 91) YX12_ill 54 [(0, zR 91), (1, zI o1), (2, zI o2), (3, zL o3), (5, zL o5), (7, zI o7), (8, zL u8), (10, zI u10)] [] (F, D, n, sl) (zcI F n sl) (k_54 u8 u10 D)) (D : zDa) : zO l E (d + 91) YX12_ill 85 [(0, zR 91), (1, zI o1), (2, zI o2), (3, zL o3), (5, zL o5), (7, zI o7), (10, zI v10)] [zI s0, zL s1] (F, D, n, sl) (zcI F n sl) (fX12_ill_85 F k_29 k_54 o1 o2 o3 o5 o7 v10 s0 s1 D) := by
  unfold fX12_ill_85
  refine zO_chk (fun h6 => ?_)
  refine zO_i2l dX12_ill_85 ?_
  refine zO_lmul dX12_ill_86 h6 ?_
  refine zO_letJ (fun x8_14 ex8_14 => ?_)
  refine zO_lstore dX12_ill_87 (by decide) ?_
  refine zO_ls (ls' := [(0, zR 91), (1, zI o1), (2, zI o2), (3, zL o3), (5, zL o5), (7, zI o7), (8, zL x8_14), (10, zI v10)]) rfl ?_
  refine zO_chk (fun h7 => ?_)
  refine zO_iinc dX12_ill_89 rfl h7 (by decide) ?_
  refine zO_ls (ls' := [(0, zR 91), (1, zI o1), (2, zI o2), (3, zL o3), (5, zL o5), (7, zI o7), (8, zL x8_14), (10, zI (v10 + 1))]) rfl ?_
  refine zO_goto (tgt := 54) dX12_ill_92 rfl ?_
  refine zO_live [0, 1, 2, 3, 5, 7, 8, 10] ?_
  exact hk_54 x8_14 (v10 + 1) D
set_option maxHeartbeats 20000000 in
theorem sX12_ill_54 {l : Launch} {E : zE} {d : Nat} {F : zFs} {n sl : Nat} (hG : zG F)  (o1 : Int) (o2 : Int) (o3 : Int) (o5 : Int) (o7 : Int) (k_29 : Int → Int → zDa → Option (Int × zDa)) (hk_29 : ∀ (u3 : Int) (u7 : Int) (D : zDa), zO l E (d + 91) YX12_ill 29 [(0, zR 91), (1, zI o1), (2, zI o2), (3, zL u3), (5, zL o5), (7, zI u7)] [] (F, D, n, sl) (zcI F n sl) (k_29 u3 u7 D)) : ∀ (N : Nat) (v8 : Int) (v10 : Int) (D : zDa), zO l E (d + 91) YX12_ill 54 [(0, zR 91), (1, zI o1), (2, zI o2), (3, zL o3), (5, zL o5), (7, zI o7), (8, zL v8), (10, zI v10)] [] (F, D, n, sl) (zcI F n sl) (zfix (fun _ _ _ => none) (fX12_ill_54 F o1 o2 o3 o5 o7 k_29) N v8 v10 D) := by
  intro N
  induction N with
  | zero => intro v8 v10 D; exact zO_none
  | succ N hk_54 =>
    intro v8 v10 D
    show zO _ _ _ _ _ _ _ _ _ ((fX12_ill_54 F o1 o2 o3 o5 o7 k_29) (zfix (fun _ _ _ => none) (fX12_ill_54 F o1 o2 o3 o5 o7 k_29) N) v8 v10 D)
    unfold fX12_ill_54
    refine zO_iload dX12_ill_54 rfl ?_
    refine zO_iload_n dX12_ill_56 rfl ?_
    refine zO_icmp_ge (tgt := 95) dX12_ill_57 rfl (fun c57 => ?_) (fun c57 => ?_)
    · refine zO_lload dX12_ill_60 rfl ?_
      refine zO_iload dX12_ill_62 rfl ?_
      refine zO_iload dX12_ill_64 rfl ?_
      refine zO_icmp_ge (tgt := 80) dX12_ill_66 rfl (fun c66 => ?_) (fun c66 => ?_)
      · refine zO_bipush dX12_ill_69 (by decide) ?_
        refine zO_aload_n dX12_ill_71 rfl (zR_P _) ?_
        refine zO_iconst dX12_ill_72 (by decide) ?_
        refine zO_callV (Y' := YX12_term) (cw := zcI F n sl) (as := [zI 4]) (rest := [zI 100, zL v8]) (na := 1) (ci := 12) rfl dX12_ill_73 wC_X12_term wN_X12 wM_X12_318 wI_X12_term wV_X12_term (by decide) (by decide) rfl rfl (Nat.le_of_ble_eq_true rfl) rfl (by decide) (gk_91 hG) (fun r hr => zMet_cast (Nat.add_assoc d 90 0) (mX12_term (d := d + 90) hG 4 r hr)) ?_
        rintro ⟨r_12, D_13⟩ -
        show zO _ _ _ _ _ _ [zI r_12, zI 100, zL v8] (F, D_13, n, sl) _ _
        refine zO_chk (fun h5 => ?_)
        refine zO_isub dX12_ill_76 h5 ?_
        refine zO_goto (tgt := 85) dX12_ill_77 rfl ?_
        refine zO_live [0, 1, 2, 3, 5, 7, 10] ?_
        exact sX12_ill_85 hG o1 o2 o3 o5 o7 v10 (100 - r_12) v8 _ _ hk_29 hk_54 D_13
      · refine zO_aload_n dX12_ill_80 rfl (zR_P _) ?_
        refine zO_iconst dX12_ill_81 (by decide) ?_
        refine zO_callV (Y' := YX12_term) (cw := zcI F n sl) (as := [zI 4]) (rest := [zL v8]) (na := 1) (ci := 12) rfl dX12_ill_82 wC_X12_term wN_X12 wM_X12_318 wI_X12_term wV_X12_term (by decide) (by decide) rfl rfl (Nat.le_of_ble_eq_true rfl) rfl (by decide) (gk_91 hG) (fun r hr => zMet_cast (Nat.add_assoc d 90 0) (mX12_term (d := d + 90) hG 4 r hr)) ?_
        rintro ⟨r_15, D_16⟩ -
        show zO _ _ _ _ _ _ [zI r_15, zL v8] (F, D_16, n, sl) _ _
        refine zO_live [0, 1, 2, 3, 5, 7, 10] ?_
        exact sX12_ill_85 hG o1 o2 o3 o5 o7 v10 r_15 v8 _ _ hk_29 hk_54 D_16
    · refine zO_chk (fun h8 => ?_)
      refine zO_lload_n dX12_ill_95 rfl ?_
      refine zO_lload dX12_ill_96 rfl ?_
      refine zO_aload_n dX12_ill_98 rfl (zR_P _) ?_
      refine gt12 (k := 36) (v := zL (D 91 36)) dX12_ill_99 wF_X12_400 (by decide) (gk_91 hG) rfl ?_
      refine zO_lmul dX12_ill_102 h8.1 ?_
      refine zO_ladd dX12_ill_103 h8.2 ?_
      refine zO_letJ (fun x3_17 ex3_17 => ?_)
      refine zO_lstore_n dX12_ill_104 (by decide) ?_
      refine zO_ls (ls' := [(0, zR 91), (1, zI o1), (2, zI o2), (3, zL x3_17), (5, zL o5), (7, zI o7), (8, zL v8), (10, zI v10)]) rfl ?_
      refine zO_chk (fun h9 => ?_)
      refine zO_iinc dX12_ill_105 rfl h9 (by decide) ?_
      refine zO_ls (ls' := [(0, zR 91), (1, zI o1), (2, zI o2), (3, zL x3_17), (5, zL o5), (7, zI (o7 + 1)), (8, zL v8), (10, zI v10)]) rfl ?_
      refine zO_goto (tgt := 29) dX12_ill_108 rfl ?_
      refine zO_live [0, 1, 2, 3, 5, 7] ?_
      exact hk_29 x3_17 (o7 + 1) D
set_option maxHeartbeats 20000000 in
theorem sX12_ill_29 {l : Launch} {E : zE} {d : Nat} {F : zFs} {n sl : Nat} (hG : zG F)  (o1 : Int) (o2 : Int) (o5 : Int)   : ∀ (N : Nat) (v3 : Int) (v7 : Int) (D : zDa), zO l E (d + 91) YX12_ill 29 [(0, zR 91), (1, zI o1), (2, zI o2), (3, zL v3), (5, zL o5), (7, zI v7)] [] (F, D, n, sl) (zcI F n sl) (zfix (fun _ _ _ => none) (fX12_ill_29 F o1 o2 o5) N v3 v7 D) := by
  intro N
  induction N with
  | zero => intro v3 v7 D; exact zO_none
  | succ N hk_29 =>
    intro v3 v7 D
    show zO _ _ _ _ _ _ _ _ _ ((fX12_ill_29 F o1 o2 o5) (zfix (fun _ _ _ => none) (fX12_ill_29 F o1 o2 o5) N) v3 v7 D)
    unfold fX12_ill_29
    refine zO_iload dX12_ill_29 rfl ?_
    refine zO_iload_n dX12_ill_31 rfl ?_
    refine zO_icmp_gt (tgt := 111) dX12_ill_32 rfl (fun c32 => ?_) (fun c32 => ?_)
    · refine zO_iconst dX12_ill_111 (by decide) ?_
      refine zO_istore dX12_ill_112 (by decide) ?_
      refine zO_ls (ls' := [(0, zR 91), (1, zI o1), (2, zI o2), (3, zL v3), (5, zL o5), (7, zI 0)]) rfl ?_
      refine zO_live [0, 1, 3, 5, 7] ?_
      exact sX12_ill_114 hG o1 v3 zfu o5 0 D
    · refine zO_chk (fun h4 => ?_)
      refine zO_aload_n dX12_ill_35 rfl (zR_P _) ?_
      refine zO_iload dX12_ill_36 rfl ?_
      refine zO_iload_n dX12_ill_38 rfl ?_
      refine zO_imul dX12_ill_39 h4 ?_
      refine zO_callV (Y' := YX12_bests) (cw := zcV F n sl) (as := [zI (v7 * o2)]) (rest := []) (na := 1) (ci := 12) rfl dX12_ill_40 wC_X12_bests wN_X12 wM_X12_406 wI_X12_bests wV_X12_bests (by decide) (by decide) rfl rfl (Nat.le_of_ble_eq_true rfl) rfl (by decide) (gk_91 hG) (fun r hr => zMet_cast (Nat.add_assoc d 0 90) (mX12_bests (d := d + 0) hG (v7 * o2) r hr)) ?_
      intro D_9 _
      show zO _ _ _ _ _ _ [] (F, D_9, n, sl) _ _
      refine zO_iload_n dX12_ill_43 rfl ?_
      refine zO_iload dX12_ill_44 rfl ?_
      refine zO_callS (Y' := YX12_choose) (cw := zcJ F n sl) (as := [zI o1, zI v7]) (rest := []) (na := 2) dX12_ill_46 wC_X12_choose wN_X12 wM_X12_311 wS_X12_choose (by decide) (by decide) rfl rfl (Nat.le_of_ble_eq_true rfl) (fun r hr => zMet_cast (Nat.add_assoc d 90 0) (mX12_choose (d := d + 90) hG o1 v7 r hr)) ?_
      rintro ⟨r_10, D_11⟩ -
      show zO _ _ _ _ _ _ [zL r_10] (F, D_11, n, sl) _ _
      refine zO_lstore dX12_ill_49 (by decide) ?_
      refine zO_ls (ls' := [(0, zR 91), (1, zI o1), (2, zI o2), (3, zL v3), (5, zL o5), (7, zI v7), (8, zL r_10)]) rfl ?_
      refine zO_iconst dX12_ill_51 (by decide) ?_
      refine zO_istore dX12_ill_52 (by decide) ?_
      refine zO_ls (ls' := [(0, zR 91), (1, zI o1), (2, zI o2), (3, zL v3), (5, zL o5), (7, zI v7), (8, zL r_10), (10, zI 0)]) rfl ?_
      refine zO_live [0, 1, 2, 3, 5, 7, 8, 10] ?_
      exact sX12_ill_54 hG o1 o2 v3 o5 v7 _ hk_29 zfu r_10 0 D_11
set_option maxHeartbeats 20000000 in
theorem mX12_ill {l : Launch} {E : zE} {d : Nat} {F : zFs} {n sl : Nat} (hG : zG F) (v1 : Int) (v2 : Int) {D : zDa} : ∀ r, fX12_ill F  v1 v2 D = some r → zMet l E (d + 91) YX12_ill [zR 91, zI v1, zI v2] (F, D, n, sl) (zcI F n sl r) := by
  intro r hr
  refine zMet_of (plainFor_of_name (by decide)) (fun _ h => (nomatch h)) (Nat.le_of_ble_eq_true rfl) ?_
  have hz : zO l E (d + 91) YX12_ill 0 [(0, zR 91), (1, zI v1), (2, zI v2)] [] (F, D, n, sl) (zcI F n sl) (fX12_ill F  v1 v2 D) := by
    unfold fX12_ill
    refine zO_iload_n dX12_ill_0 rfl ?_
    refine zO_iconst dX12_ill_1 (by decide) ?_
    refine zO_iconst dX12_ill_2 (by decide) ?_
    refine zO_callS (Y' := YX12_lies) (cw := zcI F n sl) (as := [zI v1, zI 0, zI 3]) (rest := []) (na := 3) dX12_ill_3 wC_X12_lies wN_X12 wM_X12_135 wS_X12_lies (by decide) (by decide) rfl rfl (Nat.le_of_ble_eq_true rfl) (fun r hr => zMet_cast (Nat.add_assoc d 90 0) (mX12_lies (d := d + 90) hG v1 0 3 r hr)) ?_
    rintro ⟨r_1, D_2⟩ -
    show zO _ _ _ _ _ _ [zI r_1] (F, D_2, n, sl) _ _
    refine zO_if_eq (tgt := 19) dX12_ill_6 rfl (fun c6 => ?_) (fun c6 => ?_)
    · refine zO_iconst dX12_ill_19 (by decide) ?_
      exact zO_ret (rv := some (zI (-1))) dX12_ill_20 rfl rfl rfl
    · refine zO_iload_n dX12_ill_9 rfl ?_
      refine zO_iconst dX12_ill_10 (by decide) ?_
      refine zO_bipush dX12_ill_11 (by decide) ?_
      refine zO_callS (Y' := YX12_lies) (cw := zcI F n sl) (as := [zI v2, zI 0, zI 100]) (rest := []) (na := 3) dX12_ill_13 wC_X12_lies wN_X12 wM_X12_135 wS_X12_lies (by decide) (by decide) rfl rfl (Nat.le_of_ble_eq_true rfl) (fun r hr => zMet_cast (Nat.add_assoc d 90 0) (mX12_lies (d := d + 90) hG v2 0 100 r hr)) ?_
      rintro ⟨r_3, D_4⟩ -
      show zO _ _ _ _ _ _ [zI r_3] (F, D_4, n, sl) _ _
      refine zO_if_ne (tgt := 21) dX12_ill_16 rfl (fun c16 => ?_) (fun c16 => ?_)
      · refine zO_iconst dX12_ill_19 (by decide) ?_
        exact zO_ret (rv := some (zI (-1))) dX12_ill_20 rfl rfl rfl
      · refine zO_lconst dX12_ill_21 ?_
        refine zO_lstore_n dX12_ill_22 (by decide) ?_
        refine zO_ls (ls' := [(0, zR 91), (1, zI v1), (2, zI v2), (3, zL 0)]) rfl ?_
        refine zO_lconst dX12_ill_23 ?_
        refine zO_lstore dX12_ill_24 (by decide) ?_
        refine zO_ls (ls' := [(0, zR 91), (1, zI v1), (2, zI v2), (3, zL 0), (5, zL 1)]) rfl ?_
        refine zO_iconst dX12_ill_26 (by decide) ?_
        refine zO_istore dX12_ill_27 (by decide) ?_
        refine zO_ls (ls' := [(0, zR 91), (1, zI v1), (2, zI v2), (3, zL 0), (5, zL 1), (7, zI 0)]) rfl ?_
        refine zO_live [0, 1, 2, 3, 5, 7] ?_
        exact sX12_ill_29 hG v1 v2 1 zfu 0 0 D_4
  exact hz r hr
theorem dX12_year_0 : decode cX12_year 0 = .ok (.iload_n 1, 1) := by decide +kernel
theorem dX12_year_1 : decode cX12_year 1 = .ok (.ifCond .lt 13, 3) := by decide +kernel
theorem dX12_year_4 : decode cX12_year 4 = .ok (.iload_n 1, 1) := by decide +kernel
theorem dX12_year_5 : decode cX12_year 5 = .ok (.iconst 1, 1) := by decide +kernel
theorem dX12_year_6 : decode cX12_year 6 = .ok (.aload_n 0, 1) := by decide +kernel
theorem dX12_year_7 : decode cX12_year 7 = .ok (.invokevirtual 146, 3) := by decide +kernel
theorem dX12_year_10 : decode cX12_year 10 = .ok (.ishl, 1) := by decide +kernel
theorem dX12_year_11 : decode cX12_year 11 = .ok (.if_icmp .lt 9, 3) := by decide +kernel
theorem dX12_year_14 : decode cX12_year 14 = .ok (.aload_n 0, 1) := by decide +kernel
theorem dX12_year_15 : decode cX12_year 15 = .ok (.iconst (-1), 1) := by decide +kernel
theorem dX12_year_16 : decode cX12_year 16 = .ok (.invokevirtual 139, 3) := by decide +kernel
theorem dX12_year_19 : decode cX12_year 19 = .ok (.ireturn, 1) := by decide +kernel
theorem dX12_year_20 : decode cX12_year 20 = .ok (.aload_n 0, 1) := by decide +kernel
theorem dX12_year_21 : decode cX12_year 21 = .ok (.getfield 20, 3) := by decide +kernel
theorem dX12_year_24 : decode cX12_year 24 = .ok (.sipush 392, 3) := by decide +kernel
theorem dX12_year_27 : decode cX12_year 27 = .ok (.iaload, 1) := by decide +kernel
theorem dX12_year_28 : decode cX12_year 28 = .ok (.bipush 40, 2) := by decide +kernel
theorem dX12_year_30 : decode cX12_year 30 = .ok (.if_icmp .ne 10, 3) := by decide +kernel
theorem dX12_year_33 : decode cX12_year 33 = .ok (.aload_n 0, 1) := by decide +kernel
theorem dX12_year_34 : decode cX12_year 34 = .ok (.bipush (-5), 2) := by decide +kernel
theorem dX12_year_36 : decode cX12_year 36 = .ok (.invokevirtual 139, 3) := by decide +kernel
theorem dX12_year_39 : decode cX12_year 39 = .ok (.ireturn, 1) := by decide +kernel
theorem dX12_year_40 : decode cX12_year 40 = .ok (.aload_n 0, 1) := by decide +kernel
theorem dX12_year_41 : decode cX12_year 41 = .ok (.getfield 20, 3) := by decide +kernel
theorem dX12_year_44 : decode cX12_year 44 = .ok (.sipush 350, 3) := by decide +kernel
theorem dX12_year_47 : decode cX12_year 47 = .ok (.aload_n 0, 1) := by decide +kernel
theorem dX12_year_48 : decode cX12_year 48 = .ok (.getfield 20, 3) := by decide +kernel
theorem dX12_year_51 : decode cX12_year 51 = .ok (.sipush 392, 3) := by decide +kernel
theorem dX12_year_54 : decode cX12_year 54 = .ok (.iaload, 1) := by decide +kernel
theorem dX12_year_55 : decode cX12_year 55 = .ok (.iadd, 1) := by decide +kernel
theorem dX12_year_56 : decode cX12_year 56 = .ok (.iload_n 1, 1) := by decide +kernel
theorem dX12_year_57 : decode cX12_year 57 = .ok (.iastore, 1) := by decide +kernel
theorem dX12_year_58 : decode cX12_year 58 = .ok (.aload_n 0, 1) := by decide +kernel
theorem dX12_year_59 : decode cX12_year 59 = .ok (.getfield 20, 3) := by decide +kernel
theorem dX12_year_62 : decode cX12_year 62 = .ok (.sipush 392, 3) := by decide +kernel
theorem dX12_year_65 : decode cX12_year 65 = .ok (.dup2, 1) := by decide +kernel
theorem dX12_year_66 : decode cX12_year 66 = .ok (.iaload, 1) := by decide +kernel
theorem dX12_year_67 : decode cX12_year 67 = .ok (.iconst 1, 1) := by decide +kernel
theorem dX12_year_68 : decode cX12_year 68 = .ok (.iadd, 1) := by decide +kernel
theorem dX12_year_69 : decode cX12_year 69 = .ok (.iastore, 1) := by decide +kernel
theorem dX12_year_70 : decode cX12_year 70 = .ok (.aload_n 0, 1) := by decide +kernel
theorem dX12_year_71 : decode cX12_year 71 = .ok (.aload_n 0, 1) := by decide +kernel
theorem dX12_year_72 : decode cX12_year 72 = .ok (.getfield 20, 3) := by decide +kernel
theorem dX12_year_75 : decode cX12_year 75 = .ok (.sipush 392, 3) := by decide +kernel
theorem dX12_year_78 : decode cX12_year 78 = .ok (.iaload, 1) := by decide +kernel
theorem dX12_year_79 : decode cX12_year 79 = .ok (.invokevirtual 143, 3) := by decide +kernel
theorem dX12_year_82 : decode cX12_year 82 = .ok (.ireturn, 1) := by decide +kernel
abbrev YX12_year : zY := (yX12_year, cX12_year, 2, (Option.some Jvm.ClassFile.FieldType.int), [])
def fX12_year_14 (F : zFs)   (D : zDa) : Option (Int × zDa) :=
  (fX12_refuses F (-1) D).bind (fun (r_1, D_2) =>
    some (r_1, D_2))
def fX12_year (F : zFs) (v1 : Int) (D : zDa) : Option (Int × zDa) :=
  if v1 < 0 then
    fX12_year_14 F D
  else
    (fX12_questions F D).bind (fun (r_3, D_4) =>
      if v1 < (zshl 1 r_3) then
        if (D_4 93 392) = 40 then
          (fX12_refuses F (-5) D_4).bind (fun (r_5, D_6) =>
            some (r_5, D_6))
        else
          if (-2147483648 ≤ 350 + (D_4 93 392) ∧ 350 + (D_4 93 392) ≤ 2147483647) ∧ (0 ≤ (350 + (D_4 93 392)) ∧ (350 + (D_4 93 392)) < 5201) then
            zlet (zwr D_4 93 (350 + (D_4 93 392)).toNat v1) (fun D_7 =>
              if (-2147483648 ≤ (D_7 93 392) + 1 ∧ (D_7 93 392) + 1 ≤ 2147483647) then
                zlet (zwr D_7 93 392 ((D_7 93 392) + 1)) (fun D_8 =>
                  (fX12_good F (D_8 93 392) D_8).bind (fun (r_9, D_10) =>
                    some (r_9, D_10)))
              else none)
          else none
      else
        fX12_year_14 F D_4)
set_option maxHeartbeats 20000000 in
theorem sX12_year_14 {l : Launch} {E : zE} {d : Nat} {F : zFs} {n sl : Nat} (hG : zG F)     (D : zDa) : zO l E (d + 1) YX12_year 14 [(0, zR 91)] [] (F, D, n, sl) (zcI F n sl) (fX12_year_14 F D) := by
  unfold fX12_year_14
  refine zO_aload_n dX12_year_14 rfl (zR_P _) ?_
  refine zO_iconst dX12_year_15 (by decide) ?_
  refine zO_callV (Y' := YX12_refuses) (cw := zcI F n sl) (as := [zI (-1)]) (rest := []) (na := 1) (ci := 12) rfl dX12_year_16 wC_X12_refuses wN_X12 wM_X12_139 wI_X12_refuses wV_X12_refuses (by decide) (by decide) rfl rfl (Nat.le_of_ble_eq_true rfl) rfl (by decide) (gk_91 hG) (fun r hr => zMet_cast (Nat.add_assoc d 0 0) (mX12_refuses (d := d + 0) hG (-1) r hr)) ?_
  rintro ⟨r_1, D_2⟩ -
  show zO _ _ _ _ _ _ [zI r_1] (F, D_2, n, sl) _ _
  exact zO_ret (rv := some (zI r_1)) dX12_year_19 rfl rfl rfl
set_option maxHeartbeats 20000000 in
theorem mX12_year {l : Launch} {E : zE} {d : Nat} {F : zFs} {n sl : Nat} (hG : zG F) (v1 : Int) {D : zDa} : ∀ r, fX12_year F  v1 D = some r → zMet l E (d + 1) YX12_year [zR 91, zI v1] (F, D, n, sl) (zcI F n sl r) := by
  intro r hr
  refine zMet_of (plainFor_of_name (by decide)) (fun _ h => (nomatch h)) (Nat.le_of_ble_eq_true rfl) ?_
  have hz : zO l E (d + 1) YX12_year 0 [(0, zR 91), (1, zI v1)] [] (F, D, n, sl) (zcI F n sl) (fX12_year F  v1 D) := by
    unfold fX12_year
    refine zO_iload_n dX12_year_0 rfl ?_
    refine zO_if_lt (tgt := 14) dX12_year_1 rfl (fun c1 => ?_) (fun c1 => ?_)
    · refine zO_live [0] ?_
      exact sX12_year_14 hG D
    · refine zO_iload_n dX12_year_4 rfl ?_
      refine zO_iconst dX12_year_5 (by decide) ?_
      refine zO_aload_n dX12_year_6 rfl (zR_P _) ?_
      refine zO_callV (Y' := YX12_questions) (cw := zcI F n sl) (as := []) (rest := [zI 1, zI v1]) (na := 0) (ci := 12) rfl dX12_year_7 wC_X12_questions wN_X12 wM_X12_146 wI_X12_questions wV_X12_questions (by decide) (by decide) rfl rfl (Nat.le_of_ble_eq_true rfl) rfl (by decide) (gk_91 hG) (fun r hr => zMet_cast (Nat.add_assoc d 0 0) (mX12_questions (d := d + 0) hG  r hr)) ?_
      rintro ⟨r_3, D_4⟩ -
      show zO _ _ _ _ _ _ [zI r_3, zI 1, zI v1] (F, D_4, n, sl) _ _
      refine zO_ishl dX12_year_10 ?_
      refine zO_icmp_lt (tgt := 20) dX12_year_11 rfl (fun c11 => ?_) (fun c11 => ?_)
      · refine zO_aload_n dX12_year_20 rfl (zR_P _) ?_
        refine gt12 (k := 3) dX12_year_21 wF_X12_20 (by decide) (gk_91 hG) (zgv (c := 12) (k := 3) rfl (Or.inl ⟨_, rfl⟩) (gf_91_3 hG)) ?_
        refine zO_sipush dX12_year_24 (by decide) ?_
        refine zO_iald dX12_year_27 (gk_93 hG) (gl_in (gl_93 hG) (by decide)) ?_
        refine zO_bipush dX12_year_28 (by decide) ?_
        refine zO_icmp_ne (tgt := 40) dX12_year_30 rfl (fun c30 => ?_) (fun c30 => ?_)
        · refine zO_aload_n dX12_year_33 rfl (zR_P _) ?_
          refine zO_bipush dX12_year_34 (by decide) ?_
          refine zO_callV (Y' := YX12_refuses) (cw := zcI F n sl) (as := [zI (-5)]) (rest := []) (na := 1) (ci := 12) rfl dX12_year_36 wC_X12_refuses wN_X12 wM_X12_139 wI_X12_refuses wV_X12_refuses (by decide) (by decide) rfl rfl (Nat.le_of_ble_eq_true rfl) rfl (by decide) (gk_91 hG) (fun r hr => zMet_cast (Nat.add_assoc d 0 0) (mX12_refuses (d := d + 0) hG (-5) r hr)) ?_
          rintro ⟨r_5, D_6⟩ -
          show zO _ _ _ _ _ _ [zI r_5] (F, D_6, n, sl) _ _
          exact zO_ret (rv := some (zI r_5)) dX12_year_39 rfl rfl rfl
        · refine zO_chk (fun h1 => ?_)
          refine zO_aload_n dX12_year_40 rfl (zR_P _) ?_
          refine gt12 (k := 3) dX12_year_41 wF_X12_20 (by decide) (gk_91 hG) (zgv (c := 12) (k := 3) rfl (Or.inl ⟨_, rfl⟩) (gf_91_3 hG)) ?_
          refine zO_sipush dX12_year_44 (by decide) ?_
          refine zO_aload_n dX12_year_47 rfl (zR_P _) ?_
          refine gt12 (k := 3) dX12_year_48 wF_X12_20 (by decide) (gk_91 hG) (zgv (c := 12) (k := 3) rfl (Or.inl ⟨_, rfl⟩) (gf_91_3 hG)) ?_
          refine zO_sipush dX12_year_51 (by decide) ?_
          refine zO_iald dX12_year_54 (gk_93 hG) (gl_in (gl_93 hG) (by decide)) ?_
          refine zO_iadd dX12_year_55 h1.1 ?_
          refine zO_iload_n dX12_year_56 rfl ?_
          refine zO_iast dX12_year_57 (gk_93 hG) (gl_in (gl_93 hG) h1.2) ?_
          refine zO_letD (fun D_7 eD_7 => ?_)
          refine zO_chk (fun h2 => ?_)
          refine zO_aload_n dX12_year_58 rfl (zR_P _) ?_
          refine gt12 (k := 3) dX12_year_59 wF_X12_20 (by decide) (gk_91 hG) (zgv (c := 12) (k := 3) rfl (Or.inl ⟨_, rfl⟩) (gf_91_3 hG)) ?_
          refine zO_sipush dX12_year_62 (by decide) ?_
          refine zO_dup2a dX12_year_65 (rfl) (rfl) ?_
          refine zO_iald dX12_year_66 (gk_93 hG) (gl_in (gl_93 hG) (by decide)) ?_
          refine zO_iconst dX12_year_67 (by decide) ?_
          refine zO_iadd dX12_year_68 h2 ?_
          refine zO_iast dX12_year_69 (gk_93 hG) (gl_in (gl_93 hG) (by decide)) ?_
          refine zO_letD (fun D_8 eD_8 => ?_)
          refine zO_aload_n dX12_year_70 rfl (zR_P _) ?_
          refine zO_aload_n dX12_year_71 rfl (zR_P _) ?_
          refine gt12 (k := 3) dX12_year_72 wF_X12_20 (by decide) (gk_91 hG) (zgv (c := 12) (k := 3) rfl (Or.inl ⟨_, rfl⟩) (gf_91_3 hG)) ?_
          refine zO_sipush dX12_year_75 (by decide) ?_
          refine zO_iald dX12_year_78 (gk_93 hG) (gl_in (gl_93 hG) (by decide)) ?_
          refine zO_callV (Y' := YX12_good) (cw := zcI F n sl) (as := [zI (D_8 93 392)]) (rest := []) (na := 1) (ci := 12) rfl dX12_year_79 wC_X12_good wN_X12 wM_X12_143 wI_X12_good wV_X12_good (by decide) (by decide) rfl rfl (Nat.le_of_ble_eq_true rfl) rfl (by decide) (gk_91 hG) (fun r hr => zMet_cast (Nat.add_assoc d 0 0) (mX12_good (d := d + 0) hG (D_8 93 392) r hr)) ?_
          rintro ⟨r_9, D_10⟩ -
          show zO _ _ _ _ _ _ [zI r_9] (F, D_10, n, sl) _ _
          exact zO_ret (rv := some (zI r_9)) dX12_year_82 rfl rfl rfl
      · refine zO_live [0] ?_
        exact sX12_year_14 hG D_4
  exact hz r hr
