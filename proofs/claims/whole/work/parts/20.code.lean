/-! printed by wip/gen/emit_all.py: X4_pairs X4_choose J7_fill_53178 X4_helpedBy X4_rowAt X4_pairPlace X4_canStillBe X4_kingsWith X4_priceAt X4_findFirst X9_has X10_ask X9_paperInUse X10_push X10_operate -/
theorem dX4_pairs_0 : decode cX4_pairs 0 = .ok (.iload_n 0, 1) := by decide +kernel
theorem dX4_pairs_1 : decode cX4_pairs 1 = .ok (.iconst 1, 1) := by decide +kernel
theorem dX4_pairs_2 : decode cX4_pairs 2 = .ok (.iadd, 1) := by decide +kernel
theorem dX4_pairs_3 : decode cX4_pairs 3 = .ok (.iload_n 0, 1) := by decide +kernel
theorem dX4_pairs_4 : decode cX4_pairs 4 = .ok (.iconst 2, 1) := by decide +kernel
theorem dX4_pairs_5 : decode cX4_pairs 5 = .ok (.iadd, 1) := by decide +kernel
theorem dX4_pairs_6 : decode cX4_pairs 6 = .ok (.imul, 1) := by decide +kernel
theorem dX4_pairs_7 : decode cX4_pairs 7 = .ok (.iconst 2, 1) := by decide +kernel
theorem dX4_pairs_8 : decode cX4_pairs 8 = .ok (.idiv, 1) := by decide +kernel
theorem dX4_pairs_9 : decode cX4_pairs 9 = .ok (.ireturn, 1) := by decide +kernel
abbrev YX4_pairs : zY := (yX4_pairs, cX4_pairs, 1, (Option.some Jvm.ClassFile.FieldType.int), [])
def fX4_pairs (F : zFs) (v0 : Int) (D : zDa) : Option (Int × zDa) :=
  if (-2147483648 ≤ v0 + 1 ∧ v0 + 1 ≤ 2147483647) ∧ (-2147483648 ≤ v0 + 2 ∧ v0 + 2 ≤ 2147483647) ∧ (-2147483648 ≤ (v0 + 1) * (v0 + 2) ∧ (v0 + 1) * (v0 + 2) ≤ 2147483647) then
    some ((Int.tdiv ((v0 + 1) * (v0 + 2)) 2), D)
  else none
set_option maxHeartbeats 20000000 in
theorem mX4_pairs {l : Launch} {E : zE} {d : Nat} {F : zFs} {n sl : Nat} (hG : zG F) (v0 : Int) {D : zDa} : ∀ r, fX4_pairs F  v0 D = some r → zMet l E (d + 0) YX4_pairs [zI v0] (F, D, n, sl) (zcI F n sl r) := by
  intro r hr
  refine zMet_of (plainFor_of_name (by decide)) (fun _ h => (nomatch h)) (Nat.le_of_ble_eq_true rfl) ?_
  have hz : zO l E (d + 0) YX4_pairs 0 [(0, zI v0)] [] (F, D, n, sl) (zcI F n sl) (fX4_pairs F  v0 D) := by
    unfold fX4_pairs
    refine zO_chk (fun h1 => ?_)
    refine zO_iload_n dX4_pairs_0 rfl ?_
    refine zO_iconst dX4_pairs_1 (by decide) ?_
    refine zO_iadd dX4_pairs_2 h1.1 ?_
    refine zO_iload_n dX4_pairs_3 rfl ?_
    refine zO_iconst dX4_pairs_4 (by decide) ?_
    refine zO_iadd dX4_pairs_5 h1.2.1 ?_
    refine zO_imul dX4_pairs_6 h1.2.2 ?_
    refine zO_iconst dX4_pairs_7 (by decide) ?_
    refine zO_idiv dX4_pairs_8 (by decide) (fun q => absurd q.2 (by decide)) ?_
    exact zO_ret (rv := some (zI (Int.tdiv ((v0 + 1) * (v0 + 2)) 2))) dX4_pairs_9 rfl rfl rfl
  exact hz r hr
theorem dX4_choose_0 : decode cX4_choose 0 = .ok (.aload_n 0, 1) := by decide +kernel
theorem dX4_choose_1 : decode cX4_choose 1 = .ok (.ldc2_w 169, 3) := by decide +kernel
theorem dX4_choose_4 : decode cX4_choose 4 = .ok (.putfield 171, 3) := by decide +kernel
theorem dX4_choose_7 : decode cX4_choose 7 = .ok (.aload_n 0, 1) := by decide +kernel
theorem dX4_choose_8 : decode cX4_choose 8 = .ok (.iconst 0, 1) := by decide +kernel
theorem dX4_choose_9 : decode cX4_choose 9 = .ok (.putfield 174, 3) := by decide +kernel
theorem dX4_choose_12 : decode cX4_choose 12 = .ok (.iconst 0, 1) := by decide +kernel
theorem dX4_choose_13 : decode cX4_choose 13 = .ok (.istore_n 2, 1) := by decide +kernel
theorem dX4_choose_14 : decode cX4_choose 14 = .ok (.iload_n 2, 1) := by decide +kernel
theorem dX4_choose_15 : decode cX4_choose 15 = .ok (.aload_n 0, 1) := by decide +kernel
theorem dX4_choose_16 : decode cX4_choose 16 = .ok (.getfield 83, 3) := by decide +kernel
theorem dX4_choose_19 : decode cX4_choose 19 = .ok (.invokestatic 99, 3) := by decide +kernel
theorem dX4_choose_22 : decode cX4_choose 22 = .ok (.if_icmp .ge 79, 3) := by decide +kernel
theorem dX4_choose_25 : decode cX4_choose 25 = .ok (.aload_n 0, 1) := by decide +kernel
theorem dX4_choose_26 : decode cX4_choose 26 = .ok (.getfield 34, 3) := by decide +kernel
theorem dX4_choose_29 : decode cX4_choose 29 = .ok (.aload_n 0, 1) := by decide +kernel
theorem dX4_choose_30 : decode cX4_choose 30 = .ok (.getfield 31, 3) := by decide +kernel
theorem dX4_choose_33 : decode cX4_choose 33 = .ok (.iconst 0, 1) := by decide +kernel
theorem dX4_choose_34 : decode cX4_choose 34 = .ok (.iaload, 1) := by decide +kernel
theorem dX4_choose_35 : decode cX4_choose 35 = .ok (.iload_n 2, 1) := by decide +kernel
theorem dX4_choose_36 : decode cX4_choose 36 = .ok (.iadd, 1) := by decide +kernel
theorem dX4_choose_37 : decode cX4_choose 37 = .ok (.iaload, 1) := by decide +kernel
theorem dX4_choose_38 : decode cX4_choose 38 = .ok (.istore_n 3, 1) := by decide +kernel
theorem dX4_choose_39 : decode cX4_choose 39 = .ok (.iload_n 3, 1) := by decide +kernel
theorem dX4_choose_40 : decode cX4_choose 40 = .ok (.iload_n 1, 1) := by decide +kernel
theorem dX4_choose_41 : decode cX4_choose 41 = .ok (.if_icmp .gt 54, 3) := by decide +kernel
theorem dX4_choose_44 : decode cX4_choose 44 = .ok (.aload_n 0, 1) := by decide +kernel
theorem dX4_choose_45 : decode cX4_choose 45 = .ok (.getfield 37, 3) := by decide +kernel
theorem dX4_choose_48 : decode cX4_choose 48 = .ok (.iload_n 2, 1) := by decide +kernel
theorem dX4_choose_49 : decode cX4_choose 49 = .ok (.laload, 1) := by decide +kernel
theorem dX4_choose_50 : decode cX4_choose 50 = .ok (.aload_n 0, 1) := by decide +kernel
theorem dX4_choose_51 : decode cX4_choose 51 = .ok (.getfield 171, 3) := by decide +kernel
theorem dX4_choose_54 : decode cX4_choose 54 = .ok (.lcmp, 1) := by decide +kernel
theorem dX4_choose_55 : decode cX4_choose 55 = .ok (.ifCond .gt 25, 3) := by decide +kernel
theorem dX4_choose_58 : decode cX4_choose 58 = .ok (.aload_n 0, 1) := by decide +kernel
theorem dX4_choose_59 : decode cX4_choose 59 = .ok (.getfield 37, 3) := by decide +kernel
theorem dX4_choose_62 : decode cX4_choose 62 = .ok (.iload_n 2, 1) := by decide +kernel
theorem dX4_choose_63 : decode cX4_choose 63 = .ok (.laload, 1) := by decide +kernel
theorem dX4_choose_64 : decode cX4_choose 64 = .ok (.aload_n 0, 1) := by decide +kernel
theorem dX4_choose_65 : decode cX4_choose 65 = .ok (.getfield 171, 3) := by decide +kernel
theorem dX4_choose_68 : decode cX4_choose 68 = .ok (.lcmp, 1) := by decide +kernel
theorem dX4_choose_69 : decode cX4_choose 69 = .ok (.ifCond .ne 26, 3) := by decide +kernel
theorem dX4_choose_72 : decode cX4_choose 72 = .ok (.iload_n 3, 1) := by decide +kernel
theorem dX4_choose_73 : decode cX4_choose 73 = .ok (.aload_n 0, 1) := by decide +kernel
theorem dX4_choose_74 : decode cX4_choose 74 = .ok (.getfield 174, 3) := by decide +kernel
theorem dX4_choose_77 : decode cX4_choose 77 = .ok (.if_icmp .ge 18, 3) := by decide +kernel
theorem dX4_choose_80 : decode cX4_choose 80 = .ok (.aload_n 0, 1) := by decide +kernel
theorem dX4_choose_81 : decode cX4_choose 81 = .ok (.aload_n 0, 1) := by decide +kernel
theorem dX4_choose_82 : decode cX4_choose 82 = .ok (.getfield 37, 3) := by decide +kernel
theorem dX4_choose_85 : decode cX4_choose 85 = .ok (.iload_n 2, 1) := by decide +kernel
theorem dX4_choose_86 : decode cX4_choose 86 = .ok (.laload, 1) := by decide +kernel
theorem dX4_choose_87 : decode cX4_choose 87 = .ok (.putfield 171, 3) := by decide +kernel
theorem dX4_choose_90 : decode cX4_choose 90 = .ok (.aload_n 0, 1) := by decide +kernel
theorem dX4_choose_91 : decode cX4_choose 91 = .ok (.iload_n 3, 1) := by decide +kernel
theorem dX4_choose_92 : decode cX4_choose 92 = .ok (.putfield 174, 3) := by decide +kernel
theorem dX4_choose_95 : decode cX4_choose 95 = .ok (.iinc 2 1, 3) := by decide +kernel
theorem dX4_choose_98 : decode cX4_choose 98 = .ok (.goto (-84), 3) := by decide +kernel
theorem dX4_choose_101 : decode cX4_choose 101 = .ok (.return_, 1) := by decide +kernel
abbrev YX4_choose : zY := (yX4_choose, cX4_choose, 4, none, [])
def fX4_choose_95 (F : zFs) (k_14 : Int → zDa → Option zDa) (o1 : Int) (v2 : Int) (D : zDa) : Option zDa :=
  if (-2147483648 ≤ v2 + 1 ∧ v2 + 1 ≤ 2147483647) then
    k_14 (v2 + 1) D
  else none
def fX4_choose_80 (F : zFs) (k_14 : Int → zDa → Option zDa) (o1 : Int) (v2 : Int) (v3 : Int) (D : zDa) : Option zDa :=
  if (0 ≤ v2 ∧ v2 < 231) then
    zlet (zwr D 60 18 (D 67 v2.toNat)) (fun D_6 =>
      zlet (zwr D_6 60 19 v3) (fun D_7 =>
        fX4_choose_95 F k_14 o1 v2 D_7))
  else none
def fX4_choose_14 (F : zFs) (o1 : Int)  (k_14 : Int → zDa → Option zDa) (v2 : Int) (D : zDa) : Option zDa :=
  (fX4_pairs F (D 60 5) D).bind (fun (r_3, D_4) =>
    if v2 < r_3 then
      if (-2147483648 ≤ (D_4 65 0) + v2 ∧ (D_4 65 0) + v2 ≤ 2147483647) ∧ (0 ≤ (D_4 60 11)) ∧ ((F ((D_4 60 11).toNat)).1 = 20) ∧ ((0 : Int) ≤ ((D_4 65 0) + v2) ∧ (((D_4 65 0) + v2) : Int) < ((F ((D_4 60 11).toNat)).2.1 : Int)) then
        zlet ((D_4 ((D_4 60 11).toNat) ((D_4 65 0) + v2).toNat)) (fun x3_5 =>
          if o1 < x3_5 then
            fX4_choose_95 F k_14 o1 v2 D_4
          else
            if (0 ≤ v2 ∧ v2 < 231) then
              if (D_4 60 18) < (D_4 67 v2.toNat) then
                fX4_choose_80 F k_14 o1 v2 x3_5 D_4
              else
                if (D_4 67 v2.toNat) = (D_4 60 18) then
                  if x3_5 < (D_4 60 19) then
                    fX4_choose_80 F k_14 o1 v2 x3_5 D_4
                  else
                    fX4_choose_95 F k_14 o1 v2 D_4
                else
                  fX4_choose_95 F k_14 o1 v2 D_4
            else none)
      else none
    else
      some D_4)
def fX4_choose (F : zFs) (v1 : Int) (D : zDa) : Option zDa :=
  zlet (zwr D 60 18 (-1)) (fun D_1 =>
    zlet (zwr D_1 60 19 0) (fun D_2 =>
      zfix (fun _ _ => none) (fX4_choose_14 F v1) zfu 0 D_2))
set_option maxHeartbeats 20000000 in
theorem sX4_choose_95 {l : Launch} {E : zE} {d : Nat} {F : zFs} {n sl : Nat} (hG : zG F)  (o1 : Int) (v2 : Int) (k_14 : Int → zDa → Option zDa) (hk_14 : ∀ (u2 : Int) (D : zDa), zO l E (d + 1) YX4_choose 14 [(0, zR 60), (1, zI o1), (2, zI u2)] [] (F, D, n, sl) (zcV F n sl) (k_14 u2 D)) (D : zDa) : zO l E (d + 1) YX4_choose 95 [(0, zR 60), (1, zI o1), (2, zI v2)] [] (F, D, n, sl) (zcV F n sl) (fX4_choose_95 F k_14 o1 v2 D) := by
  unfold fX4_choose_95
  refine zO_chk (fun h2 => ?_)
  refine zO_iinc dX4_choose_95 rfl h2 (by decide) ?_
  refine zO_ls (ls' := [(0, zR 60), (1, zI o1), (2, zI (v2 + 1))]) rfl ?_
  refine zO_goto (tgt := 14) dX4_choose_98 rfl ?_
  refine zO_live [0, 1, 2] ?_
  exact hk_14 (v2 + 1) D
set_option maxHeartbeats 20000000 in
theorem sX4_choose_80 {l : Launch} {E : zE} {d : Nat} {F : zFs} {n sl : Nat} (hG : zG F)  (o1 : Int) (v2 : Int) (v3 : Int) (k_14 : Int → zDa → Option zDa) (hk_14 : ∀ (u2 : Int) (D : zDa), zO l E (d + 1) YX4_choose 14 [(0, zR 60), (1, zI o1), (2, zI u2)] [] (F, D, n, sl) (zcV F n sl) (k_14 u2 D)) (D : zDa) : zO l E (d + 1) YX4_choose 80 [(0, zR 60), (1, zI o1), (2, zI v2), (3, zI v3)] [] (F, D, n, sl) (zcV F n sl) (fX4_choose_80 F k_14 o1 v2 v3 D) := by
  unfold fX4_choose_80
  refine zO_chk (fun h4 => ?_)
  refine zO_aload_n dX4_choose_80 rfl (zR_P _) ?_
  refine zO_aload_n dX4_choose_81 rfl (zR_P _) ?_
  refine gt4 (k := 12) dX4_choose_82 wF_X4_37 (by decide) (gk_60 hG) (zgv (c := 4) (k := 12) rfl (Or.inl ⟨_, rfl⟩) (gf_60_12 hG)) ?_
  refine zO_iload_n dX4_choose_85 rfl ?_
  refine zO_lald dX4_choose_86 (gk_67 hG) (gl_in (gl_67 hG) h4) ?_
  refine ptJ4 (k := 18) (z := (D 67 v2.toNat)) dX4_choose_87 wF_X4_171 (by decide) rfl (gk_60 hG) rfl ?_
  refine zO_letD (fun D_6 eD_6 => ?_)
  refine zO_aload_n dX4_choose_90 rfl (zR_P _) ?_
  refine zO_iload_n dX4_choose_91 rfl ?_
  refine ptI4 (k := 19) (z := v3) dX4_choose_92 wF_X4_174 (by decide) rfl (gk_60 hG) rfl ?_
  refine zO_letD (fun D_7 eD_7 => ?_)
  refine zO_live [0, 1, 2] ?_
  exact sX4_choose_95 hG o1 v2 _ hk_14 D_7
set_option maxHeartbeats 20000000 in
theorem sX4_choose_14 {l : Launch} {E : zE} {d : Nat} {F : zFs} {n sl : Nat} (hG : zG F)  (o1 : Int)   : ∀ (N : Nat) (v2 : Int) (D : zDa), zO l E (d + 1) YX4_choose 14 [(0, zR 60), (1, zI o1), (2, zI v2)] [] (F, D, n, sl) (zcV F n sl) (zfix (fun _ _ => none) (fX4_choose_14 F o1) N v2 D) := by
  intro N
  induction N with
  | zero => intro v2 D; exact zO_none
  | succ N hk_14 =>
    intro v2 D
    show zO _ _ _ _ _ _ _ _ _ ((fX4_choose_14 F o1) (zfix (fun _ _ => none) (fX4_choose_14 F o1) N) v2 D)
    unfold fX4_choose_14
    refine zO_iload_n dX4_choose_14 rfl ?_
    refine zO_aload_n dX4_choose_15 rfl (zR_P _) ?_
    refine gt4 (k := 5) (v := zI (D 60 5)) dX4_choose_16 wF_X4_83 (by decide) (gk_60 hG) rfl ?_
    refine zO_callS (Y' := YX4_pairs) (cw := zcI F n sl) (as := [zI (D 60 5)]) (rest := [zI v2]) (na := 1) dX4_choose_19 wC_X4_pairs wN_X4 wM_X4_99 wS_X4_pairs (by decide) (by decide) rfl rfl (Nat.le_of_ble_eq_true rfl) (fun r hr => zMet_cast (Nat.add_assoc d 0 0) (mX4_pairs (d := d + 0) hG (D 60 5) r hr)) ?_
    rintro ⟨r_3, D_4⟩ -
    show zO _ _ _ _ _ _ [zI r_3, zI v2] (F, D_4, n, sl) _ _
    refine zO_icmp_ge (tgt := 101) dX4_choose_22 rfl (fun c22 => ?_) (fun c22 => ?_)
    · refine zO_chk (fun h1 => ?_)
      refine zO_aload_n dX4_choose_25 rfl (zR_P _) ?_
      refine gt4 (k := 11) (v := zq (D_4 60 11)) dX4_choose_26 wF_X4_34 (by decide) (gk_60 hG) rfl ?_
      refine zO_aload_n dX4_choose_29 rfl (zR_P _) ?_
      refine gt4 (k := 10) dX4_choose_30 wF_X4_31 (by decide) (gk_60 hG) (zgv (c := 4) (k := 10) rfl (Or.inl ⟨_, rfl⟩) (gf_60_10 hG)) ?_
      refine zO_iconst dX4_choose_33 (by decide) ?_
      refine zO_iald dX4_choose_34 (gk_65 hG) (gl_in (gl_65 hG) (by decide)) ?_
      refine zO_iload_n dX4_choose_35 rfl ?_
      refine zO_iadd dX4_choose_36 h1.1 ?_
      refine zO_q1 h1.2.1 ?_
      refine zO_iald dX4_choose_37 h1.2.2.1 h1.2.2.2 ?_
      refine zO_letI (fun x3_5 ex3_5 => ?_)
      refine zO_istore_n dX4_choose_38 (by decide) ?_
      refine zO_ls (ls' := [(0, zR 60), (1, zI o1), (2, zI v2), (3, zI x3_5)]) rfl ?_
      refine zO_iload_n dX4_choose_39 rfl ?_
      refine zO_iload_n dX4_choose_40 rfl ?_
      refine zO_icmp_gt (tgt := 95) dX4_choose_41 rfl (fun c41 => ?_) (fun c41 => ?_)
      · refine zO_live [0, 1, 2] ?_
        exact sX4_choose_95 hG o1 v2 _ hk_14 D_4
      · refine zO_chk (fun h3 => ?_)
        refine zO_aload_n dX4_choose_44 rfl (zR_P _) ?_
        refine gt4 (k := 12) dX4_choose_45 wF_X4_37 (by decide) (gk_60 hG) (zgv (c := 4) (k := 12) rfl (Or.inl ⟨_, rfl⟩) (gf_60_12 hG)) ?_
        refine zO_iload_n dX4_choose_48 rfl ?_
        refine zO_lald dX4_choose_49 (gk_67 hG) (gl_in (gl_67 hG) h3) ?_
        refine zO_aload_n dX4_choose_50 rfl (zR_P _) ?_
        refine gt4 (k := 18) (v := zL (D_4 60 18)) dX4_choose_51 wF_X4_171 (by decide) (gk_60 hG) rfl ?_
        refine zO_lif_gt (tgt := 80) dX4_choose_54 dX4_choose_55 rfl (fun c54 => ?_) (fun c54 => ?_)
        · refine zO_live [0, 1, 2, 3] ?_
          exact sX4_choose_80 hG o1 v2 x3_5 _ hk_14 D_4
        · refine zO_aload_n dX4_choose_58 rfl (zR_P _) ?_
          refine gt4 (k := 12) dX4_choose_59 wF_X4_37 (by decide) (gk_60 hG) (zgv (c := 4) (k := 12) rfl (Or.inl ⟨_, rfl⟩) (gf_60_12 hG)) ?_
          refine zO_iload_n dX4_choose_62 rfl ?_
          refine zO_lald dX4_choose_63 (gk_67 hG) (gl_in (gl_67 hG) h3) ?_
          refine zO_aload_n dX4_choose_64 rfl (zR_P _) ?_
          refine gt4 (k := 18) (v := zL (D_4 60 18)) dX4_choose_65 wF_X4_171 (by decide) (gk_60 hG) rfl ?_
          refine zO_lif_ne (tgt := 95) dX4_choose_68 dX4_choose_69 rfl (fun c68 => ?_) (fun c68 => ?_)
          · refine zO_iload_n dX4_choose_72 rfl ?_
            refine zO_aload_n dX4_choose_73 rfl (zR_P _) ?_
            refine gt4 (k := 19) (v := zI (D_4 60 19)) dX4_choose_74 wF_X4_174 (by decide) (gk_60 hG) rfl ?_
            refine zO_icmp_ge (tgt := 95) dX4_choose_77 rfl (fun c77 => ?_) (fun c77 => ?_)
            · refine zO_live [0, 1, 2, 3] ?_
              exact sX4_choose_80 hG o1 v2 x3_5 _ hk_14 D_4
            · refine zO_live [0, 1, 2] ?_
              exact sX4_choose_95 hG o1 v2 _ hk_14 D_4
          · refine zO_live [0, 1, 2] ?_
            exact sX4_choose_95 hG o1 v2 _ hk_14 D_4
    · exact zO_ret (rv := none) dX4_choose_101 rfl trivial rfl
set_option maxHeartbeats 20000000 in
theorem mX4_choose {l : Launch} {E : zE} {d : Nat} {F : zFs} {n sl : Nat} (hG : zG F) (v1 : Int) {D : zDa} : ∀ r, fX4_choose F  v1 D = some r → zMet l E (d + 1) YX4_choose [zR 60, zI v1] (F, D, n, sl) (zcV F n sl r) := by
  intro r hr
  refine zMet_of (plainFor_of_name (by decide)) (fun _ h => (nomatch h)) (Nat.le_of_ble_eq_true rfl) ?_
  have hz : zO l E (d + 1) YX4_choose 0 [(0, zR 60), (1, zI v1)] [] (F, D, n, sl) (zcV F n sl) (fX4_choose F  v1 D) := by
    unfold fX4_choose
    refine zO_aload_n dX4_choose_0 rfl (zR_P _) ?_
    refine zO_ldc2 (n := -1) dX4_choose_1 wK_X4_169 (by decide) ?_
    refine ptJ4 (k := 18) (z := (-1)) dX4_choose_4 wF_X4_171 (by decide) rfl (gk_60 hG) rfl ?_
    refine zO_letD (fun D_1 eD_1 => ?_)
    refine zO_aload_n dX4_choose_7 rfl (zR_P _) ?_
    refine zO_iconst dX4_choose_8 (by decide) ?_
    refine ptI4 (k := 19) (z := 0) dX4_choose_9 wF_X4_174 (by decide) rfl (gk_60 hG) rfl ?_
    refine zO_letD (fun D_2 eD_2 => ?_)
    refine zO_iconst dX4_choose_12 (by decide) ?_
    refine zO_istore_n dX4_choose_13 (by decide) ?_
    refine zO_ls (ls' := [(0, zR 60), (1, zI v1), (2, zI 0)]) rfl ?_
    refine zO_live [0, 1, 2] ?_
    exact sX4_choose_14 hG v1 zfu 0 D_2
  exact hz r hr
theorem dJ7_fill_53178_0 : decode cJ7_fill_53178 0 = .ok (.iconst 0, 1) := by decide +kernel
theorem dJ7_fill_53178_1 : decode cJ7_fill_53178 1 = .ok (.istore_n 2, 1) := by decide +kernel
theorem dJ7_fill_53178_2 : decode cJ7_fill_53178 2 = .ok (.aload_n 0, 1) := by decide +kernel
theorem dJ7_fill_53178_3 : decode cJ7_fill_53178 3 = .ok (.arraylength, 1) := by decide +kernel
theorem dJ7_fill_53178_4 : decode cJ7_fill_53178 4 = .ok (.istore_n 3, 1) := by decide +kernel
theorem dJ7_fill_53178_5 : decode cJ7_fill_53178 5 = .ok (.iload_n 2, 1) := by decide +kernel
theorem dJ7_fill_53178_6 : decode cJ7_fill_53178 6 = .ok (.iload_n 3, 1) := by decide +kernel
theorem dJ7_fill_53178_7 : decode cJ7_fill_53178 7 = .ok (.if_icmp .ge 13, 3) := by decide +kernel
theorem dJ7_fill_53178_10 : decode cJ7_fill_53178 10 = .ok (.aload_n 0, 1) := by decide +kernel
theorem dJ7_fill_53178_11 : decode cJ7_fill_53178 11 = .ok (.iload_n 2, 1) := by decide +kernel
theorem dJ7_fill_53178_12 : decode cJ7_fill_53178 12 = .ok (.iload_n 1, 1) := by decide +kernel
theorem dJ7_fill_53178_13 : decode cJ7_fill_53178 13 = .ok (.iastore, 1) := by decide +kernel
theorem dJ7_fill_53178_14 : decode cJ7_fill_53178 14 = .ok (.iinc 2 1, 3) := by decide +kernel
theorem dJ7_fill_53178_17 : decode cJ7_fill_53178 17 = .ok (.goto (-12), 3) := by decide +kernel
theorem dJ7_fill_53178_20 : decode cJ7_fill_53178 20 = .ok (.return_, 1) := by decide +kernel
abbrev YJ7_fill_53178 : zY := (yJ7_fill_53178, cJ7_fill_53178, 4, none, [])
def fJ7_fill_53178_5 (F : zFs) (o0 : Nat) (o1 : Int) (o3 : Int)  (k_5 : Int → zDa → Option zDa) (v2 : Int) (D : zDa) : Option zDa :=
  if v2 < o3 then
    if ((F o0).1 = 20) ∧ ((0 : Int) ≤ v2 ∧ (v2 : Int) < ((F o0).2.1 : Int)) then
      zlet (zwr D o0 v2.toNat o1) (fun D_2 =>
        if (-2147483648 ≤ v2 + 1 ∧ v2 + 1 ≤ 2147483647) then
          k_5 (v2 + 1) D_2
        else none)
    else none
  else
    some D
def fJ7_fill_53178 (F : zFs) (a0 : Nat) (v1 : Int) (D : zDa) : Option zDa :=
  if ((F a0).1 = 20) then
    zlet (((F a0).2.1 : Int)) (fun x3_1 =>
      zfix (fun _ _ => none) (fJ7_fill_53178_5 F a0 v1 x3_1) zfu 0 D)
  else none
set_option maxHeartbeats 20000000 in
theorem sJ7_fill_53178_5 {l : Launch} {E : zE} {d : Nat} {F : zFs} {n sl : Nat} (hG : zG F)  (o0 : Nat) (o1 : Int) (o3 : Int)   : ∀ (N : Nat) (v2 : Int) (D : zDa), zO l E (d + 0) YJ7_fill_53178 5 [(0, zR o0), (1, zI o1), (2, zI v2), (3, zI o3)] [] (F, D, n, sl) (zcV F n sl) (zfix (fun _ _ => none) (fJ7_fill_53178_5 F o0 o1 o3) N v2 D) := by
  intro N
  induction N with
  | zero => intro v2 D; exact zO_none
  | succ N hk_5 =>
    intro v2 D
    show zO _ _ _ _ _ _ _ _ _ ((fJ7_fill_53178_5 F o0 o1 o3) (zfix (fun _ _ => none) (fJ7_fill_53178_5 F o0 o1 o3) N) v2 D)
    unfold fJ7_fill_53178_5
    refine zO_iload_n dJ7_fill_53178_5 rfl ?_
    refine zO_iload_n dJ7_fill_53178_6 rfl ?_
    refine zO_icmp_ge (tgt := 20) dJ7_fill_53178_7 rfl (fun c7 => ?_) (fun c7 => ?_)
    · refine zO_chk (fun h2 => ?_)
      refine zO_aload_n dJ7_fill_53178_10 rfl (zR_P _) ?_
      refine zO_iload_n dJ7_fill_53178_11 rfl ?_
      refine zO_iload_n dJ7_fill_53178_12 rfl ?_
      refine zO_iast dJ7_fill_53178_13 h2.1 h2.2 ?_
      refine zO_letD (fun D_2 eD_2 => ?_)
      refine zO_chk (fun h3 => ?_)
      refine zO_iinc dJ7_fill_53178_14 rfl h3 (by decide) ?_
      refine zO_ls (ls' := [(0, zR o0), (1, zI o1), (2, zI (v2 + 1)), (3, zI o3)]) rfl ?_
      refine zO_goto (tgt := 5) dJ7_fill_53178_17 rfl ?_
      refine zO_live [0, 1, 2, 3] ?_
      exact hk_5 (v2 + 1) D_2
    · exact zO_ret (rv := none) dJ7_fill_53178_20 rfl trivial rfl
set_option maxHeartbeats 20000000 in
theorem mJ7_fill_53178 {l : Launch} {E : zE} {d : Nat} {F : zFs} {n sl : Nat} (hG : zG F) (a0 : Nat) (v1 : Int) {D : zDa} : ∀ r, fJ7_fill_53178 F  a0 v1 D = some r → zMet l E (d + 0) YJ7_fill_53178 [zR a0, zI v1] (F, D, n, sl) (zcV F n sl r) := by
  intro r hr
  refine zMet_of (by decide +kernel) (fun _ h => (nomatch h)) (Nat.le_of_ble_eq_true rfl) ?_
  have hz : zO l E (d + 0) YJ7_fill_53178 0 [(0, zR a0), (1, zI v1)] [] (F, D, n, sl) (zcV F n sl) (fJ7_fill_53178 F  a0 v1 D) := by
    unfold fJ7_fill_53178
    refine zO_chk (fun h1 => ?_)
    refine zO_iconst dJ7_fill_53178_0 (by decide) ?_
    refine zO_istore_n dJ7_fill_53178_1 (by decide) ?_
    refine zO_ls (ls' := [(0, zR a0), (1, zI v1), (2, zI 0)]) rfl ?_
    refine zO_aload_n dJ7_fill_53178_2 rfl (zR_P _) ?_
    refine zO_alen (kd := 20) dJ7_fill_53178_3 h1 (by decide) ?_
    refine zO_letI (fun x3_1 ex3_1 => ?_)
    refine zO_istore_n dJ7_fill_53178_4 (by decide) ?_
    refine zO_ls (ls' := [(0, zR a0), (1, zI v1), (2, zI 0), (3, zI x3_1)]) rfl ?_
    refine zO_live [0, 1, 2, 3] ?_
    exact sJ7_fill_53178_5 hG a0 v1 x3_1 zfu 0 D
  exact hz r hr
theorem dX4_helpedBy_0 : decode cX4_helpedBy 0 = .ok (.aload_n 0, 1) := by decide +kernel
theorem dX4_helpedBy_1 : decode cX4_helpedBy 1 = .ok (.getfield 25, 3) := by decide +kernel
theorem dX4_helpedBy_4 : decode cX4_helpedBy 4 = .ok (.iload_n 1, 1) := by decide +kernel
theorem dX4_helpedBy_5 : decode cX4_helpedBy 5 = .ok (.iaload, 1) := by decide +kernel
theorem dX4_helpedBy_6 : decode cX4_helpedBy 6 = .ok (.iconst (-1), 1) := by decide +kernel
theorem dX4_helpedBy_7 : decode cX4_helpedBy 7 = .ok (.if_icmp .ne 7, 3) := by decide +kernel
theorem dX4_helpedBy_10 : decode cX4_helpedBy 10 = .ok (.iconst 0, 1) := by decide +kernel
theorem dX4_helpedBy_11 : decode cX4_helpedBy 11 = .ok (.goto 13, 3) := by decide +kernel
theorem dX4_helpedBy_14 : decode cX4_helpedBy 14 = .ok (.iload_n 2, 1) := by decide +kernel
theorem dX4_helpedBy_15 : decode cX4_helpedBy 15 = .ok (.aload_n 0, 1) := by decide +kernel
theorem dX4_helpedBy_16 : decode cX4_helpedBy 16 = .ok (.getfield 25, 3) := by decide +kernel
theorem dX4_helpedBy_19 : decode cX4_helpedBy 19 = .ok (.iload_n 1, 1) := by decide +kernel
theorem dX4_helpedBy_20 : decode cX4_helpedBy 20 = .ok (.iaload, 1) := by decide +kernel
theorem dX4_helpedBy_21 : decode cX4_helpedBy 21 = .ok (.iushr, 1) := by decide +kernel
theorem dX4_helpedBy_22 : decode cX4_helpedBy 22 = .ok (.iconst 1, 1) := by decide +kernel
theorem dX4_helpedBy_23 : decode cX4_helpedBy 23 = .ok (.iand, 1) := by decide +kernel
theorem dX4_helpedBy_24 : decode cX4_helpedBy 24 = .ok (.ireturn, 1) := by decide +kernel
abbrev YX4_helpedBy : zY := (yX4_helpedBy, cX4_helpedBy, 3, (Option.some Jvm.ClassFile.FieldType.int), [])
def fX4_helpedBy (F : zFs) (v1 : Int) (v2 : Int) (D : zDa) : Option (Int × zDa) :=
  if (0 ≤ v1 ∧ v1 < 20) then
    if (D 63 v1.toNat) = (-1) then
      some (0, D)
    else
      some ((zand (zushr v2 (D 63 v1.toNat)) 1), D)
  else none
set_option maxHeartbeats 20000000 in
theorem mX4_helpedBy {l : Launch} {E : zE} {d : Nat} {F : zFs} {n sl : Nat} (hG : zG F) (v1 : Int) (v2 : Int) {D : zDa} : ∀ r, fX4_helpedBy F  v1 v2 D = some r → zMet l E (d + 0) YX4_helpedBy [zR 60, zI v1, zI v2] (F, D, n, sl) (zcI F n sl r) := by
  intro r hr
  refine zMet_of (plainFor_of_name (by decide)) (fun _ h => (nomatch h)) (Nat.le_of_ble_eq_true rfl) ?_
  have hz : zO l E (d + 0) YX4_helpedBy 0 [(0, zR 60), (1, zI v1), (2, zI v2)] [] (F, D, n, sl) (zcI F n sl) (fX4_helpedBy F  v1 v2 D) := by
    unfold fX4_helpedBy
    refine zO_chk (fun h1 => ?_)
    refine zO_aload_n dX4_helpedBy_0 rfl (zR_P _) ?_
    refine gt4 (k := 8) dX4_helpedBy_1 wF_X4_25 (by decide) (gk_60 hG) (zgv (c := 4) (k := 8) rfl (Or.inl ⟨_, rfl⟩) (gf_60_8 hG)) ?_
    refine zO_iload_n dX4_helpedBy_4 rfl ?_
    refine zO_iald dX4_helpedBy_5 (gk_63 hG) (gl_in (gl_63 hG) h1) ?_
    refine zO_iconst dX4_helpedBy_6 (by decide) ?_
    refine zO_icmp_ne (tgt := 14) dX4_helpedBy_7 rfl (fun c7 => ?_) (fun c7 => ?_)
    · refine zO_iconst dX4_helpedBy_10 (by decide) ?_
      refine zO_goto (tgt := 24) dX4_helpedBy_11 rfl ?_
      exact zO_ret (rv := some (zI 0)) dX4_helpedBy_24 rfl rfl rfl
    · refine zO_iload_n dX4_helpedBy_14 rfl ?_
      refine zO_aload_n dX4_helpedBy_15 rfl (zR_P _) ?_
      refine gt4 (k := 8) dX4_helpedBy_16 wF_X4_25 (by decide) (gk_60 hG) (zgv (c := 4) (k := 8) rfl (Or.inl ⟨_, rfl⟩) (gf_60_8 hG)) ?_
      refine zO_iload_n dX4_helpedBy_19 rfl ?_
      refine zO_iald dX4_helpedBy_20 (gk_63 hG) (gl_in (gl_63 hG) h1) ?_
      refine zO_iushr dX4_helpedBy_21 ?_
      refine zO_iconst dX4_helpedBy_22 (by decide) ?_
      refine zO_iand dX4_helpedBy_23 ?_
      exact zO_ret (rv := some (zI (zand (zushr v2 (D 63 v1.toNat)) 1))) dX4_helpedBy_24 rfl rfl rfl
  exact hz r hr
theorem dX4_rowAt_0 : decode cX4_rowAt 0 = .ok (.aload_n 0, 1) := by decide +kernel
theorem dX4_rowAt_1 : decode cX4_rowAt 1 = .ok (.getfield 31, 3) := by decide +kernel
theorem dX4_rowAt_4 : decode cX4_rowAt 4 = .ok (.iload_n 1, 1) := by decide +kernel
theorem dX4_rowAt_5 : decode cX4_rowAt 5 = .ok (.iaload, 1) := by decide +kernel
theorem dX4_rowAt_6 : decode cX4_rowAt 6 = .ok (.iload_n 2, 1) := by decide +kernel
theorem dX4_rowAt_7 : decode cX4_rowAt 7 = .ok (.aload_n 0, 1) := by decide +kernel
theorem dX4_rowAt_8 : decode cX4_rowAt 8 = .ok (.getfield 83, 3) := by decide +kernel
theorem dX4_rowAt_11 : decode cX4_rowAt 11 = .ok (.iload_n 1, 1) := by decide +kernel
theorem dX4_rowAt_12 : decode cX4_rowAt 12 = .ok (.isub, 1) := by decide +kernel
theorem dX4_rowAt_13 : decode cX4_rowAt 13 = .ok (.invokestatic 99, 3) := by decide +kernel
theorem dX4_rowAt_16 : decode cX4_rowAt 16 = .ok (.imul, 1) := by decide +kernel
theorem dX4_rowAt_17 : decode cX4_rowAt 17 = .ok (.iadd, 1) := by decide +kernel
theorem dX4_rowAt_18 : decode cX4_rowAt 18 = .ok (.ireturn, 1) := by decide +kernel
abbrev YX4_rowAt : zY := (yX4_rowAt, cX4_rowAt, 3, (Option.some Jvm.ClassFile.FieldType.int), [])
def fX4_rowAt (F : zFs) (v1 : Int) (v2 : Int) (D : zDa) : Option (Int × zDa) :=
  if (0 ≤ v1 ∧ v1 < 21) ∧ (-2147483648 ≤ (D 60 5) - v1 ∧ (D 60 5) - v1 ≤ 2147483647) then
    (fX4_pairs F ((D 60 5) - v1) D).bind (fun (r_1, D_2) =>
      if (-2147483648 ≤ v2 * r_1 ∧ v2 * r_1 ≤ 2147483647) ∧ (-2147483648 ≤ (D 65 v1.toNat) + (v2 * r_1) ∧ (D 65 v1.toNat) + (v2 * r_1) ≤ 2147483647) then
        some (((D 65 v1.toNat) + (v2 * r_1)), D_2)
      else none)
  else none
set_option maxHeartbeats 20000000 in
theorem mX4_rowAt {l : Launch} {E : zE} {d : Nat} {F : zFs} {n sl : Nat} (hG : zG F) (v1 : Int) (v2 : Int) {D : zDa} : ∀ r, fX4_rowAt F  v1 v2 D = some r → zMet l E (d + 1) YX4_rowAt [zR 60, zI v1, zI v2] (F, D, n, sl) (zcI F n sl r) := by
  intro r hr
  refine zMet_of (plainFor_of_name (by decide)) (fun _ h => (nomatch h)) (Nat.le_of_ble_eq_true rfl) ?_
  have hz : zO l E (d + 1) YX4_rowAt 0 [(0, zR 60), (1, zI v1), (2, zI v2)] [] (F, D, n, sl) (zcI F n sl) (fX4_rowAt F  v1 v2 D) := by
    unfold fX4_rowAt
    refine zO_chk (fun h1 => ?_)
    refine zO_aload_n dX4_rowAt_0 rfl (zR_P _) ?_
    refine gt4 (k := 10) dX4_rowAt_1 wF_X4_31 (by decide) (gk_60 hG) (zgv (c := 4) (k := 10) rfl (Or.inl ⟨_, rfl⟩) (gf_60_10 hG)) ?_
    refine zO_iload_n dX4_rowAt_4 rfl ?_
    refine zO_iald dX4_rowAt_5 (gk_65 hG) (gl_in (gl_65 hG) h1.1) ?_
    refine zO_iload_n dX4_rowAt_6 rfl ?_
    refine zO_aload_n dX4_rowAt_7 rfl (zR_P _) ?_
    refine gt4 (k := 5) (v := zI (D 60 5)) dX4_rowAt_8 wF_X4_83 (by decide) (gk_60 hG) rfl ?_
    refine zO_iload_n dX4_rowAt_11 rfl ?_
    refine zO_isub dX4_rowAt_12 h1.2 ?_
    refine zO_callS (Y' := YX4_pairs) (cw := zcI F n sl) (as := [zI ((D 60 5) - v1)]) (rest := [zI v2, zI (D 65 v1.toNat)]) (na := 1) dX4_rowAt_13 wC_X4_pairs wN_X4 wM_X4_99 wS_X4_pairs (by decide) (by decide) rfl rfl (Nat.le_of_ble_eq_true rfl) (fun r hr => zMet_cast (Nat.add_assoc d 0 0) (mX4_pairs (d := d + 0) hG ((D 60 5) - v1) r hr)) ?_
    rintro ⟨r_1, D_2⟩ -
    show zO _ _ _ _ _ _ [zI r_1, zI v2, zI (D 65 v1.toNat)] (F, D_2, n, sl) _ _
    refine zO_chk (fun h2 => ?_)
    refine zO_imul dX4_rowAt_16 h2.1 ?_
    refine zO_iadd dX4_rowAt_17 h2.2 ?_
    exact zO_ret (rv := some (zI ((D 65 v1.toNat) + (v2 * r_1)))) dX4_rowAt_18 rfl rfl rfl
  exact hz r hr
theorem dX4_pairPlace_0 : decode cX4_pairPlace 0 = .ok (.iload_n 0, 1) := by decide +kernel
theorem dX4_pairPlace_1 : decode cX4_pairPlace 1 = .ok (.iload_n 1, 1) := by decide +kernel
theorem dX4_pairPlace_2 : decode cX4_pairPlace 2 = .ok (.iadd, 1) := by decide +kernel
theorem dX4_pairPlace_3 : decode cX4_pairPlace 3 = .ok (.iload_n 0, 1) := by decide +kernel
theorem dX4_pairPlace_4 : decode cX4_pairPlace 4 = .ok (.iload_n 1, 1) := by decide +kernel
theorem dX4_pairPlace_5 : decode cX4_pairPlace 5 = .ok (.iadd, 1) := by decide +kernel
theorem dX4_pairPlace_6 : decode cX4_pairPlace 6 = .ok (.iconst 1, 1) := by decide +kernel
theorem dX4_pairPlace_7 : decode cX4_pairPlace 7 = .ok (.iadd, 1) := by decide +kernel
theorem dX4_pairPlace_8 : decode cX4_pairPlace 8 = .ok (.imul, 1) := by decide +kernel
theorem dX4_pairPlace_9 : decode cX4_pairPlace 9 = .ok (.iconst 2, 1) := by decide +kernel
theorem dX4_pairPlace_10 : decode cX4_pairPlace 10 = .ok (.idiv, 1) := by decide +kernel
theorem dX4_pairPlace_11 : decode cX4_pairPlace 11 = .ok (.iload_n 1, 1) := by decide +kernel
theorem dX4_pairPlace_12 : decode cX4_pairPlace 12 = .ok (.iadd, 1) := by decide +kernel
theorem dX4_pairPlace_13 : decode cX4_pairPlace 13 = .ok (.ireturn, 1) := by decide +kernel
abbrev YX4_pairPlace : zY := (yX4_pairPlace, cX4_pairPlace, 2, (Option.some Jvm.ClassFile.FieldType.int), [])
def fX4_pairPlace (F : zFs) (v0 : Int) (v1 : Int) (D : zDa) : Option (Int × zDa) :=
  if (-2147483648 ≤ v0 + v1 ∧ v0 + v1 ≤ 2147483647) ∧ (-2147483648 ≤ (v0 + v1) + 1 ∧ (v0 + v1) + 1 ≤ 2147483647) ∧ (-2147483648 ≤ (v0 + v1) * ((v0 + v1) + 1) ∧ (v0 + v1) * ((v0 + v1) + 1) ≤ 2147483647) ∧ (-2147483648 ≤ (Int.tdiv ((v0 + v1) * ((v0 + v1) + 1)) 2) + v1 ∧ (Int.tdiv ((v0 + v1) * ((v0 + v1) + 1)) 2) + v1 ≤ 2147483647) then
    some (((Int.tdiv ((v0 + v1) * ((v0 + v1) + 1)) 2) + v1), D)
  else none
set_option maxHeartbeats 20000000 in
theorem mX4_pairPlace {l : Launch} {E : zE} {d : Nat} {F : zFs} {n sl : Nat} (hG : zG F) (v0 : Int) (v1 : Int) {D : zDa} : ∀ r, fX4_pairPlace F  v0 v1 D = some r → zMet l E (d + 0) YX4_pairPlace [zI v0, zI v1] (F, D, n, sl) (zcI F n sl r) := by
  intro r hr
  refine zMet_of (plainFor_of_name (by decide)) (fun _ h => (nomatch h)) (Nat.le_of_ble_eq_true rfl) ?_
  have hz : zO l E (d + 0) YX4_pairPlace 0 [(0, zI v0), (1, zI v1)] [] (F, D, n, sl) (zcI F n sl) (fX4_pairPlace F  v0 v1 D) := by
    unfold fX4_pairPlace
    refine zO_chk (fun h1 => ?_)
    refine zO_iload_n dX4_pairPlace_0 rfl ?_
    refine zO_iload_n dX4_pairPlace_1 rfl ?_
    refine zO_iadd dX4_pairPlace_2 h1.1 ?_
    refine zO_iload_n dX4_pairPlace_3 rfl ?_
    refine zO_iload_n dX4_pairPlace_4 rfl ?_
    refine zO_iadd dX4_pairPlace_5 h1.1 ?_
    refine zO_iconst dX4_pairPlace_6 (by decide) ?_
    refine zO_iadd dX4_pairPlace_7 h1.2.1 ?_
    refine zO_imul dX4_pairPlace_8 h1.2.2.1 ?_
    refine zO_iconst dX4_pairPlace_9 (by decide) ?_
    refine zO_idiv dX4_pairPlace_10 (by decide) (fun q => absurd q.2 (by decide)) ?_
    refine zO_iload_n dX4_pairPlace_11 rfl ?_
    refine zO_iadd dX4_pairPlace_12 h1.2.2.2 ?_
    exact zO_ret (rv := some (zI ((Int.tdiv ((v0 + v1) * ((v0 + v1) + 1)) 2) + v1))) dX4_pairPlace_13 rfl rfl rfl
  exact hz r hr
theorem dX4_canStillBe_0 : decode cX4_canStillBe 0 = .ok (.aload_n 0, 1) := by decide +kernel
theorem dX4_canStillBe_1 : decode cX4_canStillBe 1 = .ok (.getfield 83, 3) := by decide +kernel
theorem dX4_canStillBe_4 : decode cX4_canStillBe 4 = .ok (.iload_n 1, 1) := by decide +kernel
theorem dX4_canStillBe_5 : decode cX4_canStillBe 5 = .ok (.isub, 1) := by decide +kernel
theorem dX4_canStillBe_6 : decode cX4_canStillBe 6 = .ok (.iconst 1, 1) := by decide +kernel
theorem dX4_canStillBe_7 : decode cX4_canStillBe 7 = .ok (.isub, 1) := by decide +kernel
theorem dX4_canStillBe_8 : decode cX4_canStillBe 8 = .ok (.istore 6, 2) := by decide +kernel
theorem dX4_canStillBe_10 : decode cX4_canStillBe 10 = .ok (.aload_n 0, 1) := by decide +kernel
theorem dX4_canStillBe_11 : decode cX4_canStillBe 11 = .ok (.iload_n 1, 1) := by decide +kernel
theorem dX4_canStillBe_12 : decode cX4_canStillBe 12 = .ok (.iconst 1, 1) := by decide +kernel
theorem dX4_canStillBe_13 : decode cX4_canStillBe 13 = .ok (.iadd, 1) := by decide +kernel
theorem dX4_canStillBe_14 : decode cX4_canStillBe 14 = .ok (.iload_n 2, 1) := by decide +kernel
theorem dX4_canStillBe_15 : decode cX4_canStillBe 15 = .ok (.invokevirtual 130, 3) := by decide +kernel
theorem dX4_canStillBe_18 : decode cX4_canStillBe 18 = .ok (.istore 7, 2) := by decide +kernel
theorem dX4_canStillBe_20 : decode cX4_canStillBe 20 = .ok (.iconst 0, 1) := by decide +kernel
theorem dX4_canStillBe_21 : decode cX4_canStillBe 21 = .ok (.istore 8, 2) := by decide +kernel
theorem dX4_canStillBe_23 : decode cX4_canStillBe 23 = .ok (.iload 8, 2) := by decide +kernel
theorem dX4_canStillBe_25 : decode cX4_canStillBe 25 = .ok (.iload 6, 2) := by decide +kernel
theorem dX4_canStillBe_27 : decode cX4_canStillBe 27 = .ok (.if_icmp .gt 80, 3) := by decide +kernel
theorem dX4_canStillBe_30 : decode cX4_canStillBe 30 = .ok (.iconst 0, 1) := by decide +kernel
theorem dX4_canStillBe_31 : decode cX4_canStillBe 31 = .ok (.istore 9, 2) := by decide +kernel
theorem dX4_canStillBe_33 : decode cX4_canStillBe 33 = .ok (.iload 9, 2) := by decide +kernel
theorem dX4_canStillBe_35 : decode cX4_canStillBe 35 = .ok (.iload 6, 2) := by decide +kernel
theorem dX4_canStillBe_37 : decode cX4_canStillBe 37 = .ok (.iload 8, 2) := by decide +kernel
theorem dX4_canStillBe_39 : decode cX4_canStillBe 39 = .ok (.isub, 1) := by decide +kernel
theorem dX4_canStillBe_40 : decode cX4_canStillBe 40 = .ok (.if_icmp .gt 61, 3) := by decide +kernel
theorem dX4_canStillBe_43 : decode cX4_canStillBe 43 = .ok (.iload 5, 2) := by decide +kernel
theorem dX4_canStillBe_45 : decode cX4_canStillBe 45 = .ok (.aload_n 0, 1) := by decide +kernel
theorem dX4_canStillBe_46 : decode cX4_canStillBe 46 = .ok (.getfield 34, 3) := by decide +kernel
theorem dX4_canStillBe_49 : decode cX4_canStillBe 49 = .ok (.iload 7, 2) := by decide +kernel
theorem dX4_canStillBe_51 : decode cX4_canStillBe 51 = .ok (.iload 8, 2) := by decide +kernel
theorem dX4_canStillBe_53 : decode cX4_canStillBe 53 = .ok (.iload 9, 2) := by decide +kernel
theorem dX4_canStillBe_55 : decode cX4_canStillBe 55 = .ok (.invokestatic 162, 3) := by decide +kernel
theorem dX4_canStillBe_58 : decode cX4_canStillBe 58 = .ok (.iadd, 1) := by decide +kernel
theorem dX4_canStillBe_59 : decode cX4_canStillBe 59 = .ok (.iaload, 1) := by decide +kernel
theorem dX4_canStillBe_60 : decode cX4_canStillBe 60 = .ok (.iadd, 1) := by decide +kernel
theorem dX4_canStillBe_61 : decode cX4_canStillBe 61 = .ok (.aload_n 0, 1) := by decide +kernel
theorem dX4_canStillBe_62 : decode cX4_canStillBe 62 = .ok (.getfield 174, 3) := by decide +kernel
theorem dX4_canStillBe_65 : decode cX4_canStillBe 65 = .ok (.if_icmp .ne 30, 3) := by decide +kernel
theorem dX4_canStillBe_68 : decode cX4_canStillBe 68 = .ok (.aload_n 0, 1) := by decide +kernel
theorem dX4_canStillBe_69 : decode cX4_canStillBe 69 = .ok (.getfield 37, 3) := by decide +kernel
theorem dX4_canStillBe_72 : decode cX4_canStillBe 72 = .ok (.iload_n 3, 1) := by decide +kernel
theorem dX4_canStillBe_73 : decode cX4_canStillBe 73 = .ok (.iload 8, 2) := by decide +kernel
theorem dX4_canStillBe_75 : decode cX4_canStillBe 75 = .ok (.iadd, 1) := by decide +kernel
theorem dX4_canStillBe_76 : decode cX4_canStillBe 76 = .ok (.iload 4, 2) := by decide +kernel
theorem dX4_canStillBe_78 : decode cX4_canStillBe 78 = .ok (.iload 9, 2) := by decide +kernel
theorem dX4_canStillBe_80 : decode cX4_canStillBe 80 = .ok (.iadd, 1) := by decide +kernel
theorem dX4_canStillBe_81 : decode cX4_canStillBe 81 = .ok (.invokestatic 162, 3) := by decide +kernel
theorem dX4_canStillBe_84 : decode cX4_canStillBe 84 = .ok (.laload, 1) := by decide +kernel
theorem dX4_canStillBe_85 : decode cX4_canStillBe 85 = .ok (.aload_n 0, 1) := by decide +kernel
theorem dX4_canStillBe_86 : decode cX4_canStillBe 86 = .ok (.getfield 171, 3) := by decide +kernel
theorem dX4_canStillBe_89 : decode cX4_canStillBe 89 = .ok (.lcmp, 1) := by decide +kernel
theorem dX4_canStillBe_90 : decode cX4_canStillBe 90 = .ok (.ifCond .ne 5, 3) := by decide +kernel
theorem dX4_canStillBe_93 : decode cX4_canStillBe 93 = .ok (.iconst 1, 1) := by decide +kernel
theorem dX4_canStillBe_94 : decode cX4_canStillBe 94 = .ok (.ireturn, 1) := by decide +kernel
theorem dX4_canStillBe_95 : decode cX4_canStillBe 95 = .ok (.iinc 9 1, 3) := by decide +kernel
theorem dX4_canStillBe_98 : decode cX4_canStillBe 98 = .ok (.goto (-65), 3) := by decide +kernel
theorem dX4_canStillBe_101 : decode cX4_canStillBe 101 = .ok (.iinc 8 1, 3) := by decide +kernel
theorem dX4_canStillBe_104 : decode cX4_canStillBe 104 = .ok (.goto (-81), 3) := by decide +kernel
theorem dX4_canStillBe_107 : decode cX4_canStillBe 107 = .ok (.iconst 0, 1) := by decide +kernel
theorem dX4_canStillBe_108 : decode cX4_canStillBe 108 = .ok (.ireturn, 1) := by decide +kernel
abbrev YX4_canStillBe : zY := (yX4_canStillBe, cX4_canStillBe, 10, (Option.some Jvm.ClassFile.FieldType.boolean), [])
def fX4_canStillBe_95 (F : zFs) (k_23 : Int → zDa → Option (Int × zDa)) (k_33 : Int → zDa → Option (Int × zDa)) (o3 : Int) (o4 : Int) (o5 : Int) (o6 : Int) (o7 : Int) (o8 : Int) (v9 : Int) (D : zDa) : Option (Int × zDa) :=
  if (-2147483648 ≤ v9 + 1 ∧ v9 + 1 ≤ 2147483647) then
    k_33 (v9 + 1) D
  else none
def fX4_canStillBe_33 (F : zFs) (o3 : Int) (o4 : Int) (o5 : Int) (o6 : Int) (o7 : Int) (o8 : Int) (k_23 : Int → zDa → Option (Int × zDa)) (k_33 : Int → zDa → Option (Int × zDa)) (v9 : Int) (D : zDa) : Option (Int × zDa) :=
  if (-2147483648 ≤ o6 - o8 ∧ o6 - o8 ≤ 2147483647) then
    if (o6 - o8) < v9 then
      if (-2147483648 ≤ o8 + 1 ∧ o8 + 1 ≤ 2147483647) then
        k_23 (o8 + 1) D
      else none
    else
      (fX4_pairPlace F o8 v9 D).bind (fun (r_4, D_5) =>
        if (-2147483648 ≤ o7 + r_4 ∧ o7 + r_4 ≤ 2147483647) ∧ (0 ≤ (D 60 11)) ∧ ((F ((D 60 11).toNat)).1 = 20) ∧ ((0 : Int) ≤ (o7 + r_4) ∧ ((o7 + r_4) : Int) < ((F ((D 60 11).toNat)).2.1 : Int)) ∧ (-2147483648 ≤ o5 + (D_5 ((D 60 11).toNat) (o7 + r_4).toNat) ∧ o5 + (D_5 ((D 60 11).toNat) (o7 + r_4).toNat) ≤ 2147483647) then
          if (o5 + (D_5 ((D 60 11).toNat) (o7 + r_4).toNat)) = (D_5 60 19) then
            if (-2147483648 ≤ o3 + o8 ∧ o3 + o8 ≤ 2147483647) ∧ (-2147483648 ≤ o4 + v9 ∧ o4 + v9 ≤ 2147483647) then
              (fX4_pairPlace F (o3 + o8) (o4 + v9) D_5).bind (fun (r_6, D_7) =>
                if (0 ≤ r_6 ∧ r_6 < 231) then
                  if (D_7 67 r_6.toNat) = (D_7 60 18) then
                    some (1, D_7)
                  else
                    fX4_canStillBe_95 F k_23 k_33 o3 o4 o5 o6 o7 o8 v9 D_7
                else none)
            else none
          else
            fX4_canStillBe_95 F k_23 k_33 o3 o4 o5 o6 o7 o8 v9 D_5
        else none)
  else none
def fX4_canStillBe_23 (F : zFs) (o3 : Int) (o4 : Int) (o5 : Int) (o6 : Int) (o7 : Int)  (k_23 : Int → zDa → Option (Int × zDa)) (v8 : Int) (D : zDa) : Option (Int × zDa) :=
  if o6 < v8 then
    some (0, D)
  else
    zfix (fun _ _ => none) (fX4_canStillBe_33 F o3 o4 o5 o6 o7 v8 k_23) zfu 0 D
def fX4_canStillBe (F : zFs) (v1 : Int) (v2 : Int) (v3 : Int) (v4 : Int) (v5 : Int) (D : zDa) : Option (Int × zDa) :=
  if (-2147483648 ≤ (D 60 5) - v1 ∧ (D 60 5) - v1 ≤ 2147483647) ∧ (-2147483648 ≤ ((D 60 5) - v1) - 1 ∧ ((D 60 5) - v1) - 1 ≤ 2147483647) then
    zlet ((((D 60 5) - v1) - 1)) (fun x6_1 =>
      if (-2147483648 ≤ v1 + 1 ∧ v1 + 1 ≤ 2147483647) then
        (fX4_rowAt F (v1 + 1) v2 D).bind (fun (r_2, D_3) =>
          zfix (fun _ _ => none) (fX4_canStillBe_23 F v3 v4 v5 x6_1 r_2) zfu 0 D_3)
      else none)
  else none
set_option maxHeartbeats 20000000 in
theorem sX4_canStillBe_95 {l : Launch} {E : zE} {d : Nat} {F : zFs} {n sl : Nat} (hG : zG F)  (o3 : Int) (o4 : Int) (o5 : Int) (o6 : Int) (o7 : Int) (o8 : Int) (v9 : Int) (k_23 : Int → zDa → Option (Int × zDa)) (k_33 : Int → zDa → Option (Int × zDa)) (hk_23 : ∀ (u8 : Int) (D : zDa), zO l E (d + 2) YX4_canStillBe 23 [(0, zR 60), (3, zI o3), (4, zI o4), (5, zI o5), (6, zI o6), (7, zI o7), (8, zI u8)] [] (F, D, n, sl) (zcI F n sl) (k_23 u8 D)) (hk_33 : ∀ (u9 : Int) (D : zDa), zO l E (d + 2) YX4_canStillBe 33 [(0, zR 60), (3, zI o3), (4, zI o4), (5, zI o5), (6, zI o6), (7, zI o7), (8, zI o8), (9, zI u9)] [] (F, D, n, sl) (zcI F n sl) (k_33 u9 D)) (D : zDa) : zO l E (d + 2) YX4_canStillBe 95 [(0, zR 60), (3, zI o3), (4, zI o4), (5, zI o5), (6, zI o6), (7, zI o7), (8, zI o8), (9, zI v9)] [] (F, D, n, sl) (zcI F n sl) (fX4_canStillBe_95 F k_23 k_33 o3 o4 o5 o6 o7 o8 v9 D) := by
  unfold fX4_canStillBe_95
  refine zO_chk (fun h8 => ?_)
  refine zO_iinc dX4_canStillBe_95 rfl h8 (by decide) ?_
  refine zO_ls (ls' := [(0, zR 60), (3, zI o3), (4, zI o4), (5, zI o5), (6, zI o6), (7, zI o7), (8, zI o8), (9, zI (v9 + 1))]) rfl ?_
  refine zO_goto (tgt := 33) dX4_canStillBe_98 rfl ?_
  refine zO_live [0, 3, 4, 5, 6, 7, 8, 9] ?_
  exact hk_33 (v9 + 1) D
set_option maxHeartbeats 20000000 in
theorem sX4_canStillBe_33 {l : Launch} {E : zE} {d : Nat} {F : zFs} {n sl : Nat} (hG : zG F)  (o3 : Int) (o4 : Int) (o5 : Int) (o6 : Int) (o7 : Int) (o8 : Int) (k_23 : Int → zDa → Option (Int × zDa)) (hk_23 : ∀ (u8 : Int) (D : zDa), zO l E (d + 2) YX4_canStillBe 23 [(0, zR 60), (3, zI o3), (4, zI o4), (5, zI o5), (6, zI o6), (7, zI o7), (8, zI u8)] [] (F, D, n, sl) (zcI F n sl) (k_23 u8 D)) : ∀ (N : Nat) (v9 : Int) (D : zDa), zO l E (d + 2) YX4_canStillBe 33 [(0, zR 60), (3, zI o3), (4, zI o4), (5, zI o5), (6, zI o6), (7, zI o7), (8, zI o8), (9, zI v9)] [] (F, D, n, sl) (zcI F n sl) (zfix (fun _ _ => none) (fX4_canStillBe_33 F o3 o4 o5 o6 o7 o8 k_23) N v9 D) := by
  intro N
  induction N with
  | zero => intro v9 D; exact zO_none
  | succ N hk_33 =>
    intro v9 D
    show zO _ _ _ _ _ _ _ _ _ ((fX4_canStillBe_33 F o3 o4 o5 o6 o7 o8 k_23) (zfix (fun _ _ => none) (fX4_canStillBe_33 F o3 o4 o5 o6 o7 o8 k_23) N) v9 D)
    unfold fX4_canStillBe_33
    refine zO_chk (fun h3 => ?_)
    refine zO_iload dX4_canStillBe_33 rfl ?_
    refine zO_iload dX4_canStillBe_35 rfl ?_
    refine zO_iload dX4_canStillBe_37 rfl ?_
    refine zO_isub dX4_canStillBe_39 h3 ?_
    refine zO_icmp_gt (tgt := 101) dX4_canStillBe_40 rfl (fun c40 => ?_) (fun c40 => ?_)
    · refine zO_chk (fun h4 => ?_)
      refine zO_iinc dX4_canStillBe_101 rfl h4 (by decide) ?_
      refine zO_ls (ls' := [(0, zR 60), (3, zI o3), (4, zI o4), (5, zI o5), (6, zI o6), (7, zI o7), (8, zI (o8 + 1)), (9, zI v9)]) rfl ?_
      refine zO_goto (tgt := 23) dX4_canStillBe_104 rfl ?_
      refine zO_live [0, 3, 4, 5, 6, 7, 8] ?_
      exact hk_23 (o8 + 1) D
    · refine zO_iload dX4_canStillBe_43 rfl ?_
      refine zO_aload_n dX4_canStillBe_45 rfl (zR_P _) ?_
      refine gt4 (k := 11) (v := zq (D 60 11)) dX4_canStillBe_46 wF_X4_34 (by decide) (gk_60 hG) rfl ?_
      refine zO_iload dX4_canStillBe_49 rfl ?_
      refine zO_iload dX4_canStillBe_51 rfl ?_
      refine zO_iload dX4_canStillBe_53 rfl ?_
      refine zO_callS (Y' := YX4_pairPlace) (cw := zcI F n sl) (as := [zI o8, zI v9]) (rest := [zI o7, zq (D 60 11), zI o5]) (na := 2) dX4_canStillBe_55 wC_X4_pairPlace wN_X4 wM_X4_162 wS_X4_pairPlace (by decide) (by decide) rfl rfl (by unfold zwid; simp only [List.map_cons, List.map_nil, zq_cat]; exact Nat.le_of_ble_eq_true rfl) (fun r hr => zMet_cast (Nat.add_assoc d 1 0) (mX4_pairPlace (d := d + 1) hG o8 v9 r hr)) ?_
      rintro ⟨r_4, D_5⟩ -
      show zO _ _ _ _ _ _ [zI r_4, zI o7, zq (D 60 11), zI o5] (F, D_5, n, sl) _ _
      refine zO_chk (fun h5 => ?_)
      refine zO_iadd dX4_canStillBe_58 h5.1 ?_
      refine zO_q1 h5.2.1 ?_
      refine zO_iald dX4_canStillBe_59 h5.2.2.1 h5.2.2.2.1 ?_
      refine zO_iadd dX4_canStillBe_60 h5.2.2.2.2 ?_
      refine zO_aload_n dX4_canStillBe_61 rfl (zR_P _) ?_
      refine gt4 (k := 19) (v := zI (D_5 60 19)) dX4_canStillBe_62 wF_X4_174 (by decide) (gk_60 hG) rfl ?_
      refine zO_icmp_ne (tgt := 95) dX4_canStillBe_65 rfl (fun c65 => ?_) (fun c65 => ?_)
      · refine zO_chk (fun h6 => ?_)
        refine zO_aload_n dX4_canStillBe_68 rfl (zR_P _) ?_
        refine gt4 (k := 12) dX4_canStillBe_69 wF_X4_37 (by decide) (gk_60 hG) (zgv (c := 4) (k := 12) rfl (Or.inl ⟨_, rfl⟩) (gf_60_12 hG)) ?_
        refine zO_iload_n dX4_canStillBe_72 rfl ?_
        refine zO_iload dX4_canStillBe_73 rfl ?_
        refine zO_iadd dX4_canStillBe_75 h6.1 ?_
        refine zO_iload dX4_canStillBe_76 rfl ?_
        refine zO_iload dX4_canStillBe_78 rfl ?_
        refine zO_iadd dX4_canStillBe_80 h6.2 ?_
        refine zO_callS (Y' := YX4_pairPlace) (cw := zcI F n sl) (as := [zI (o3 + o8), zI (o4 + v9)]) (rest := [zR 67]) (na := 2) dX4_canStillBe_81 wC_X4_pairPlace wN_X4 wM_X4_162 wS_X4_pairPlace (by decide) (by decide) rfl rfl (Nat.le_of_ble_eq_true rfl) (fun r hr => zMet_cast (Nat.add_assoc d 1 0) (mX4_pairPlace (d := d + 1) hG (o3 + o8) (o4 + v9) r hr)) ?_
        rintro ⟨r_6, D_7⟩ -
        show zO _ _ _ _ _ _ [zI r_6, zR 67] (F, D_7, n, sl) _ _
        refine zO_chk (fun h7 => ?_)
        refine zO_lald dX4_canStillBe_84 (gk_67 hG) (gl_in (gl_67 hG) h7) ?_
        refine zO_aload_n dX4_canStillBe_85 rfl (zR_P _) ?_
        refine gt4 (k := 18) (v := zL (D_7 60 18)) dX4_canStillBe_86 wF_X4_171 (by decide) (gk_60 hG) rfl ?_
        refine zO_lif_ne (tgt := 95) dX4_canStillBe_89 dX4_canStillBe_90 rfl (fun c89 => ?_) (fun c89 => ?_)
        · refine zO_iconst dX4_canStillBe_93 (by decide) ?_
          exact zO_ret (rv := some (zI 1)) dX4_canStillBe_94 rfl rfl rfl
        · refine zO_live [0, 3, 4, 5, 6, 7, 8, 9] ?_
          exact sX4_canStillBe_95 hG o3 o4 o5 o6 o7 o8 v9 _ _ hk_23 hk_33 D_7
      · refine zO_live [0, 3, 4, 5, 6, 7, 8, 9] ?_
        exact sX4_canStillBe_95 hG o3 o4 o5 o6 o7 o8 v9 _ _ hk_23 hk_33 D_5
set_option maxHeartbeats 20000000 in
theorem sX4_canStillBe_23 {l : Launch} {E : zE} {d : Nat} {F : zFs} {n sl : Nat} (hG : zG F)  (o3 : Int) (o4 : Int) (o5 : Int) (o6 : Int) (o7 : Int)   : ∀ (N : Nat) (v8 : Int) (D : zDa), zO l E (d + 2) YX4_canStillBe 23 [(0, zR 60), (3, zI o3), (4, zI o4), (5, zI o5), (6, zI o6), (7, zI o7), (8, zI v8)] [] (F, D, n, sl) (zcI F n sl) (zfix (fun _ _ => none) (fX4_canStillBe_23 F o3 o4 o5 o6 o7) N v8 D) := by
  intro N
  induction N with
  | zero => intro v8 D; exact zO_none
  | succ N hk_23 =>
    intro v8 D
    show zO _ _ _ _ _ _ _ _ _ ((fX4_canStillBe_23 F o3 o4 o5 o6 o7) (zfix (fun _ _ => none) (fX4_canStillBe_23 F o3 o4 o5 o6 o7) N) v8 D)
    unfold fX4_canStillBe_23
    refine zO_iload dX4_canStillBe_23 rfl ?_
    refine zO_iload dX4_canStillBe_25 rfl ?_
    refine zO_icmp_gt (tgt := 107) dX4_canStillBe_27 rfl (fun c27 => ?_) (fun c27 => ?_)
    · refine zO_iconst dX4_canStillBe_107 (by decide) ?_
      exact zO_ret (rv := some (zI 0)) dX4_canStillBe_108 rfl rfl rfl
    · refine zO_iconst dX4_canStillBe_30 (by decide) ?_
      refine zO_istore dX4_canStillBe_31 (by decide) ?_
      refine zO_ls (ls' := [(0, zR 60), (3, zI o3), (4, zI o4), (5, zI o5), (6, zI o6), (7, zI o7), (8, zI v8), (9, zI 0)]) rfl ?_
      refine zO_live [0, 3, 4, 5, 6, 7, 8, 9] ?_
      exact sX4_canStillBe_33 hG o3 o4 o5 o6 o7 v8 _ hk_23 zfu 0 D
set_option maxHeartbeats 20000000 in
theorem mX4_canStillBe {l : Launch} {E : zE} {d : Nat} {F : zFs} {n sl : Nat} (hG : zG F) (v1 : Int) (v2 : Int) (v3 : Int) (v4 : Int) (v5 : Int) {D : zDa} : ∀ r, fX4_canStillBe F  v1 v2 v3 v4 v5 D = some r → zMet l E (d + 2) YX4_canStillBe [zR 60, zI v1, zI v2, zI v3, zI v4, zI v5] (F, D, n, sl) (zcI F n sl r) := by
  intro r hr
  refine zMet_of (plainFor_of_name (by decide)) (fun _ h => (nomatch h)) (Nat.le_of_ble_eq_true rfl) ?_
  have hz : zO l E (d + 2) YX4_canStillBe 0 [(0, zR 60), (1, zI v1), (2, zI v2), (3, zI v3), (4, zI v4), (5, zI v5)] [] (F, D, n, sl) (zcI F n sl) (fX4_canStillBe F  v1 v2 v3 v4 v5 D) := by
    unfold fX4_canStillBe
    refine zO_chk (fun h1 => ?_)
    refine zO_aload_n dX4_canStillBe_0 rfl (zR_P _) ?_
    refine gt4 (k := 5) (v := zI (D 60 5)) dX4_canStillBe_1 wF_X4_83 (by decide) (gk_60 hG) rfl ?_
    refine zO_iload_n dX4_canStillBe_4 rfl ?_
    refine zO_isub dX4_canStillBe_5 h1.1 ?_
    refine zO_iconst dX4_canStillBe_6 (by decide) ?_
    refine zO_isub dX4_canStillBe_7 h1.2 ?_
    refine zO_letI (fun x6_1 ex6_1 => ?_)
    refine zO_istore dX4_canStillBe_8 (by decide) ?_
    refine zO_ls (ls' := [(0, zR 60), (1, zI v1), (2, zI v2), (3, zI v3), (4, zI v4), (5, zI v5), (6, zI x6_1)]) rfl ?_
    refine zO_chk (fun h2 => ?_)
    refine zO_aload_n dX4_canStillBe_10 rfl (zR_P _) ?_
    refine zO_iload_n dX4_canStillBe_11 rfl ?_
    refine zO_iconst dX4_canStillBe_12 (by decide) ?_
    refine zO_iadd dX4_canStillBe_13 h2 ?_
    refine zO_iload_n dX4_canStillBe_14 rfl ?_
    refine zO_callV (Y' := YX4_rowAt) (cw := zcI F n sl) (as := [zI (v1 + 1), zI v2]) (rest := []) (na := 2) (ci := 4) rfl dX4_canStillBe_15 wC_X4_rowAt wN_X4 wM_X4_130 wI_X4_rowAt wV_X4_rowAt (by decide) (by decide) rfl rfl (Nat.le_of_ble_eq_true rfl) rfl (by decide) (gk_60 hG) (fun r hr => zMet_cast (Nat.add_assoc d 0 1) (mX4_rowAt (d := d + 0) hG (v1 + 1) v2 r hr)) ?_
    rintro ⟨r_2, D_3⟩ -
    show zO _ _ _ _ _ _ [zI r_2] (F, D_3, n, sl) _ _
    refine zO_istore dX4_canStillBe_18 (by decide) ?_
    refine zO_ls (ls' := [(0, zR 60), (1, zI v1), (2, zI v2), (3, zI v3), (4, zI v4), (5, zI v5), (6, zI x6_1), (7, zI r_2)]) rfl ?_
    refine zO_iconst dX4_canStillBe_20 (by decide) ?_
    refine zO_istore dX4_canStillBe_21 (by decide) ?_
    refine zO_ls (ls' := [(0, zR 60), (1, zI v1), (2, zI v2), (3, zI v3), (4, zI v4), (5, zI v5), (6, zI x6_1), (7, zI r_2), (8, zI 0)]) rfl ?_
    refine zO_live [0, 3, 4, 5, 6, 7, 8] ?_
    exact sX4_canStillBe_23 hG v3 v4 v5 x6_1 r_2 zfu 0 D_3
  exact hz r hr
theorem dX4_kingsWith_0 : decode cX4_kingsWith 0 = .ok (.aload_n 0, 1) := by decide +kernel
theorem dX4_kingsWith_1 : decode cX4_kingsWith 1 = .ok (.getfield 25, 3) := by decide +kernel
theorem dX4_kingsWith_4 : decode cX4_kingsWith 4 = .ok (.iload_n 1, 1) := by decide +kernel
theorem dX4_kingsWith_5 : decode cX4_kingsWith 5 = .ok (.iaload, 1) := by decide +kernel
theorem dX4_kingsWith_6 : decode cX4_kingsWith 6 = .ok (.iconst (-1), 1) := by decide +kernel
theorem dX4_kingsWith_7 : decode cX4_kingsWith 7 = .ok (.if_icmp .ne 7, 3) := by decide +kernel
theorem dX4_kingsWith_10 : decode cX4_kingsWith 10 = .ok (.iload_n 2, 1) := by decide +kernel
theorem dX4_kingsWith_11 : decode cX4_kingsWith 11 = .ok (.goto 13, 3) := by decide +kernel
theorem dX4_kingsWith_14 : decode cX4_kingsWith 14 = .ok (.iload_n 2, 1) := by decide +kernel
theorem dX4_kingsWith_15 : decode cX4_kingsWith 15 = .ok (.iconst 1, 1) := by decide +kernel
theorem dX4_kingsWith_16 : decode cX4_kingsWith 16 = .ok (.aload_n 0, 1) := by decide +kernel
theorem dX4_kingsWith_17 : decode cX4_kingsWith 17 = .ok (.getfield 25, 3) := by decide +kernel
theorem dX4_kingsWith_20 : decode cX4_kingsWith 20 = .ok (.iload_n 1, 1) := by decide +kernel
theorem dX4_kingsWith_21 : decode cX4_kingsWith 21 = .ok (.iaload, 1) := by decide +kernel
theorem dX4_kingsWith_22 : decode cX4_kingsWith 22 = .ok (.ishl, 1) := by decide +kernel
theorem dX4_kingsWith_23 : decode cX4_kingsWith 23 = .ok (.ior, 1) := by decide +kernel
theorem dX4_kingsWith_24 : decode cX4_kingsWith 24 = .ok (.ireturn, 1) := by decide +kernel
abbrev YX4_kingsWith : zY := (yX4_kingsWith, cX4_kingsWith, 3, (Option.some Jvm.ClassFile.FieldType.int), [])
def fX4_kingsWith (F : zFs) (v1 : Int) (v2 : Int) (D : zDa) : Option (Int × zDa) :=
  if (0 ≤ v1 ∧ v1 < 20) then
    if (D 63 v1.toNat) = (-1) then
      some (v2, D)
    else
      some ((zor v2 (zshl 1 (D 63 v1.toNat))), D)
  else none
set_option maxHeartbeats 20000000 in
theorem mX4_kingsWith {l : Launch} {E : zE} {d : Nat} {F : zFs} {n sl : Nat} (hG : zG F) (v1 : Int) (v2 : Int) {D : zDa} : ∀ r, fX4_kingsWith F  v1 v2 D = some r → zMet l E (d + 0) YX4_kingsWith [zR 60, zI v1, zI v2] (F, D, n, sl) (zcI F n sl r) := by
  intro r hr
  refine zMet_of (plainFor_of_name (by decide)) (fun _ h => (nomatch h)) (Nat.le_of_ble_eq_true rfl) ?_
  have hz : zO l E (d + 0) YX4_kingsWith 0 [(0, zR 60), (1, zI v1), (2, zI v2)] [] (F, D, n, sl) (zcI F n sl) (fX4_kingsWith F  v1 v2 D) := by
    unfold fX4_kingsWith
    refine zO_chk (fun h1 => ?_)
    refine zO_aload_n dX4_kingsWith_0 rfl (zR_P _) ?_
    refine gt4 (k := 8) dX4_kingsWith_1 wF_X4_25 (by decide) (gk_60 hG) (zgv (c := 4) (k := 8) rfl (Or.inl ⟨_, rfl⟩) (gf_60_8 hG)) ?_
    refine zO_iload_n dX4_kingsWith_4 rfl ?_
    refine zO_iald dX4_kingsWith_5 (gk_63 hG) (gl_in (gl_63 hG) h1) ?_
    refine zO_iconst dX4_kingsWith_6 (by decide) ?_
    refine zO_icmp_ne (tgt := 14) dX4_kingsWith_7 rfl (fun c7 => ?_) (fun c7 => ?_)
    · refine zO_iload_n dX4_kingsWith_10 rfl ?_
      refine zO_goto (tgt := 24) dX4_kingsWith_11 rfl ?_
      exact zO_ret (rv := some (zI v2)) dX4_kingsWith_24 rfl rfl rfl
    · refine zO_iload_n dX4_kingsWith_14 rfl ?_
      refine zO_iconst dX4_kingsWith_15 (by decide) ?_
      refine zO_aload_n dX4_kingsWith_16 rfl (zR_P _) ?_
      refine gt4 (k := 8) dX4_kingsWith_17 wF_X4_25 (by decide) (gk_60 hG) (zgv (c := 4) (k := 8) rfl (Or.inl ⟨_, rfl⟩) (gf_60_8 hG)) ?_
      refine zO_iload_n dX4_kingsWith_20 rfl ?_
      refine zO_iald dX4_kingsWith_21 (gk_63 hG) (gl_in (gl_63 hG) h1) ?_
      refine zO_ishl dX4_kingsWith_22 ?_
      refine zO_ior dX4_kingsWith_23 ?_
      exact zO_ret (rv := some (zI (zor v2 (zshl 1 (D 63 v1.toNat))))) dX4_kingsWith_24 rfl rfl rfl
  exact hz r hr
theorem dX4_priceAt_0 : decode cX4_priceAt 0 = .ok (.iload_n 0, 1) := by decide +kernel
theorem dX4_priceAt_1 : decode cX4_priceAt 1 = .ok (.iconst 2, 1) := by decide +kernel
theorem dX4_priceAt_2 : decode cX4_priceAt 2 = .ok (.imul, 1) := by decide +kernel
theorem dX4_priceAt_3 : decode cX4_priceAt 3 = .ok (.iload_n 1, 1) := by decide +kernel
theorem dX4_priceAt_4 : decode cX4_priceAt 4 = .ok (.iadd, 1) := by decide +kernel
theorem dX4_priceAt_5 : decode cX4_priceAt 5 = .ok (.iconst 3, 1) := by decide +kernel
theorem dX4_priceAt_6 : decode cX4_priceAt 6 = .ok (.imul, 1) := by decide +kernel
theorem dX4_priceAt_7 : decode cX4_priceAt 7 = .ok (.iload_n 2, 1) := by decide +kernel
theorem dX4_priceAt_8 : decode cX4_priceAt 8 = .ok (.iadd, 1) := by decide +kernel
theorem dX4_priceAt_9 : decode cX4_priceAt 9 = .ok (.ireturn, 1) := by decide +kernel
abbrev YX4_priceAt : zY := (yX4_priceAt, cX4_priceAt, 3, (Option.some Jvm.ClassFile.FieldType.int), [])
def fX4_priceAt (F : zFs) (v0 : Int) (v1 : Int) (v2 : Int) (D : zDa) : Option (Int × zDa) :=
  if (-2147483648 ≤ v0 * 2 ∧ v0 * 2 ≤ 2147483647) ∧ (-2147483648 ≤ (v0 * 2) + v1 ∧ (v0 * 2) + v1 ≤ 2147483647) ∧ (-2147483648 ≤ ((v0 * 2) + v1) * 3 ∧ ((v0 * 2) + v1) * 3 ≤ 2147483647) ∧ (-2147483648 ≤ (((v0 * 2) + v1) * 3) + v2 ∧ (((v0 * 2) + v1) * 3) + v2 ≤ 2147483647) then
    some (((((v0 * 2) + v1) * 3) + v2), D)
  else none
set_option maxHeartbeats 20000000 in
theorem mX4_priceAt {l : Launch} {E : zE} {d : Nat} {F : zFs} {n sl : Nat} (hG : zG F) (v0 : Int) (v1 : Int) (v2 : Int) {D : zDa} : ∀ r, fX4_priceAt F  v0 v1 v2 D = some r → zMet l E (d + 0) YX4_priceAt [zI v0, zI v1, zI v2] (F, D, n, sl) (zcI F n sl r) := by
  intro r hr
  refine zMet_of (plainFor_of_name (by decide)) (fun _ h => (nomatch h)) (Nat.le_of_ble_eq_true rfl) ?_
  have hz : zO l E (d + 0) YX4_priceAt 0 [(0, zI v0), (1, zI v1), (2, zI v2)] [] (F, D, n, sl) (zcI F n sl) (fX4_priceAt F  v0 v1 v2 D) := by
    unfold fX4_priceAt
    refine zO_chk (fun h1 => ?_)
    refine zO_iload_n dX4_priceAt_0 rfl ?_
    refine zO_iconst dX4_priceAt_1 (by decide) ?_
    refine zO_imul dX4_priceAt_2 h1.1 ?_
    refine zO_iload_n dX4_priceAt_3 rfl ?_
    refine zO_iadd dX4_priceAt_4 h1.2.1 ?_
    refine zO_iconst dX4_priceAt_5 (by decide) ?_
    refine zO_imul dX4_priceAt_6 h1.2.2.1 ?_
    refine zO_iload_n dX4_priceAt_7 rfl ?_
    refine zO_iadd dX4_priceAt_8 h1.2.2.2 ?_
    exact zO_ret (rv := some (zI ((((v0 * 2) + v1) * 3) + v2))) dX4_priceAt_9 rfl rfl rfl
  exact hz r hr
theorem dX4_findFirst_0 : decode cX4_findFirst 0 = .ok (.aload_n 0, 1) := by decide +kernel
theorem dX4_findFirst_1 : decode cX4_findFirst 1 = .ok (.getfield 44, 3) := by decide +kernel
theorem dX4_findFirst_4 : decode cX4_findFirst 4 = .ok (.iload_n 1, 1) := by decide +kernel
theorem dX4_findFirst_5 : decode cX4_findFirst 5 = .ok (.if_icmp .ne 4, 3) := by decide +kernel
theorem dX4_findFirst_8 : decode cX4_findFirst 8 = .ok (.return_, 1) := by decide +kernel
theorem dX4_findFirst_9 : decode cX4_findFirst 9 = .ok (.aload_n 0, 1) := by decide +kernel
theorem dX4_findFirst_10 : decode cX4_findFirst 10 = .ok (.iload_n 1, 1) := by decide +kernel
theorem dX4_findFirst_11 : decode cX4_findFirst 11 = .ok (.putfield 44, 3) := by decide +kernel
theorem dX4_findFirst_14 : decode cX4_findFirst 14 = .ok (.aload_n 0, 1) := by decide +kernel
theorem dX4_findFirst_15 : decode cX4_findFirst 15 = .ok (.iload_n 1, 1) := by decide +kernel
theorem dX4_findFirst_16 : decode cX4_findFirst 16 = .ok (.invokevirtual 179, 3) := by decide +kernel
theorem dX4_findFirst_19 : decode cX4_findFirst 19 = .ok (.aload_n 0, 1) := by decide +kernel
theorem dX4_findFirst_20 : decode cX4_findFirst 20 = .ok (.getfield 47, 3) := by decide +kernel
theorem dX4_findFirst_23 : decode cX4_findFirst 23 = .ok (.iconst (-1), 1) := by decide +kernel
theorem dX4_findFirst_24 : decode cX4_findFirst 24 = .ok (.invokestatic 182, 3) := by decide +kernel
theorem dX4_findFirst_27 : decode cX4_findFirst 27 = .ok (.aload_n 0, 1) := by decide +kernel
theorem dX4_findFirst_28 : decode cX4_findFirst 28 = .ok (.getfield 50, 3) := by decide +kernel
theorem dX4_findFirst_31 : decode cX4_findFirst 31 = .ok (.iconst 0, 1) := by decide +kernel
theorem dX4_findFirst_32 : decode cX4_findFirst 32 = .ok (.invokestatic 182, 3) := by decide +kernel
theorem dX4_findFirst_35 : decode cX4_findFirst 35 = .ok (.iconst 0, 1) := by decide +kernel
theorem dX4_findFirst_36 : decode cX4_findFirst 36 = .ok (.istore_n 2, 1) := by decide +kernel
theorem dX4_findFirst_37 : decode cX4_findFirst 37 = .ok (.iconst 0, 1) := by decide +kernel
theorem dX4_findFirst_38 : decode cX4_findFirst 38 = .ok (.istore_n 3, 1) := by decide +kernel
theorem dX4_findFirst_39 : decode cX4_findFirst 39 = .ok (.iconst 0, 1) := by decide +kernel
theorem dX4_findFirst_40 : decode cX4_findFirst 40 = .ok (.istore 4, 2) := by decide +kernel
theorem dX4_findFirst_42 : decode cX4_findFirst 42 = .ok (.iconst 0, 1) := by decide +kernel
theorem dX4_findFirst_43 : decode cX4_findFirst 43 = .ok (.istore 5, 2) := by decide +kernel
theorem dX4_findFirst_45 : decode cX4_findFirst 45 = .ok (.iconst 0, 1) := by decide +kernel
theorem dX4_findFirst_46 : decode cX4_findFirst 46 = .ok (.istore 6, 2) := by decide +kernel
theorem dX4_findFirst_48 : decode cX4_findFirst 48 = .ok (.iload 6, 2) := by decide +kernel
theorem dX4_findFirst_50 : decode cX4_findFirst 50 = .ok (.aload_n 0, 1) := by decide +kernel
theorem dX4_findFirst_51 : decode cX4_findFirst 51 = .ok (.getfield 83, 3) := by decide +kernel
theorem dX4_findFirst_54 : decode cX4_findFirst 54 = .ok (.if_icmp .ge 147, 3) := by decide +kernel
theorem dX4_findFirst_57 : decode cX4_findFirst 57 = .ok (.aload_n 0, 1) := by decide +kernel
theorem dX4_findFirst_58 : decode cX4_findFirst 58 = .ok (.iload 6, 2) := by decide +kernel
theorem dX4_findFirst_60 : decode cX4_findFirst 60 = .ok (.iload 4, 2) := by decide +kernel
theorem dX4_findFirst_62 : decode cX4_findFirst 62 = .ok (.invokevirtual 133, 3) := by decide +kernel
theorem dX4_findFirst_65 : decode cX4_findFirst 65 = .ok (.istore 7, 2) := by decide +kernel
theorem dX4_findFirst_67 : decode cX4_findFirst 67 = .ok (.iconst 0, 1) := by decide +kernel
theorem dX4_findFirst_68 : decode cX4_findFirst 68 = .ok (.istore 8, 2) := by decide +kernel
theorem dX4_findFirst_70 : decode cX4_findFirst 70 = .ok (.aload_n 0, 1) := by decide +kernel
theorem dX4_findFirst_71 : decode cX4_findFirst 71 = .ok (.iload 6, 2) := by decide +kernel
theorem dX4_findFirst_73 : decode cX4_findFirst 73 = .ok (.iload 4, 2) := by decide +kernel
theorem dX4_findFirst_75 : decode cX4_findFirst 75 = .ok (.iload_n 2, 1) := by decide +kernel
theorem dX4_findFirst_76 : decode cX4_findFirst 76 = .ok (.iload_n 3, 1) := by decide +kernel
theorem dX4_findFirst_77 : decode cX4_findFirst 77 = .ok (.iload 5, 2) := by decide +kernel
theorem dX4_findFirst_79 : decode cX4_findFirst 79 = .ok (.invokevirtual 188, 3) := by decide +kernel
theorem dX4_findFirst_82 : decode cX4_findFirst 82 = .ok (.ifCond .ne 57, 3) := by decide +kernel
theorem dX4_findFirst_85 : decode cX4_findFirst 85 = .ok (.aload_n 0, 1) := by decide +kernel
theorem dX4_findFirst_86 : decode cX4_findFirst 86 = .ok (.iload 6, 2) := by decide +kernel
theorem dX4_findFirst_88 : decode cX4_findFirst 88 = .ok (.iload 4, 2) := by decide +kernel
theorem dX4_findFirst_90 : decode cX4_findFirst 90 = .ok (.invokevirtual 136, 3) := by decide +kernel
theorem dX4_findFirst_93 : decode cX4_findFirst 93 = .ok (.istore 4, 2) := by decide +kernel
theorem dX4_findFirst_95 : decode cX4_findFirst 95 = .ok (.iconst 1, 1) := by decide +kernel
theorem dX4_findFirst_96 : decode cX4_findFirst 96 = .ok (.istore 8, 2) := by decide +kernel
theorem dX4_findFirst_98 : decode cX4_findFirst 98 = .ok (.iinc 2 1, 3) := by decide +kernel
theorem dX4_findFirst_101 : decode cX4_findFirst 101 = .ok (.aload_n 0, 1) := by decide +kernel
theorem dX4_findFirst_102 : decode cX4_findFirst 102 = .ok (.iload 6, 2) := by decide +kernel
theorem dX4_findFirst_104 : decode cX4_findFirst 104 = .ok (.iload 4, 2) := by decide +kernel
theorem dX4_findFirst_106 : decode cX4_findFirst 106 = .ok (.iload_n 2, 1) := by decide +kernel
theorem dX4_findFirst_107 : decode cX4_findFirst 107 = .ok (.iload_n 3, 1) := by decide +kernel
theorem dX4_findFirst_108 : decode cX4_findFirst 108 = .ok (.iload 5, 2) := by decide +kernel
theorem dX4_findFirst_110 : decode cX4_findFirst 110 = .ok (.aload_n 0, 1) := by decide +kernel
theorem dX4_findFirst_111 : decode cX4_findFirst 111 = .ok (.getfield 22, 3) := by decide +kernel
theorem dX4_findFirst_114 : decode cX4_findFirst 114 = .ok (.iload 6, 2) := by decide +kernel
theorem dX4_findFirst_116 : decode cX4_findFirst 116 = .ok (.iload 7, 2) := by decide +kernel
theorem dX4_findFirst_118 : decode cX4_findFirst 118 = .ok (.iconst 1, 1) := by decide +kernel
theorem dX4_findFirst_119 : decode cX4_findFirst 119 = .ok (.invokestatic 119, 3) := by decide +kernel
theorem dX4_findFirst_122 : decode cX4_findFirst 122 = .ok (.iaload, 1) := by decide +kernel
theorem dX4_findFirst_123 : decode cX4_findFirst 123 = .ok (.iadd, 1) := by decide +kernel
theorem dX4_findFirst_124 : decode cX4_findFirst 124 = .ok (.invokevirtual 188, 3) := by decide +kernel
theorem dX4_findFirst_127 : decode cX4_findFirst 127 = .ok (.ifCond .ne 12, 3) := by decide +kernel
theorem dX4_findFirst_130 : decode cX4_findFirst 130 = .ok (.iconst 2, 1) := by decide +kernel
theorem dX4_findFirst_131 : decode cX4_findFirst 131 = .ok (.istore 8, 2) := by decide +kernel
theorem dX4_findFirst_133 : decode cX4_findFirst 133 = .ok (.iinc 2 (-1), 3) := by decide +kernel
theorem dX4_findFirst_136 : decode cX4_findFirst 136 = .ok (.iinc 3 1, 3) := by decide +kernel
theorem dX4_findFirst_139 : decode cX4_findFirst 139 = .ok (.iload 5, 2) := by decide +kernel
theorem dX4_findFirst_141 : decode cX4_findFirst 141 = .ok (.iload 8, 2) := by decide +kernel
theorem dX4_findFirst_143 : decode cX4_findFirst 143 = .ok (.ifCond .ne 7, 3) := by decide +kernel
theorem dX4_findFirst_146 : decode cX4_findFirst 146 = .ok (.iconst 0, 1) := by decide +kernel
theorem dX4_findFirst_147 : decode cX4_findFirst 147 = .ok (.goto 17, 3) := by decide +kernel
theorem dX4_findFirst_150 : decode cX4_findFirst 150 = .ok (.aload_n 0, 1) := by decide +kernel
theorem dX4_findFirst_151 : decode cX4_findFirst 151 = .ok (.getfield 22, 3) := by decide +kernel
theorem dX4_findFirst_154 : decode cX4_findFirst 154 = .ok (.iload 6, 2) := by decide +kernel
theorem dX4_findFirst_156 : decode cX4_findFirst 156 = .ok (.iload 7, 2) := by decide +kernel
theorem dX4_findFirst_158 : decode cX4_findFirst 158 = .ok (.iload 8, 2) := by decide +kernel
theorem dX4_findFirst_160 : decode cX4_findFirst 160 = .ok (.invokestatic 119, 3) := by decide +kernel
theorem dX4_findFirst_163 : decode cX4_findFirst 163 = .ok (.iaload, 1) := by decide +kernel
theorem dX4_findFirst_164 : decode cX4_findFirst 164 = .ok (.iadd, 1) := by decide +kernel
theorem dX4_findFirst_165 : decode cX4_findFirst 165 = .ok (.istore 5, 2) := by decide +kernel
theorem dX4_findFirst_167 : decode cX4_findFirst 167 = .ok (.aload_n 0, 1) := by decide +kernel
theorem dX4_findFirst_168 : decode cX4_findFirst 168 = .ok (.getfield 47, 3) := by decide +kernel
theorem dX4_findFirst_171 : decode cX4_findFirst 171 = .ok (.aload_n 0, 1) := by decide +kernel
theorem dX4_findFirst_172 : decode cX4_findFirst 172 = .ok (.getfield 18, 3) := by decide +kernel
theorem dX4_findFirst_175 : decode cX4_findFirst 175 = .ok (.iload 6, 2) := by decide +kernel
theorem dX4_findFirst_177 : decode cX4_findFirst 177 = .ok (.iaload, 1) := by decide +kernel
theorem dX4_findFirst_178 : decode cX4_findFirst 178 = .ok (.iload 8, 2) := by decide +kernel
theorem dX4_findFirst_180 : decode cX4_findFirst 180 = .ok (.iastore, 1) := by decide +kernel
theorem dX4_findFirst_181 : decode cX4_findFirst 181 = .ok (.aload_n 0, 1) := by decide +kernel
theorem dX4_findFirst_182 : decode cX4_findFirst 182 = .ok (.getfield 50, 3) := by decide +kernel
theorem dX4_findFirst_185 : decode cX4_findFirst 185 = .ok (.aload_n 0, 1) := by decide +kernel
theorem dX4_findFirst_186 : decode cX4_findFirst 186 = .ok (.getfield 18, 3) := by decide +kernel
theorem dX4_findFirst_189 : decode cX4_findFirst 189 = .ok (.iload 6, 2) := by decide +kernel
theorem dX4_findFirst_191 : decode cX4_findFirst 191 = .ok (.iaload, 1) := by decide +kernel
theorem dX4_findFirst_192 : decode cX4_findFirst 192 = .ok (.iload 7, 2) := by decide +kernel
theorem dX4_findFirst_194 : decode cX4_findFirst 194 = .ok (.iastore, 1) := by decide +kernel
theorem dX4_findFirst_195 : decode cX4_findFirst 195 = .ok (.iinc 6 1, 3) := by decide +kernel
theorem dX4_findFirst_198 : decode cX4_findFirst 198 = .ok (.goto (-150), 3) := by decide +kernel
theorem dX4_findFirst_201 : decode cX4_findFirst 201 = .ok (.return_, 1) := by decide +kernel
abbrev YX4_findFirst : zY := (yX4_findFirst, cX4_findFirst, 9, none, [])
def fX4_findFirst_164 (F : zFs) (k_48 : Int → Int → Int → Int → Int → zDa → Option zDa) (v2 : Int) (v3 : Int) (v4 : Int) (v6 : Int) (v7 : Int) (v8 : Int) (s0 : Int) (s1 : Int) (D : zDa) : Option zDa :=
  if (-2147483648 ≤ s1 + s0 ∧ s1 + s0 ≤ 2147483647) then
    zlet ((s1 + s0)) (fun x5_18 =>
      if (0 ≤ v6 ∧ v6 < 20) ∧ (0 ≤ (D 61 v6.toNat) ∧ (D 61 v6.toNat) < 20) then
        zlet (zwr D 69 (D 61 v6.toNat).toNat v8) (fun D_19 =>
          if (0 ≤ (D_19 61 v6.toNat) ∧ (D_19 61 v6.toNat) < 20) then
            zlet (zwr D_19 70 (D_19 61 v6.toNat).toNat v7) (fun D_20 =>
              if (-2147483648 ≤ v6 + 1 ∧ v6 + 1 ≤ 2147483647) then
                k_48 v2 v3 v4 x5_18 (v6 + 1) D_20
              else none)
          else none)
      else none)
  else none
def fX4_findFirst_139 (F : zFs) (k_48 : Int → Int → Int → Int → Int → zDa → Option zDa) (v2 : Int) (v3 : Int) (v4 : Int) (v5 : Int) (v6 : Int) (v7 : Int) (v8 : Int) (D : zDa) : Option zDa :=
  if v8 = 0 then
    fX4_findFirst_164 F k_48 v2 v3 v4 v6 v7 v8 0 v5 D
  else
    (fX4_priceAt F v6 v7 v8 D).bind (fun (r_21, D_22) =>
      if (0 ≤ r_21 ∧ r_21 < 120) then
        fX4_findFirst_164 F k_48 v2 v3 v4 v6 v7 v8 (D_22 62 r_21.toNat) v5 D_22
      else none)
def fX4_findFirst_48 (F : zFs)   (k_48 : Int → Int → Int → Int → Int → zDa → Option zDa) (v2 : Int) (v3 : Int) (v4 : Int) (v5 : Int) (v6 : Int) (D : zDa) : Option zDa :=
  if v6 < (D 60 5) then
    (fX4_helpedBy F v6 v4 D).bind (fun (r_8, D_9) =>
      (fX4_canStillBe F v6 v4 v2 v3 v5 D_9).bind (fun (r_10, D_11) =>
        if r_10 = 0 then
          (fX4_kingsWith F v6 v4 D_11).bind (fun (r_12, D_13) =>
            if (-2147483648 ≤ v2 + 1 ∧ v2 + 1 ≤ 2147483647) then
              (fX4_priceAt F v6 r_8 1 D_13).bind (fun (r_14, D_15) =>
                if (0 ≤ r_14 ∧ r_14 < 120) ∧ (-2147483648 ≤ v5 + (D_15 62 r_14.toNat) ∧ v5 + (D_15 62 r_14.toNat) ≤ 2147483647) then
                  (fX4_canStillBe F v6 r_12 (v2 + 1) v3 (v5 + (D_15 62 r_14.toNat)) D_15).bind (fun (r_16, D_17) =>
                    if r_16 = 0 then
                      if (-2147483648 ≤ (v2 + 1) + (-1) ∧ (v2 + 1) + (-1) ≤ 2147483647) ∧ (-2147483648 ≤ v3 + 1 ∧ v3 + 1 ≤ 2147483647) then
                        fX4_findFirst_139 F k_48 ((v2 + 1) + (-1)) (v3 + 1) r_12 v5 v6 r_8 2 D_17
                      else none
                    else
                      fX4_findFirst_139 F k_48 (v2 + 1) v3 r_12 v5 v6 r_8 1 D_17)
                else none)
            else none)
        else
          fX4_findFirst_139 F k_48 v2 v3 v4 v5 v6 r_8 0 D_11))
  else
    some D
def fX4_findFirst (F : zFs) (v1 : Int) (D : zDa) : Option zDa :=
  if (D 60 14) = v1 then
    some D
  else
    zlet (zwr D 60 14 v1) (fun D_1 =>
      (fX4_choose F v1 D_1).bind (fun D_3 =>
        (fJ7_fill_53178 F 69 (-1) D_3).bind (fun D_5 =>
          (fJ7_fill_53178 F 70 0 D_5).bind (fun D_7 =>
            zfix (fun _ _ _ _ _ _ => none) (fX4_findFirst_48 F) zfu 0 0 0 0 0 D_7))))
set_option maxHeartbeats 20000000 in
theorem sX4_findFirst_164 {l : Launch} {E : zE} {d : Nat} {F : zFs} {n sl : Nat} (hG : zG F)  (v2 : Int) (v3 : Int) (v4 : Int) (v6 : Int) (v7 : Int) (v8 : Int) (s0 : Int) (s1 : Int) (k_48 : Int → Int → Int → Int → Int → zDa → Option zDa) (hk_48 : ∀ (u2 : Int) (u3 : Int) (u4 : Int) (u5 : Int) (u6 : Int) (D : zDa), zO l E (d + 3) YX4_findFirst 48 [(0, zR 60), (2, zI u2), (3, zI u3), (4, zI u4), (5, zI u5), (6, zI u6)] [] (F, D, n, sl) (zcV F n sl) (k_48 u2 u3 u4 u5 u6 D)) (D : zDa) : zO l E (d + 3) YX4_findFirst 164 [(0, zR 60), (2, zI v2), (3, zI v3), (4, zI v4), (6, zI v6), (7, zI v7), (8, zI v8)] [zI s0, zI s1] (F, D, n, sl) (zcV F n sl) (fX4_findFirst_164 F k_48 v2 v3 v4 v6 v7 v8 s0 s1 D) := by
  unfold fX4_findFirst_164
  refine zO_chk (fun h4 => ?_)
  refine zO_iadd dX4_findFirst_164 h4 ?_
  refine zO_letI (fun x5_18 ex5_18 => ?_)
  refine zO_istore dX4_findFirst_165 (by decide) ?_
  refine zO_ls (ls' := [(0, zR 60), (2, zI v2), (3, zI v3), (4, zI v4), (5, zI x5_18), (6, zI v6), (7, zI v7), (8, zI v8)]) rfl ?_
  refine zO_chk (fun h5 => ?_)
  refine zO_aload_n dX4_findFirst_167 rfl (zR_P _) ?_
  refine gt4 (k := 15) dX4_findFirst_168 wF_X4_47 (by decide) (gk_60 hG) (zgv (c := 4) (k := 15) rfl (Or.inl ⟨_, rfl⟩) (gf_60_15 hG)) ?_
  refine zO_aload_n dX4_findFirst_171 rfl (zR_P _) ?_
  refine gt4 (k := 6) dX4_findFirst_172 wF_X4_18 (by decide) (gk_60 hG) (zgv (c := 4) (k := 6) rfl (Or.inl ⟨_, rfl⟩) (gf_60_6 hG)) ?_
  refine zO_iload dX4_findFirst_175 rfl ?_
  refine zO_iald dX4_findFirst_177 (gk_61 hG) (gl_in (gl_61 hG) h5.1) ?_
  refine zO_iload dX4_findFirst_178 rfl ?_
  refine zO_iast dX4_findFirst_180 (gk_69 hG) (gl_in (gl_69 hG) h5.2) ?_
  refine zO_letD (fun D_19 eD_19 => ?_)
  refine zO_chk (fun h6 => ?_)
  refine zO_aload_n dX4_findFirst_181 rfl (zR_P _) ?_
  refine gt4 (k := 16) dX4_findFirst_182 wF_X4_50 (by decide) (gk_60 hG) (zgv (c := 4) (k := 16) rfl (Or.inl ⟨_, rfl⟩) (gf_60_16 hG)) ?_
  refine zO_aload_n dX4_findFirst_185 rfl (zR_P _) ?_
  refine gt4 (k := 6) dX4_findFirst_186 wF_X4_18 (by decide) (gk_60 hG) (zgv (c := 4) (k := 6) rfl (Or.inl ⟨_, rfl⟩) (gf_60_6 hG)) ?_
  refine zO_iload dX4_findFirst_189 rfl ?_
  refine zO_iald dX4_findFirst_191 (gk_61 hG) (gl_in (gl_61 hG) h5.1) ?_
  refine zO_iload dX4_findFirst_192 rfl ?_
  refine zO_iast dX4_findFirst_194 (gk_70 hG) (gl_in (gl_70 hG) h6) ?_
  refine zO_letD (fun D_20 eD_20 => ?_)
  refine zO_chk (fun h7 => ?_)
  refine zO_iinc dX4_findFirst_195 rfl h7 (by decide) ?_
  refine zO_ls (ls' := [(0, zR 60), (2, zI v2), (3, zI v3), (4, zI v4), (5, zI x5_18), (6, zI (v6 + 1)), (7, zI v7), (8, zI v8)]) rfl ?_
  refine zO_goto (tgt := 48) dX4_findFirst_198 rfl ?_
  refine zO_live [0, 2, 3, 4, 5, 6] ?_
  exact hk_48 v2 v3 v4 x5_18 (v6 + 1) D_20
set_option maxHeartbeats 20000000 in
theorem sX4_findFirst_139 {l : Launch} {E : zE} {d : Nat} {F : zFs} {n sl : Nat} (hG : zG F)  (v2 : Int) (v3 : Int) (v4 : Int) (v5 : Int) (v6 : Int) (v7 : Int) (v8 : Int) (k_48 : Int → Int → Int → Int → Int → zDa → Option zDa) (hk_48 : ∀ (u2 : Int) (u3 : Int) (u4 : Int) (u5 : Int) (u6 : Int) (D : zDa), zO l E (d + 3) YX4_findFirst 48 [(0, zR 60), (2, zI u2), (3, zI u3), (4, zI u4), (5, zI u5), (6, zI u6)] [] (F, D, n, sl) (zcV F n sl) (k_48 u2 u3 u4 u5 u6 D)) (D : zDa) : zO l E (d + 3) YX4_findFirst 139 [(0, zR 60), (2, zI v2), (3, zI v3), (4, zI v4), (5, zI v5), (6, zI v6), (7, zI v7), (8, zI v8)] [] (F, D, n, sl) (zcV F n sl) (fX4_findFirst_139 F k_48 v2 v3 v4 v5 v6 v7 v8 D) := by
  unfold fX4_findFirst_139
  refine zO_iload dX4_findFirst_139 rfl ?_
  refine zO_iload dX4_findFirst_141 rfl ?_
  refine zO_if_ne (tgt := 150) dX4_findFirst_143 rfl (fun c143 => ?_) (fun c143 => ?_)
  · refine zO_iconst dX4_findFirst_146 (by decide) ?_
    refine zO_goto (tgt := 164) dX4_findFirst_147 rfl ?_
    refine zO_live [0, 2, 3, 4, 6, 7, 8] ?_
    exact sX4_findFirst_164 hG v2 v3 v4 v6 v7 v8 0 v5 _ hk_48 D
  · refine zO_aload_n dX4_findFirst_150 rfl (zR_P _) ?_
    refine gt4 (k := 7) dX4_findFirst_151 wF_X4_22 (by decide) (gk_60 hG) (zgv (c := 4) (k := 7) rfl (Or.inl ⟨_, rfl⟩) (gf_60_7 hG)) ?_
    refine zO_iload dX4_findFirst_154 rfl ?_
    refine zO_iload dX4_findFirst_156 rfl ?_
    refine zO_iload dX4_findFirst_158 rfl ?_
    refine zO_callS (Y' := YX4_priceAt) (cw := zcI F n sl) (as := [zI v6, zI v7, zI v8]) (rest := [zR 62, zI v5]) (na := 3) dX4_findFirst_160 wC_X4_priceAt wN_X4 wM_X4_119 wS_X4_priceAt (by decide) (by decide) rfl rfl (Nat.le_of_ble_eq_true rfl) (fun r hr => zMet_cast (Nat.add_assoc d 2 0) (mX4_priceAt (d := d + 2) hG v6 v7 v8 r hr)) ?_
    rintro ⟨r_21, D_22⟩ -
    show zO _ _ _ _ _ _ [zI r_21, zR 62, zI v5] (F, D_22, n, sl) _ _
    refine zO_chk (fun h8 => ?_)
    refine zO_iald dX4_findFirst_163 (gk_62 hG) (gl_in (gl_62 hG) h8) ?_
    refine zO_live [0, 2, 3, 4, 6, 7, 8] ?_
    exact sX4_findFirst_164 hG v2 v3 v4 v6 v7 v8 (D_22 62 r_21.toNat) v5 _ hk_48 D_22
set_option maxHeartbeats 20000000 in
theorem sX4_findFirst_48 {l : Launch} {E : zE} {d : Nat} {F : zFs} {n sl : Nat} (hG : zG F)     : ∀ (N : Nat) (v2 : Int) (v3 : Int) (v4 : Int) (v5 : Int) (v6 : Int) (D : zDa), zO l E (d + 3) YX4_findFirst 48 [(0, zR 60), (2, zI v2), (3, zI v3), (4, zI v4), (5, zI v5), (6, zI v6)] [] (F, D, n, sl) (zcV F n sl) (zfix (fun _ _ _ _ _ _ => none) (fX4_findFirst_48 F) N v2 v3 v4 v5 v6 D) := by
  intro N
  induction N with
  | zero => intro v2 v3 v4 v5 v6 D; exact zO_none
  | succ N hk_48 =>
    intro v2 v3 v4 v5 v6 D
    show zO _ _ _ _ _ _ _ _ _ ((fX4_findFirst_48 F) (zfix (fun _ _ _ _ _ _ => none) (fX4_findFirst_48 F) N) v2 v3 v4 v5 v6 D)
    unfold fX4_findFirst_48
    refine zO_iload dX4_findFirst_48 rfl ?_
    refine zO_aload_n dX4_findFirst_50 rfl (zR_P _) ?_
    refine gt4 (k := 5) (v := zI (D 60 5)) dX4_findFirst_51 wF_X4_83 (by decide) (gk_60 hG) rfl ?_
    refine zO_icmp_ge (tgt := 201) dX4_findFirst_54 rfl (fun c54 => ?_) (fun c54 => ?_)
    · refine zO_aload_n dX4_findFirst_57 rfl (zR_P _) ?_
      refine zO_iload dX4_findFirst_58 rfl ?_
      refine zO_iload dX4_findFirst_60 rfl ?_
      refine zO_callV (Y' := YX4_helpedBy) (cw := zcI F n sl) (as := [zI v6, zI v4]) (rest := []) (na := 2) (ci := 4) rfl dX4_findFirst_62 wC_X4_helpedBy wN_X4 wM_X4_133 wI_X4_helpedBy wV_X4_helpedBy (by decide) (by decide) rfl rfl (Nat.le_of_ble_eq_true rfl) rfl (by decide) (gk_60 hG) (fun r hr => zMet_cast (Nat.add_assoc d 2 0) (mX4_helpedBy (d := d + 2) hG v6 v4 r hr)) ?_
      rintro ⟨r_8, D_9⟩ -
      show zO _ _ _ _ _ _ [zI r_8] (F, D_9, n, sl) _ _
      refine zO_istore dX4_findFirst_65 (by decide) ?_
      refine zO_ls (ls' := [(0, zR 60), (2, zI v2), (3, zI v3), (4, zI v4), (5, zI v5), (6, zI v6), (7, zI r_8)]) rfl ?_
      refine zO_iconst dX4_findFirst_67 (by decide) ?_
      refine zO_istore dX4_findFirst_68 (by decide) ?_
      refine zO_ls (ls' := [(0, zR 60), (2, zI v2), (3, zI v3), (4, zI v4), (5, zI v5), (6, zI v6), (7, zI r_8), (8, zI 0)]) rfl ?_
      refine zO_aload_n dX4_findFirst_70 rfl (zR_P _) ?_
      refine zO_iload dX4_findFirst_71 rfl ?_
      refine zO_iload dX4_findFirst_73 rfl ?_
      refine zO_iload_n dX4_findFirst_75 rfl ?_
      refine zO_iload_n dX4_findFirst_76 rfl ?_
      refine zO_iload dX4_findFirst_77 rfl ?_
      refine zO_callV (Y' := YX4_canStillBe) (cw := zcI F n sl) (as := [zI v6, zI v4, zI v2, zI v3, zI v5]) (rest := []) (na := 5) (ci := 4) rfl dX4_findFirst_79 wC_X4_canStillBe wN_X4 wM_X4_188 wI_X4_canStillBe wV_X4_canStillBe (by decide) (by decide) rfl rfl (Nat.le_of_ble_eq_true rfl) rfl (by decide) (gk_60 hG) (fun r hr => zMet_cast (Nat.add_assoc d 0 2) (mX4_canStillBe (d := d + 0) hG v6 v4 v2 v3 v5 r hr)) ?_
      rintro ⟨r_10, D_11⟩ -
      show zO _ _ _ _ _ _ [zI r_10] (F, D_11, n, sl) _ _
      refine zO_if_ne (tgt := 139) dX4_findFirst_82 rfl (fun c82 => ?_) (fun c82 => ?_)
      · refine zO_aload_n dX4_findFirst_85 rfl (zR_P _) ?_
        refine zO_iload dX4_findFirst_86 rfl ?_
        refine zO_iload dX4_findFirst_88 rfl ?_
        refine zO_callV (Y' := YX4_kingsWith) (cw := zcI F n sl) (as := [zI v6, zI v4]) (rest := []) (na := 2) (ci := 4) rfl dX4_findFirst_90 wC_X4_kingsWith wN_X4 wM_X4_136 wI_X4_kingsWith wV_X4_kingsWith (by decide) (by decide) rfl rfl (Nat.le_of_ble_eq_true rfl) rfl (by decide) (gk_60 hG) (fun r hr => zMet_cast (Nat.add_assoc d 2 0) (mX4_kingsWith (d := d + 2) hG v6 v4 r hr)) ?_
        rintro ⟨r_12, D_13⟩ -
        show zO _ _ _ _ _ _ [zI r_12] (F, D_13, n, sl) _ _
        refine zO_chk (fun h1 => ?_)
        refine zO_istore dX4_findFirst_93 (by decide) ?_
        refine zO_ls (ls' := [(0, zR 60), (2, zI v2), (3, zI v3), (4, zI r_12), (5, zI v5), (6, zI v6), (7, zI r_8), (8, zI 0)]) rfl ?_
        refine zO_iconst dX4_findFirst_95 (by decide) ?_
        refine zO_istore dX4_findFirst_96 (by decide) ?_
        refine zO_ls (ls' := [(0, zR 60), (2, zI v2), (3, zI v3), (4, zI r_12), (5, zI v5), (6, zI v6), (7, zI r_8), (8, zI 1)]) rfl ?_
        refine zO_iinc dX4_findFirst_98 rfl h1 (by decide) ?_
        refine zO_ls (ls' := [(0, zR 60), (2, zI (v2 + 1)), (3, zI v3), (4, zI r_12), (5, zI v5), (6, zI v6), (7, zI r_8), (8, zI 1)]) rfl ?_
        refine zO_aload_n dX4_findFirst_101 rfl (zR_P _) ?_
        refine zO_iload dX4_findFirst_102 rfl ?_
        refine zO_iload dX4_findFirst_104 rfl ?_
        refine zO_iload_n dX4_findFirst_106 rfl ?_
        refine zO_iload_n dX4_findFirst_107 rfl ?_
        refine zO_iload dX4_findFirst_108 rfl ?_
        refine zO_aload_n dX4_findFirst_110 rfl (zR_P _) ?_
        refine gt4 (k := 7) dX4_findFirst_111 wF_X4_22 (by decide) (gk_60 hG) (zgv (c := 4) (k := 7) rfl (Or.inl ⟨_, rfl⟩) (gf_60_7 hG)) ?_
        refine zO_iload dX4_findFirst_114 rfl ?_
        refine zO_iload dX4_findFirst_116 rfl ?_
        refine zO_iconst dX4_findFirst_118 (by decide) ?_
        refine zO_callS (Y' := YX4_priceAt) (cw := zcI F n sl) (as := [zI v6, zI r_8, zI 1]) (rest := [zR 62, zI v5, zI v3, zI (v2 + 1), zI r_12, zI v6, zR 60]) (na := 3) dX4_findFirst_119 wC_X4_priceAt wN_X4 wM_X4_119 wS_X4_priceAt (by decide) (by decide) rfl rfl (Nat.le_of_ble_eq_true rfl) (fun r hr => zMet_cast (Nat.add_assoc d 2 0) (mX4_priceAt (d := d + 2) hG v6 r_8 1 r hr)) ?_
        rintro ⟨r_14, D_15⟩ -
        show zO _ _ _ _ _ _ [zI r_14, zR 62, zI v5, zI v3, zI (v2 + 1), zI r_12, zI v6, zR 60] (F, D_15, n, sl) _ _
        refine zO_chk (fun h2 => ?_)
        refine zO_iald dX4_findFirst_122 (gk_62 hG) (gl_in (gl_62 hG) h2.1) ?_
        refine zO_iadd dX4_findFirst_123 h2.2 ?_
        refine zO_callV (Y' := YX4_canStillBe) (cw := zcI F n sl) (as := [zI v6, zI r_12, zI (v2 + 1), zI v3, zI (v5 + (D_15 62 r_14.toNat))]) (rest := []) (na := 5) (ci := 4) rfl dX4_findFirst_124 wC_X4_canStillBe wN_X4 wM_X4_188 wI_X4_canStillBe wV_X4_canStillBe (by decide) (by decide) rfl rfl (Nat.le_of_ble_eq_true rfl) rfl (by decide) (gk_60 hG) (fun r hr => zMet_cast (Nat.add_assoc d 0 2) (mX4_canStillBe (d := d + 0) hG v6 r_12 (v2 + 1) v3 (v5 + (D_15 62 r_14.toNat)) r hr)) ?_
        rintro ⟨r_16, D_17⟩ -
        show zO _ _ _ _ _ _ [zI r_16] (F, D_17, n, sl) _ _
        refine zO_if_ne (tgt := 139) dX4_findFirst_127 rfl (fun c127 => ?_) (fun c127 => ?_)
        · refine zO_chk (fun h3 => ?_)
          refine zO_iconst dX4_findFirst_130 (by decide) ?_
          refine zO_istore dX4_findFirst_131 (by decide) ?_
          refine zO_ls (ls' := [(0, zR 60), (2, zI (v2 + 1)), (3, zI v3), (4, zI r_12), (5, zI v5), (6, zI v6), (7, zI r_8), (8, zI 2)]) rfl ?_
          refine zO_iinc dX4_findFirst_133 rfl h3.1 (by decide) ?_
          refine zO_ls (ls' := [(0, zR 60), (2, zI ((v2 + 1) + (-1))), (3, zI v3), (4, zI r_12), (5, zI v5), (6, zI v6), (7, zI r_8), (8, zI 2)]) rfl ?_
          refine zO_iinc dX4_findFirst_136 rfl h3.2 (by decide) ?_
          refine zO_ls (ls' := [(0, zR 60), (2, zI ((v2 + 1) + (-1))), (3, zI (v3 + 1)), (4, zI r_12), (5, zI v5), (6, zI v6), (7, zI r_8), (8, zI 2)]) rfl ?_
          refine zO_live [0, 2, 3, 4, 5, 6, 7, 8] ?_
          exact sX4_findFirst_139 hG ((v2 + 1) + (-1)) (v3 + 1) r_12 v5 v6 r_8 2 _ hk_48 D_17
        · refine zO_live [0, 2, 3, 4, 5, 6, 7, 8] ?_
          exact sX4_findFirst_139 hG (v2 + 1) v3 r_12 v5 v6 r_8 1 _ hk_48 D_17
      · refine zO_live [0, 2, 3, 4, 5, 6, 7, 8] ?_
        exact sX4_findFirst_139 hG v2 v3 v4 v5 v6 r_8 0 _ hk_48 D_11
    · exact zO_ret (rv := none) dX4_findFirst_201 rfl trivial rfl
set_option maxHeartbeats 20000000 in
theorem mX4_findFirst {l : Launch} {E : zE} {d : Nat} {F : zFs} {n sl : Nat} (hG : zG F) (v1 : Int) {D : zDa} : ∀ r, fX4_findFirst F  v1 D = some r → zMet l E (d + 3) YX4_findFirst [zR 60, zI v1] (F, D, n, sl) (zcV F n sl r) := by
  intro r hr
  refine zMet_of (plainFor_of_name (by decide)) (fun _ h => (nomatch h)) (Nat.le_of_ble_eq_true rfl) ?_
  have hz : zO l E (d + 3) YX4_findFirst 0 [(0, zR 60), (1, zI v1)] [] (F, D, n, sl) (zcV F n sl) (fX4_findFirst F  v1 D) := by
    unfold fX4_findFirst
    refine zO_aload_n dX4_findFirst_0 rfl (zR_P _) ?_
    refine gt4 (k := 14) (v := zI (D 60 14)) dX4_findFirst_1 wF_X4_44 (by decide) (gk_60 hG) rfl ?_
    refine zO_iload_n dX4_findFirst_4 rfl ?_
    refine zO_icmp_ne (tgt := 9) dX4_findFirst_5 rfl (fun c5 => ?_) (fun c5 => ?_)
    · exact zO_ret (rv := none) dX4_findFirst_8 rfl trivial rfl
    · refine zO_aload_n dX4_findFirst_9 rfl (zR_P _) ?_
      refine zO_iload_n dX4_findFirst_10 rfl ?_
      refine ptI4 (k := 14) (z := v1) dX4_findFirst_11 wF_X4_44 (by decide) rfl (gk_60 hG) rfl ?_
      refine zO_letD (fun D_1 eD_1 => ?_)
      refine zO_aload_n dX4_findFirst_14 rfl (zR_P _) ?_
      refine zO_iload_n dX4_findFirst_15 rfl ?_
      refine zO_callV (Y' := YX4_choose) (cw := zcV F n sl) (as := [zI v1]) (rest := []) (na := 1) (ci := 4) rfl dX4_findFirst_16 wC_X4_choose wN_X4 wM_X4_179 wI_X4_choose wV_X4_choose (by decide) (by decide) rfl rfl (Nat.le_of_ble_eq_true rfl) rfl (by decide) (gk_60 hG) (fun r hr => zMet_cast (Nat.add_assoc d 1 1) (mX4_choose (d := d + 1) hG v1 r hr)) ?_
      intro D_3 _
      show zO _ _ _ _ _ _ [] (F, D_3, n, sl) _ _
      refine zO_aload_n dX4_findFirst_19 rfl (zR_P _) ?_
      refine gt4 (k := 15) dX4_findFirst_20 wF_X4_47 (by decide) (gk_60 hG) (zgv (c := 4) (k := 15) rfl (Or.inl ⟨_, rfl⟩) (gf_60_15 hG)) ?_
      refine zO_iconst dX4_findFirst_23 (by decide) ?_
      refine zO_callS (Y' := YJ7_fill_53178) (cw := zcV F n sl) (as := [zR 69, zI (-1)]) (rest := []) (na := 2) dX4_findFirst_24 wC_J7_fill_53178 wN_J7 wM_X4_182 wS_J7_fill_53178 (by decide) (by decide) rfl rfl (Nat.le_of_ble_eq_true rfl) (fun r hr => zMet_cast (Nat.add_assoc d 2 0) (mJ7_fill_53178 (d := d + 2) hG 69 (-1) r hr)) ?_
      intro D_5 _
      show zO _ _ _ _ _ _ [] (F, D_5, n, sl) _ _
      refine zO_aload_n dX4_findFirst_27 rfl (zR_P _) ?_
      refine gt4 (k := 16) dX4_findFirst_28 wF_X4_50 (by decide) (gk_60 hG) (zgv (c := 4) (k := 16) rfl (Or.inl ⟨_, rfl⟩) (gf_60_16 hG)) ?_
      refine zO_iconst dX4_findFirst_31 (by decide) ?_
      refine zO_callS (Y' := YJ7_fill_53178) (cw := zcV F n sl) (as := [zR 70, zI 0]) (rest := []) (na := 2) dX4_findFirst_32 wC_J7_fill_53178 wN_J7 wM_X4_182 wS_J7_fill_53178 (by decide) (by decide) rfl rfl (Nat.le_of_ble_eq_true rfl) (fun r hr => zMet_cast (Nat.add_assoc d 2 0) (mJ7_fill_53178 (d := d + 2) hG 70 0 r hr)) ?_
      intro D_7 _
      show zO _ _ _ _ _ _ [] (F, D_7, n, sl) _ _
      refine zO_iconst dX4_findFirst_35 (by decide) ?_
      refine zO_istore_n dX4_findFirst_36 (by decide) ?_
      refine zO_ls (ls' := [(0, zR 60), (1, zI v1), (2, zI 0)]) rfl ?_
      refine zO_iconst dX4_findFirst_37 (by decide) ?_
      refine zO_istore_n dX4_findFirst_38 (by decide) ?_
      refine zO_ls (ls' := [(0, zR 60), (1, zI v1), (2, zI 0), (3, zI 0)]) rfl ?_
      refine zO_iconst dX4_findFirst_39 (by decide) ?_
      refine zO_istore dX4_findFirst_40 (by decide) ?_
      refine zO_ls (ls' := [(0, zR 60), (1, zI v1), (2, zI 0), (3, zI 0), (4, zI 0)]) rfl ?_
      refine zO_iconst dX4_findFirst_42 (by decide) ?_
      refine zO_istore dX4_findFirst_43 (by decide) ?_
      refine zO_ls (ls' := [(0, zR 60), (1, zI v1), (2, zI 0), (3, zI 0), (4, zI 0), (5, zI 0)]) rfl ?_
      refine zO_iconst dX4_findFirst_45 (by decide) ?_
      refine zO_istore dX4_findFirst_46 (by decide) ?_
      refine zO_ls (ls' := [(0, zR 60), (1, zI v1), (2, zI 0), (3, zI 0), (4, zI 0), (5, zI 0), (6, zI 0)]) rfl ?_
      refine zO_live [0, 2, 3, 4, 5, 6] ?_
      exact sX4_findFirst_48 hG zfu 0 0 0 0 0 D_7
  exact hz r hr
theorem dX9_has_0 : decode cX9_has 0 = .ok (.iload_n 1, 1) := by decide +kernel
theorem dX9_has_1 : decode cX9_has 1 = .ok (.ifCond .lt 15, 3) := by decide +kernel
theorem dX9_has_4 : decode cX9_has 4 = .ok (.iload_n 1, 1) := by decide +kernel
theorem dX9_has_5 : decode cX9_has 5 = .ok (.aload_n 0, 1) := by decide +kernel
theorem dX9_has_6 : decode cX9_has 6 = .ok (.getfield 66, 3) := by decide +kernel
theorem dX9_has_9 : decode cX9_has 9 = .ok (.if_icmp .ge 7, 3) := by decide +kernel
theorem dX9_has_12 : decode cX9_has 12 = .ok (.iconst 1, 1) := by decide +kernel
theorem dX9_has_13 : decode cX9_has 13 = .ok (.goto 4, 3) := by decide +kernel
theorem dX9_has_16 : decode cX9_has 16 = .ok (.iconst 0, 1) := by decide +kernel
theorem dX9_has_17 : decode cX9_has 17 = .ok (.ireturn, 1) := by decide +kernel
abbrev YX9_has : zY := (yX9_has, cX9_has, 2, (Option.some Jvm.ClassFile.FieldType.boolean), [])
def fX9_has (F : zFs) (v1 : Int) (D : zDa) : Option (Int × zDa) :=
  if v1 < 0 then
    some (0, D)
  else
    if v1 < (D 1 5) then
      some (1, D)
    else
      some (0, D)
set_option maxHeartbeats 20000000 in
theorem mX9_has {l : Launch} {E : zE} {d : Nat} {F : zFs} {n sl : Nat} (hG : zG F) (v1 : Int) {D : zDa} : ∀ r, fX9_has F  v1 D = some r → zMet l E (d + 0) YX9_has [zR 1, zI v1] (F, D, n, sl) (zcI F n sl r) := by
  intro r hr
  refine zMet_of (plainFor_of_name (by decide)) (fun _ h => (nomatch h)) (Nat.le_of_ble_eq_true rfl) ?_
  have hz : zO l E (d + 0) YX9_has 0 [(0, zR 1), (1, zI v1)] [] (F, D, n, sl) (zcI F n sl) (fX9_has F  v1 D) := by
    unfold fX9_has
    refine zO_iload_n dX9_has_0 rfl ?_
    refine zO_if_lt (tgt := 16) dX9_has_1 rfl (fun c1 => ?_) (fun c1 => ?_)
    · refine zO_iconst dX9_has_16 (by decide) ?_
      exact zO_ret (rv := some (zI 0)) dX9_has_17 rfl rfl rfl
    · refine zO_iload_n dX9_has_4 rfl ?_
      refine zO_aload_n dX9_has_5 rfl (zR_P _) ?_
      refine gt9 (k := 5) (v := zI (D 1 5)) dX9_has_6 wF_X9_66 (by decide) (gk_1 hG) rfl ?_
      refine zO_icmp_ge (tgt := 16) dX9_has_9 rfl (fun c9 => ?_) (fun c9 => ?_)
      · refine zO_iconst dX9_has_12 (by decide) ?_
        refine zO_goto (tgt := 17) dX9_has_13 rfl ?_
        exact zO_ret (rv := some (zI 1)) dX9_has_17 rfl rfl rfl
      · refine zO_iconst dX9_has_16 (by decide) ?_
        exact zO_ret (rv := some (zI 0)) dX9_has_17 rfl rfl rfl
  exact hz r hr
theorem dX10_ask_0 : decode cX10_ask 0 = .ok (.aload_n 0, 1) := by decide +kernel
theorem dX10_ask_1 : decode cX10_ask 1 = .ok (.getfield 11, 3) := by decide +kernel
theorem dX10_ask_4 : decode cX10_ask 4 = .ok (.iconst 0, 1) := by decide +kernel
theorem dX10_ask_5 : decode cX10_ask 5 = .ok (.invokestatic 33, 3) := by decide +kernel
theorem dX10_ask_8 : decode cX10_ask 8 = .ok (.aload_n 0, 1) := by decide +kernel
theorem dX10_ask_9 : decode cX10_ask 9 = .ok (.getfield 11, 3) := by decide +kernel
theorem dX10_ask_12 : decode cX10_ask 12 = .ok (.iconst 2, 1) := by decide +kernel
theorem dX10_ask_13 : decode cX10_ask 13 = .ok (.iload_n 2, 1) := by decide +kernel
theorem dX10_ask_14 : decode cX10_ask 14 = .ok (.iastore, 1) := by decide +kernel
theorem dX10_ask_15 : decode cX10_ask 15 = .ok (.aload_n 0, 1) := by decide +kernel
theorem dX10_ask_16 : decode cX10_ask 16 = .ok (.getfield 21, 3) := by decide +kernel
theorem dX10_ask_19 : decode cX10_ask 19 = .ok (.iload_n 1, 1) := by decide +kernel
theorem dX10_ask_20 : decode cX10_ask 20 = .ok (.invokevirtual 39, 3) := by decide +kernel
theorem dX10_ask_23 : decode cX10_ask 23 = .ok (.ifCond .eq 56, 3) := by decide +kernel
theorem dX10_ask_26 : decode cX10_ask 26 = .ok (.aload_n 0, 1) := by decide +kernel
theorem dX10_ask_27 : decode cX10_ask 27 = .ok (.getfield 11, 3) := by decide +kernel
theorem dX10_ask_30 : decode cX10_ask 30 = .ok (.iconst 0, 1) := by decide +kernel
theorem dX10_ask_31 : decode cX10_ask 31 = .ok (.aload_n 0, 1) := by decide +kernel
theorem dX10_ask_32 : decode cX10_ask 32 = .ok (.getfield 21, 3) := by decide +kernel
theorem dX10_ask_35 : decode cX10_ask 35 = .ok (.getfield 45, 3) := by decide +kernel
theorem dX10_ask_38 : decode cX10_ask 38 = .ok (.iload_n 1, 1) := by decide +kernel
theorem dX10_ask_39 : decode cX10_ask 39 = .ok (.iaload, 1) := by decide +kernel
theorem dX10_ask_40 : decode cX10_ask 40 = .ok (.iastore, 1) := by decide +kernel
theorem dX10_ask_41 : decode cX10_ask 41 = .ok (.aload_n 0, 1) := by decide +kernel
theorem dX10_ask_42 : decode cX10_ask 42 = .ok (.getfield 11, 3) := by decide +kernel
theorem dX10_ask_45 : decode cX10_ask 45 = .ok (.iconst 1, 1) := by decide +kernel
theorem dX10_ask_46 : decode cX10_ask 46 = .ok (.aload_n 0, 1) := by decide +kernel
theorem dX10_ask_47 : decode cX10_ask 47 = .ok (.getfield 21, 3) := by decide +kernel
theorem dX10_ask_50 : decode cX10_ask 50 = .ok (.getfield 48, 3) := by decide +kernel
theorem dX10_ask_53 : decode cX10_ask 53 = .ok (.iload_n 1, 1) := by decide +kernel
theorem dX10_ask_54 : decode cX10_ask 54 = .ok (.iaload, 1) := by decide +kernel
theorem dX10_ask_55 : decode cX10_ask 55 = .ok (.iastore, 1) := by decide +kernel
theorem dX10_ask_56 : decode cX10_ask 56 = .ok (.aload_n 0, 1) := by decide +kernel
theorem dX10_ask_57 : decode cX10_ask 57 = .ok (.getfield 11, 3) := by decide +kernel
theorem dX10_ask_60 : decode cX10_ask 60 = .ok (.iconst 4, 1) := by decide +kernel
theorem dX10_ask_61 : decode cX10_ask 61 = .ok (.aload_n 0, 1) := by decide +kernel
theorem dX10_ask_62 : decode cX10_ask 62 = .ok (.getfield 21, 3) := by decide +kernel
theorem dX10_ask_65 : decode cX10_ask 65 = .ok (.getfield 51, 3) := by decide +kernel
theorem dX10_ask_68 : decode cX10_ask 68 = .ok (.iload_n 1, 1) := by decide +kernel
theorem dX10_ask_69 : decode cX10_ask 69 = .ok (.iaload, 1) := by decide +kernel
theorem dX10_ask_70 : decode cX10_ask 70 = .ok (.iastore, 1) := by decide +kernel
theorem dX10_ask_71 : decode cX10_ask 71 = .ok (.aload_n 0, 1) := by decide +kernel
theorem dX10_ask_72 : decode cX10_ask 72 = .ok (.getfield 11, 3) := by decide +kernel
theorem dX10_ask_75 : decode cX10_ask 75 = .ok (.bipush 6, 2) := by decide +kernel
theorem dX10_ask_77 : decode cX10_ask 77 = .ok (.iload_n 1, 1) := by decide +kernel
theorem dX10_ask_78 : decode cX10_ask 78 = .ok (.iastore, 1) := by decide +kernel
theorem dX10_ask_79 : decode cX10_ask 79 = .ok (.return_, 1) := by decide +kernel
abbrev YX10_ask : zY := (yX10_ask, cX10_ask, 3, none, [])
def fX10_ask (F : zFs) (v1 : Int) (v2 : Int) (D : zDa) : Option zDa :=
  (fJ7_fill_53178 F 50 0 D).bind (fun D_2 =>
    zlet (zwr D_2 50 2 v2) (fun D_3 =>
      (fX9_has F v1 D_3).bind (fun (r_4, D_5) =>
        if r_4 = 0 then
          some D_5
        else
          if (0 ≤ v1 ∧ v1 < 20) then
            zlet (zwr D_5 50 0 (D_5 2 v1.toNat)) (fun D_6 =>
              zlet (zwr D_6 50 1 (D_6 3 v1.toNat)) (fun D_7 =>
                zlet (zwr D_7 50 4 (D_7 5 v1.toNat)) (fun D_8 =>
                  zlet (zwr D_8 50 6 v1) (fun D_9 =>
                    some D_9))))
          else none)))
set_option maxHeartbeats 20000000 in
theorem mX10_ask {l : Launch} {E : zE} {d : Nat} {F : zFs} {n sl : Nat} (hG : zG F) (v1 : Int) (v2 : Int) {D : zDa} : ∀ r, fX10_ask F  v1 v2 D = some r → zMet l E (d + 1) YX10_ask [zR 49, zI v1, zI v2] (F, D, n, sl) (zcV F n sl r) := by
  intro r hr
  refine zMet_of (plainFor_of_name (by decide)) (fun _ h => (nomatch h)) (Nat.le_of_ble_eq_true rfl) ?_
  have hz : zO l E (d + 1) YX10_ask 0 [(0, zR 49), (1, zI v1), (2, zI v2)] [] (F, D, n, sl) (zcV F n sl) (fX10_ask F  v1 v2 D) := by
    unfold fX10_ask
    refine zO_aload_n dX10_ask_0 rfl (zR_P _) ?_
    refine gt10 (k := 1) dX10_ask_1 wF_X10_11 (by decide) (gk_49 hG) (zgv (c := 10) (k := 1) rfl (Or.inl ⟨_, rfl⟩) (gf_49_1 hG)) ?_
    refine zO_iconst dX10_ask_4 (by decide) ?_
    refine zO_callS (Y' := YJ7_fill_53178) (cw := zcV F n sl) (as := [zR 50, zI 0]) (rest := []) (na := 2) dX10_ask_5 wC_J7_fill_53178 wN_J7 wM_X10_33 wS_J7_fill_53178 (by decide) (by decide) rfl rfl (Nat.le_of_ble_eq_true rfl) (fun r hr => zMet_cast (Nat.add_assoc d 0 0) (mJ7_fill_53178 (d := d + 0) hG 50 0 r hr)) ?_
    intro D_2 _
    show zO _ _ _ _ _ _ [] (F, D_2, n, sl) _ _
    refine zO_aload_n dX10_ask_8 rfl (zR_P _) ?_
    refine gt10 (k := 1) dX10_ask_9 wF_X10_11 (by decide) (gk_49 hG) (zgv (c := 10) (k := 1) rfl (Or.inl ⟨_, rfl⟩) (gf_49_1 hG)) ?_
    refine zO_iconst dX10_ask_12 (by decide) ?_
    refine zO_iload_n dX10_ask_13 rfl ?_
    refine zO_iast dX10_ask_14 (gk_50 hG) (gl_in (gl_50 hG) (by decide)) ?_
    refine zO_letD (fun D_3 eD_3 => ?_)
    refine zO_aload_n dX10_ask_15 rfl (zR_P _) ?_
    refine gt10 (k := 0) dX10_ask_16 wF_X10_21 (by decide) (gk_49 hG) (zgv (c := 10) (k := 0) rfl (Or.inr ⟨_, rfl⟩) (gf_49_0 hG)) ?_
    refine zO_iload_n dX10_ask_19 rfl ?_
    refine zO_callV (Y' := YX9_has) (cw := zcI F n sl) (as := [zI v1]) (rest := []) (na := 1) (ci := 9) rfl dX10_ask_20 wC_X9_has wN_X9 wM_X10_39 wI_X9_has wV_X9_has (by decide) (by decide) rfl rfl (Nat.le_of_ble_eq_true rfl) rfl (by decide) (gk_1 hG) (fun r hr => zMet_cast (Nat.add_assoc d 0 0) (mX9_has (d := d + 0) hG v1 r hr)) ?_
    rintro ⟨r_4, D_5⟩ -
    show zO _ _ _ _ _ _ [zI r_4] (F, D_5, n, sl) _ _
    refine zO_if_eq (tgt := 79) dX10_ask_23 rfl (fun c23 => ?_) (fun c23 => ?_)
    · exact zO_ret (rv := none) dX10_ask_79 rfl trivial rfl
    · refine zO_chk (fun h1 => ?_)
      refine zO_aload_n dX10_ask_26 rfl (zR_P _) ?_
      refine gt10 (k := 1) dX10_ask_27 wF_X10_11 (by decide) (gk_49 hG) (zgv (c := 10) (k := 1) rfl (Or.inl ⟨_, rfl⟩) (gf_49_1 hG)) ?_
      refine zO_iconst dX10_ask_30 (by decide) ?_
      refine zO_aload_n dX10_ask_31 rfl (zR_P _) ?_
      refine gt10 (k := 0) dX10_ask_32 wF_X10_21 (by decide) (gk_49 hG) (zgv (c := 10) (k := 0) rfl (Or.inr ⟨_, rfl⟩) (gf_49_0 hG)) ?_
      refine gt9 (k := 0) dX10_ask_35 wF_X10_45 (by decide) (gk_1 hG) (zgv (c := 9) (k := 0) rfl (Or.inl ⟨_, rfl⟩) (gf_1_0 hG)) ?_
      refine zO_iload_n dX10_ask_38 rfl ?_
      refine zO_iald dX10_ask_39 (gk_2 hG) (gl_in (gl_2 hG) h1) ?_
      refine zO_iast dX10_ask_40 (gk_50 hG) (gl_in (gl_50 hG) (by decide)) ?_
      refine zO_letD (fun D_6 eD_6 => ?_)
      refine zO_aload_n dX10_ask_41 rfl (zR_P _) ?_
      refine gt10 (k := 1) dX10_ask_42 wF_X10_11 (by decide) (gk_49 hG) (zgv (c := 10) (k := 1) rfl (Or.inl ⟨_, rfl⟩) (gf_49_1 hG)) ?_
      refine zO_iconst dX10_ask_45 (by decide) ?_
      refine zO_aload_n dX10_ask_46 rfl (zR_P _) ?_
      refine gt10 (k := 0) dX10_ask_47 wF_X10_21 (by decide) (gk_49 hG) (zgv (c := 10) (k := 0) rfl (Or.inr ⟨_, rfl⟩) (gf_49_0 hG)) ?_
      refine gt9 (k := 1) dX10_ask_50 wF_X10_48 (by decide) (gk_1 hG) (zgv (c := 9) (k := 1) rfl (Or.inl ⟨_, rfl⟩) (gf_1_1 hG)) ?_
      refine zO_iload_n dX10_ask_53 rfl ?_
      refine zO_iald dX10_ask_54 (gk_3 hG) (gl_in (gl_3 hG) h1) ?_
      refine zO_iast dX10_ask_55 (gk_50 hG) (gl_in (gl_50 hG) (by decide)) ?_
      refine zO_letD (fun D_7 eD_7 => ?_)
      refine zO_aload_n dX10_ask_56 rfl (zR_P _) ?_
      refine gt10 (k := 1) dX10_ask_57 wF_X10_11 (by decide) (gk_49 hG) (zgv (c := 10) (k := 1) rfl (Or.inl ⟨_, rfl⟩) (gf_49_1 hG)) ?_
      refine zO_iconst dX10_ask_60 (by decide) ?_
      refine zO_aload_n dX10_ask_61 rfl (zR_P _) ?_
      refine gt10 (k := 0) dX10_ask_62 wF_X10_21 (by decide) (gk_49 hG) (zgv (c := 10) (k := 0) rfl (Or.inr ⟨_, rfl⟩) (gf_49_0 hG)) ?_
      refine gt9 (k := 3) dX10_ask_65 wF_X10_51 (by decide) (gk_1 hG) (zgv (c := 9) (k := 3) rfl (Or.inl ⟨_, rfl⟩) (gf_1_3 hG)) ?_
      refine zO_iload_n dX10_ask_68 rfl ?_
      refine zO_iald dX10_ask_69 (gk_5 hG) (gl_in (gl_5 hG) h1) ?_
      refine zO_iast dX10_ask_70 (gk_50 hG) (gl_in (gl_50 hG) (by decide)) ?_
      refine zO_letD (fun D_8 eD_8 => ?_)
      refine zO_aload_n dX10_ask_71 rfl (zR_P _) ?_
      refine gt10 (k := 1) dX10_ask_72 wF_X10_11 (by decide) (gk_49 hG) (zgv (c := 10) (k := 1) rfl (Or.inl ⟨_, rfl⟩) (gf_49_1 hG)) ?_
      refine zO_bipush dX10_ask_75 (by decide) ?_
      refine zO_iload_n dX10_ask_77 rfl ?_
      refine zO_iast dX10_ask_78 (gk_50 hG) (gl_in (gl_50 hG) (by decide)) ?_
      refine zO_letD (fun D_9 eD_9 => ?_)
      exact zO_ret (rv := none) dX10_ask_79 rfl trivial rfl
  exact hz r hr
theorem dX9_paperInUse_0 : decode cX9_paperInUse 0 = .ok (.aload_n 0, 1) := by decide +kernel
theorem dX9_paperInUse_1 : decode cX9_paperInUse 1 = .ok (.getfield 44, 3) := by decide +kernel
theorem dX9_paperInUse_4 : decode cX9_paperInUse 4 = .ok (.ifCond .lt 14, 3) := by decide +kernel
theorem dX9_paperInUse_7 : decode cX9_paperInUse 7 = .ok (.aload_n 0, 1) := by decide +kernel
theorem dX9_paperInUse_8 : decode cX9_paperInUse 8 = .ok (.getfield 44, 3) := by decide +kernel
theorem dX9_paperInUse_11 : decode cX9_paperInUse 11 = .ok (.aload_n 0, 1) := by decide +kernel
theorem dX9_paperInUse_12 : decode cX9_paperInUse 12 = .ok (.getfield 69, 3) := by decide +kernel
theorem dX9_paperInUse_15 : decode cX9_paperInUse 15 = .ok (.if_icmp .lt 7, 3) := by decide +kernel
theorem dX9_paperInUse_18 : decode cX9_paperInUse 18 = .ok (.aconst_null, 1) := by decide +kernel
theorem dX9_paperInUse_19 : decode cX9_paperInUse 19 = .ok (.goto 12, 3) := by decide +kernel
theorem dX9_paperInUse_22 : decode cX9_paperInUse 22 = .ok (.aload_n 0, 1) := by decide +kernel
theorem dX9_paperInUse_23 : decode cX9_paperInUse 23 = .ok (.getfield 40, 3) := by decide +kernel
theorem dX9_paperInUse_26 : decode cX9_paperInUse 26 = .ok (.aload_n 0, 1) := by decide +kernel
theorem dX9_paperInUse_27 : decode cX9_paperInUse 27 = .ok (.getfield 44, 3) := by decide +kernel
theorem dX9_paperInUse_30 : decode cX9_paperInUse 30 = .ok (.aaload, 1) := by decide +kernel
theorem dX9_paperInUse_31 : decode cX9_paperInUse 31 = .ok (.areturn, 1) := by decide +kernel
abbrev YX9_paperInUse : zY := (yX9_paperInUse, cX9_paperInUse, 1, (Option.some (Jvm.ClassFile.FieldType.object "ExamSlips$Paper")), [])
def fX9_paperInUse (F : zFs)  (D : zDa) : Option (Int × zDa) :=
  if (D 1 9) < 0 then
    some ((-1), D)
  else
    if (D 1 9) < (D 1 8) then
      if (0 ≤ (D 1 9) ∧ (D 1 9) < 6) then
        some ((D 8 (D 1 9).toNat), D)
      else none
    else
      some ((-1), D)
set_option maxHeartbeats 20000000 in
theorem mX9_paperInUse {l : Launch} {E : zE} {d : Nat} {F : zFs} {n sl : Nat} (hG : zG F)  {D : zDa} : ∀ r, fX9_paperInUse F   D = some r → zMet l E (d + 0) YX9_paperInUse [zR 1] (F, D, n, sl) (zcQ F n sl r) := by
  intro r hr
  refine zMet_of (plainFor_of_name (by decide)) (fun _ h => (nomatch h)) (Nat.le_of_ble_eq_true rfl) ?_
  have hz : zO l E (d + 0) YX9_paperInUse 0 [(0, zR 1)] [] (F, D, n, sl) (zcQ F n sl) (fX9_paperInUse F   D) := by
    unfold fX9_paperInUse
    refine zO_aload_n dX9_paperInUse_0 rfl (zR_P _) ?_
    refine gt9 (k := 9) (v := zI (D 1 9)) dX9_paperInUse_1 wF_X9_44 (by decide) (gk_1 hG) rfl ?_
    refine zO_if_lt (tgt := 18) dX9_paperInUse_4 rfl (fun c4 => ?_) (fun c4 => ?_)
    · refine zO_null dX9_paperInUse_18 ?_
      refine zO_goto (tgt := 31) dX9_paperInUse_19 rfl ?_
      refine zO_st (st' := [zq (-1)]) (by first | rfl | exact congrArg (fun v => [v]) (zq_nat _).symm) ?_
      exact zO_retQ dX9_paperInUse_31 (zretok_q _ (by first | exact Or.inl ⟨_, rfl⟩ | exact Or.inr ⟨_, rfl⟩)) rfl
    · refine zO_aload_n dX9_paperInUse_7 rfl (zR_P _) ?_
      refine gt9 (k := 9) (v := zI (D 1 9)) dX9_paperInUse_8 wF_X9_44 (by decide) (gk_1 hG) rfl ?_
      refine zO_aload_n dX9_paperInUse_11 rfl (zR_P _) ?_
      refine gt9 (k := 8) (v := zI (D 1 8)) dX9_paperInUse_12 wF_X9_69 (by decide) (gk_1 hG) rfl ?_
      refine zO_icmp_lt (tgt := 22) dX9_paperInUse_15 rfl (fun c15 => ?_) (fun c15 => ?_)
      · refine zO_chk (fun h1 => ?_)
        refine zO_aload_n dX9_paperInUse_22 rfl (zR_P _) ?_
        refine gt9 (k := 7) dX9_paperInUse_23 wF_X9_40 (by decide) (gk_1 hG) (zgv (c := 9) (k := 7) rfl (Or.inl ⟨_, rfl⟩) (gf_1_7 hG)) ?_
        refine zO_aload_n dX9_paperInUse_26 rfl (zR_P _) ?_
        refine gt9 (k := 9) (v := zI (D 1 9)) dX9_paperInUse_27 wF_X9_44 (by decide) (gk_1 hG) rfl ?_
        refine zO_aald (kd := 25) dX9_paperInUse_30 (gk_8 hG) (by decide) (gl_in (gl_8 hG) h1) ?_
        exact zO_retQ dX9_paperInUse_31 (zretok_q _ (by first | exact Or.inl ⟨_, rfl⟩ | exact Or.inr ⟨_, rfl⟩)) rfl
      · refine zO_null dX9_paperInUse_18 ?_
        refine zO_goto (tgt := 31) dX9_paperInUse_19 rfl ?_
        refine zO_st (st' := [zq (-1)]) (by first | rfl | exact congrArg (fun v => [v]) (zq_nat _).symm) ?_
        exact zO_retQ dX9_paperInUse_31 (zretok_q _ (by first | exact Or.inl ⟨_, rfl⟩ | exact Or.inr ⟨_, rfl⟩)) rfl
  exact hz r hr
theorem dX10_push_0 : decode cX10_push 0 = .ok (.aload_n 0, 1) := by decide +kernel
theorem dX10_push_1 : decode cX10_push 1 = .ok (.getfield 81, 3) := by decide +kernel
theorem dX10_push_4 : decode cX10_push 4 = .ok (.ifCond .lt 36, 3) := by decide +kernel
theorem dX10_push_7 : decode cX10_push 7 = .ok (.aload_n 0, 1) := by decide +kernel
theorem dX10_push_8 : decode cX10_push 8 = .ok (.getfield 81, 3) := by decide +kernel
theorem dX10_push_11 : decode cX10_push 11 = .ok (.aload_n 0, 1) := by decide +kernel
theorem dX10_push_12 : decode cX10_push 12 = .ok (.getfield 17, 3) := by decide +kernel
theorem dX10_push_15 : decode cX10_push 15 = .ok (.arraylength, 1) := by decide +kernel
theorem dX10_push_16 : decode cX10_push 16 = .ok (.if_icmp .ge 24, 3) := by decide +kernel
theorem dX10_push_19 : decode cX10_push 19 = .ok (.aload_n 0, 1) := by decide +kernel
theorem dX10_push_20 : decode cX10_push 20 = .ok (.getfield 17, 3) := by decide +kernel
theorem dX10_push_23 : decode cX10_push 23 = .ok (.aload_n 0, 1) := by decide +kernel
theorem dX10_push_24 : decode cX10_push 24 = .ok (.getfield 81, 3) := by decide +kernel
theorem dX10_push_27 : decode cX10_push 27 = .ok (.iload_n 1, 1) := by decide +kernel
theorem dX10_push_28 : decode cX10_push 28 = .ok (.i2l, 1) := by decide +kernel
theorem dX10_push_29 : decode cX10_push 29 = .ok (.lastore, 1) := by decide +kernel
theorem dX10_push_30 : decode cX10_push 30 = .ok (.aload_n 0, 1) := by decide +kernel
theorem dX10_push_31 : decode cX10_push 31 = .ok (.dup, 1) := by decide +kernel
theorem dX10_push_32 : decode cX10_push 32 = .ok (.getfield 81, 3) := by decide +kernel
theorem dX10_push_35 : decode cX10_push 35 = .ok (.iconst 1, 1) := by decide +kernel
theorem dX10_push_36 : decode cX10_push 36 = .ok (.iadd, 1) := by decide +kernel
theorem dX10_push_37 : decode cX10_push 37 = .ok (.putfield 81, 3) := by decide +kernel
theorem dX10_push_40 : decode cX10_push 40 = .ok (.return_, 1) := by decide +kernel
abbrev YX10_push : zY := (yX10_push, cX10_push, 2, none, [])
def fX10_push (F : zFs) (v1 : Int) (D : zDa) : Option zDa :=
  if (D 49 3) < 0 then
    some D
  else
    if (D 49 3) < 52 then
      if (0 ≤ (D 49 3) ∧ (D 49 3) < 52) then
        zlet (zwr D 51 (D 49 3).toNat v1) (fun D_1 =>
          if (-2147483648 ≤ (D_1 49 3) + 1 ∧ (D_1 49 3) + 1 ≤ 2147483647) then
            zlet (zwr D_1 49 3 ((D_1 49 3) + 1)) (fun D_2 =>
              some D_2)
          else none)
      else none
    else
      some D
set_option maxHeartbeats 20000000 in
theorem mX10_push {l : Launch} {E : zE} {d : Nat} {F : zFs} {n sl : Nat} (hG : zG F) (v1 : Int) {D : zDa} : ∀ r, fX10_push F  v1 D = some r → zMet l E (d + 0) YX10_push [zR 49, zI v1] (F, D, n, sl) (zcV F n sl r) := by
  intro r hr
  refine zMet_of (plainFor_of_name (by decide)) (fun _ h => (nomatch h)) (Nat.le_of_ble_eq_true rfl) ?_
  have hz : zO l E (d + 0) YX10_push 0 [(0, zR 49), (1, zI v1)] [] (F, D, n, sl) (zcV F n sl) (fX10_push F  v1 D) := by
    unfold fX10_push
    refine zO_aload_n dX10_push_0 rfl (zR_P _) ?_
    refine gt10 (k := 3) (v := zI (D 49 3)) dX10_push_1 wF_X10_81 (by decide) (gk_49 hG) rfl ?_
    refine zO_if_lt (tgt := 40) dX10_push_4 rfl (fun c4 => ?_) (fun c4 => ?_)
    · exact zO_ret (rv := none) dX10_push_40 rfl trivial rfl
    · refine zO_aload_n dX10_push_7 rfl (zR_P _) ?_
      refine gt10 (k := 3) (v := zI (D 49 3)) dX10_push_8 wF_X10_81 (by decide) (gk_49 hG) rfl ?_
      refine zO_aload_n dX10_push_11 rfl (zR_P _) ?_
      refine gt10 (k := 2) dX10_push_12 wF_X10_17 (by decide) (gk_49 hG) (zgv (c := 10) (k := 2) rfl (Or.inl ⟨_, rfl⟩) (gf_49_2 hG)) ?_
      refine zO_alen (kd := 21) dX10_push_15 (gk_51 hG) (by decide) ?_
      refine zO_st (st' := [zI 52, zI (D 49 3)]) (by rw [gl_51 hG]; rfl) ?_
      refine zO_icmp_ge (tgt := 40) dX10_push_16 rfl (fun c16 => ?_) (fun c16 => ?_)
      · refine zO_chk (fun h1 => ?_)
        refine zO_aload_n dX10_push_19 rfl (zR_P _) ?_
        refine gt10 (k := 2) dX10_push_20 wF_X10_17 (by decide) (gk_49 hG) (zgv (c := 10) (k := 2) rfl (Or.inl ⟨_, rfl⟩) (gf_49_2 hG)) ?_
        refine zO_aload_n dX10_push_23 rfl (zR_P _) ?_
        refine gt10 (k := 3) (v := zI (D 49 3)) dX10_push_24 wF_X10_81 (by decide) (gk_49 hG) rfl ?_
        refine zO_iload_n dX10_push_27 rfl ?_
        refine zO_i2l dX10_push_28 ?_
        refine zO_last dX10_push_29 (gk_51 hG) (gl_in (gl_51 hG) h1) ?_
        refine zO_letD (fun D_1 eD_1 => ?_)
        refine zO_chk (fun h2 => ?_)
        refine zO_aload_n dX10_push_30 rfl (zR_P _) ?_
        refine zO_dup dX10_push_31 (rfl) ?_
        refine gt10 (k := 3) (v := zI (D_1 49 3)) dX10_push_32 wF_X10_81 (by decide) (gk_49 hG) rfl ?_
        refine zO_iconst dX10_push_35 (by decide) ?_
        refine zO_iadd dX10_push_36 h2 ?_
        refine ptI10 (k := 3) (z := ((D_1 49 3) + 1)) dX10_push_37 wF_X10_81 (by decide) rfl (gk_49 hG) rfl ?_
        refine zO_letD (fun D_2 eD_2 => ?_)
        exact zO_ret (rv := none) dX10_push_40 rfl trivial rfl
      · exact zO_ret (rv := none) dX10_push_40 rfl trivial rfl
  exact hz r hr
theorem dX10_operate_0 : decode cX10_operate 0 = .ok (.iload_n 1, 1) := by decide +kernel
theorem dX10_operate_1 : decode cX10_operate 1 = .ok (.bipush 9, 2) := by decide +kernel
theorem dX10_operate_3 : decode cX10_operate 3 = .ok (.if_icmp .ne 39, 3) := by decide +kernel
theorem dX10_operate_6 : decode cX10_operate 6 = .ok (.aload_n 0, 1) := by decide +kernel
theorem dX10_operate_7 : decode cX10_operate 7 = .ok (.getfield 81, 3) := by decide +kernel
theorem dX10_operate_10 : decode cX10_operate 10 = .ok (.iconst 1, 1) := by decide +kernel
theorem dX10_operate_11 : decode cX10_operate 11 = .ok (.if_icmp .ge 5, 3) := by decide +kernel
theorem dX10_operate_14 : decode cX10_operate 14 = .ok (.iconst 0, 1) := by decide +kernel
theorem dX10_operate_15 : decode cX10_operate 15 = .ok (.ireturn, 1) := by decide +kernel
theorem dX10_operate_16 : decode cX10_operate 16 = .ok (.aload_n 0, 1) := by decide +kernel
theorem dX10_operate_17 : decode cX10_operate 17 = .ok (.getfield 17, 3) := by decide +kernel
theorem dX10_operate_20 : decode cX10_operate 20 = .ok (.aload_n 0, 1) := by decide +kernel
theorem dX10_operate_21 : decode cX10_operate 21 = .ok (.getfield 81, 3) := by decide +kernel
theorem dX10_operate_24 : decode cX10_operate 24 = .ok (.iconst 1, 1) := by decide +kernel
theorem dX10_operate_25 : decode cX10_operate 25 = .ok (.isub, 1) := by decide +kernel
theorem dX10_operate_26 : decode cX10_operate 26 = .ok (.lconst 1, 1) := by decide +kernel
theorem dX10_operate_27 : decode cX10_operate 27 = .ok (.aload_n 0, 1) := by decide +kernel
theorem dX10_operate_28 : decode cX10_operate 28 = .ok (.getfield 17, 3) := by decide +kernel
theorem dX10_operate_31 : decode cX10_operate 31 = .ok (.aload_n 0, 1) := by decide +kernel
theorem dX10_operate_32 : decode cX10_operate 32 = .ok (.getfield 81, 3) := by decide +kernel
theorem dX10_operate_35 : decode cX10_operate 35 = .ok (.iconst 1, 1) := by decide +kernel
theorem dX10_operate_36 : decode cX10_operate 36 = .ok (.isub, 1) := by decide +kernel
theorem dX10_operate_37 : decode cX10_operate 37 = .ok (.laload, 1) := by decide +kernel
theorem dX10_operate_38 : decode cX10_operate 38 = .ok (.lsub, 1) := by decide +kernel
theorem dX10_operate_39 : decode cX10_operate 39 = .ok (.lastore, 1) := by decide +kernel
theorem dX10_operate_40 : decode cX10_operate 40 = .ok (.iconst 1, 1) := by decide +kernel
theorem dX10_operate_41 : decode cX10_operate 41 = .ok (.ireturn, 1) := by decide +kernel
theorem dX10_operate_42 : decode cX10_operate 42 = .ok (.aload_n 0, 1) := by decide +kernel
theorem dX10_operate_43 : decode cX10_operate 43 = .ok (.getfield 81, 3) := by decide +kernel
theorem dX10_operate_46 : decode cX10_operate 46 = .ok (.iconst 2, 1) := by decide +kernel
theorem dX10_operate_47 : decode cX10_operate 47 = .ok (.if_icmp .lt 24, 3) := by decide +kernel
theorem dX10_operate_50 : decode cX10_operate 50 = .ok (.iload_n 1, 1) := by decide +kernel
theorem dX10_operate_51 : decode cX10_operate 51 = .ok (.iconst 5, 1) := by decide +kernel
theorem dX10_operate_52 : decode cX10_operate 52 = .ok (.if_icmp .ne 21, 3) := by decide +kernel
theorem dX10_operate_55 : decode cX10_operate 55 = .ok (.aload_n 0, 1) := by decide +kernel
theorem dX10_operate_56 : decode cX10_operate 56 = .ok (.getfield 17, 3) := by decide +kernel
theorem dX10_operate_59 : decode cX10_operate 59 = .ok (.aload_n 0, 1) := by decide +kernel
theorem dX10_operate_60 : decode cX10_operate 60 = .ok (.getfield 81, 3) := by decide +kernel
theorem dX10_operate_63 : decode cX10_operate 63 = .ok (.iconst 1, 1) := by decide +kernel
theorem dX10_operate_64 : decode cX10_operate 64 = .ok (.isub, 1) := by decide +kernel
theorem dX10_operate_65 : decode cX10_operate 65 = .ok (.laload, 1) := by decide +kernel
theorem dX10_operate_66 : decode cX10_operate 66 = .ok (.lconst 0, 1) := by decide +kernel
theorem dX10_operate_67 : decode cX10_operate 67 = .ok (.lcmp, 1) := by decide +kernel
theorem dX10_operate_68 : decode cX10_operate 68 = .ok (.ifCond .ne 5, 3) := by decide +kernel
theorem dX10_operate_71 : decode cX10_operate 71 = .ok (.iconst 0, 1) := by decide +kernel
theorem dX10_operate_72 : decode cX10_operate 72 = .ok (.ireturn, 1) := by decide +kernel
theorem dX10_operate_73 : decode cX10_operate 73 = .ok (.aload_n 0, 1) := by decide +kernel
theorem dX10_operate_74 : decode cX10_operate 74 = .ok (.dup, 1) := by decide +kernel
theorem dX10_operate_75 : decode cX10_operate 75 = .ok (.getfield 81, 3) := by decide +kernel
theorem dX10_operate_78 : decode cX10_operate 78 = .ok (.iconst 1, 1) := by decide +kernel
theorem dX10_operate_79 : decode cX10_operate 79 = .ok (.isub, 1) := by decide +kernel
theorem dX10_operate_80 : decode cX10_operate 80 = .ok (.putfield 81, 3) := by decide +kernel
theorem dX10_operate_83 : decode cX10_operate 83 = .ok (.aload_n 0, 1) := by decide +kernel
theorem dX10_operate_84 : decode cX10_operate 84 = .ok (.getfield 17, 3) := by decide +kernel
theorem dX10_operate_87 : decode cX10_operate 87 = .ok (.aload_n 0, 1) := by decide +kernel
theorem dX10_operate_88 : decode cX10_operate 88 = .ok (.getfield 81, 3) := by decide +kernel
theorem dX10_operate_91 : decode cX10_operate 91 = .ok (.iconst 1, 1) := by decide +kernel
theorem dX10_operate_92 : decode cX10_operate 92 = .ok (.isub, 1) := by decide +kernel
theorem dX10_operate_93 : decode cX10_operate 93 = .ok (.laload, 1) := by decide +kernel
theorem dX10_operate_94 : decode cX10_operate 94 = .ok (.lstore_n 2, 1) := by decide +kernel
theorem dX10_operate_95 : decode cX10_operate 95 = .ok (.aload_n 0, 1) := by decide +kernel
theorem dX10_operate_96 : decode cX10_operate 96 = .ok (.getfield 17, 3) := by decide +kernel
theorem dX10_operate_99 : decode cX10_operate 99 = .ok (.aload_n 0, 1) := by decide +kernel
theorem dX10_operate_100 : decode cX10_operate 100 = .ok (.getfield 81, 3) := by decide +kernel
theorem dX10_operate_103 : decode cX10_operate 103 = .ok (.laload, 1) := by decide +kernel
theorem dX10_operate_104 : decode cX10_operate 104 = .ok (.lstore 4, 2) := by decide +kernel
theorem dX10_operate_106 : decode cX10_operate 106 = .ok (.iload_n 1, 1) := by decide +kernel
theorem dX10_operate_107 : decode cX10_operate 107 = .ok (.tableswitch 107 2 7 #[37, 46, 55, 64, 73, 90], 37) := by decide +kernel
theorem dX10_operate_144 : decode cX10_operate 144 = .ok (.lload_n 2, 1) := by decide +kernel
theorem dX10_operate_145 : decode cX10_operate 145 = .ok (.lload 4, 2) := by decide +kernel
theorem dX10_operate_147 : decode cX10_operate 147 = .ok (.ladd, 1) := by decide +kernel
theorem dX10_operate_148 : decode cX10_operate 148 = .ok (.lstore 6, 2) := by decide +kernel
theorem dX10_operate_150 : decode cX10_operate 150 = .ok (.goto 78, 3) := by decide +kernel
theorem dX10_operate_153 : decode cX10_operate 153 = .ok (.lload_n 2, 1) := by decide +kernel
theorem dX10_operate_154 : decode cX10_operate 154 = .ok (.lload 4, 2) := by decide +kernel
theorem dX10_operate_156 : decode cX10_operate 156 = .ok (.lsub, 1) := by decide +kernel
theorem dX10_operate_157 : decode cX10_operate 157 = .ok (.lstore 6, 2) := by decide +kernel
theorem dX10_operate_159 : decode cX10_operate 159 = .ok (.goto 69, 3) := by decide +kernel
theorem dX10_operate_162 : decode cX10_operate 162 = .ok (.lload_n 2, 1) := by decide +kernel
theorem dX10_operate_163 : decode cX10_operate 163 = .ok (.lload 4, 2) := by decide +kernel
theorem dX10_operate_165 : decode cX10_operate 165 = .ok (.lmul, 1) := by decide +kernel
theorem dX10_operate_166 : decode cX10_operate 166 = .ok (.lstore 6, 2) := by decide +kernel
theorem dX10_operate_168 : decode cX10_operate 168 = .ok (.goto 60, 3) := by decide +kernel
theorem dX10_operate_171 : decode cX10_operate 171 = .ok (.lload_n 2, 1) := by decide +kernel
theorem dX10_operate_172 : decode cX10_operate 172 = .ok (.lload 4, 2) := by decide +kernel
theorem dX10_operate_174 : decode cX10_operate 174 = .ok (.ldiv, 1) := by decide +kernel
theorem dX10_operate_175 : decode cX10_operate 175 = .ok (.lstore 6, 2) := by decide +kernel
theorem dX10_operate_177 : decode cX10_operate 177 = .ok (.goto 51, 3) := by decide +kernel
theorem dX10_operate_180 : decode cX10_operate 180 = .ok (.lload_n 2, 1) := by decide +kernel
theorem dX10_operate_181 : decode cX10_operate 181 = .ok (.lload 4, 2) := by decide +kernel
theorem dX10_operate_183 : decode cX10_operate 183 = .ok (.lcmp, 1) := by decide +kernel
theorem dX10_operate_184 : decode cX10_operate 184 = .ok (.ifCond .ge 7, 3) := by decide +kernel
theorem dX10_operate_187 : decode cX10_operate 187 = .ok (.lconst 1, 1) := by decide +kernel
theorem dX10_operate_188 : decode cX10_operate 188 = .ok (.goto 4, 3) := by decide +kernel
theorem dX10_operate_191 : decode cX10_operate 191 = .ok (.lconst 0, 1) := by decide +kernel
theorem dX10_operate_192 : decode cX10_operate 192 = .ok (.lstore 6, 2) := by decide +kernel
theorem dX10_operate_194 : decode cX10_operate 194 = .ok (.goto 34, 3) := by decide +kernel
theorem dX10_operate_197 : decode cX10_operate 197 = .ok (.lload_n 2, 1) := by decide +kernel
theorem dX10_operate_198 : decode cX10_operate 198 = .ok (.lload 4, 2) := by decide +kernel
theorem dX10_operate_200 : decode cX10_operate 200 = .ok (.lcmp, 1) := by decide +kernel
theorem dX10_operate_201 : decode cX10_operate 201 = .ok (.ifCond .le 7, 3) := by decide +kernel
theorem dX10_operate_204 : decode cX10_operate 204 = .ok (.lconst 1, 1) := by decide +kernel
theorem dX10_operate_205 : decode cX10_operate 205 = .ok (.goto 4, 3) := by decide +kernel
theorem dX10_operate_208 : decode cX10_operate 208 = .ok (.lconst 0, 1) := by decide +kernel
theorem dX10_operate_209 : decode cX10_operate 209 = .ok (.lstore 6, 2) := by decide +kernel
theorem dX10_operate_211 : decode cX10_operate 211 = .ok (.goto 17, 3) := by decide +kernel
theorem dX10_operate_214 : decode cX10_operate 214 = .ok (.lload_n 2, 1) := by decide +kernel
theorem dX10_operate_215 : decode cX10_operate 215 = .ok (.lload 4, 2) := by decide +kernel
theorem dX10_operate_217 : decode cX10_operate 217 = .ok (.lcmp, 1) := by decide +kernel
theorem dX10_operate_218 : decode cX10_operate 218 = .ok (.ifCond .ne 7, 3) := by decide +kernel
theorem dX10_operate_221 : decode cX10_operate 221 = .ok (.lconst 1, 1) := by decide +kernel
theorem dX10_operate_222 : decode cX10_operate 222 = .ok (.goto 4, 3) := by decide +kernel
theorem dX10_operate_225 : decode cX10_operate 225 = .ok (.lconst 0, 1) := by decide +kernel
theorem dX10_operate_226 : decode cX10_operate 226 = .ok (.lstore 6, 2) := by decide +kernel
theorem dX10_operate_228 : decode cX10_operate 228 = .ok (.aload_n 0, 1) := by decide +kernel
theorem dX10_operate_229 : decode cX10_operate 229 = .ok (.getfield 17, 3) := by decide +kernel
theorem dX10_operate_232 : decode cX10_operate 232 = .ok (.aload_n 0, 1) := by decide +kernel
theorem dX10_operate_233 : decode cX10_operate 233 = .ok (.getfield 81, 3) := by decide +kernel
theorem dX10_operate_236 : decode cX10_operate 236 = .ok (.iconst 1, 1) := by decide +kernel
theorem dX10_operate_237 : decode cX10_operate 237 = .ok (.isub, 1) := by decide +kernel
theorem dX10_operate_238 : decode cX10_operate 238 = .ok (.lload 6, 2) := by decide +kernel
theorem dX10_operate_240 : decode cX10_operate 240 = .ok (.lastore, 1) := by decide +kernel
theorem dX10_operate_241 : decode cX10_operate 241 = .ok (.lload 6, 2) := by decide +kernel
theorem dX10_operate_243 : decode cX10_operate 243 = .ok (.ldc2_w 94, 3) := by decide +kernel
theorem dX10_operate_246 : decode cX10_operate 246 = .ok (.lcmp, 1) := by decide +kernel
theorem dX10_operate_247 : decode cX10_operate 247 = .ok (.ifCond .lt 16, 3) := by decide +kernel
theorem dX10_operate_250 : decode cX10_operate 250 = .ok (.lload 6, 2) := by decide +kernel
theorem dX10_operate_252 : decode cX10_operate 252 = .ok (.ldc2_w 96, 3) := by decide +kernel
theorem dX10_operate_255 : decode cX10_operate 255 = .ok (.lcmp, 1) := by decide +kernel
theorem dX10_operate_256 : decode cX10_operate 256 = .ok (.ifCond .gt 7, 3) := by decide +kernel
theorem dX10_operate_259 : decode cX10_operate 259 = .ok (.iconst 1, 1) := by decide +kernel
theorem dX10_operate_260 : decode cX10_operate 260 = .ok (.goto 4, 3) := by decide +kernel
theorem dX10_operate_263 : decode cX10_operate 263 = .ok (.iconst 0, 1) := by decide +kernel
theorem dX10_operate_264 : decode cX10_operate 264 = .ok (.ireturn, 1) := by decide +kernel
abbrev YX10_operate : zY := (yX10_operate, cX10_operate, 8, (Option.some Jvm.ClassFile.FieldType.boolean), [])
def fX10_operate_228 (F : zFs)  (v6 : Int) (D : zDa) : Option (Int × zDa) :=
  if (-2147483648 ≤ (D 49 3) - 1 ∧ (D 49 3) - 1 ≤ 2147483647) ∧ (0 ≤ ((D 49 3) - 1) ∧ ((D 49 3) - 1) < 52) then
    zlet (zwr D 51 ((D 49 3) - 1).toNat v6) (fun D_6 =>
      if v6 < (-1000000000) then
        some (0, D_6)
      else
        if 1000000000 < v6 then
          some (0, D_6)
        else
          some (1, D_6))
  else none
def fX10_operate_192 (F : zFs)  (s0 : Int) (D : zDa) : Option (Int × zDa) :=
  fX10_operate_228 F s0 D
def fX10_operate_209 (F : zFs)  (s0 : Int) (D : zDa) : Option (Int × zDa) :=
  fX10_operate_228 F s0 D
def fX10_operate_226 (F : zFs)  (s0 : Int) (D : zDa) : Option (Int × zDa) :=
  fX10_operate_228 F s0 D
def fX10_operate_73 (F : zFs)  (v1 : Int) (D : zDa) : Option (Int × zDa) :=
  if (-2147483648 ≤ (D 49 3) - 1 ∧ (D 49 3) - 1 ≤ 2147483647) then
    zlet (zwr D 49 3 ((D 49 3) - 1)) (fun D_2 =>
      if (-2147483648 ≤ (D_2 49 3) - 1 ∧ (D_2 49 3) - 1 ≤ 2147483647) ∧ (0 ≤ ((D_2 49 3) - 1) ∧ ((D_2 49 3) - 1) < 52) then
        zlet ((D_2 51 ((D_2 49 3) - 1).toNat)) (fun x2_3 =>
          if (0 ≤ (D_2 49 3) ∧ (D_2 49 3) < 52) then
            zlet ((D_2 51 (D_2 49 3).toNat)) (fun x4_4 =>
              if v1 = 2 then
                if (-9223372036854775808 ≤ x2_3 + x4_4 ∧ x2_3 + x4_4 ≤ 9223372036854775807) then
                  zlet ((x2_3 + x4_4)) (fun x6_5 =>
                    fX10_operate_228 F x6_5 D_2)
                else none
              else
                if v1 = 3 then
                  if (-9223372036854775808 ≤ x2_3 - x4_4 ∧ x2_3 - x4_4 ≤ 9223372036854775807) then
                    zlet ((x2_3 - x4_4)) (fun x6_7 =>
                      fX10_operate_228 F x6_7 D_2)
                  else none
                else
                  if v1 = 4 then
                    if (-9223372036854775808 ≤ x2_3 * x4_4 ∧ x2_3 * x4_4 ≤ 9223372036854775807) then
                      zlet ((x2_3 * x4_4)) (fun x6_8 =>
                        fX10_operate_228 F x6_8 D_2)
                    else none
                  else
                    if v1 = 5 then
                      if (x4_4 ≠ 0) ∧ (¬ (x2_3 = -9223372036854775808 ∧ x4_4 = -1)) then
                        zlet ((Int.tdiv x2_3 x4_4)) (fun x6_9 =>
                          fX10_operate_228 F x6_9 D_2)
                      else none
                    else
                      if v1 = 6 then
                        if x2_3 < x4_4 then
                          fX10_operate_192 F 1 D_2
                        else
                          fX10_operate_192 F 0 D_2
                      else
                        if v1 = 7 then
                          if x4_4 < x2_3 then
                            fX10_operate_209 F 1 D_2
                          else
                            fX10_operate_209 F 0 D_2
                        else
                          if x2_3 = x4_4 then
                            fX10_operate_226 F 1 D_2
                          else
                            fX10_operate_226 F 0 D_2)
          else none)
      else none)
  else none
def fX10_operate (F : zFs) (v1 : Int) (D : zDa) : Option (Int × zDa) :=
  if v1 = 9 then
    if (D 49 3) < 1 then
      some (0, D)
    else
      if (-2147483648 ≤ (D 49 3) - 1 ∧ (D 49 3) - 1 ≤ 2147483647) ∧ (0 ≤ ((D 49 3) - 1) ∧ ((D 49 3) - 1) < 52) ∧ (-9223372036854775808 ≤ 1 - (D 51 ((D 49 3) - 1).toNat) ∧ 1 - (D 51 ((D 49 3) - 1).toNat) ≤ 9223372036854775807) then
        zlet (zwr D 51 ((D 49 3) - 1).toNat (1 - (D 51 ((D 49 3) - 1).toNat))) (fun D_1 =>
          some (1, D_1))
      else none
  else
    if (D 49 3) < 2 then
      some (0, D)
    else
      if v1 = 5 then
        if (-2147483648 ≤ (D 49 3) - 1 ∧ (D 49 3) - 1 ≤ 2147483647) ∧ (0 ≤ ((D 49 3) - 1) ∧ ((D 49 3) - 1) < 52) then
          if (D 51 ((D 49 3) - 1).toNat) = 0 then
            some (0, D)
          else
            fX10_operate_73 F v1 D
        else none
      else
        fX10_operate_73 F v1 D
set_option maxHeartbeats 20000000 in
theorem sX10_operate_228 {l : Launch} {E : zE} {d : Nat} {F : zFs} {n sl : Nat} (hG : zG F)  (v6 : Int)   (D : zDa) : zO l E (d + 0) YX10_operate 228 [(0, zR 49), (6, zL v6)] [] (F, D, n, sl) (zcI F n sl) (fX10_operate_228 F v6 D) := by
  unfold fX10_operate_228
  refine zO_chk (fun h7 => ?_)
  refine zO_aload_n dX10_operate_228 rfl (zR_P _) ?_
  refine gt10 (k := 2) dX10_operate_229 wF_X10_17 (by decide) (gk_49 hG) (zgv (c := 10) (k := 2) rfl (Or.inl ⟨_, rfl⟩) (gf_49_2 hG)) ?_
  refine zO_aload_n dX10_operate_232 rfl (zR_P _) ?_
  refine gt10 (k := 3) (v := zI (D 49 3)) dX10_operate_233 wF_X10_81 (by decide) (gk_49 hG) rfl ?_
  refine zO_iconst dX10_operate_236 (by decide) ?_
  refine zO_isub dX10_operate_237 h7.1 ?_
  refine zO_lload dX10_operate_238 rfl ?_
  refine zO_last dX10_operate_240 (gk_51 hG) (gl_in (gl_51 hG) h7.2) ?_
  refine zO_letD (fun D_6 eD_6 => ?_)
  refine zO_lload dX10_operate_241 rfl ?_
  refine zO_ldc2 (n := -1000000000) dX10_operate_243 wK_X10_94 (by decide) ?_
  refine zO_lif_lt (tgt := 263) dX10_operate_246 dX10_operate_247 rfl (fun c246 => ?_) (fun c246 => ?_)
  · refine zO_iconst dX10_operate_263 (by decide) ?_
    exact zO_ret (rv := some (zI 0)) dX10_operate_264 rfl rfl rfl
  · refine zO_lload dX10_operate_250 rfl ?_
    refine zO_ldc2 (n := 1000000000) dX10_operate_252 wK_X10_96 (by decide) ?_
    refine zO_lif_gt (tgt := 263) dX10_operate_255 dX10_operate_256 rfl (fun c255 => ?_) (fun c255 => ?_)
    · refine zO_iconst dX10_operate_263 (by decide) ?_
      exact zO_ret (rv := some (zI 0)) dX10_operate_264 rfl rfl rfl
    · refine zO_iconst dX10_operate_259 (by decide) ?_
      refine zO_goto (tgt := 264) dX10_operate_260 rfl ?_
      exact zO_ret (rv := some (zI 1)) dX10_operate_264 rfl rfl rfl
set_option maxHeartbeats 20000000 in
theorem sX10_operate_192 {l : Launch} {E : zE} {d : Nat} {F : zFs} {n sl : Nat} (hG : zG F)  (s0 : Int)   (D : zDa) : zO l E (d + 0) YX10_operate 192 [(0, zR 49)] [zL s0] (F, D, n, sl) (zcI F n sl) (fX10_operate_192 F s0 D) := by
  unfold fX10_operate_192
  refine zO_lstore dX10_operate_192 (by decide) ?_
  refine zO_ls (ls' := [(0, zR 49), (6, zL s0)]) rfl ?_
  refine zO_goto (tgt := 228) dX10_operate_194 rfl ?_
  refine zO_live [0, 6] ?_
  exact sX10_operate_228 hG s0 D
set_option maxHeartbeats 20000000 in
theorem sX10_operate_209 {l : Launch} {E : zE} {d : Nat} {F : zFs} {n sl : Nat} (hG : zG F)  (s0 : Int)   (D : zDa) : zO l E (d + 0) YX10_operate 209 [(0, zR 49)] [zL s0] (F, D, n, sl) (zcI F n sl) (fX10_operate_209 F s0 D) := by
  unfold fX10_operate_209
  refine zO_lstore dX10_operate_209 (by decide) ?_
  refine zO_ls (ls' := [(0, zR 49), (6, zL s0)]) rfl ?_
  refine zO_goto (tgt := 228) dX10_operate_211 rfl ?_
  refine zO_live [0, 6] ?_
  exact sX10_operate_228 hG s0 D
set_option maxHeartbeats 20000000 in
theorem sX10_operate_226 {l : Launch} {E : zE} {d : Nat} {F : zFs} {n sl : Nat} (hG : zG F)  (s0 : Int)   (D : zDa) : zO l E (d + 0) YX10_operate 226 [(0, zR 49)] [zL s0] (F, D, n, sl) (zcI F n sl) (fX10_operate_226 F s0 D) := by
  unfold fX10_operate_226
  refine zO_lstore dX10_operate_226 (by decide) ?_
  refine zO_ls (ls' := [(0, zR 49), (6, zL s0)]) rfl ?_
  refine zO_live [0, 6] ?_
  exact sX10_operate_228 hG s0 D
set_option maxHeartbeats 20000000 in
theorem sX10_operate_73 {l : Launch} {E : zE} {d : Nat} {F : zFs} {n sl : Nat} (hG : zG F)  (v1 : Int)   (D : zDa) : zO l E (d + 0) YX10_operate 73 [(0, zR 49), (1, zI v1)] [] (F, D, n, sl) (zcI F n sl) (fX10_operate_73 F v1 D) := by
  unfold fX10_operate_73
  refine zO_chk (fun h3 => ?_)
  refine zO_aload_n dX10_operate_73 rfl (zR_P _) ?_
  refine zO_dup dX10_operate_74 (rfl) ?_
  refine gt10 (k := 3) (v := zI (D 49 3)) dX10_operate_75 wF_X10_81 (by decide) (gk_49 hG) rfl ?_
  refine zO_iconst dX10_operate_78 (by decide) ?_
  refine zO_isub dX10_operate_79 h3 ?_
  refine ptI10 (k := 3) (z := ((D 49 3) - 1)) dX10_operate_80 wF_X10_81 (by decide) rfl (gk_49 hG) rfl ?_
  refine zO_letD (fun D_2 eD_2 => ?_)
  refine zO_chk (fun h4 => ?_)
  refine zO_aload_n dX10_operate_83 rfl (zR_P _) ?_
  refine gt10 (k := 2) dX10_operate_84 wF_X10_17 (by decide) (gk_49 hG) (zgv (c := 10) (k := 2) rfl (Or.inl ⟨_, rfl⟩) (gf_49_2 hG)) ?_
  refine zO_aload_n dX10_operate_87 rfl (zR_P _) ?_
  refine gt10 (k := 3) (v := zI (D_2 49 3)) dX10_operate_88 wF_X10_81 (by decide) (gk_49 hG) rfl ?_
  refine zO_iconst dX10_operate_91 (by decide) ?_
  refine zO_isub dX10_operate_92 h4.1 ?_
  refine zO_lald dX10_operate_93 (gk_51 hG) (gl_in (gl_51 hG) h4.2) ?_
  refine zO_letJ (fun x2_3 ex2_3 => ?_)
  refine zO_lstore_n dX10_operate_94 (by decide) ?_
  refine zO_ls (ls' := [(0, zR 49), (1, zI v1), (2, zL x2_3)]) rfl ?_
  refine zO_chk (fun h5 => ?_)
  refine zO_aload_n dX10_operate_95 rfl (zR_P _) ?_
  refine gt10 (k := 2) dX10_operate_96 wF_X10_17 (by decide) (gk_49 hG) (zgv (c := 10) (k := 2) rfl (Or.inl ⟨_, rfl⟩) (gf_49_2 hG)) ?_
  refine zO_aload_n dX10_operate_99 rfl (zR_P _) ?_
  refine gt10 (k := 3) (v := zI (D_2 49 3)) dX10_operate_100 wF_X10_81 (by decide) (gk_49 hG) rfl ?_
  refine zO_lald dX10_operate_103 (gk_51 hG) (gl_in (gl_51 hG) h5) ?_
  refine zO_letJ (fun x4_4 ex4_4 => ?_)
  refine zO_lstore dX10_operate_104 (by decide) ?_
  refine zO_ls (ls' := [(0, zR 49), (1, zI v1), (2, zL x2_3), (4, zL x4_4)]) rfl ?_
  refine zO_iload_n dX10_operate_106 rfl ?_
  refine zO_ite (fun c107_0 => ?_) (fun c107_0 => ?_)
  · refine zO_tableIn (tgt := 144) dX10_operate_107 ⟨2, c107_0, by decide, by decide, rfl⟩ rfl ?_
    refine zO_chk (fun h6 => ?_)
    refine zO_lload_n dX10_operate_144 rfl ?_
    refine zO_lload dX10_operate_145 rfl ?_
    refine zO_ladd dX10_operate_147 h6 ?_
    refine zO_letJ (fun x6_5 ex6_5 => ?_)
    refine zO_lstore dX10_operate_148 (by decide) ?_
    refine zO_ls (ls' := [(0, zR 49), (1, zI v1), (2, zL x2_3), (4, zL x4_4), (6, zL x6_5)]) rfl ?_
    refine zO_goto (tgt := 228) dX10_operate_150 rfl ?_
    refine zO_live [0, 6] ?_
    exact sX10_operate_228 hG x6_5 D_2
  · refine zO_ite (fun c107_1 => ?_) (fun c107_1 => ?_)
    · refine zO_tableIn (tgt := 153) dX10_operate_107 ⟨3, c107_1, by decide, by decide, rfl⟩ rfl ?_
      refine zO_chk (fun h8 => ?_)
      refine zO_lload_n dX10_operate_153 rfl ?_
      refine zO_lload dX10_operate_154 rfl ?_
      refine zO_lsub dX10_operate_156 h8 ?_
      refine zO_letJ (fun x6_7 ex6_7 => ?_)
      refine zO_lstore dX10_operate_157 (by decide) ?_
      refine zO_ls (ls' := [(0, zR 49), (1, zI v1), (2, zL x2_3), (4, zL x4_4), (6, zL x6_7)]) rfl ?_
      refine zO_goto (tgt := 228) dX10_operate_159 rfl ?_
      refine zO_live [0, 6] ?_
      exact sX10_operate_228 hG x6_7 D_2
    · refine zO_ite (fun c107_2 => ?_) (fun c107_2 => ?_)
      · refine zO_tableIn (tgt := 162) dX10_operate_107 ⟨4, c107_2, by decide, by decide, rfl⟩ rfl ?_
        refine zO_chk (fun h9 => ?_)
        refine zO_lload_n dX10_operate_162 rfl ?_
        refine zO_lload dX10_operate_163 rfl ?_
        refine zO_lmul dX10_operate_165 h9 ?_
        refine zO_letJ (fun x6_8 ex6_8 => ?_)
        refine zO_lstore dX10_operate_166 (by decide) ?_
        refine zO_ls (ls' := [(0, zR 49), (1, zI v1), (2, zL x2_3), (4, zL x4_4), (6, zL x6_8)]) rfl ?_
        refine zO_goto (tgt := 228) dX10_operate_168 rfl ?_
        refine zO_live [0, 6] ?_
        exact sX10_operate_228 hG x6_8 D_2
      · refine zO_ite (fun c107_3 => ?_) (fun c107_3 => ?_)
        · refine zO_tableIn (tgt := 171) dX10_operate_107 ⟨5, c107_3, by decide, by decide, rfl⟩ rfl ?_
          refine zO_chk (fun h10 => ?_)
          refine zO_lload_n dX10_operate_171 rfl ?_
          refine zO_lload dX10_operate_172 rfl ?_
          refine zO_ldiv dX10_operate_174 h10.1 h10.2 ?_
          refine zO_letJ (fun x6_9 ex6_9 => ?_)
          refine zO_lstore dX10_operate_175 (by decide) ?_
          refine zO_ls (ls' := [(0, zR 49), (1, zI v1), (2, zL x2_3), (4, zL x4_4), (6, zL x6_9)]) rfl ?_
          refine zO_goto (tgt := 228) dX10_operate_177 rfl ?_
          refine zO_live [0, 6] ?_
          exact sX10_operate_228 hG x6_9 D_2
        · refine zO_ite (fun c107_4 => ?_) (fun c107_4 => ?_)
          · refine zO_tableIn (tgt := 180) dX10_operate_107 ⟨6, c107_4, by decide, by decide, rfl⟩ rfl ?_
            refine zO_lload_n dX10_operate_180 rfl ?_
            refine zO_lload dX10_operate_181 rfl ?_
            refine zO_lif_ge (tgt := 191) dX10_operate_183 dX10_operate_184 rfl (fun c183 => ?_) (fun c183 => ?_)
            · refine zO_lconst dX10_operate_187 ?_
              refine zO_goto (tgt := 192) dX10_operate_188 rfl ?_
              refine zO_live [0] ?_
              exact sX10_operate_192 hG 1 D_2
            · refine zO_lconst dX10_operate_191 ?_
              refine zO_live [0] ?_
              exact sX10_operate_192 hG 0 D_2
          · refine zO_ite (fun c107_5 => ?_) (fun c107_5 => ?_)
            · refine zO_tableIn (tgt := 197) dX10_operate_107 ⟨7, c107_5, by decide, by decide, rfl⟩ rfl ?_
              refine zO_lload_n dX10_operate_197 rfl ?_
              refine zO_lload dX10_operate_198 rfl ?_
              refine zO_lif_le (tgt := 208) dX10_operate_200 dX10_operate_201 rfl (fun c200 => ?_) (fun c200 => ?_)
              · refine zO_lconst dX10_operate_204 ?_
                refine zO_goto (tgt := 209) dX10_operate_205 rfl ?_
                refine zO_live [0] ?_
                exact sX10_operate_209 hG 1 D_2
              · refine zO_lconst dX10_operate_208 ?_
                refine zO_live [0] ?_
                exact sX10_operate_209 hG 0 D_2
            · refine zO_tableOut (tgt := 214) dX10_operate_107 (by omega) rfl ?_
              refine zO_lload_n dX10_operate_214 rfl ?_
              refine zO_lload dX10_operate_215 rfl ?_
              refine zO_lif_ne (tgt := 225) dX10_operate_217 dX10_operate_218 rfl (fun c217 => ?_) (fun c217 => ?_)
              · refine zO_lconst dX10_operate_221 ?_
                refine zO_goto (tgt := 226) dX10_operate_222 rfl ?_
                refine zO_live [0] ?_
                exact sX10_operate_226 hG 1 D_2
              · refine zO_lconst dX10_operate_225 ?_
                refine zO_live [0] ?_
                exact sX10_operate_226 hG 0 D_2
set_option maxHeartbeats 20000000 in
theorem mX10_operate {l : Launch} {E : zE} {d : Nat} {F : zFs} {n sl : Nat} (hG : zG F) (v1 : Int) {D : zDa} : ∀ r, fX10_operate F  v1 D = some r → zMet l E (d + 0) YX10_operate [zR 49, zI v1] (F, D, n, sl) (zcI F n sl r) := by
  intro r hr
  refine zMet_of (plainFor_of_name (by decide)) (fun _ h => (nomatch h)) (Nat.le_of_ble_eq_true rfl) ?_
  have hz : zO l E (d + 0) YX10_operate 0 [(0, zR 49), (1, zI v1)] [] (F, D, n, sl) (zcI F n sl) (fX10_operate F  v1 D) := by
    unfold fX10_operate
    refine zO_iload_n dX10_operate_0 rfl ?_
    refine zO_bipush dX10_operate_1 (by decide) ?_
    refine zO_icmp_ne (tgt := 42) dX10_operate_3 rfl (fun c3 => ?_) (fun c3 => ?_)
    · refine zO_aload_n dX10_operate_6 rfl (zR_P _) ?_
      refine gt10 (k := 3) (v := zI (D 49 3)) dX10_operate_7 wF_X10_81 (by decide) (gk_49 hG) rfl ?_
      refine zO_iconst dX10_operate_10 (by decide) ?_
      refine zO_icmp_ge (tgt := 16) dX10_operate_11 rfl (fun c11 => ?_) (fun c11 => ?_)
      · refine zO_iconst dX10_operate_14 (by decide) ?_
        exact zO_ret (rv := some (zI 0)) dX10_operate_15 rfl rfl rfl
      · refine zO_chk (fun h1 => ?_)
        refine zO_aload_n dX10_operate_16 rfl (zR_P _) ?_
        refine gt10 (k := 2) dX10_operate_17 wF_X10_17 (by decide) (gk_49 hG) (zgv (c := 10) (k := 2) rfl (Or.inl ⟨_, rfl⟩) (gf_49_2 hG)) ?_
        refine zO_aload_n dX10_operate_20 rfl (zR_P _) ?_
        refine gt10 (k := 3) (v := zI (D 49 3)) dX10_operate_21 wF_X10_81 (by decide) (gk_49 hG) rfl ?_
        refine zO_iconst dX10_operate_24 (by decide) ?_
        refine zO_isub dX10_operate_25 h1.1 ?_
        refine zO_lconst dX10_operate_26 ?_
        refine zO_aload_n dX10_operate_27 rfl (zR_P _) ?_
        refine gt10 (k := 2) dX10_operate_28 wF_X10_17 (by decide) (gk_49 hG) (zgv (c := 10) (k := 2) rfl (Or.inl ⟨_, rfl⟩) (gf_49_2 hG)) ?_
        refine zO_aload_n dX10_operate_31 rfl (zR_P _) ?_
        refine gt10 (k := 3) (v := zI (D 49 3)) dX10_operate_32 wF_X10_81 (by decide) (gk_49 hG) rfl ?_
        refine zO_iconst dX10_operate_35 (by decide) ?_
        refine zO_isub dX10_operate_36 h1.1 ?_
        refine zO_lald dX10_operate_37 (gk_51 hG) (gl_in (gl_51 hG) h1.2.1) ?_
        refine zO_lsub dX10_operate_38 h1.2.2 ?_
        refine zO_last dX10_operate_39 (gk_51 hG) (gl_in (gl_51 hG) h1.2.1) ?_
        refine zO_letD (fun D_1 eD_1 => ?_)
        refine zO_iconst dX10_operate_40 (by decide) ?_
        exact zO_ret (rv := some (zI 1)) dX10_operate_41 rfl rfl rfl
    · refine zO_aload_n dX10_operate_42 rfl (zR_P _) ?_
      refine gt10 (k := 3) (v := zI (D 49 3)) dX10_operate_43 wF_X10_81 (by decide) (gk_49 hG) rfl ?_
      refine zO_iconst dX10_operate_46 (by decide) ?_
      refine zO_icmp_lt (tgt := 71) dX10_operate_47 rfl (fun c47 => ?_) (fun c47 => ?_)
      · refine zO_iconst dX10_operate_71 (by decide) ?_
        exact zO_ret (rv := some (zI 0)) dX10_operate_72 rfl rfl rfl
      · refine zO_iload_n dX10_operate_50 rfl ?_
        refine zO_iconst dX10_operate_51 (by decide) ?_
        refine zO_icmp_ne (tgt := 73) dX10_operate_52 rfl (fun c52 => ?_) (fun c52 => ?_)
        · refine zO_chk (fun h2 => ?_)
          refine zO_aload_n dX10_operate_55 rfl (zR_P _) ?_
          refine gt10 (k := 2) dX10_operate_56 wF_X10_17 (by decide) (gk_49 hG) (zgv (c := 10) (k := 2) rfl (Or.inl ⟨_, rfl⟩) (gf_49_2 hG)) ?_
          refine zO_aload_n dX10_operate_59 rfl (zR_P _) ?_
          refine gt10 (k := 3) (v := zI (D 49 3)) dX10_operate_60 wF_X10_81 (by decide) (gk_49 hG) rfl ?_
          refine zO_iconst dX10_operate_63 (by decide) ?_
          refine zO_isub dX10_operate_64 h2.1 ?_
          refine zO_lald dX10_operate_65 (gk_51 hG) (gl_in (gl_51 hG) h2.2) ?_
          refine zO_lconst dX10_operate_66 ?_
          refine zO_lif_ne (tgt := 73) dX10_operate_67 dX10_operate_68 rfl (fun c67 => ?_) (fun c67 => ?_)
          · refine zO_iconst dX10_operate_71 (by decide) ?_
            exact zO_ret (rv := some (zI 0)) dX10_operate_72 rfl rfl rfl
          · refine zO_live [0, 1] ?_
            exact sX10_operate_73 hG v1 D
        · refine zO_live [0, 1] ?_
          exact sX10_operate_73 hG v1 D
  exact hz r hr
