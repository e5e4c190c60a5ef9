/-! printed by wip/gen/emit_all.py: X4_pairs X4_choose J7_fill_53178 J7_fill_49daa X4_helpedBy X4_rowAt X4_pairPlace X4_canStillBe X4_kingsWith X4_priceAt X4_findFirst X9_has X10_ask X9_paperInUse X10_push X10_operate X10_holds J9_min_f86c9 J9_max_f86c9 X10_told X10_hoursOf X4_firstTakes X0_layAll X0_lay X0_dayOf X1_levelBehind -/
def tX4_pairs : List (Nat × Instr × Nat) := [(0, .iload_n 0, 1), (1, .iconst 1, 1), (2, .iadd, 1), (3, .iload_n 0, 1), (4, .iconst 2, 1), (5, .iadd, 1), (6, .imul, 1), (7, .iconst 2, 1), (8, .idiv, 1), (9, .ireturn, 1)]
set_option maxRecDepth 100000 in
theorem tvX4_pairs : ∀ q ∈ tX4_pairs, decode cX4_pairs q.1 = .ok q.2 := by decide +kernel
abbrev YX4_pairs : zY := (yX4_pairs, cX4_pairs, 1, (Option.some Jvm.ClassFile.FieldType.int), tX4_pairs)
def fX4_pairs (F : zFs) (v0 : Int) (D : zDa) : Option (Int × zDa) :=
  if (-2147483648 ≤ v0 + 1 ∧ v0 + 1 ≤ 2147483647) ∧ (-2147483648 ≤ v0 + 2 ∧ v0 + 2 ≤ 2147483647) ∧ (-2147483648 ≤ (v0 + 1) * (v0 + 2) ∧ (v0 + 1) * (v0 + 2) ≤ 2147483647) then
    some ((Int.tdiv ((v0 + 1) * (v0 + 2)) 2), D)
  else none
theorem mX4_pairs {l : Launch} {E : zE} {d : Nat} {F : zFs} {n sl : Nat} (hG : zG F) (v0 : Int) {D : zDa} : ∀ r, fX4_pairs F  v0 D = some r → zMet l E (d + 0) YX4_pairs [zI v0] (F, D, n, sl) (zcI F n sl r) := by
  intro r hr
  refine zMet_of (plainFor_of_name (by decide)) tvX4_pairs (Nat.le_of_ble_eq_true rfl) ?_
  have hz : zO l E (d + 0) YX4_pairs 0 [(0, zI v0)] [] (F, D, n, sl) (zcI F n sl) (fX4_pairs F  v0 D) := by
    unfold fX4_pairs
    refine zO_chk (fun h1 => ?_)
    refine zO_iload_n 0 rfl rfl ?_
    refine zO_iconst 1 rfl (by decide) ?_
    refine zO_iadd 2 rfl h1.1 ?_
    refine zO_iload_n 3 rfl rfl ?_
    refine zO_iconst 4 rfl (by decide) ?_
    refine zO_iadd 5 rfl h1.2.1 ?_
    refine zO_imul 6 rfl h1.2.2 ?_
    refine zO_iconst 7 rfl (by decide) ?_
    refine zO_idiv 8 rfl (by decide) (fun q => absurd q.2 (by decide)) ?_
    exact zO_ret (rv := some (zI (Int.tdiv ((v0 + 1) * (v0 + 2)) 2))) 9 rfl rfl rfl rfl
  exact hz r hr
def tX4_choose : List (Nat × Instr × Nat) := [(0, .aload_n 0, 1), (1, .ldc2_w 170, 3), (4, .putfield 172, 3), (7, .aload_n 0, 1), (8, .iconst 0, 1), (9, .putfield 175, 3), (12, .iconst 0, 1), (13, .istore_n 2, 1), (14, .iload_n 2, 1), (15, .aload_n 0, 1), (16, .getfield 84, 3), (19, .invokestatic 100, 3), (22, .if_icmp .ge 79, 3), (25, .aload_n 0, 1), (26, .getfield 34, 3), (29, .aload_n 0, 1), (30, .getfield 31, 3), (33, .iconst 0, 1), (34, .iaload, 1), (35, .iload_n 2, 1), (36, .iadd, 1), (37, .iaload, 1), (38, .istore_n 3, 1), (39, .iload_n 3, 1), (40, .iload_n 1, 1), (41, .if_icmp .gt 54, 3), (44, .aload_n 0, 1), (45, .getfield 37, 3), (48, .iload_n 2, 1), (49, .laload, 1), (50, .aload_n 0, 1), (51, .getfield 172, 3), (54, .lcmp, 1), (55, .ifCond .gt 25, 3), (58, .aload_n 0, 1), (59, .getfield 37, 3), (62, .iload_n 2, 1), (63, .laload, 1), (64, .aload_n 0, 1), (65, .getfield 172, 3), (68, .lcmp, 1), (69, .ifCond .ne 26, 3), (72, .iload_n 3, 1), (73, .aload_n 0, 1), (74, .getfield 175, 3), (77, .if_icmp .ge 18, 3), (80, .aload_n 0, 1), (81, .aload_n 0, 1), (82, .getfield 37, 3), (85, .iload_n 2, 1), (86, .laload, 1), (87, .putfield 172, 3), (90, .aload_n 0, 1), (91, .iload_n 3, 1), (92, .putfield 175, 3), (95, .iinc 2 1, 3), (98, .goto (-84), 3), (101, .return_, 1)]
set_option maxRecDepth 100000 in
theorem tvX4_choose : ∀ q ∈ tX4_choose, decode cX4_choose q.1 = .ok q.2 := by decide +kernel
abbrev YX4_choose : zY := (yX4_choose, cX4_choose, 4, none, tX4_choose)
def fX4_choose_95 (F : zFs) (k_14 : Int → zDa → Option zDa) (v1 : Int) (v2 : Int) (D : zDa) : Option zDa :=
  if (-2147483648 ≤ v2 + 1 ∧ v2 + 1 ≤ 2147483647) then
    k_14 (v2 + 1) D
  else none
def fX4_choose_80 (F : zFs) (k_14 : Int → zDa → Option zDa) (v1 : Int) (v2 : Int) (v3 : Int) (D : zDa) : Option zDa :=
  if (0 ≤ v2 ∧ v2 < 231) then
    zlet (zwr D 60 18 (D 67 v2.toNat)) (fun D_6 =>
      zlet (zwr D_6 60 19 v3) (fun D_7 =>
        fX4_choose_95 F k_14 v1 v2 D_7))
  else none
def fX4_choose_14 (F : zFs) (o1 : Int)  (k_14 : Int → zDa → Option zDa) (v2 : Int) (D : zDa) : Option zDa :=
  (fX4_pairs F (D 60 5) D).bind (fun (r_3, D_4) =>
    if v2 < r_3 then
      if (-2147483648 ≤ (D_4 65 0) + v2 ∧ (D_4 65 0) + v2 ≤ 2147483647) ∧ (0 ≤ (D_4 60 11)) ∧ ((F ((D_4 60 11).toNat)).1 = 20) ∧ (0 ≤ ((D_4 65 0) + v2) ∧ ((D_4 65 0) + v2) < ((F ((D_4 60 11).toNat)).2.1 : Int)) then
        zlet ((D_4 ((D_4 60 11).toNat) ((D_4 65 0) + v2).toNat)) (fun x3_5 =>
          if o1 < x3_5 then
            fX4_choose_95 F k_14 o1 v2 D_4
          else
            if (0 ≤ v2 ∧ v2 < 231) then
              if (D_4 60 18) < (D_4 67 v2.toNat) then
                fX4_choose_80 F k_14 o1 v2 x3_5 D_4
              else
                if (D_4 67 v2.toNat) = (D_4 60 18) then
                  if x3_5 < (D_4 60 19) then
                    fX4_choose_80 F k_14 o1 v2 x3_5 D_4
                  else
                    fX4_choose_95 F k_14 o1 v2 D_4
                else
                  fX4_choose_95 F k_14 o1 v2 D_4
            else none)
      else none
    else
      some D_4)
def fX4_choose (F : zFs) (v1 : Int) (D : zDa) : Option zDa :=
  zlet (zwr D 60 18 (-1)) (fun D_1 =>
    zlet (zwr D_1 60 19 0) (fun D_2 =>
      zfix (fun _ _ => none) (fX4_choose_14 F v1) zfu 0 D_2))
theorem sX4_choose_95 {l : Launch} {E : zE} {d : Nat} {F : zFs} {n sl : Nat} (hG : zG F) {o1 : Int} (k_14 : Int → zDa → Option zDa) (hk_14 : ∀ (u2 : Int) (D : zDa), zO l E (d + 1) YX4_choose 14 [(0, zR 60), (1, zI o1), (2, zI u2)] [] (F, D, n, sl) (zcV F n sl) (k_14 u2 D)) (v1 : Int) (v2 : Int) (D : zDa) : zO l E (d + 1) YX4_choose 95 [(0, zR 60), (1, zI v1), (2, zI v2)] [] (F, D, n, sl) (zcV F n sl) (fX4_choose_95 F k_14 v1 v2 D) := by
  unfold fX4_choose_95
  refine zO_chk (fun h2 => ?_)
  refine zO_iinc 55 rfl rfl h2 (by decide) ?_
  refine zO_goto (tgt := 14) 56 rfl rfl ?_
  refine zO_live [0, 1, 2] ?_
  exact hk_14 (v2 + 1) D
theorem sX4_choose_80 {l : Launch} {E : zE} {d : Nat} {F : zFs} {n sl : Nat} (hG : zG F) {o1 : Int} (k_14 : Int → zDa → Option zDa) (hk_14 : ∀ (u2 : Int) (D : zDa), zO l E (d + 1) YX4_choose 14 [(0, zR 60), (1, zI o1), (2, zI u2)] [] (F, D, n, sl) (zcV F n sl) (k_14 u2 D)) (v1 : Int) (v2 : Int) (v3 : Int) (D : zDa) : zO l E (d + 1) YX4_choose 80 [(0, zR 60), (1, zI v1), (2, zI v2), (3, zI v3)] [] (F, D, n, sl) (zcV F n sl) (fX4_choose_80 F k_14 v1 v2 v3 D) := by
  unfold fX4_choose_80
  refine zO_chk (fun h4 => ?_)
  refine zO_aload_n 46 rfl rfl (zR_P _) ?_
  refine zO_aload_n 47 rfl rfl (zR_P _) ?_
  refine gt4 (k := 12) 48 rfl wF_X4_37 (by decide) (gk_60 hG) (zgv (c := 4) (k := 12) rfl (Or.inl ⟨_, rfl⟩) (gf_60_12 hG)) ?_
  refine zO_iload_n 49 rfl rfl ?_
  refine zO_lald 50 rfl (gk_67 hG) (gl_in (gl_67 hG) h4) ?_
  refine ptJ4 (k := 18) (z := (D 67 v2.toNat)) 51 rfl wF_X4_172 (by decide) rfl (gk_60 hG) rfl ?_
  refine zO_letD (fun D_6 eD_6 => ?_)
  refine zO_aload_n 52 rfl rfl (zR_P _) ?_
  refine zO_iload_n 53 rfl rfl ?_
  refine ptI4 (k := 19) (z := v3) 54 rfl wF_X4_175 (by decide) rfl (gk_60 hG) rfl ?_
  refine zO_letD (fun D_7 eD_7 => ?_)
  refine zO_live [0, 1, 2] ?_
  exact sX4_choose_95 hG _ hk_14 v1 v2 D_7
theorem sX4_choose_14 {l : Launch} {E : zE} {d : Nat} {F : zFs} {n sl : Nat} (hG : zG F)  (o1 : Int)   : ∀ (N : Nat) (v2 : Int) (D : zDa), zO l E (d + 1) YX4_choose 14 [(0, zR 60), (1, zI o1), (2, zI v2)] [] (F, D, n, sl) (zcV F n sl) (zfix (fun _ _ => none) (fX4_choose_14 F o1) N v2 D) := by
  intro N
  induction N with
  | zero => intro v2 D; exact zO_none
  | succ N hk_14 =>
    intro v2 D
    show zO _ _ _ _ _ _ _ _ _ ((fX4_choose_14 F o1) (zfix (fun _ _ => none) (fX4_choose_14 F o1) N) v2 D)
    unfold fX4_choose_14
    refine zO_iload_n 8 rfl rfl ?_
    refine zO_aload_n 9 rfl rfl (zR_P _) ?_
    refine gt4 (k := 5) (v := zI (D 60 5)) 10 rfl wF_X4_84 (by decide) (gk_60 hG) rfl ?_
    refine zO_callS (Y' := YX4_pairs) (cw := zcI F n sl) (as := [zI (D 60 5)]) (rest := [zI v2]) (na := 1) 11 rfl wC_X4_pairs wN_X4 wM_X4_100 wS_X4_pairs (by decide) (by decide) rfl rfl (Nat.le_of_ble_eq_true rfl) (fun r hr => mX4_pairs (d := d + 0) hG (D 60 5) r hr) ?_
    rintro ⟨r_3, D_4⟩ -
    show zO _ _ _ _ _ _ [zI r_3, zI v2] (F, D_4, n, sl) _ _
    refine zO_icmp_ge (tgt := 101) 12 rfl rfl (fun c22 => ?_) (fun c22 => ?_)
    · refine zO_chk (fun h1 => ?_)
      refine zO_aload_n 13 rfl rfl (zR_P _) ?_
      refine gt4 (k := 11) (v := zq (D_4 60 11)) 14 rfl wF_X4_34 (by decide) (gk_60 hG) rfl ?_
      refine zO_aload_n 15 rfl rfl (zR_P _) ?_
      refine gt4 (k := 10) 16 rfl wF_X4_31 (by decide) (gk_60 hG) (zgv (c := 4) (k := 10) rfl (Or.inl ⟨_, rfl⟩) (gf_60_10 hG)) ?_
      refine zO_iconst 17 rfl (by decide) ?_
      refine zO_iald 18 rfl (gk_65 hG) (gl_in (gl_65 hG) (by decide)) ?_
      refine zO_iload_n 19 rfl rfl ?_
      refine zO_iadd 20 rfl h1.1 ?_
      refine zO_st (st' := [zI ((D_4 65 0) + v2), zR ((D_4 60 11).toNat)]) (by rw [zq_pos h1.2.1]) ?_
      refine zO_iald 21 rfl h1.2.2.1 h1.2.2.2 ?_
      refine zO_letI (fun x3_5 ex3_5 => ?_)
      refine zO_istore_n 22 rfl (by decide) ?_
      refine zO_iload_n 23 rfl rfl ?_
      refine zO_iload_n 24 rfl rfl ?_
      refine zO_icmp_gt (tgt := 95) 25 rfl rfl (fun c41 => ?_) (fun c41 => ?_)
      · refine zO_live [0, 1, 2] ?_
        exact sX4_choose_95 hG _ hk_14 o1 v2 D_4
      · refine zO_chk (fun h3 => ?_)
        refine zO_aload_n 26 rfl rfl (zR_P _) ?_
        refine gt4 (k := 12) 27 rfl wF_X4_37 (by decide) (gk_60 hG) (zgv (c := 4) (k := 12) rfl (Or.inl ⟨_, rfl⟩) (gf_60_12 hG)) ?_
        refine zO_iload_n 28 rfl rfl ?_
        refine zO_lald 29 rfl (gk_67 hG) (gl_in (gl_67 hG) h3) ?_
        refine zO_aload_n 30 rfl rfl (zR_P _) ?_
        refine gt4 (k := 18) (v := zL (D_4 60 18)) 31 rfl wF_X4_172 (by decide) (gk_60 hG) rfl ?_
        refine zO_lif_gt (tgt := 80) 32 33 rfl rfl rfl (fun c54 => ?_) (fun c54 => ?_)
        · refine zO_live [0, 1, 2, 3] ?_
          exact sX4_choose_80 hG _ hk_14 o1 v2 x3_5 D_4
        · refine zO_aload_n 34 rfl rfl (zR_P _) ?_
          refine gt4 (k := 12) 35 rfl wF_X4_37 (by decide) (gk_60 hG) (zgv (c := 4) (k := 12) rfl (Or.inl ⟨_, rfl⟩) (gf_60_12 hG)) ?_
          refine zO_iload_n 36 rfl rfl ?_
          refine zO_lald 37 rfl (gk_67 hG) (gl_in (gl_67 hG) h3) ?_
          refine zO_aload_n 38 rfl rfl (zR_P _) ?_
          refine gt4 (k := 18) (v := zL (D_4 60 18)) 39 rfl wF_X4_172 (by decide) (gk_60 hG) rfl ?_
          refine zO_lif_ne (tgt := 95) 40 41 rfl rfl rfl (fun c68 => ?_) (fun c68 => ?_)
          · refine zO_iload_n 42 rfl rfl ?_
            refine zO_aload_n 43 rfl rfl (zR_P _) ?_
            refine gt4 (k := 19) (v := zI (D_4 60 19)) 44 rfl wF_X4_175 (by decide) (gk_60 hG) rfl ?_
            refine zO_icmp_ge (tgt := 95) 45 rfl rfl (fun c77 => ?_) (fun c77 => ?_)
            · refine zO_live [0, 1, 2, 3] ?_
              exact sX4_choose_80 hG _ hk_14 o1 v2 x3_5 D_4
            · refine zO_live [0, 1, 2] ?_
              exact sX4_choose_95 hG _ hk_14 o1 v2 D_4
          · refine zO_live [0, 1, 2] ?_
            exact sX4_choose_95 hG _ hk_14 o1 v2 D_4
    · exact zO_ret (rv := none) 57 rfl rfl trivial rfl
theorem mX4_choose {l : Launch} {E : zE} {d : Nat} {F : zFs} {n sl : Nat} (hG : zG F) (v1 : Int) {D : zDa} : ∀ r, fX4_choose F  v1 D = some r → zMet l E (d + 1) YX4_choose [zR 60, zI v1] (F, D, n, sl) (zcV F n sl r) := by
  intro r hr
  refine zMet_of (plainFor_of_name (by decide)) tvX4_choose (Nat.le_of_ble_eq_true rfl) ?_
  have hz : zO l E (d + 1) YX4_choose 0 [(0, zR 60), (1, zI v1)] [] (F, D, n, sl) (zcV F n sl) (fX4_choose F  v1 D) := by
    unfold fX4_choose
    refine zO_aload_n 0 rfl rfl (zR_P _) ?_
    refine zO_ldc2 (n := -1) 1 rfl wK_X4_170 (by decide) ?_
    refine ptJ4 (k := 18) (z := (-1)) 2 rfl wF_X4_172 (by decide) rfl (gk_60 hG) rfl ?_
    refine zO_letD (fun D_1 eD_1 => ?_)
    refine zO_aload_n 3 rfl rfl (zR_P _) ?_
    refine zO_iconst 4 rfl (by decide) ?_
    refine ptI4 (k := 19) (z := 0) 5 rfl wF_X4_175 (by decide) rfl (gk_60 hG) rfl ?_
    refine zO_letD (fun D_2 eD_2 => ?_)
    refine zO_iconst 6 rfl (by decide) ?_
    refine zO_istore_n 7 rfl (by decide) ?_
    refine zO_live [0, 1, 2] ?_
    exact sX4_choose_14 hG v1 zfu 0 D_2
  exact hz r hr
def tJ7_fill_53178 : List (Nat × Instr × Nat) := [(0, .iconst 0, 1), (1, .istore_n 2, 1), (2, .aload_n 0, 1), (3, .arraylength, 1), (4, .istore_n 3, 1), (5, .iload_n 2, 1), (6, .iload_n 3, 1), (7, .if_icmp .ge 13, 3), (10, .aload_n 0, 1), (11, .iload_n 2, 1), (12, .iload_n 1, 1), (13, .iastore, 1), (14, .iinc 2 1, 3), (17, .goto (-12), 3), (20, .return_, 1)]
set_option maxRecDepth 100000 in
theorem tvJ7_fill_53178 : ∀ q ∈ tJ7_fill_53178, decode cJ7_fill_53178 q.1 = .ok q.2 := by decide +kernel
abbrev YJ7_fill_53178 : zY := (yJ7_fill_53178, cJ7_fill_53178, 4, none, tJ7_fill_53178)
def fJ7_fill_53178_5 (F : zFs) (o0 : Nat) (o1 : Int) (o3 : Int)  (k_5 : Int → zDa → Option zDa) (v2 : Int) (D : zDa) : Option zDa :=
  if v2 < o3 then
    if ((F o0).1 = 20) ∧ (0 ≤ v2 ∧ v2 < ((F o0).2.1 : Int)) then
      zlet (zwr D o0 v2.toNat o1) (fun D_2 =>
        if (-2147483648 ≤ v2 + 1 ∧ v2 + 1 ≤ 2147483647) then
          k_5 (v2 + 1) D_2
        else none)
    else none
  else
    some D
def fJ7_fill_53178 (F : zFs) (a0 : Nat) (v1 : Int) (D : zDa) : Option zDa :=
  if ((F a0).1 = 20) then
    zlet (((F a0).2.1 : Int)) (fun x3_1 =>
      zfix (fun _ _ => none) (fJ7_fill_53178_5 F a0 v1 x3_1) zfu 0 D)
  else none
theorem sJ7_fill_53178_5 {l : Launch} {E : zE} {d : Nat} {F : zFs} {n sl : Nat} (hG : zG F)  (o0 : Nat) (o1 : Int) (o3 : Int)   : ∀ (N : Nat) (v2 : Int) (D : zDa), zO l E (d + 0) YJ7_fill_53178 5 [(0, zR o0), (1, zI o1), (2, zI v2), (3, zI o3)] [] (F, D, n, sl) (zcV F n sl) (zfix (fun _ _ => none) (fJ7_fill_53178_5 F o0 o1 o3) N v2 D) := by
  intro N
  induction N with
  | zero => intro v2 D; exact zO_none
  | succ N hk_5 =>
    intro v2 D
    show zO _ _ _ _ _ _ _ _ _ ((fJ7_fill_53178_5 F o0 o1 o3) (zfix (fun _ _ => none) (fJ7_fill_53178_5 F o0 o1 o3) N) v2 D)
    unfold fJ7_fill_53178_5
    refine zO_iload_n 5 rfl rfl ?_
    refine zO_iload_n 6 rfl rfl ?_
    refine zO_icmp_ge (tgt := 20) 7 rfl rfl (fun c7 => ?_) (fun c7 => ?_)
    · refine zO_chk (fun h2 => ?_)
      refine zO_aload_n 8 rfl rfl (zR_P _) ?_
      refine zO_iload_n 9 rfl rfl ?_
      refine zO_iload_n 10 rfl rfl ?_
      refine zO_iast 11 rfl h2.1 h2.2 ?_
      refine zO_letD (fun D_2 eD_2 => ?_)
      refine zO_chk (fun h3 => ?_)
      refine zO_iinc 12 rfl rfl h3 (by decide) ?_
      refine zO_goto (tgt := 5) 13 rfl rfl ?_
      refine zO_live [0, 1, 2, 3] ?_
      exact hk_5 (v2 + 1) D_2
    · exact zO_ret (rv := none) 14 rfl rfl trivial rfl
theorem mJ7_fill_53178 {l : Launch} {E : zE} {d : Nat} {F : zFs} {n sl : Nat} (hG : zG F) (a0 : Nat) (v1 : Int) {D : zDa} : ∀ r, fJ7_fill_53178 F  a0 v1 D = some r → zMet l E (d + 0) YJ7_fill_53178 [zR a0, zI v1] (F, D, n, sl) (zcV F n sl r) := by
  intro r hr
  refine zMet_of (by decide +kernel) tvJ7_fill_53178 (Nat.le_of_ble_eq_true rfl) ?_
  have hz : zO l E (d + 0) YJ7_fill_53178 0 [(0, zR a0), (1, zI v1)] [] (F, D, n, sl) (zcV F n sl) (fJ7_fill_53178 F  a0 v1 D) := by
    unfold fJ7_fill_53178
    refine zO_chk (fun h1 => ?_)
    refine zO_iconst 0 rfl (by decide) ?_
    refine zO_istore_n 1 rfl (by decide) ?_
    refine zO_aload_n 2 rfl rfl (zR_P _) ?_
    refine zO_alen (kd := 20) 3 rfl h1 (by decide) ?_
    refine zO_letI (fun x3_1 ex3_1 => ?_)
    refine zO_istore_n 4 rfl (by decide) ?_
    refine zO_live [0, 1, 2, 3] ?_
    exact sJ7_fill_53178_5 hG a0 v1 x3_1 zfu 0 D
  exact hz r hr
def tJ7_fill_49daa : List (Nat × Instr × Nat) := [(0, .iconst 0, 1), (1, .istore_n 2, 1), (2, .aload_n 0, 1), (3, .arraylength, 1), (4, .istore_n 3, 1), (5, .iload_n 2, 1), (6, .iload_n 3, 1), (7, .if_icmp .ge 13, 3), (10, .aload_n 0, 1), (11, .iload_n 2, 1), (12, .iload_n 1, 1), (13, .bastore, 1), (14, .iinc 2 1, 3), (17, .goto (-12), 3), (20, .return_, 1)]
set_option maxRecDepth 100000 in
theorem tvJ7_fill_49daa : ∀ q ∈ tJ7_fill_49daa, decode cJ7_fill_49daa q.1 = .ok q.2 := by decide +kernel
abbrev YJ7_fill_49daa : zY := (yJ7_fill_49daa, cJ7_fill_49daa, 4, none, tJ7_fill_49daa)
def fJ7_fill_49daa_5 (F : zFs) (o0 : Nat) (o1 : Int) (o3 : Int)  (k_5 : Int → zDa → Option zDa) (v2 : Int) (D : zDa) : Option zDa :=
  if v2 < o3 then
    if ((F o0).1 = 23) ∧ (0 ≤ v2 ∧ v2 < ((F o0).2.1 : Int)) ∧ (o1 = 0 ∨ o1 = 1) then
      zlet (zwr D o0 v2.toNat o1) (fun D_2 =>
        if (-2147483648 ≤ v2 + 1 ∧ v2 + 1 ≤ 2147483647) then
          k_5 (v2 + 1) D_2
        else none)
    else none
  else
    some D
def fJ7_fill_49daa (F : zFs) (a0 : Nat) (v1 : Int) (D : zDa) : Option zDa :=
  if ((F a0).1 = 23) then
    zlet (((F a0).2.1 : Int)) (fun x3_1 =>
      zfix (fun _ _ => none) (fJ7_fill_49daa_5 F a0 v1 x3_1) zfu 0 D)
  else none
theorem sJ7_fill_49daa_5 {l : Launch} {E : zE} {d : Nat} {F : zFs} {n sl : Nat} (hG : zG F)  (o0 : Nat) (o1 : Int) (o3 : Int)   : ∀ (N : Nat) (v2 : Int) (D : zDa), zO l E (d + 0) YJ7_fill_49daa 5 [(0, zR o0), (1, zI o1), (2, zI v2), (3, zI o3)] [] (F, D, n, sl) (zcV F n sl) (zfix (fun _ _ => none) (fJ7_fill_49daa_5 F o0 o1 o3) N v2 D) := by
  intro N
  induction N with
  | zero => intro v2 D; exact zO_none
  | succ N hk_5 =>
    intro v2 D
    show zO _ _ _ _ _ _ _ _ _ ((fJ7_fill_49daa_5 F o0 o1 o3) (zfix (fun _ _ => none) (fJ7_fill_49daa_5 F o0 o1 o3) N) v2 D)
    unfold fJ7_fill_49daa_5
    refine zO_iload_n 5 rfl rfl ?_
    refine zO_iload_n 6 rfl rfl ?_
    refine zO_icmp_ge (tgt := 20) 7 rfl rfl (fun c7 => ?_) (fun c7 => ?_)
    · refine zO_chk (fun h2 => ?_)
      refine zO_aload_n 8 rfl rfl (zR_P _) ?_
      refine zO_iload_n 9 rfl rfl ?_
      refine zO_iload_n 10 rfl rfl ?_
      refine zO_zast 11 rfl h2.1 h2.2.1 h2.2.2 ?_
      refine zO_letD (fun D_2 eD_2 => ?_)
      refine zO_chk (fun h3 => ?_)
      refine zO_iinc 12 rfl rfl h3 (by decide) ?_
      refine zO_goto (tgt := 5) 13 rfl rfl ?_
      refine zO_live [0, 1, 2, 3] ?_
      exact hk_5 (v2 + 1) D_2
    · exact zO_ret (rv := none) 14 rfl rfl trivial rfl
theorem mJ7_fill_49daa {l : Launch} {E : zE} {d : Nat} {F : zFs} {n sl : Nat} (hG : zG F) (a0 : Nat) (v1 : Int) {D : zDa} : ∀ r, fJ7_fill_49daa F  a0 v1 D = some r → zMet l E (d + 0) YJ7_fill_49daa [zR a0, zI v1] (F, D, n, sl) (zcV F n sl r) := by
  intro r hr
  refine zMet_of (by decide +kernel) tvJ7_fill_49daa (Nat.le_of_ble_eq_true rfl) ?_
  have hz : zO l E (d + 0) YJ7_fill_49daa 0 [(0, zR a0), (1, zI v1)] [] (F, D, n, sl) (zcV F n sl) (fJ7_fill_49daa F  a0 v1 D) := by
    unfold fJ7_fill_49daa
    refine zO_chk (fun h1 => ?_)
    refine zO_iconst 0 rfl (by decide) ?_
    refine zO_istore_n 1 rfl (by decide) ?_
    refine zO_aload_n 2 rfl rfl (zR_P _) ?_
    refine zO_alen (kd := 23) 3 rfl h1 (by decide) ?_
    refine zO_letI (fun x3_1 ex3_1 => ?_)
    refine zO_istore_n 4 rfl (by decide) ?_
    refine zO_live [0, 1, 2, 3] ?_
    exact sJ7_fill_49daa_5 hG a0 v1 x3_1 zfu 0 D
  exact hz r hr
def tX4_helpedBy : List (Nat × Instr × Nat) := [(0, .aload_n 0, 1), (1, .getfield 25, 3), (4, .iload_n 1, 1), (5, .iaload, 1), (6, .iconst (-1), 1), (7, .if_icmp .ne 7, 3), (10, .iconst 0, 1), (11, .goto 13, 3), (14, .iload_n 2, 1), (15, .aload_n 0, 1), (16, .getfield 25, 3), (19, .iload_n 1, 1), (20, .iaload, 1), (21, .iushr, 1), (22, .iconst 1, 1), (23, .iand, 1), (24, .ireturn, 1)]
set_option maxRecDepth 100000 in
theorem tvX4_helpedBy : ∀ q ∈ tX4_helpedBy, decode cX4_helpedBy q.1 = .ok q.2 := by decide +kernel
abbrev YX4_helpedBy : zY := (yX4_helpedBy, cX4_helpedBy, 3, (Option.some Jvm.ClassFile.FieldType.int), tX4_helpedBy)
def fX4_helpedBy (F : zFs) (v1 : Int) (v2 : Int) (D : zDa) : Option (Int × zDa) :=
  if (0 ≤ v1 ∧ v1 < 20) then
    if (D 63 v1.toNat) = (-1) then
      some (0, D)
    else
      some ((zand (zushr v2 (D 63 v1.toNat)) 1), D)
  else none
theorem mX4_helpedBy {l : Launch} {E : zE} {d : Nat} {F : zFs} {n sl : Nat} (hG : zG F) (v1 : Int) (v2 : Int) {D : zDa} : ∀ r, fX4_helpedBy F  v1 v2 D = some r → zMet l E (d + 0) YX4_helpedBy [zR 60, zI v1, zI v2] (F, D, n, sl) (zcI F n sl r) := by
  intro r hr
  refine zMet_of (plainFor_of_name (by decide)) tvX4_helpedBy (Nat.le_of_ble_eq_true rfl) ?_
  have hz : zO l E (d + 0) YX4_helpedBy 0 [(0, zR 60), (1, zI v1), (2, zI v2)] [] (F, D, n, sl) (zcI F n sl) (fX4_helpedBy F  v1 v2 D) := by
    unfold fX4_helpedBy
    refine zO_chk (fun h1 => ?_)
    refine zO_aload_n 0 rfl rfl (zR_P _) ?_
    refine gt4 (k := 8) 1 rfl wF_X4_25 (by decide) (gk_60 hG) (zgv (c := 4) (k := 8) rfl (Or.inl ⟨_, rfl⟩) (gf_60_8 hG)) ?_
    refine zO_iload_n 2 rfl rfl ?_
    refine zO_iald 3 rfl (gk_63 hG) (gl_in (gl_63 hG) h1) ?_
    refine zO_iconst 4 rfl (by decide) ?_
    refine zO_icmp_ne (tgt := 14) 5 rfl rfl (fun c7 => ?_) (fun c7 => ?_)
    · refine zO_iconst 6 rfl (by decide) ?_
      refine zO_goto (tgt := 24) 7 rfl rfl ?_
      exact zO_ret (rv := some (zI 0)) 16 rfl rfl rfl rfl
    · refine zO_iload_n 8 rfl rfl ?_
      refine zO_aload_n 9 rfl rfl (zR_P _) ?_
      refine gt4 (k := 8) 10 rfl wF_X4_25 (by decide) (gk_60 hG) (zgv (c := 4) (k := 8) rfl (Or.inl ⟨_, rfl⟩) (gf_60_8 hG)) ?_
      refine zO_iload_n 11 rfl rfl ?_
      refine zO_iald 12 rfl (gk_63 hG) (gl_in (gl_63 hG) h1) ?_
      refine zO_iushr 13 rfl ?_
      refine zO_iconst 14 rfl (by decide) ?_
      refine zO_iand 15 rfl ?_
      exact zO_ret (rv := some (zI (zand (zushr v2 (D 63 v1.toNat)) 1))) 16 rfl rfl rfl rfl
  exact hz r hr
def tX4_rowAt : List (Nat × Instr × Nat) := [(0, .aload_n 0, 1), (1, .getfield 31, 3), (4, .iload_n 1, 1), (5, .iaload, 1), (6, .iload_n 2, 1), (7, .aload_n 0, 1), (8, .getfield 84, 3), (11, .iload_n 1, 1), (12, .isub, 1), (13, .invokestatic 100, 3), (16, .imul, 1), (17, .iadd, 1), (18, .ireturn, 1)]
set_option maxRecDepth 100000 in
theorem tvX4_rowAt : ∀ q ∈ tX4_rowAt, decode cX4_rowAt q.1 = .ok q.2 := by decide +kernel
abbrev YX4_rowAt : zY := (yX4_rowAt, cX4_rowAt, 3, (Option.some Jvm.ClassFile.FieldType.int), tX4_rowAt)
def fX4_rowAt (F : zFs) (v1 : Int) (v2 : Int) (D : zDa) : Option (Int × zDa) :=
  if (0 ≤ v1 ∧ v1 < 21) ∧ (-2147483648 ≤ (D 60 5) - v1 ∧ (D 60 5) - v1 ≤ 2147483647) then
    (fX4_pairs F ((D 60 5) - v1) D).bind (fun (r_1, D_2) =>
      if (-2147483648 ≤ v2 * r_1 ∧ v2 * r_1 ≤ 2147483647) ∧ (-2147483648 ≤ (D 65 v1.toNat) + (v2 * r_1) ∧ (D 65 v1.toNat) + (v2 * r_1) ≤ 2147483647) then
        some (((D 65 v1.toNat) + (v2 * r_1)), D_2)
      else none)
  else none
theorem mX4_rowAt {l : Launch} {E : zE} {d : Nat} {F : zFs} {n sl : Nat} (hG : zG F) (v1 : Int) (v2 : Int) {D : zDa} : ∀ r, fX4_rowAt F  v1 v2 D = some r → zMet l E (d + 1) YX4_rowAt [zR 60, zI v1, zI v2] (F, D, n, sl) (zcI F n sl r) := by
  intro r hr
  refine zMet_of (plainFor_of_name (by decide)) tvX4_rowAt (Nat.le_of_ble_eq_true rfl) ?_
  have hz : zO l E (d + 1) YX4_rowAt 0 [(0, zR 60), (1, zI v1), (2, zI v2)] [] (F, D, n, sl) (zcI F n sl) (fX4_rowAt F  v1 v2 D) := by
    unfold fX4_rowAt
    refine zO_chk (fun h1 => ?_)
    refine zO_aload_n 0 rfl rfl (zR_P _) ?_
    refine gt4 (k := 10) 1 rfl wF_X4_31 (by decide) (gk_60 hG) (zgv (c := 4) (k := 10) rfl (Or.inl ⟨_, rfl⟩) (gf_60_10 hG)) ?_
    refine zO_iload_n 2 rfl rfl ?_
    refine zO_iald 3 rfl (gk_65 hG) (gl_in (gl_65 hG) h1.1) ?_
    refine zO_iload_n 4 rfl rfl ?_
    refine zO_aload_n 5 rfl rfl (zR_P _) ?_
    refine gt4 (k := 5) (v := zI (D 60 5)) 6 rfl wF_X4_84 (by decide) (gk_60 hG) rfl ?_
    refine zO_iload_n 7 rfl rfl ?_
    refine zO_isub 8 rfl h1.2 ?_
    refine zO_callS (Y' := YX4_pairs) (cw := zcI F n sl) (as := [zI ((D 60 5) - v1)]) (rest := [zI v2, zI (D 65 v1.toNat)]) (na := 1) 9 rfl wC_X4_pairs wN_X4 wM_X4_100 wS_X4_pairs (by decide) (by decide) rfl rfl (Nat.le_of_ble_eq_true rfl) (fun r hr => mX4_pairs (d := d + 0) hG ((D 60 5) - v1) r hr) ?_
    rintro ⟨r_1, D_2⟩ -
    show zO _ _ _ _ _ _ [zI r_1, zI v2, zI (D 65 v1.toNat)] (F, D_2, n, sl) _ _
    refine zO_chk (fun h2 => ?_)
    refine zO_imul 10 rfl h2.1 ?_
    refine zO_iadd 11 rfl h2.2 ?_
    exact zO_ret (rv := some (zI ((D 65 v1.toNat) + (v2 * r_1)))) 12 rfl rfl rfl rfl
  exact hz r hr
def tX4_pairPlace : List (Nat × Instr × Nat) := [(0, .iload_n 0, 1), (1, .iload_n 1, 1), (2, .iadd, 1), (3, .iload_n 0, 1), (4, .iload_n 1, 1), (5, .iadd, 1), (6, .iconst 1, 1), (7, .iadd, 1), (8, .imul, 1), (9, .iconst 2, 1), (10, .idiv, 1), (11, .iload_n 1, 1), (12, .iadd, 1), (13, .ireturn, 1)]
set_option maxRecDepth 100000 in
theorem tvX4_pairPlace : ∀ q ∈ tX4_pairPlace, decode cX4_pairPlace q.1 = .ok q.2 := by decide +kernel
abbrev YX4_pairPlace : zY := (yX4_pairPlace, cX4_pairPlace, 2, (Option.some Jvm.ClassFile.FieldType.int), tX4_pairPlace)
def fX4_pairPlace (F : zFs) (v0 : Int) (v1 : Int) (D : zDa) : Option (Int × zDa) :=
  if (-2147483648 ≤ v0 + v1 ∧ v0 + v1 ≤ 2147483647) ∧ (-2147483648 ≤ (v0 + v1) + 1 ∧ (v0 + v1) + 1 ≤ 2147483647) ∧ (-2147483648 ≤ (v0 + v1) * ((v0 + v1) + 1) ∧ (v0 + v1) * ((v0 + v1) + 1) ≤ 2147483647) ∧ (-2147483648 ≤ (Int.tdiv ((v0 + v1) * ((v0 + v1) + 1)) 2) + v1 ∧ (Int.tdiv ((v0 + v1) * ((v0 + v1) + 1)) 2) + v1 ≤ 2147483647) then
    some (((Int.tdiv ((v0 + v1) * ((v0 + v1) + 1)) 2) + v1), D)
  else none
theorem mX4_pairPlace {l : Launch} {E : zE} {d : Nat} {F : zFs} {n sl : Nat} (hG : zG F) (v0 : Int) (v1 : Int) {D : zDa} : ∀ r, fX4_pairPlace F  v0 v1 D = some r → zMet l E (d + 0) YX4_pairPlace [zI v0, zI v1] (F, D, n, sl) (zcI F n sl r) := by
  intro r hr
  refine zMet_of (plainFor_of_name (by decide)) tvX4_pairPlace (Nat.le_of_ble_eq_true rfl) ?_
  have hz : zO l E (d + 0) YX4_pairPlace 0 [(0, zI v0), (1, zI v1)] [] (F, D, n, sl) (zcI F n sl) (fX4_pairPlace F  v0 v1 D) := by
    unfold fX4_pairPlace
    refine zO_chk (fun h1 => ?_)
    refine zO_iload_n 0 rfl rfl ?_
    refine zO_iload_n 1 rfl rfl ?_
    refine zO_iadd 2 rfl h1.1 ?_
    refine zO_iload_n 3 rfl rfl ?_
    refine zO_iload_n 4 rfl rfl ?_
    refine zO_iadd 5 rfl h1.1 ?_
    refine zO_iconst 6 rfl (by decide) ?_
    refine zO_iadd 7 rfl h1.2.1 ?_
    refine zO_imul 8 rfl h1.2.2.1 ?_
    refine zO_iconst 9 rfl (by decide) ?_
    refine zO_idiv 10 rfl (by decide) (fun q => absurd q.2 (by decide)) ?_
    refine zO_iload_n 11 rfl rfl ?_
    refine zO_iadd 12 rfl h1.2.2.2 ?_
    exact zO_ret (rv := some (zI ((Int.tdiv ((v0 + v1) * ((v0 + v1) + 1)) 2) + v1))) 13 rfl rfl rfl rfl
  exact hz r hr
def tX4_canStillBe : List (Nat × Instr × Nat) := [(0, .aload_n 0, 1), (1, .getfield 84, 3), (4, .iload_n 1, 1), (5, .isub, 1), (6, .iconst 1, 1), (7, .isub, 1), (8, .istore 6, 2), (10, .aload_n 0, 1), (11, .iload_n 1, 1), (12, .iconst 1, 1), (13, .iadd, 1), (14, .iload_n 2, 1), (15, .invokevirtual 131, 3), (18, .istore 7, 2), (20, .iconst 0, 1), (21, .istore 8, 2), (23, .iload 8, 2), (25, .iload 6, 2), (27, .if_icmp .gt 80, 3), (30, .iconst 0, 1), (31, .istore 9, 2), (33, .iload 9, 2), (35, .iload 6, 2), (37, .iload 8, 2), (39, .isub, 1), (40, .if_icmp .gt 61, 3), (43, .iload 5, 2), (45, .aload_n 0, 1), (46, .getfield 34, 3), (49, .iload 7, 2), (51, .iload 8, 2), (53, .iload 9, 2), (55, .invokestatic 163, 3), (58, .iadd, 1), (59, .iaload, 1), (60, .iadd, 1), (61, .aload_n 0, 1), (62, .getfield 175, 3), (65, .if_icmp .ne 30, 3), (68, .aload_n 0, 1), (69, .getfield 37, 3), (72, .iload_n 3, 1), (73, .iload 8, 2), (75, .iadd, 1), (76, .iload 4, 2), (78, .iload 9, 2), (80, .iadd, 1), (81, .invokestatic 163, 3), (84, .laload, 1), (85, .aload_n 0, 1), (86, .getfield 172, 3), (89, .lcmp, 1), (90, .ifCond .ne 5, 3), (93, .iconst 1, 1), (94, .ireturn, 1), (95, .iinc 9 1, 3), (98, .goto (-65), 3), (101, .iinc 8 1, 3), (104, .goto (-81), 3), (107, .iconst 0, 1), (108, .ireturn, 1)]
set_option maxRecDepth 100000 in
theorem tvX4_canStillBe : ∀ q ∈ tX4_canStillBe, decode cX4_canStillBe q.1 = .ok q.2 := by decide +kernel
abbrev YX4_canStillBe : zY := (yX4_canStillBe, cX4_canStillBe, 10, (Option.some Jvm.ClassFile.FieldType.boolean), tX4_canStillBe)
def fX4_canStillBe_95 (F : zFs) (k_23 : Int → zDa → Option (Int × zDa)) (k_33 : Int → zDa → Option (Int × zDa)) (v3 : Int) (v4 : Int) (v5 : Int) (v6 : Int) (v7 : Int) (v8 : Int) (v9 : Int) (D : zDa) : Option (Int × zDa) :=
  if (-2147483648 ≤ v9 + 1 ∧ v9 + 1 ≤ 2147483647) then
    k_33 (v9 + 1) D
  else none
def fX4_canStillBe_33 (F : zFs) (o3 : Int) (o4 : Int) (o5 : Int) (o6 : Int) (o7 : Int) (o8 : Int) (k_23 : Int → zDa → Option (Int × zDa)) (k_33 : Int → zDa → Option (Int × zDa)) (v9 : Int) (D : zDa) : Option (Int × zDa) :=
  if (-2147483648 ≤ o6 - o8 ∧ o6 - o8 ≤ 2147483647) then
    if (o6 - o8) < v9 then
      if (-2147483648 ≤ o8 + 1 ∧ o8 + 1 ≤ 2147483647) then
        k_23 (o8 + 1) D
      else none
    else
      (fX4_pairPlace F o8 v9 D).bind (fun (r_4, D_5) =>
        if (-2147483648 ≤ o7 + r_4 ∧ o7 + r_4 ≤ 2147483647) ∧ (0 ≤ (D 60 11)) ∧ ((F ((D 60 11).toNat)).1 = 20) ∧ (0 ≤ (o7 + r_4) ∧ (o7 + r_4) < ((F ((D 60 11).toNat)).2.1 : Int)) ∧ (-2147483648 ≤ o5 + (D_5 ((D 60 11).toNat) (o7 + r_4).toNat) ∧ o5 + (D_5 ((D 60 11).toNat) (o7 + r_4).toNat) ≤ 2147483647) then
          if (o5 + (D_5 ((D 60 11).toNat) (o7 + r_4).toNat)) = (D_5 60 19) then
            if (-2147483648 ≤ o3 + o8 ∧ o3 + o8 ≤ 2147483647) ∧ (-2147483648 ≤ o4 + v9 ∧ o4 + v9 ≤ 2147483647) then
              (fX4_pairPlace F (o3 + o8) (o4 + v9) D_5).bind (fun (r_6, D_7) =>
                if (0 ≤ r_6 ∧ r_6 < 231) then
                  if (D_7 67 r_6.toNat) = (D_7 60 18) then
                    some (1, D_7)
                  else
                    fX4_canStillBe_95 F k_23 k_33 o3 o4 o5 o6 o7 o8 v9 D_7
                else none)
            else none
          else
            fX4_canStillBe_95 F k_23 k_33 o3 o4 o5 o6 o7 o8 v9 D_5
        else none)
  else none
def fX4_canStillBe_23 (F : zFs) (o3 : Int) (o4 : Int) (o5 : Int) (o6 : Int) (o7 : Int)  (k_23 : Int → zDa → Option (Int × zDa)) (v8 : Int) (D : zDa) : Option (Int × zDa) :=
  if o6 < v8 then
    some (0, D)
  else
    zfix (fun _ _ => none) (fX4_canStillBe_33 F o3 o4 o5 o6 o7 v8 k_23) zfu 0 D
def fX4_canStillBe (F : zFs) (v1 : Int) (v2 : Int) (v3 : Int) (v4 : Int) (v5 : Int) (D : zDa) : Option (Int × zDa) :=
  if (-2147483648 ≤ (D 60 5) - v1 ∧ (D 60 5) - v1 ≤ 2147483647) ∧ (-2147483648 ≤ ((D 60 5) - v1) - 1 ∧ ((D 60 5) - v1) - 1 ≤ 2147483647) then
    zlet ((((D 60 5) - v1) - 1)) (fun x6_1 =>
      if (-2147483648 ≤ v1 + 1 ∧ v1 + 1 ≤ 2147483647) then
        (fX4_rowAt F (v1 + 1) v2 D).bind (fun (r_2, D_3) =>
          zfix (fun _ _ => none) (fX4_canStillBe_23 F v3 v4 v5 x6_1 r_2) zfu 0 D_3)
      else none)
  else none
theorem sX4_canStillBe_95 {l : Launch} {E : zE} {d : Nat} {F : zFs} {n sl : Nat} (hG : zG F) {o3 : Int} {o4 : Int} {o5 : Int} {o6 : Int} {o7 : Int} {o8 : Int} (k_23 : Int → zDa → Option (Int × zDa)) (k_33 : Int → zDa → Option (Int × zDa)) (hk_23 : ∀ (u8 : Int) (D : zDa), zO l E (d + 2) YX4_canStillBe 23 [(0, zR 60), (3, zI o3), (4, zI o4), (5, zI o5), (6, zI o6), (7, zI o7), (8, zI u8)] [] (F, D, n, sl) (zcI F n sl) (k_23 u8 D)) (hk_33 : ∀ (u9 : Int) (D : zDa), zO l E (d + 2) YX4_canStillBe 33 [(0, zR 60), (3, zI o3), (4, zI o4), (5, zI o5), (6, zI o6), (7, zI o7), (8, zI o8), (9, zI u9)] [] (F, D, n, sl) (zcI F n sl) (k_33 u9 D)) (v3 : Int) (v4 : Int) (v5 : Int) (v6 : Int) (v7 : Int) (v8 : Int) (v9 : Int) (D : zDa) : zO l E (d + 2) YX4_canStillBe 95 [(0, zR 60), (3, zI v3), (4, zI v4), (5, zI v5), (6, zI v6), (7, zI v7), (8, zI v8), (9, zI v9)] [] (F, D, n, sl) (zcI F n sl) (fX4_canStillBe_95 F k_23 k_33 v3 v4 v5 v6 v7 v8 v9 D) := by
  unfold fX4_canStillBe_95
  refine zO_chk (fun h8 => ?_)
  refine zO_iinc 55 rfl rfl h8 (by decide) ?_
  refine zO_goto (tgt := 33) 56 rfl rfl ?_
  refine zO_live [0, 3, 4, 5, 6, 7, 8, 9] ?_
  exact hk_33 (v9 + 1) D
theorem sX4_canStillBe_33 {l : Launch} {E : zE} {d : Nat} {F : zFs} {n sl : Nat} (hG : zG F)  (o3 : Int) (o4 : Int) (o5 : Int) (o6 : Int) (o7 : Int) (o8 : Int) (k_23 : Int → zDa → Option (Int × zDa)) (hk_23 : ∀ (u8 : Int) (D : zDa), zO l E (d + 2) YX4_canStillBe 23 [(0, zR 60), (3, zI o3), (4, zI o4), (5, zI o5), (6, zI o6), (7, zI o7), (8, zI u8)] [] (F, D, n, sl) (zcI F n sl) (k_23 u8 D)) : ∀ (N : Nat) (v9 : Int) (D : zDa), zO l E (d + 2) YX4_canStillBe 33 [(0, zR 60), (3, zI o3), (4, zI o4), (5, zI o5), (6, zI o6), (7, zI o7), (8, zI o8), (9, zI v9)] [] (F, D, n, sl) (zcI F n sl) (zfix (fun _ _ => none) (fX4_canStillBe_33 F o3 o4 o5 o6 o7 o8 k_23) N v9 D) := by
  intro N
  induction N with
  | zero => intro v9 D; exact zO_none
  | succ N hk_33 =>
    intro v9 D
    show zO _ _ _ _ _ _ _ _ _ ((fX4_canStillBe_33 F o3 o4 o5 o6 o7 o8 k_23) (zfix (fun _ _ => none) (fX4_canStillBe_33 F o3 o4 o5 o6 o7 o8 k_23) N) v9 D)
    unfold fX4_canStillBe_33
    refine zO_chk (fun h3 => ?_)
    refine zO_iload 21 rfl rfl ?_
    refine zO_iload 22 rfl rfl ?_
    refine zO_iload 23 rfl rfl ?_
    refine zO_isub 24 rfl h3 ?_
    refine zO_icmp_gt (tgt := 101) 25 rfl rfl (fun c40 => ?_) (fun c40 => ?_)
    · refine zO_chk (fun h4 => ?_)
      refine zO_iinc 57 rfl rfl h4 (by decide) ?_
      refine zO_goto (tgt := 23) 58 rfl rfl ?_
      refine zO_live [0, 3, 4, 5, 6, 7, 8] ?_
      exact hk_23 (o8 + 1) D
    · refine zO_iload 26 rfl rfl ?_
      refine zO_aload_n 27 rfl rfl (zR_P _) ?_
      refine gt4 (k := 11) (v := zq (D 60 11)) 28 rfl wF_X4_34 (by decide) (gk_60 hG) rfl ?_
      refine zO_iload 29 rfl rfl ?_
      refine zO_iload 30 rfl rfl ?_
      refine zO_iload 31 rfl rfl ?_
      refine zO_callS (Y' := YX4_pairPlace) (cw := zcI F n sl) (as := [zI o8, zI v9]) (rest := [zI o7, zq (D 60 11), zI o5]) (na := 2) 32 rfl wC_X4_pairPlace wN_X4 wM_X4_163 wS_X4_pairPlace (by decide) (by decide) rfl rfl (Nat.le_of_ble_eq_true rfl) (fun r hr => mX4_pairPlace (d := d + 1) hG o8 v9 r hr) ?_
      rintro ⟨r_4, D_5⟩ -
      show zO _ _ _ _ _ _ [zI r_4, zI o7, zq (D 60 11), zI o5] (F, D_5, n, sl) _ _
      refine zO_chk (fun h5 => ?_)
      refine zO_iadd 33 rfl h5.1 ?_
      refine zO_st (st' := [zI (o7 + r_4), zR ((D 60 11).toNat), zI o5]) (by rw [zq_pos h5.2.1]) ?_
      refine zO_iald 34 rfl h5.2.2.1 h5.2.2.2.1 ?_
      refine zO_iadd 35 rfl h5.2.2.2.2 ?_
      refine zO_aload_n 36 rfl rfl (zR_P _) ?_
      refine gt4 (k := 19) (v := zI (D_5 60 19)) 37 rfl wF_X4_175 (by decide) (gk_60 hG) rfl ?_
      refine zO_icmp_ne (tgt := 95) 38 rfl rfl (fun c65 => ?_) (fun c65 => ?_)
      · refine zO_chk (fun h6 => ?_)
        refine zO_aload_n 39 rfl rfl (zR_P _) ?_
        refine gt4 (k := 12) 40 rfl wF_X4_37 (by decide) (gk_60 hG) (zgv (c := 4) (k := 12) rfl (Or.inl ⟨_, rfl⟩) (gf_60_12 hG)) ?_
        refine zO_iload_n 41 rfl rfl ?_
        refine zO_iload 42 rfl rfl ?_
        refine zO_iadd 43 rfl h6.1 ?_
        refine zO_iload 44 rfl rfl ?_
        refine zO_iload 45 rfl rfl ?_
        refine zO_iadd 46 rfl h6.2 ?_
        refine zO_callS (Y' := YX4_pairPlace) (cw := zcI F n sl) (as := [zI (o3 + o8), zI (o4 + v9)]) (rest := [zR 67]) (na := 2) 47 rfl wC_X4_pairPlace wN_X4 wM_X4_163 wS_X4_pairPlace (by decide) (by decide) rfl rfl (Nat.le_of_ble_eq_true rfl) (fun r hr => mX4_pairPlace (d := d + 1) hG (o3 + o8) (o4 + v9) r hr) ?_
        rintro ⟨r_6, D_7⟩ -
        show zO _ _ _ _ _ _ [zI r_6, zR 67] (F, D_7, n, sl) _ _
        refine zO_chk (fun h7 => ?_)
        refine zO_lald 48 rfl (gk_67 hG) (gl_in (gl_67 hG) h7) ?_
        refine zO_aload_n 49 rfl rfl (zR_P _) ?_
        refine gt4 (k := 18) (v := zL (D_7 60 18)) 50 rfl wF_X4_172 (by decide) (gk_60 hG) rfl ?_
        refine zO_lif_ne (tgt := 95) 51 52 rfl rfl rfl (fun c89 => ?_) (fun c89 => ?_)
        · refine zO_iconst 53 rfl (by decide) ?_
          exact zO_ret (rv := some (zI 1)) 54 rfl rfl rfl rfl
        · refine zO_live [0, 3, 4, 5, 6, 7, 8, 9] ?_
          exact sX4_canStillBe_95 hG _ _ hk_23 hk_33 o3 o4 o5 o6 o7 o8 v9 D_7
      · refine zO_live [0, 3, 4, 5, 6, 7, 8, 9] ?_
        exact sX4_canStillBe_95 hG _ _ hk_23 hk_33 o3 o4 o5 o6 o7 o8 v9 D_5
theorem sX4_canStillBe_23 {l : Launch} {E : zE} {d : Nat} {F : zFs} {n sl : Nat} (hG : zG F)  (o3 : Int) (o4 : Int) (o5 : Int) (o6 : Int) (o7 : Int)   : ∀ (N : Nat) (v8 : Int) (D : zDa), zO l E (d + 2) YX4_canStillBe 23 [(0, zR 60), (3, zI o3), (4, zI o4), (5, zI o5), (6, zI o6), (7, zI o7), (8, zI v8)] [] (F, D, n, sl) (zcI F n sl) (zfix (fun _ _ => none) (fX4_canStillBe_23 F o3 o4 o5 o6 o7) N v8 D) := by
  intro N
  induction N with
  | zero => intro v8 D; exact zO_none
  | succ N hk_23 =>
    intro v8 D
    show zO _ _ _ _ _ _ _ _ _ ((fX4_canStillBe_23 F o3 o4 o5 o6 o7) (zfix (fun _ _ => none) (fX4_canStillBe_23 F o3 o4 o5 o6 o7) N) v8 D)
    unfold fX4_canStillBe_23
    refine zO_iload 16 rfl rfl ?_
    refine zO_iload 17 rfl rfl ?_
    refine zO_icmp_gt (tgt := 107) 18 rfl rfl (fun c27 => ?_) (fun c27 => ?_)
    · refine zO_iconst 59 rfl (by decide) ?_
      exact zO_ret (rv := some (zI 0)) 60 rfl rfl rfl rfl
    · refine zO_iconst 19 rfl (by decide) ?_
      refine zO_istore 20 rfl (by decide) ?_
      refine zO_live [0, 3, 4, 5, 6, 7, 8, 9] ?_
      exact sX4_canStillBe_33 hG o3 o4 o5 o6 o7 v8 _ hk_23 zfu 0 D
theorem mX4_canStillBe {l : Launch} {E : zE} {d : Nat} {F : zFs} {n sl : Nat} (hG : zG F) (v1 : Int) (v2 : Int) (v3 : Int) (v4 : Int) (v5 : Int) {D : zDa} : ∀ r, fX4_canStillBe F  v1 v2 v3 v4 v5 D = some r → zMet l E (d + 2) YX4_canStillBe [zR 60, zI v1, zI v2, zI v3, zI v4, zI v5] (F, D, n, sl) (zcI F n sl r) := by
  intro r hr
  refine zMet_of (plainFor_of_name (by decide)) tvX4_canStillBe (Nat.le_of_ble_eq_true rfl) ?_
  have hz : zO l E (d + 2) YX4_canStillBe 0 [(0, zR 60), (1, zI v1), (2, zI v2), (3, zI v3), (4, zI v4), (5, zI v5)] [] (F, D, n, sl) (zcI F n sl) (fX4_canStillBe F  v1 v2 v3 v4 v5 D) := by
    unfold fX4_canStillBe
    refine zO_chk (fun h1 => ?_)
    refine zO_aload_n 0 rfl rfl (zR_P _) ?_
    refine gt4 (k := 5) (v := zI (D 60 5)) 1 rfl wF_X4_84 (by decide) (gk_60 hG) rfl ?_
    refine zO_iload_n 2 rfl rfl ?_
    refine zO_isub 3 rfl h1.1 ?_
    refine zO_iconst 4 rfl (by decide) ?_
    refine zO_isub 5 rfl h1.2 ?_
    refine zO_letI (fun x6_1 ex6_1 => ?_)
    refine zO_istore 6 rfl (by decide) ?_
    refine zO_chk (fun h2 => ?_)
    refine zO_aload_n 7 rfl rfl (zR_P _) ?_
    refine zO_iload_n 8 rfl rfl ?_
    refine zO_iconst 9 rfl (by decide) ?_
    refine zO_iadd 10 rfl h2 ?_
    refine zO_iload_n 11 rfl rfl ?_
    refine zO_callV (Y' := YX4_rowAt) (cw := zcI F n sl) (as := [zI (v1 + 1), zI v2]) (rest := []) (na := 2) (ci := 4) rfl 12 rfl wC_X4_rowAt wN_X4 wM_X4_131 wI_X4_rowAt wV_X4_rowAt (by decide) (by decide) rfl rfl (Nat.le_of_ble_eq_true rfl) rfl (by decide) (gk_60 hG) (fun r hr => mX4_rowAt (d := d + 0) hG (v1 + 1) v2 r hr) ?_
    rintro ⟨r_2, D_3⟩ -
    show zO _ _ _ _ _ _ [zI r_2] (F, D_3, n, sl) _ _
    refine zO_istore 13 rfl (by decide) ?_
    refine zO_iconst 14 rfl (by decide) ?_
    refine zO_istore 15 rfl (by decide) ?_
    refine zO_live [0, 3, 4, 5, 6, 7, 8] ?_
    exact sX4_canStillBe_23 hG v3 v4 v5 x6_1 r_2 zfu 0 D_3
  exact hz r hr
def tX4_kingsWith : List (Nat × Instr × Nat) := [(0, .aload_n 0, 1), (1, .getfield 25, 3), (4, .iload_n 1, 1), (5, .iaload, 1), (6, .iconst (-1), 1), (7, .if_icmp .ne 7, 3), (10, .iload_n 2, 1), (11, .goto 13, 3), (14, .iload_n 2, 1), (15, .iconst 1, 1), (16, .aload_n 0, 1), (17, .getfield 25, 3), (20, .iload_n 1, 1), (21, .iaload, 1), (22, .ishl, 1), (23, .ior, 1), (24, .ireturn, 1)]
set_option maxRecDepth 100000 in
theorem tvX4_kingsWith : ∀ q ∈ tX4_kingsWith, decode cX4_kingsWith q.1 = .ok q.2 := by decide +kernel
abbrev YX4_kingsWith : zY := (yX4_kingsWith, cX4_kingsWith, 3, (Option.some Jvm.ClassFile.FieldType.int), tX4_kingsWith)
def fX4_kingsWith (F : zFs) (v1 : Int) (v2 : Int) (D : zDa) : Option (Int × zDa) :=
  if (0 ≤ v1 ∧ v1 < 20) then
    if (D 63 v1.toNat) = (-1) then
      some (v2, D)
    else
      some ((zor v2 (zshl 1 (D 63 v1.toNat))), D)
  else none
theorem mX4_kingsWith {l : Launch} {E : zE} {d : Nat} {F : zFs} {n sl : Nat} (hG : zG F) (v1 : Int) (v2 : Int) {D : zDa} : ∀ r, fX4_kingsWith F  v1 v2 D = some r → zMet l E (d + 0) YX4_kingsWith [zR 60, zI v1, zI v2] (F, D, n, sl) (zcI F n sl r) := by
  intro r hr
  refine zMet_of (plainFor_of_name (by decide)) tvX4_kingsWith (Nat.le_of_ble_eq_true rfl) ?_
  have hz : zO l E (d + 0) YX4_kingsWith 0 [(0, zR 60), (1, zI v1), (2, zI v2)] [] (F, D, n, sl) (zcI F n sl) (fX4_kingsWith F  v1 v2 D) := by
    unfold fX4_kingsWith
    refine zO_chk (fun h1 => ?_)
    refine zO_aload_n 0 rfl rfl (zR_P _) ?_
    refine gt4 (k := 8) 1 rfl wF_X4_25 (by decide) (gk_60 hG) (zgv (c := 4) (k := 8) rfl (Or.inl ⟨_, rfl⟩) (gf_60_8 hG)) ?_
    refine zO_iload_n 2 rfl rfl ?_
    refine zO_iald 3 rfl (gk_63 hG) (gl_in (gl_63 hG) h1) ?_
    refine zO_iconst 4 rfl (by decide) ?_
    refine zO_icmp_ne (tgt := 14) 5 rfl rfl (fun c7 => ?_) (fun c7 => ?_)
    · refine zO_iload_n 6 rfl rfl ?_
      refine zO_goto (tgt := 24) 7 rfl rfl ?_
      exact zO_ret (rv := some (zI v2)) 16 rfl rfl rfl rfl
    · refine zO_iload_n 8 rfl rfl ?_
      refine zO_iconst 9 rfl (by decide) ?_
      refine zO_aload_n 10 rfl rfl (zR_P _) ?_
      refine gt4 (k := 8) 11 rfl wF_X4_25 (by decide) (gk_60 hG) (zgv (c := 4) (k := 8) rfl (Or.inl ⟨_, rfl⟩) (gf_60_8 hG)) ?_
      refine zO_iload_n 12 rfl rfl ?_
      refine zO_iald 13 rfl (gk_63 hG) (gl_in (gl_63 hG) h1) ?_
      refine zO_ishl 14 rfl ?_
      refine zO_ior 15 rfl ?_
      exact zO_ret (rv := some (zI (zor v2 (zshl 1 (D 63 v1.toNat))))) 16 rfl rfl rfl rfl
  exact hz r hr
def tX4_priceAt : List (Nat × Instr × Nat) := [(0, .iload_n 0, 1), (1, .iconst 2, 1), (2, .imul, 1), (3, .iload_n 1, 1), (4, .iadd, 1), (5, .iconst 3, 1), (6, .imul, 1), (7, .iload_n 2, 1), (8, .iadd, 1), (9, .ireturn, 1)]
set_option maxRecDepth 100000 in
theorem tvX4_priceAt : ∀ q ∈ tX4_priceAt, decode cX4_priceAt q.1 = .ok q.2 := by decide +kernel
abbrev YX4_priceAt : zY := (yX4_priceAt, cX4_priceAt, 3, (Option.some Jvm.ClassFile.FieldType.int), tX4_priceAt)
def fX4_priceAt (F : zFs) (v0 : Int) (v1 : Int) (v2 : Int) (D : zDa) : Option (Int × zDa) :=
  if (-2147483648 ≤ v0 * 2 ∧ v0 * 2 ≤ 2147483647) ∧ (-2147483648 ≤ (v0 * 2) + v1 ∧ (v0 * 2) + v1 ≤ 2147483647) ∧ (-2147483648 ≤ ((v0 * 2) + v1) * 3 ∧ ((v0 * 2) + v1) * 3 ≤ 2147483647) ∧ (-2147483648 ≤ (((v0 * 2) + v1) * 3) + v2 ∧ (((v0 * 2) + v1) * 3) + v2 ≤ 2147483647) then
    some (((((v0 * 2) + v1) * 3) + v2), D)
  else none
theorem mX4_priceAt {l : Launch} {E : zE} {d : Nat} {F : zFs} {n sl : Nat} (hG : zG F) (v0 : Int) (v1 : Int) (v2 : Int) {D : zDa} : ∀ r, fX4_priceAt F  v0 v1 v2 D = some r → zMet l E (d + 0) YX4_priceAt [zI v0, zI v1, zI v2] (F, D, n, sl) (zcI F n sl r) := by
  intro r hr
  refine zMet_of (plainFor_of_name (by decide)) tvX4_priceAt (Nat.le_of_ble_eq_true rfl) ?_
  have hz : zO l E (d + 0) YX4_priceAt 0 [(0, zI v0), (1, zI v1), (2, zI v2)] [] (F, D, n, sl) (zcI F n sl) (fX4_priceAt F  v0 v1 v2 D) := by
    unfold fX4_priceAt
    refine zO_chk (fun h1 => ?_)
    refine zO_iload_n 0 rfl rfl ?_
    refine zO_iconst 1 rfl (by decide) ?_
    refine zO_imul 2 rfl h1.1 ?_
    refine zO_iload_n 3 rfl rfl ?_
    refine zO_iadd 4 rfl h1.2.1 ?_
    refine zO_iconst 5 rfl (by decide) ?_
    refine zO_imul 6 rfl h1.2.2.1 ?_
    refine zO_iload_n 7 rfl rfl ?_
    refine zO_iadd 8 rfl h1.2.2.2 ?_
    exact zO_ret (rv := some (zI ((((v0 * 2) + v1) * 3) + v2))) 9 rfl rfl rfl rfl
  exact hz r hr
def tX4_findFirst : List (Nat × Instr × Nat) := [(0, .aload_n 0, 1), (1, .getfield 44, 3), (4, .iload_n 1, 1), (5, .if_icmp .ne 4, 3), (8, .return_, 1), (9, .aload_n 0, 1), (10, .iload_n 1, 1), (11, .putfield 44, 3), (14, .aload_n 0, 1), (15, .iload_n 1, 1), (16, .invokevirtual 180, 3), (19, .aload_n 0, 1), (20, .getfield 47, 3), (23, .iconst (-1), 1), (24, .invokestatic 183, 3), (27, .aload_n 0, 1), (28, .getfield 50, 3), (31, .iconst 0, 1), (32, .invokestatic 189, 3), (35, .iconst 0, 1), (36, .istore_n 2, 1), (37, .iconst 0, 1), (38, .istore_n 3, 1), (39, .iconst 0, 1), (40, .istore 4, 2), (42, .iconst 0, 1), (43, .istore 5, 2), (45, .iconst 0, 1), (46, .istore 6, 2), (48, .iload 6, 2), (50, .aload_n 0, 1), (51, .getfield 84, 3), (54, .if_icmp .ge 156, 3), (57, .aload_n 0, 1), (58, .iload 6, 2), (60, .iload 4, 2), (62, .invokevirtual 134, 3), (65, .istore 7, 2), (67, .iconst 0, 1), (68, .istore 8, 2), (70, .aload_n 0, 1), (71, .iload 6, 2), (73, .iload 4, 2), (75, .iload_n 2, 1), (76, .iload_n 3, 1), (77, .iload 5, 2), (79, .invokevirtual 192, 3), (82, .ifCond .ne 57, 3), (85, .aload_n 0, 1), (86, .iload 6, 2), (88, .iload 4, 2), (90, .invokevirtual 137, 3), (93, .istore 4, 2), (95, .iconst 1, 1), (96, .istore 8, 2), (98, .iinc 2 1, 3), (101, .aload_n 0, 1), (102, .iload 6, 2), (104, .iload 4, 2), (106, .iload_n 2, 1), (107, .iload_n 3, 1), (108, .iload 5, 2), (110, .aload_n 0, 1), (111, .getfield 22, 3), (114, .iload 6, 2), (116, .iload 7, 2), (118, .iconst 1, 1), (119, .invokestatic 120, 3), (122, .iaload, 1), (123, .iadd, 1), (124, .invokevirtual 192, 3), (127, .ifCond .ne 12, 3), (130, .iconst 2, 1), (131, .istore 8, 2), (133, .iinc 2 (-1), 3), (136, .iinc 3 1, 3), (139, .iload 5, 2), (141, .iload 8, 2), (143, .ifCond .ne 7, 3), (146, .iconst 0, 1), (147, .goto 17, 3), (150, .aload_n 0, 1), (151, .getfield 22, 3), (154, .iload 6, 2), (156, .iload 7, 2), (158, .iload 8, 2), (160, .invokestatic 120, 3), (163, .iaload, 1), (164, .iadd, 1), (165, .istore 5, 2), (167, .aload_n 0, 1), (168, .getfield 47, 3), (171, .aload_n 0, 1), (172, .getfield 18, 3), (175, .iload 6, 2), (177, .iaload, 1), (178, .iload 8, 2), (180, .iastore, 1), (181, .aload_n 0, 1), (182, .getfield 50, 3), (185, .aload_n 0, 1), (186, .getfield 18, 3), (189, .iload 6, 2), (191, .iaload, 1), (192, .iload 7, 2), (194, .iconst 1, 1), (195, .if_icmp .ne 7, 3), (198, .iconst 1, 1), (199, .goto 4, 3), (202, .iconst 0, 1), (203, .bastore, 1), (204, .iinc 6 1, 3), (207, .goto (-159), 3), (210, .return_, 1)]
set_option maxRecDepth 100000 in
theorem tvX4_findFirst : ∀ q ∈ tX4_findFirst, decode cX4_findFirst q.1 = .ok q.2 := by decide +kernel
abbrev YX4_findFirst : zY := (yX4_findFirst, cX4_findFirst, 9, none, tX4_findFirst)
def fX4_findFirst_203 (F : zFs) (k_48 : Int → Int → Int → Int → Int → zDa → Option zDa) (v2 : Int) (v3 : Int) (v4 : Int) (v5 : Int) (v6 : Int) (s0 : Int) (s1 : Int) (D : zDa) : Option zDa :=
  if (0 ≤ s1 ∧ s1 < 20) ∧ (s0 = 0 ∨ s0 = 1) then
    zlet (zwr D 70 s1.toNat s0) (fun D_20 =>
      if (-2147483648 ≤ v6 + 1 ∧ v6 + 1 ≤ 2147483647) then
        k_48 v2 v3 v4 v5 (v6 + 1) D_20
      else none)
  else none
def fX4_findFirst_164 (F : zFs) (k_48 : Int → Int → Int → Int → Int → zDa → Option zDa) (v2 : Int) (v3 : Int) (v4 : Int) (v6 : Int) (v7 : Int) (v8 : Int) (s0 : Int) (s1 : Int) (D : zDa) : Option zDa :=
  if (-2147483648 ≤ s1 + s0 ∧ s1 + s0 ≤ 2147483647) then
    zlet ((s1 + s0)) (fun x5_18 =>
      if (0 ≤ v6 ∧ v6 < 20) ∧ (0 ≤ (D 61 v6.toNat) ∧ (D 61 v6.toNat) < 20) then
        zlet (zwr D 69 (D 61 v6.toNat).toNat v8) (fun D_19 =>
          if v7 = 1 then
            fX4_findFirst_203 F k_48 v2 v3 v4 x5_18 v6 1 (D_19 61 v6.toNat) D_19
          else
            fX4_findFirst_203 F k_48 v2 v3 v4 x5_18 v6 0 (D_19 61 v6.toNat) D_19)
      else none)
  else none
def fX4_findFirst_139 (F : zFs) (k_48 : Int → Int → Int → Int → Int → zDa → Option zDa) (v2 : Int) (v3 : Int) (v4 : Int) (v5 : Int) (v6 : Int) (v7 : Int) (v8 : Int) (D : zDa) : Option zDa :=
  if v8 = 0 then
    fX4_findFirst_164 F k_48 v2 v3 v4 v6 v7 v8 0 v5 D
  else
    (fX4_priceAt F v6 v7 v8 D).bind (fun (r_21, D_22) =>
      if (0 ≤ r_21 ∧ r_21 < 120) then
        fX4_findFirst_164 F k_48 v2 v3 v4 v6 v7 v8 (D_22 62 r_21.toNat) v5 D_22
      else none)
def fX4_findFirst_48 (F : zFs)   (k_48 : Int → Int → Int → Int → Int → zDa → Option zDa) (v2 : Int) (v3 : Int) (v4 : Int) (v5 : Int) (v6 : Int) (D : zDa) : Option zDa :=
  if v6 < (D 60 5) then
    (fX4_helpedBy F v6 v4 D).bind (fun (r_8, D_9) =>
      (fX4_canStillBe F v6 v4 v2 v3 v5 D_9).bind (fun (r_10, D_11) =>
        if r_10 = 0 then
          (fX4_kingsWith F v6 v4 D_11).bind (fun (r_12, D_13) =>
            if (-2147483648 ≤ v2 + 1 ∧ v2 + 1 ≤ 2147483647) then
              (fX4_priceAt F v6 r_8 1 D_13).bind (fun (r_14, D_15) =>
                if (0 ≤ r_14 ∧ r_14 < 120) ∧ (-2147483648 ≤ v5 + (D_15 62 r_14.toNat) ∧ v5 + (D_15 62 r_14.toNat) ≤ 2147483647) then
                  (fX4_canStillBe F v6 r_12 (v2 + 1) v3 (v5 + (D_15 62 r_14.toNat)) D_15).bind (fun (r_16, D_17) =>
                    if r_16 = 0 then
                      if (-2147483648 ≤ (v2 + 1) + (-1) ∧ (v2 + 1) + (-1) ≤ 2147483647) ∧ (-2147483648 ≤ v3 + 1 ∧ v3 + 1 ≤ 2147483647) then
                        fX4_findFirst_139 F k_48 ((v2 + 1) + (-1)) (v3 + 1) r_12 v5 v6 r_8 2 D_17
                      else none
                    else
                      fX4_findFirst_139 F k_48 (v2 + 1) v3 r_12 v5 v6 r_8 1 D_17)
                else none)
            else none)
        else
          fX4_findFirst_139 F k_48 v2 v3 v4 v5 v6 r_8 0 D_11))
  else
    some D
def fX4_findFirst (F : zFs) (v1 : Int) (D : zDa) : Option zDa :=
  if (D 60 14) = v1 then
    some D
  else
    zlet (zwr D 60 14 v1) (fun D_1 =>
      (fX4_choose F v1 D_1).bind (fun D_3 =>
        (fJ7_fill_53178 F 69 (-1) D_3).bind (fun D_5 =>
          (fJ7_fill_49daa F 70 0 D_5).bind (fun D_7 =>
            zfix (fun _ _ _ _ _ _ => none) (fX4_findFirst_48 F) zfu 0 0 0 0 0 D_7))))
theorem sX4_findFirst_203 {l : Launch} {E : zE} {d : Nat} {F : zFs} {n sl : Nat} (hG : zG F)  (k_48 : Int → Int → Int → Int → Int → zDa → Option zDa) (hk_48 : ∀ (u2 : Int) (u3 : Int) (u4 : Int) (u5 : Int) (u6 : Int) (D : zDa), zO l E (d + 3) YX4_findFirst 48 [(0, zR 60), (2, zI u2), (3, zI u3), (4, zI u4), (5, zI u5), (6, zI u6)] [] (F, D, n, sl) (zcV F n sl) (k_48 u2 u3 u4 u5 u6 D)) (v2 : Int) (v3 : Int) (v4 : Int) (v5 : Int) (v6 : Int) (s0 : Int) (s1 : Int) (D : zDa) : zO l E (d + 3) YX4_findFirst 203 [(0, zR 60), (2, zI v2), (3, zI v3), (4, zI v4), (5, zI v5), (6, zI v6)] [zI s0, zI s1, zR 70] (F, D, n, sl) (zcV F n sl) (fX4_findFirst_203 F k_48 v2 v3 v4 v5 v6 s0 s1 D) := by
  unfold fX4_findFirst_203
  refine zO_chk (fun h6 => ?_)
  refine zO_zast 110 rfl (gk_70 hG) (gl_in (gl_70 hG) h6.1) h6.2 ?_
  refine zO_letD (fun D_20 eD_20 => ?_)
  refine zO_chk (fun h7 => ?_)
  refine zO_iinc 111 rfl rfl h7 (by decide) ?_
  refine zO_goto (tgt := 48) 112 rfl rfl ?_
  refine zO_live [0, 2, 3, 4, 5, 6] ?_
  exact hk_48 v2 v3 v4 v5 (v6 + 1) D_20
theorem sX4_findFirst_164 {l : Launch} {E : zE} {d : Nat} {F : zFs} {n sl : Nat} (hG : zG F)  (k_48 : Int → Int → Int → Int → Int → zDa → Option zDa) (hk_48 : ∀ (u2 : Int) (u3 : Int) (u4 : Int) (u5 : Int) (u6 : Int) (D : zDa), zO l E (d + 3) YX4_findFirst 48 [(0, zR 60), (2, zI u2), (3, zI u3), (4, zI u4), (5, zI u5), (6, zI u6)] [] (F, D, n, sl) (zcV F n sl) (k_48 u2 u3 u4 u5 u6 D)) (v2 : Int) (v3 : Int) (v4 : Int) (v6 : Int) (v7 : Int) (v8 : Int) (s0 : Int) (s1 : Int) (D : zDa) : zO l E (d + 3) YX4_findFirst 164 [(0, zR 60), (2, zI v2), (3, zI v3), (4, zI v4), (6, zI v6), (7, zI v7), (8, zI v8)] [zI s0, zI s1] (F, D, n, sl) (zcV F n sl) (fX4_findFirst_164 F k_48 v2 v3 v4 v6 v7 v8 s0 s1 D) := by
  unfold fX4_findFirst_164
  refine zO_chk (fun h4 => ?_)
  refine zO_iadd 88 rfl h4 ?_
  refine zO_letI (fun x5_18 ex5_18 => ?_)
  refine zO_istore 89 rfl (by decide) ?_
  refine zO_chk (fun h5 => ?_)
  refine zO_aload_n 90 rfl rfl (zR_P _) ?_
  refine gt4 (k := 15) 91 rfl wF_X4_47 (by decide) (gk_60 hG) (zgv (c := 4) (k := 15) rfl (Or.inl ⟨_, rfl⟩) (gf_60_15 hG)) ?_
  refine zO_aload_n 92 rfl rfl (zR_P _) ?_
  refine gt4 (k := 6) 93 rfl wF_X4_18 (by decide) (gk_60 hG) (zgv (c := 4) (k := 6) rfl (Or.inl ⟨_, rfl⟩) (gf_60_6 hG)) ?_
  refine zO_iload 94 rfl rfl ?_
  refine zO_iald 95 rfl (gk_61 hG) (gl_in (gl_61 hG) h5.1) ?_
  refine zO_iload 96 rfl rfl ?_
  refine zO_iast 97 rfl (gk_69 hG) (gl_in (gl_69 hG) h5.2) ?_
  refine zO_letD (fun D_19 eD_19 => ?_)
  refine zO_aload_n 98 rfl rfl (zR_P _) ?_
  refine gt4 (k := 16) 99 rfl wF_X4_50 (by decide) (gk_60 hG) (zgv (c := 4) (k := 16) rfl (Or.inl ⟨_, rfl⟩) (gf_60_16 hG)) ?_
  refine zO_aload_n 100 rfl rfl (zR_P _) ?_
  refine gt4 (k := 6) 101 rfl wF_X4_18 (by decide) (gk_60 hG) (zgv (c := 4) (k := 6) rfl (Or.inl ⟨_, rfl⟩) (gf_60_6 hG)) ?_
  refine zO_iload 102 rfl rfl ?_
  refine zO_iald 103 rfl (gk_61 hG) (gl_in (gl_61 hG) h5.1) ?_
  refine zO_iload 104 rfl rfl ?_
  refine zO_iconst 105 rfl (by decide) ?_
  refine zO_icmp_ne (tgt := 202) 106 rfl rfl (fun c195 => ?_) (fun c195 => ?_)
  · refine zO_iconst 107 rfl (by decide) ?_
    refine zO_goto (tgt := 203) 108 rfl rfl ?_
    refine zO_live [0, 2, 3, 4, 5, 6] ?_
    exact sX4_findFirst_203 hG _ hk_48 v2 v3 v4 x5_18 v6 1 (D_19 61 v6.toNat) D_19
  · refine zO_iconst 109 rfl (by decide) ?_
    refine zO_live [0, 2, 3, 4, 5, 6] ?_
    exact sX4_findFirst_203 hG _ hk_48 v2 v3 v4 x5_18 v6 0 (D_19 61 v6.toNat) D_19
theorem sX4_findFirst_139 {l : Launch} {E : zE} {d : Nat} {F : zFs} {n sl : Nat} (hG : zG F)  (k_48 : Int → Int → Int → Int → Int → zDa → Option zDa) (hk_48 : ∀ (u2 : Int) (u3 : Int) (u4 : Int) (u5 : Int) (u6 : Int) (D : zDa), zO l E (d + 3) YX4_findFirst 48 [(0, zR 60), (2, zI u2), (3, zI u3), (4, zI u4), (5, zI u5), (6, zI u6)] [] (F, D, n, sl) (zcV F n sl) (k_48 u2 u3 u4 u5 u6 D)) (v2 : Int) (v3 : Int) (v4 : Int) (v5 : Int) (v6 : Int) (v7 : Int) (v8 : Int) (D : zDa) : zO l E (d + 3) YX4_findFirst 139 [(0, zR 60), (2, zI v2), (3, zI v3), (4, zI v4), (5, zI v5), (6, zI v6), (7, zI v7), (8, zI v8)] [] (F, D, n, sl) (zcV F n sl) (fX4_findFirst_139 F k_48 v2 v3 v4 v5 v6 v7 v8 D) := by
  unfold fX4_findFirst_139
  refine zO_iload 76 rfl rfl ?_
  refine zO_iload 77 rfl rfl ?_
  refine zO_if_ne (tgt := 150) 78 rfl rfl (fun c143 => ?_) (fun c143 => ?_)
  · refine zO_iconst 79 rfl (by decide) ?_
    refine zO_goto (tgt := 164) 80 rfl rfl ?_
    refine zO_live [0, 2, 3, 4, 6, 7, 8] ?_
    exact sX4_findFirst_164 hG _ hk_48 v2 v3 v4 v6 v7 v8 0 v5 D
  · refine zO_aload_n 81 rfl rfl (zR_P _) ?_
    refine gt4 (k := 7) 82 rfl wF_X4_22 (by decide) (gk_60 hG) (zgv (c := 4) (k := 7) rfl (Or.inl ⟨_, rfl⟩) (gf_60_7 hG)) ?_
    refine zO_iload 83 rfl rfl ?_
    refine zO_iload 84 rfl rfl ?_
    refine zO_iload 85 rfl rfl ?_
    refine zO_callS (Y' := YX4_priceAt) (cw := zcI F n sl) (as := [zI v6, zI v7, zI v8]) (rest := [zR 62, zI v5]) (na := 3) 86 rfl wC_X4_priceAt wN_X4 wM_X4_120 wS_X4_priceAt (by decide) (by decide) rfl rfl (Nat.le_of_ble_eq_true rfl) (fun r hr => mX4_priceAt (d := d + 2) hG v6 v7 v8 r hr) ?_
    rintro ⟨r_21, D_22⟩ -
    show zO _ _ _ _ _ _ [zI r_21, zR 62, zI v5] (F, D_22, n, sl) _ _
    refine zO_chk (fun h8 => ?_)
    refine zO_iald 87 rfl (gk_62 hG) (gl_in (gl_62 hG) h8) ?_
    refine zO_live [0, 2, 3, 4, 6, 7, 8] ?_
    exact sX4_findFirst_164 hG _ hk_48 v2 v3 v4 v6 v7 v8 (D_22 62 r_21.toNat) v5 D_22
theorem sX4_findFirst_48 {l : Launch} {E : zE} {d : Nat} {F : zFs} {n sl : Nat} (hG : zG F)     : ∀ (N : Nat) (v2 : Int) (v3 : Int) (v4 : Int) (v5 : Int) (v6 : Int) (D : zDa), zO l E (d + 3) YX4_findFirst 48 [(0, zR 60), (2, zI v2), (3, zI v3), (4, zI v4), (5, zI v5), (6, zI v6)] [] (F, D, n, sl) (zcV F n sl) (zfix (fun _ _ _ _ _ _ => none) (fX4_findFirst_48 F) N v2 v3 v4 v5 v6 D) := by
  intro N
  induction N with
  | zero => intro v2 v3 v4 v5 v6 D; exact zO_none
  | succ N hk_48 =>
    intro v2 v3 v4 v5 v6 D
    show zO _ _ _ _ _ _ _ _ _ ((fX4_findFirst_48 F) (zfix (fun _ _ _ _ _ _ => none) (fX4_findFirst_48 F) N) v2 v3 v4 v5 v6 D)
    unfold fX4_findFirst_48
    refine zO_iload 29 rfl rfl ?_
    refine zO_aload_n 30 rfl rfl (zR_P _) ?_
    refine gt4 (k := 5) (v := zI (D 60 5)) 31 rfl wF_X4_84 (by decide) (gk_60 hG) rfl ?_
    refine zO_icmp_ge (tgt := 210) 32 rfl rfl (fun c54 => ?_) (fun c54 => ?_)
    · refine zO_aload_n 33 rfl rfl (zR_P _) ?_
      refine zO_iload 34 rfl rfl ?_
      refine zO_iload 35 rfl rfl ?_
      refine zO_callV (Y' := YX4_helpedBy) (cw := zcI F n sl) (as := [zI v6, zI v4]) (rest := []) (na := 2) (ci := 4) rfl 36 rfl wC_X4_helpedBy wN_X4 wM_X4_134 wI_X4_helpedBy wV_X4_helpedBy (by decide) (by decide) rfl rfl (Nat.le_of_ble_eq_true rfl) rfl (by decide) (gk_60 hG) (fun r hr => mX4_helpedBy (d := d + 2) hG v6 v4 r hr) ?_
      rintro ⟨r_8, D_9⟩ -
      show zO _ _ _ _ _ _ [zI r_8] (F, D_9, n, sl) _ _
      refine zO_istore 37 rfl (by decide) ?_
      refine zO_iconst 38 rfl (by decide) ?_
      refine zO_istore 39 rfl (by decide) ?_
      refine zO_aload_n 40 rfl rfl (zR_P _) ?_
      refine zO_iload 41 rfl rfl ?_
      refine zO_iload 42 rfl rfl ?_
      refine zO_iload_n 43 rfl rfl ?_
      refine zO_iload_n 44 rfl rfl ?_
      refine zO_iload 45 rfl rfl ?_
      refine zO_callV (Y' := YX4_canStillBe) (cw := zcI F n sl) (as := [zI v6, zI v4, zI v2, zI v3, zI v5]) (rest := []) (na := 5) (ci := 4) rfl 46 rfl wC_X4_canStillBe wN_X4 wM_X4_192 wI_X4_canStillBe wV_X4_canStillBe (by decide) (by decide) rfl rfl (Nat.le_of_ble_eq_true rfl) rfl (by decide) (gk_60 hG) (fun r hr => mX4_canStillBe (d := d + 0) hG v6 v4 v2 v3 v5 r hr) ?_
      rintro ⟨r_10, D_11⟩ -
      show zO _ _ _ _ _ _ [zI r_10] (F, D_11, n, sl) _ _
      refine zO_if_ne (tgt := 139) 47 rfl rfl (fun c82 => ?_) (fun c82 => ?_)
      · refine zO_aload_n 48 rfl rfl (zR_P _) ?_
        refine zO_iload 49 rfl rfl ?_
        refine zO_iload 50 rfl rfl ?_
        refine zO_callV (Y' := YX4_kingsWith) (cw := zcI F n sl) (as := [zI v6, zI v4]) (rest := []) (na := 2) (ci := 4) rfl 51 rfl wC_X4_kingsWith wN_X4 wM_X4_137 wI_X4_kingsWith wV_X4_kingsWith (by decide) (by decide) rfl rfl (Nat.le_of_ble_eq_true rfl) rfl (by decide) (gk_60 hG) (fun r hr => mX4_kingsWith (d := d + 2) hG v6 v4 r hr) ?_
        rintro ⟨r_12, D_13⟩ -
        show zO _ _ _ _ _ _ [zI r_12] (F, D_13, n, sl) _ _
        refine zO_chk (fun h1 => ?_)
        refine zO_istore 52 rfl (by decide) ?_
        refine zO_iconst 53 rfl (by decide) ?_
        refine zO_istore 54 rfl (by decide) ?_
        refine zO_iinc 55 rfl rfl h1 (by decide) ?_
        refine zO_aload_n 56 rfl rfl (zR_P _) ?_
        refine zO_iload 57 rfl rfl ?_
        refine zO_iload 58 rfl rfl ?_
        refine zO_iload_n 59 rfl rfl ?_
        refine zO_iload_n 60 rfl rfl ?_
        refine zO_iload 61 rfl rfl ?_
        refine zO_aload_n 62 rfl rfl (zR_P _) ?_
        refine gt4 (k := 7) 63 rfl wF_X4_22 (by decide) (gk_60 hG) (zgv (c := 4) (k := 7) rfl (Or.inl ⟨_, rfl⟩) (gf_60_7 hG)) ?_
        refine zO_iload 64 rfl rfl ?_
        refine zO_iload 65 rfl rfl ?_
        refine zO_iconst 66 rfl (by decide) ?_
        refine zO_callS (Y' := YX4_priceAt) (cw := zcI F n sl) (as := [zI v6, zI r_8, zI 1]) (rest := [zR 62, zI v5, zI v3, zI (v2 + 1), zI r_12, zI v6, zR 60]) (na := 3) 67 rfl wC_X4_priceAt wN_X4 wM_X4_120 wS_X4_priceAt (by decide) (by decide) rfl rfl (Nat.le_of_ble_eq_true rfl) (fun r hr => mX4_priceAt (d := d + 2) hG v6 r_8 1 r hr) ?_
        rintro ⟨r_14, D_15⟩ -
        show zO _ _ _ _ _ _ [zI r_14, zR 62, zI v5, zI v3, zI (v2 + 1), zI r_12, zI v6, zR 60] (F, D_15, n, sl) _ _
        refine zO_chk (fun h2 => ?_)
        refine zO_iald 68 rfl (gk_62 hG) (gl_in (gl_62 hG) h2.1) ?_
        refine zO_iadd 69 rfl h2.2 ?_
        refine zO_callV (Y' := YX4_canStillBe) (cw := zcI F n sl) (as := [zI v6, zI r_12, zI (v2 + 1), zI v3, zI (v5 + (D_15 62 r_14.toNat))]) (rest := []) (na := 5) (ci := 4) rfl 70 rfl wC_X4_canStillBe wN_X4 wM_X4_192 wI_X4_canStillBe wV_X4_canStillBe (by decide) (by decide) rfl rfl (Nat.le_of_ble_eq_true rfl) rfl (by decide) (gk_60 hG) (fun r hr => mX4_canStillBe (d := d + 0) hG v6 r_12 (v2 + 1) v3 (v5 + (D_15 62 r_14.toNat)) r hr) ?_
        rintro ⟨r_16, D_17⟩ -
        show zO _ _ _ _ _ _ [zI r_16] (F, D_17, n, sl) _ _
        refine zO_if_ne (tgt := 139) 71 rfl rfl (fun c127 => ?_) (fun c127 => ?_)
        · refine zO_chk (fun h3 => ?_)
          refine zO_iconst 72 rfl (by decide) ?_
          refine zO_istore 73 rfl (by decide) ?_
          refine zO_iinc 74 rfl rfl h3.1 (by decide) ?_
          refine zO_iinc 75 rfl rfl h3.2 (by decide) ?_
          refine zO_live [0, 2, 3, 4, 5, 6, 7, 8] ?_
          exact sX4_findFirst_139 hG _ hk_48 ((v2 + 1) + (-1)) (v3 + 1) r_12 v5 v6 r_8 2 D_17
        · refine zO_live [0, 2, 3, 4, 5, 6, 7, 8] ?_
          exact sX4_findFirst_139 hG _ hk_48 (v2 + 1) v3 r_12 v5 v6 r_8 1 D_17
      · refine zO_live [0, 2, 3, 4, 5, 6, 7, 8] ?_
        exact sX4_findFirst_139 hG _ hk_48 v2 v3 v4 v5 v6 r_8 0 D_11
    · exact zO_ret (rv := none) 113 rfl rfl trivial rfl
theorem mX4_findFirst {l : Launch} {E : zE} {d : Nat} {F : zFs} {n sl : Nat} (hG : zG F) (v1 : Int) {D : zDa} : ∀ r, fX4_findFirst F  v1 D = some r → zMet l E (d + 3) YX4_findFirst [zR 60, zI v1] (F, D, n, sl) (zcV F n sl r) := by
  intro r hr
  refine zMet_of (plainFor_of_name (by decide)) tvX4_findFirst (Nat.le_of_ble_eq_true rfl) ?_
  have hz : zO l E (d + 3) YX4_findFirst 0 [(0, zR 60), (1, zI v1)] [] (F, D, n, sl) (zcV F n sl) (fX4_findFirst F  v1 D) := by
    unfold fX4_findFirst
    refine zO_aload_n 0 rfl rfl (zR_P _) ?_
    refine gt4 (k := 14) (v := zI (D 60 14)) 1 rfl wF_X4_44 (by decide) (gk_60 hG) rfl ?_
    refine zO_iload_n 2 rfl rfl ?_
    refine zO_icmp_ne (tgt := 9) 3 rfl rfl (fun c5 => ?_) (fun c5 => ?_)
    · exact zO_ret (rv := none) 4 rfl rfl trivial rfl
    · refine zO_aload_n 5 rfl rfl (zR_P _) ?_
      refine zO_iload_n 6 rfl rfl ?_
      refine ptI4 (k := 14) (z := v1) 7 rfl wF_X4_44 (by decide) rfl (gk_60 hG) rfl ?_
      refine zO_letD (fun D_1 eD_1 => ?_)
      refine zO_aload_n 8 rfl rfl (zR_P _) ?_
      refine zO_iload_n 9 rfl rfl ?_
      refine zO_callV (Y' := YX4_choose) (cw := zcV F n sl) (as := [zI v1]) (rest := []) (na := 1) (ci := 4) rfl 10 rfl wC_X4_choose wN_X4 wM_X4_180 wI_X4_choose wV_X4_choose (by decide) (by decide) rfl rfl (Nat.le_of_ble_eq_true rfl) rfl (by decide) (gk_60 hG) (fun r hr => mX4_choose (d := d + 1) hG v1 r hr) ?_
      intro D_3 _
      show zO _ _ _ _ _ _ [] (F, D_3, n, sl) _ _
      refine zO_aload_n 11 rfl rfl (zR_P _) ?_
      refine gt4 (k := 15) 12 rfl wF_X4_47 (by decide) (gk_60 hG) (zgv (c := 4) (k := 15) rfl (Or.inl ⟨_, rfl⟩) (gf_60_15 hG)) ?_
      refine zO_iconst 13 rfl (by decide) ?_
      refine zO_callS (Y' := YJ7_fill_53178) (cw := zcV F n sl) (as := [zR 69, zI (-1)]) (rest := []) (na := 2) 14 rfl wC_J7_fill_53178 wN_J7 wM_X4_183 wS_J7_fill_53178 (by decide) (by decide) rfl rfl (Nat.le_of_ble_eq_true rfl) (fun r hr => mJ7_fill_53178 (d := d + 2) hG 69 (-1) r hr) ?_
      intro D_5 _
      show zO _ _ _ _ _ _ [] (F, D_5, n, sl) _ _
      refine zO_aload_n 15 rfl rfl (zR_P _) ?_
      refine gt4 (k := 16) 16 rfl wF_X4_50 (by decide) (gk_60 hG) (zgv (c := 4) (k := 16) rfl (Or.inl ⟨_, rfl⟩) (gf_60_16 hG)) ?_
      refine zO_iconst 17 rfl (by decide) ?_
      refine zO_callS (Y' := YJ7_fill_49daa) (cw := zcV F n sl) (as := [zR 70, zI 0]) (rest := []) (na := 2) 18 rfl wC_J7_fill_49daa wN_J7 wM_X4_189 wS_J7_fill_49daa (by decide) (by decide) rfl rfl (Nat.le_of_ble_eq_true rfl) (fun r hr => mJ7_fill_49daa (d := d + 2) hG 70 0 r hr) ?_
      intro D_7 _
      show zO _ _ _ _ _ _ [] (F, D_7, n, sl) _ _
      refine zO_iconst 19 rfl (by decide) ?_
      refine zO_istore_n 20 rfl (by decide) ?_
      refine zO_iconst 21 rfl (by decide) ?_
      refine zO_istore_n 22 rfl (by decide) ?_
      refine zO_iconst 23 rfl (by decide) ?_
      refine zO_istore 24 rfl (by decide) ?_
      refine zO_iconst 25 rfl (by decide) ?_
      refine zO_istore 26 rfl (by decide) ?_
      refine zO_iconst 27 rfl (by decide) ?_
      refine zO_istore 28 rfl (by decide) ?_
      refine zO_live [0, 2, 3, 4, 5, 6] ?_
      exact sX4_findFirst_48 hG zfu 0 0 0 0 0 D_7
  exact hz r hr
def tX9_has : List (Nat × Instr × Nat) := [(0, .iload_n 1, 1), (1, .ifCond .lt 15, 3), (4, .iload_n 1, 1), (5, .aload_n 0, 1), (6, .getfield 66, 3), (9, .if_icmp .ge 7, 3), (12, .iconst 1, 1), (13, .goto 4, 3), (16, .iconst 0, 1), (17, .ireturn, 1)]
set_option maxRecDepth 100000 in
theorem tvX9_has : ∀ q ∈ tX9_has, decode cX9_has q.1 = .ok q.2 := by decide +kernel
abbrev YX9_has : zY := (yX9_has, cX9_has, 2, (Option.some Jvm.ClassFile.FieldType.boolean), tX9_has)
def fX9_has (F : zFs) (v1 : Int) (D : zDa) : Option (Int × zDa) :=
  if v1 < 0 then
    some (0, D)
  else
    if v1 < (D 1 5) then
      some (1, D)
    else
      some (0, D)
theorem mX9_has {l : Launch} {E : zE} {d : Nat} {F : zFs} {n sl : Nat} (hG : zG F) (v1 : Int) {D : zDa} : ∀ r, fX9_has F  v1 D = some r → zMet l E (d + 0) YX9_has [zR 1, zI v1] (F, D, n, sl) (zcI F n sl r) := by
  intro r hr
  refine zMet_of (plainFor_of_name (by decide)) tvX9_has (Nat.le_of_ble_eq_true rfl) ?_
  have hz : zO l E (d + 0) YX9_has 0 [(0, zR 1), (1, zI v1)] [] (F, D, n, sl) (zcI F n sl) (fX9_has F  v1 D) := by
    unfold fX9_has
    refine zO_iload_n 0 rfl rfl ?_
    refine zO_if_lt (tgt := 16) 1 rfl rfl (fun c1 => ?_) (fun c1 => ?_)
    · refine zO_iconst 8 rfl (by decide) ?_
      exact zO_ret (rv := some (zI 0)) 9 rfl rfl rfl rfl
    · refine zO_iload_n 2 rfl rfl ?_
      refine zO_aload_n 3 rfl rfl (zR_P _) ?_
      refine gt9 (k := 5) (v := zI (D 1 5)) 4 rfl wF_X9_66 (by decide) (gk_1 hG) rfl ?_
      refine zO_icmp_ge (tgt := 16) 5 rfl rfl (fun c9 => ?_) (fun c9 => ?_)
      · refine zO_iconst 6 rfl (by decide) ?_
        refine zO_goto (tgt := 17) 7 rfl rfl ?_
        exact zO_ret (rv := some (zI 1)) 9 rfl rfl rfl rfl
      · refine zO_iconst 8 rfl (by decide) ?_
        exact zO_ret (rv := some (zI 0)) 9 rfl rfl rfl rfl
  exact hz r hr
def tX10_ask : List (Nat × Instr × Nat) := [(0, .aload_n 0, 1), (1, .getfield 11, 3), (4, .iconst 0, 1), (5, .invokestatic 33, 3), (8, .aload_n 0, 1), (9, .getfield 11, 3), (12, .iconst 2, 1), (13, .iload_n 2, 1), (14, .iastore, 1), (15, .aload_n 0, 1), (16, .getfield 21, 3), (19, .iload_n 1, 1), (20, .invokevirtual 39, 3), (23, .ifCond .eq 56, 3), (26, .aload_n 0, 1), (27, .getfield 11, 3), (30, .iconst 0, 1), (31, .aload_n 0, 1), (32, .getfield 21, 3), (35, .getfield 45, 3), (38, .iload_n 1, 1), (39, .iaload, 1), (40, .iastore, 1), (41, .aload_n 0, 1), (42, .getfield 11, 3), (45, .iconst 1, 1), (46, .aload_n 0, 1), (47, .getfield 21, 3), (50, .getfield 48, 3), (53, .iload_n 1, 1), (54, .iaload, 1), (55, .iastore, 1), (56, .aload_n 0, 1), (57, .getfield 11, 3), (60, .iconst 4, 1), (61, .aload_n 0, 1), (62, .getfield 21, 3), (65, .getfield 51, 3), (68, .iload_n 1, 1), (69, .iaload, 1), (70, .iastore, 1), (71, .aload_n 0, 1), (72, .getfield 11, 3), (75, .bipush 6, 2), (77, .iload_n 1, 1), (78, .iastore, 1), (79, .return_, 1)]
set_option maxRecDepth 100000 in
theorem tvX10_ask : ∀ q ∈ tX10_ask, decode cX10_ask q.1 = .ok q.2 := by decide +kernel
abbrev YX10_ask : zY := (yX10_ask, cX10_ask, 3, none, tX10_ask)
def fX10_ask (F : zFs) (v1 : Int) (v2 : Int) (D : zDa) : Option zDa :=
  (fJ7_fill_53178 F 50 0 D).bind (fun D_2 =>
    zlet (zwr D_2 50 2 v2) (fun D_3 =>
      (fX9_has F v1 D_3).bind (fun (r_4, D_5) =>
        if r_4 = 0 then
          some D_5
        else
          if (0 ≤ v1 ∧ v1 < 20) then
            zlet (zwr D_5 50 0 (D_5 2 v1.toNat)) (fun D_6 =>
              zlet (zwr D_6 50 1 (D_6 3 v1.toNat)) (fun D_7 =>
                zlet (zwr D_7 50 4 (D_7 5 v1.toNat)) (fun D_8 =>
                  zlet (zwr D_8 50 6 v1) (fun D_9 =>
                    some D_9))))
          else none)))
theorem mX10_ask {l : Launch} {E : zE} {d : Nat} {F : zFs} {n sl : Nat} (hG : zG F) (v1 : Int) (v2 : Int) {D : zDa} : ∀ r, fX10_ask F  v1 v2 D = some r → zMet l E (d + 1) YX10_ask [zR 49, zI v1, zI v2] (F, D, n, sl) (zcV F n sl r) := by
  intro r hr
  refine zMet_of (plainFor_of_name (by decide)) tvX10_ask (Nat.le_of_ble_eq_true rfl) ?_
  have hz : zO l E (d + 1) YX10_ask 0 [(0, zR 49), (1, zI v1), (2, zI v2)] [] (F, D, n, sl) (zcV F n sl) (fX10_ask F  v1 v2 D) := by
    unfold fX10_ask
    refine zO_aload_n 0 rfl rfl (zR_P _) ?_
    refine gt10 (k := 1) 1 rfl wF_X10_11 (by decide) (gk_49 hG) (zgv (c := 10) (k := 1) rfl (Or.inl ⟨_, rfl⟩) (gf_49_1 hG)) ?_
    refine zO_iconst 2 rfl (by decide) ?_
    refine zO_callS (Y' := YJ7_fill_53178) (cw := zcV F n sl) (as := [zR 50, zI 0]) (rest := []) (na := 2) 3 rfl wC_J7_fill_53178 wN_J7 wM_X10_33 wS_J7_fill_53178 (by decide) (by decide) rfl rfl (Nat.le_of_ble_eq_true rfl) (fun r hr => mJ7_fill_53178 (d := d + 0) hG 50 0 r hr) ?_
    intro D_2 _
    show zO _ _ _ _ _ _ [] (F, D_2, n, sl) _ _
    refine zO_aload_n 4 rfl rfl (zR_P _) ?_
    refine gt10 (k := 1) 5 rfl wF_X10_11 (by decide) (gk_49 hG) (zgv (c := 10) (k := 1) rfl (Or.inl ⟨_, rfl⟩) (gf_49_1 hG)) ?_
    refine zO_iconst 6 rfl (by decide) ?_
    refine zO_iload_n 7 rfl rfl ?_
    refine zO_iast 8 rfl (gk_50 hG) (gl_in (gl_50 hG) (by decide)) ?_
    refine zO_letD (fun D_3 eD_3 => ?_)
    refine zO_aload_n 9 rfl rfl (zR_P _) ?_
    refine gt10 (k := 0) 10 rfl wF_X10_21 (by decide) (gk_49 hG) (zgv (c := 10) (k := 0) rfl (Or.inr ⟨_, rfl⟩) (gf_49_0 hG)) ?_
    refine zO_iload_n 11 rfl rfl ?_
    refine zO_callV (Y' := YX9_has) (cw := zcI F n sl) (as := [zI v1]) (rest := []) (na := 1) (ci := 9) rfl 12 rfl wC_X9_has wN_X9 wM_X10_39 wI_X9_has wV_X9_has (by decide) (by decide) rfl rfl (Nat.le_of_ble_eq_true rfl) rfl (by decide) (gk_1 hG) (fun r hr => mX9_has (d := d + 0) hG v1 r hr) ?_
    rintro ⟨r_4, D_5⟩ -
    show zO _ _ _ _ _ _ [zI r_4] (F, D_5, n, sl) _ _
    refine zO_if_eq (tgt := 79) 13 rfl rfl (fun c23 => ?_) (fun c23 => ?_)
    · exact zO_ret (rv := none) 46 rfl rfl trivial rfl
    · refine zO_chk (fun h1 => ?_)
      refine zO_aload_n 14 rfl rfl (zR_P _) ?_
      refine gt10 (k := 1) 15 rfl wF_X10_11 (by decide) (gk_49 hG) (zgv (c := 10) (k := 1) rfl (Or.inl ⟨_, rfl⟩) (gf_49_1 hG)) ?_
      refine zO_iconst 16 rfl (by decide) ?_
      refine zO_aload_n 17 rfl rfl (zR_P _) ?_
      refine gt10 (k := 0) 18 rfl wF_X10_21 (by decide) (gk_49 hG) (zgv (c := 10) (k := 0) rfl (Or.inr ⟨_, rfl⟩) (gf_49_0 hG)) ?_
      refine gt9 (k := 0) 19 rfl wF_X10_45 (by decide) (gk_1 hG) (zgv (c := 9) (k := 0) rfl (Or.inl ⟨_, rfl⟩) (gf_1_0 hG)) ?_
      refine zO_iload_n 20 rfl rfl ?_
      refine zO_iald 21 rfl (gk_2 hG) (gl_in (gl_2 hG) h1) ?_
      refine zO_iast 22 rfl (gk_50 hG) (gl_in (gl_50 hG) (by decide)) ?_
      refine zO_letD (fun D_6 eD_6 => ?_)
      refine zO_aload_n 23 rfl rfl (zR_P _) ?_
      refine gt10 (k := 1) 24 rfl wF_X10_11 (by decide) (gk_49 hG) (zgv (c := 10) (k := 1) rfl (Or.inl ⟨_, rfl⟩) (gf_49_1 hG)) ?_
      refine zO_iconst 25 rfl (by decide) ?_
      refine zO_aload_n 26 rfl rfl (zR_P _) ?_
      refine gt10 (k := 0) 27 rfl wF_X10_21 (by decide) (gk_49 hG) (zgv (c := 10) (k := 0) rfl (Or.inr ⟨_, rfl⟩) (gf_49_0 hG)) ?_
      refine gt9 (k := 1) 28 rfl wF_X10_48 (by decide) (gk_1 hG) (zgv (c := 9) (k := 1) rfl (Or.inl ⟨_, rfl⟩) (gf_1_1 hG)) ?_
      refine zO_iload_n 29 rfl rfl ?_
      refine zO_iald 30 rfl (gk_3 hG) (gl_in (gl_3 hG) h1) ?_
      refine zO_iast 31 rfl (gk_50 hG) (gl_in (gl_50 hG) (by decide)) ?_
      refine zO_letD (fun D_7 eD_7 => ?_)
      refine zO_aload_n 32 rfl rfl (zR_P _) ?_
      refine gt10 (k := 1) 33 rfl wF_X10_11 (by decide) (gk_49 hG) (zgv (c := 10) (k := 1) rfl (Or.inl ⟨_, rfl⟩) (gf_49_1 hG)) ?_
      refine zO_iconst 34 rfl (by decide) ?_
      refine zO_aload_n 35 rfl rfl (zR_P _) ?_
      refine gt10 (k := 0) 36 rfl wF_X10_21 (by decide) (gk_49 hG) (zgv (c := 10) (k := 0) rfl (Or.inr ⟨_, rfl⟩) (gf_49_0 hG)) ?_
      refine gt9 (k := 3) 37 rfl wF_X10_51 (by decide) (gk_1 hG) (zgv (c := 9) (k := 3) rfl (Or.inl ⟨_, rfl⟩) (gf_1_3 hG)) ?_
      refine zO_iload_n 38 rfl rfl ?_
      refine zO_iald 39 rfl (gk_5 hG) (gl_in (gl_5 hG) h1) ?_
      refine zO_iast 40 rfl (gk_50 hG) (gl_in (gl_50 hG) (by decide)) ?_
      refine zO_letD (fun D_8 eD_8 => ?_)
      refine zO_aload_n 41 rfl rfl (zR_P _) ?_
      refine gt10 (k := 1) 42 rfl wF_X10_11 (by decide) (gk_49 hG) (zgv (c := 10) (k := 1) rfl (Or.inl ⟨_, rfl⟩) (gf_49_1 hG)) ?_
      refine zO_bipush 43 rfl (by decide) ?_
      refine zO_iload_n 44 rfl rfl ?_
      refine zO_iast 45 rfl (gk_50 hG) (gl_in (gl_50 hG) (by decide)) ?_
      refine zO_letD (fun D_9 eD_9 => ?_)
      exact zO_ret (rv := none) 46 rfl rfl trivial rfl
  exact hz r hr
def tX9_paperInUse : List (Nat × Instr × Nat) := [(0, .aload_n 0, 1), (1, .getfield 44, 3), (4, .ifCond .lt 14, 3), (7, .aload_n 0, 1), (8, .getfield 44, 3), (11, .aload_n 0, 1), (12, .getfield 69, 3), (15, .if_icmp .lt 7, 3), (18, .aconst_null, 1), (19, .goto 12, 3), (22, .aload_n 0, 1), (23, .getfield 40, 3), (26, .aload_n 0, 1), (27, .getfield 44, 3), (30, .aaload, 1), (31, .areturn, 1)]
set_option maxRecDepth 100000 in
theorem tvX9_paperInUse : ∀ q ∈ tX9_paperInUse, decode cX9_paperInUse q.1 = .ok q.2 := by decide +kernel
abbrev YX9_paperInUse : zY := (yX9_paperInUse, cX9_paperInUse, 1, (Option.some (Jvm.ClassFile.FieldType.object "ExamSlips$Paper")), tX9_paperInUse)
def fX9_paperInUse (F : zFs)  (D : zDa) : Option (Int × zDa) :=
  if (D 1 9) < 0 then
    some ((-1), D)
  else
    if (D 1 9) < (D 1 8) then
      if (0 ≤ (D 1 9) ∧ (D 1 9) < 6) then
        some ((D 8 (D 1 9).toNat), D)
      else none
    else
      some ((-1), D)
theorem mX9_paperInUse {l : Launch} {E : zE} {d : Nat} {F : zFs} {n sl : Nat} (hG : zG F)  {D : zDa} : ∀ r, fX9_paperInUse F   D = some r → zMet l E (d + 0) YX9_paperInUse [zR 1] (F, D, n, sl) (zcQ F n sl r) := by
  intro r hr
  refine zMet_of (plainFor_of_name (by decide)) tvX9_paperInUse (Nat.le_of_ble_eq_true rfl) ?_
  have hz : zO l E (d + 0) YX9_paperInUse 0 [(0, zR 1)] [] (F, D, n, sl) (zcQ F n sl) (fX9_paperInUse F   D) := by
    unfold fX9_paperInUse
    refine zO_aload_n 0 rfl rfl (zR_P _) ?_
    refine gt9 (k := 9) (v := zI (D 1 9)) 1 rfl wF_X9_44 (by decide) (gk_1 hG) rfl ?_
    refine zO_if_lt (tgt := 18) 2 rfl rfl (fun c4 => ?_) (fun c4 => ?_)
    · refine zO_null 8 rfl ?_
      refine zO_goto (tgt := 31) 9 rfl rfl ?_
      refine zO_st (st' := [zq (-1)]) (by first | rfl | exact congrArg (fun v => [v]) (zq_nat _).symm) ?_
      exact zO_retQ 15 rfl (zretok_q _ (by first | exact Or.inl ⟨_, rfl⟩ | exact Or.inr ⟨_, rfl⟩)) rfl
    · refine zO_aload_n 3 rfl rfl (zR_P _) ?_
      refine gt9 (k := 9) (v := zI (D 1 9)) 4 rfl wF_X9_44 (by decide) (gk_1 hG) rfl ?_
      refine zO_aload_n 5 rfl rfl (zR_P _) ?_
      refine gt9 (k := 8) (v := zI (D 1 8)) 6 rfl wF_X9_69 (by decide) (gk_1 hG) rfl ?_
      refine zO_icmp_lt (tgt := 22) 7 rfl rfl (fun c15 => ?_) (fun c15 => ?_)
      · refine zO_chk (fun h1 => ?_)
        refine zO_aload_n 10 rfl rfl (zR_P _) ?_
        refine gt9 (k := 7) 11 rfl wF_X9_40 (by decide) (gk_1 hG) (zgv (c := 9) (k := 7) rfl (Or.inl ⟨_, rfl⟩) (gf_1_7 hG)) ?_
        refine zO_aload_n 12 rfl rfl (zR_P _) ?_
        refine gt9 (k := 9) (v := zI (D 1 9)) 13 rfl wF_X9_44 (by decide) (gk_1 hG) rfl ?_
        refine zO_aald (kd := 25) 14 rfl (gk_8 hG) (by decide) (gl_in (gl_8 hG) h1) ?_
        exact zO_retQ 15 rfl (zretok_q _ (by first | exact Or.inl ⟨_, rfl⟩ | exact Or.inr ⟨_, rfl⟩)) rfl
      · refine zO_null 8 rfl ?_
        refine zO_goto (tgt := 31) 9 rfl rfl ?_
        refine zO_st (st' := [zq (-1)]) (by first | rfl | exact congrArg (fun v => [v]) (zq_nat _).symm) ?_
        exact zO_retQ 15 rfl (zretok_q _ (by first | exact Or.inl ⟨_, rfl⟩ | exact Or.inr ⟨_, rfl⟩)) rfl
  exact hz r hr
def tX10_push : List (Nat × Instr × Nat) := [(0, .aload_n 0, 1), (1, .getfield 81, 3), (4, .ifCond .lt 36, 3), (7, .aload_n 0, 1), (8, .getfield 81, 3), (11, .aload_n 0, 1), (12, .getfield 17, 3), (15, .arraylength, 1), (16, .if_icmp .ge 24, 3), (19, .aload_n 0, 1), (20, .getfield 17, 3), (23, .aload_n 0, 1), (24, .getfield 81, 3), (27, .iload_n 1, 1), (28, .i2l, 1), (29, .lastore, 1), (30, .aload_n 0, 1), (31, .dup, 1), (32, .getfield 81, 3), (35, .iconst 1, 1), (36, .iadd, 1), (37, .putfield 81, 3), (40, .return_, 1)]
set_option maxRecDepth 100000 in
theorem tvX10_push : ∀ q ∈ tX10_push, decode cX10_push q.1 = .ok q.2 := by decide +kernel
abbrev YX10_push : zY := (yX10_push, cX10_push, 2, none, tX10_push)
def fX10_push (F : zFs) (v1 : Int) (D : zDa) : Option zDa :=
  if (D 49 3) < 0 then
    some D
  else
    if (D 49 3) < 52 then
      if (0 ≤ (D 49 3) ∧ (D 49 3) < 52) then
        zlet (zwr D 51 (D 49 3).toNat v1) (fun D_1 =>
          if (-2147483648 ≤ (D_1 49 3) + 1 ∧ (D_1 49 3) + 1 ≤ 2147483647) then
            zlet (zwr D_1 49 3 ((D_1 49 3) + 1)) (fun D_2 =>
              some D_2)
          else none)
      else none
    else
      some D
theorem mX10_push {l : Launch} {E : zE} {d : Nat} {F : zFs} {n sl : Nat} (hG : zG F) (v1 : Int) {D : zDa} : ∀ r, fX10_push F  v1 D = some r → zMet l E (d + 0) YX10_push [zR 49, zI v1] (F, D, n, sl) (zcV F n sl r) := by
  intro r hr
  refine zMet_of (plainFor_of_name (by decide)) tvX10_push (Nat.le_of_ble_eq_true rfl) ?_
  have hz : zO l E (d + 0) YX10_push 0 [(0, zR 49), (1, zI v1)] [] (F, D, n, sl) (zcV F n sl) (fX10_push F  v1 D) := by
    unfold fX10_push
    refine zO_aload_n 0 rfl rfl (zR_P _) ?_
    refine gt10 (k := 3) (v := zI (D 49 3)) 1 rfl wF_X10_81 (by decide) (gk_49 hG) rfl ?_
    refine zO_if_lt (tgt := 40) 2 rfl rfl (fun c4 => ?_) (fun c4 => ?_)
    · exact zO_ret (rv := none) 22 rfl rfl trivial rfl
    · refine zO_aload_n 3 rfl rfl (zR_P _) ?_
      refine gt10 (k := 3) (v := zI (D 49 3)) 4 rfl wF_X10_81 (by decide) (gk_49 hG) rfl ?_
      refine zO_aload_n 5 rfl rfl (zR_P _) ?_
      refine gt10 (k := 2) 6 rfl wF_X10_17 (by decide) (gk_49 hG) (zgv (c := 10) (k := 2) rfl (Or.inl ⟨_, rfl⟩) (gf_49_2 hG)) ?_
      refine zO_alen (kd := 21) 7 rfl (gk_51 hG) (by decide) ?_
      refine zO_st (st' := [zI 52, zI (D 49 3)]) (by rw [gl_51 hG]; rfl) ?_
      refine zO_icmp_ge (tgt := 40) 8 rfl rfl (fun c16 => ?_) (fun c16 => ?_)
      · refine zO_chk (fun h1 => ?_)
        refine zO_aload_n 9 rfl rfl (zR_P _) ?_
        refine gt10 (k := 2) 10 rfl wF_X10_17 (by decide) (gk_49 hG) (zgv (c := 10) (k := 2) rfl (Or.inl ⟨_, rfl⟩) (gf_49_2 hG)) ?_
        refine zO_aload_n 11 rfl rfl (zR_P _) ?_
        refine gt10 (k := 3) (v := zI (D 49 3)) 12 rfl wF_X10_81 (by decide) (gk_49 hG) rfl ?_
        refine zO_iload_n 13 rfl rfl ?_
        refine zO_i2l 14 rfl ?_
        refine zO_last 15 rfl (gk_51 hG) (gl_in (gl_51 hG) h1) ?_
        refine zO_letD (fun D_1 eD_1 => ?_)
        refine zO_chk (fun h2 => ?_)
        refine zO_aload_n 16 rfl rfl (zR_P _) ?_
        refine zO_dup 17 rfl (rfl) ?_
        refine gt10 (k := 3) (v := zI (D_1 49 3)) 18 rfl wF_X10_81 (by decide) (gk_49 hG) rfl ?_
        refine zO_iconst 19 rfl (by decide) ?_
        refine zO_iadd 20 rfl h2 ?_
        refine ptI10 (k := 3) (z := ((D_1 49 3) + 1)) 21 rfl wF_X10_81 (by decide) rfl (gk_49 hG) rfl ?_
        refine zO_letD (fun D_2 eD_2 => ?_)
        exact zO_ret (rv := none) 22 rfl rfl trivial rfl
      · exact zO_ret (rv := none) 22 rfl rfl trivial rfl
  exact hz r hr
def tX10_operate : List (Nat × Instr × Nat) := [(0, .iload_n 1, 1), (1, .bipush 9, 2), (3, .if_icmp .ne 39, 3), (6, .aload_n 0, 1), (7, .getfield 81, 3), (10, .iconst 1, 1), (11, .if_icmp .ge 5, 3), (14, .iconst 0, 1), (15, .ireturn, 1), (16, .aload_n 0, 1), (17, .getfield 17, 3), (20, .aload_n 0, 1), (21, .getfield 81, 3), (24, .iconst 1, 1), (25, .isub, 1), (26, .lconst 1, 1), (27, .aload_n 0, 1), (28, .getfield 17, 3), (31, .aload_n 0, 1), (32, .getfield 81, 3), (35, .iconst 1, 1), (36, .isub, 1), (37, .laload, 1), (38, .lsub, 1), (39, .lastore, 1), (40, .iconst 1, 1), (41, .ireturn, 1), (42, .aload_n 0, 1), (43, .getfield 81, 3), (46, .iconst 2, 1), (47, .if_icmp .lt 24, 3), (50, .iload_n 1, 1), (51, .iconst 5, 1), (52, .if_icmp .ne 21, 3), (55, .aload_n 0, 1), (56, .getfield 17, 3), (59, .aload_n 0, 1), (60, .getfield 81, 3), (63, .iconst 1, 1), (64, .isub, 1), (65, .laload, 1), (66, .lconst 0, 1), (67, .lcmp, 1), (68, .ifCond .ne 5, 3), (71, .iconst 0, 1), (72, .ireturn, 1), (73, .aload_n 0, 1), (74, .dup, 1), (75, .getfield 81, 3), (78, .iconst 1, 1), (79, .isub, 1), (80, .putfield 81, 3), (83, .aload_n 0, 1), (84, .getfield 17, 3), (87, .aload_n 0, 1), (88, .getfield 81, 3), (91, .iconst 1, 1), (92, .isub, 1), (93, .laload, 1), (94, .lstore_n 2, 1), (95, .aload_n 0, 1), (96, .getfield 17, 3), (99, .aload_n 0, 1), (100, .getfield 81, 3), (103, .laload, 1), (104, .lstore 4, 2), (106, .iload_n 1, 1), (107, .tableswitch 107 2 7 #[37, 46, 55, 64, 73, 90], 37), (144, .lload_n 2, 1), (145, .lload 4, 2), (147, .ladd, 1), (148, .lstore 6, 2), (150, .goto 78, 3), (153, .lload_n 2, 1), (154, .lload 4, 2), (156, .lsub, 1), (157, .lstore 6, 2), (159, .goto 69, 3), (162, .lload_n 2, 1), (163, .lload 4, 2), (165, .lmul, 1), (166, .lstore 6, 2), (168, .goto 60, 3), (171, .lload_n 2, 1), (172, .lload 4, 2), (174, .ldiv, 1), (175, .lstore 6, 2), (177, .goto 51, 3), (180, .lload_n 2, 1), (181, .lload 4, 2), (183, .lcmp, 1), (184, .ifCond .ge 7, 3), (187, .lconst 1, 1), (188, .goto 4, 3), (191, .lconst 0, 1), (192, .lstore 6, 2), (194, .goto 34, 3), (197, .lload_n 2, 1), (198, .lload 4, 2), (200, .lcmp, 1), (201, .ifCond .le 7, 3), (204, .lconst 1, 1), (205, .goto 4, 3), (208, .lconst 0, 1), (209, .lstore 6, 2), (211, .goto 17, 3), (214, .lload_n 2, 1), (215, .lload 4, 2), (217, .lcmp, 1), (218, .ifCond .ne 7, 3), (221, .lconst 1, 1), (222, .goto 4, 3), (225, .lconst 0, 1), (226, .lstore 6, 2), (228, .aload_n 0, 1), (229, .getfield 17, 3), (232, .aload_n 0, 1), (233, .getfield 81, 3), (236, .iconst 1, 1), (237, .isub, 1), (238, .lload 6, 2), (240, .lastore, 1), (241, .lload 6, 2), (243, .ldc2_w 94, 3), (246, .lcmp, 1), (247, .ifCond .lt 16, 3), (250, .lload 6, 2), (252, .ldc2_w 96, 3), (255, .lcmp, 1), (256, .ifCond .gt 7, 3), (259, .iconst 1, 1), (260, .goto 4, 3), (263, .iconst 0, 1), (264, .ireturn, 1)]
set_option maxRecDepth 100000 in
theorem tvX10_operate : ∀ q ∈ tX10_operate, decode cX10_operate q.1 = .ok q.2 := by decide +kernel
abbrev YX10_operate : zY := (yX10_operate, cX10_operate, 8, (Option.some Jvm.ClassFile.FieldType.boolean), tX10_operate)
def fX10_operate_228 (F : zFs)  (v6 : Int) (D : zDa) : Option (Int × zDa) :=
  if (-2147483648 ≤ (D 49 3) - 1 ∧ (D 49 3) - 1 ≤ 2147483647) ∧ (0 ≤ ((D 49 3) - 1) ∧ ((D 49 3) - 1) < 52) then
    zlet (zwr D 51 ((D 49 3) - 1).toNat v6) (fun D_6 =>
      if v6 < (-1000000000) then
        some (0, D_6)
      else
        if 1000000000 < v6 then
          some (0, D_6)
        else
          some (1, D_6))
  else none
def fX10_operate_192 (F : zFs)  (s0 : Int) (D : zDa) : Option (Int × zDa) :=
  fX10_operate_228 F s0 D
def fX10_operate_209 (F : zFs)  (s0 : Int) (D : zDa) : Option (Int × zDa) :=
  fX10_operate_228 F s0 D
def fX10_operate_226 (F : zFs)  (s0 : Int) (D : zDa) : Option (Int × zDa) :=
  fX10_operate_228 F s0 D
def fX10_operate_73 (F : zFs)  (v1 : Int) (D : zDa) : Option (Int × zDa) :=
  if (-2147483648 ≤ (D 49 3) - 1 ∧ (D 49 3) - 1 ≤ 2147483647) then
    zlet (zwr D 49 3 ((D 49 3) - 1)) (fun D_2 =>
      if (-2147483648 ≤ (D_2 49 3) - 1 ∧ (D_2 49 3) - 1 ≤ 2147483647) ∧ (0 ≤ ((D_2 49 3) - 1) ∧ ((D_2 49 3) - 1) < 52) then
        zlet ((D_2 51 ((D_2 49 3) - 1).toNat)) (fun x2_3 =>
          if (0 ≤ (D_2 49 3) ∧ (D_2 49 3) < 52) then
            zlet ((D_2 51 (D_2 49 3).toNat)) (fun x4_4 =>
              if v1 = 2 then
                if (-9223372036854775808 ≤ x2_3 + x4_4 ∧ x2_3 + x4_4 ≤ 9223372036854775807) then
                  zlet ((x2_3 + x4_4)) (fun x6_5 =>
                    fX10_operate_228 F x6_5 D_2)
                else none
              else
                if v1 = 3 then
                  if (-9223372036854775808 ≤ x2_3 - x4_4 ∧ x2_3 - x4_4 ≤ 9223372036854775807) then
                    zlet ((x2_3 - x4_4)) (fun x6_7 =>
                      fX10_operate_228 F x6_7 D_2)
                  else none
                else
                  if v1 = 4 then
                    if (-9223372036854775808 ≤ x2_3 * x4_4 ∧ x2_3 * x4_4 ≤ 9223372036854775807) then
                      zlet ((x2_3 * x4_4)) (fun x6_8 =>
                        fX10_operate_228 F x6_8 D_2)
                    else none
                  else
                    if v1 = 5 then
                      if (x4_4 ≠ 0) ∧ (¬ (x2_3 = -9223372036854775808 ∧ x4_4 = -1)) then
                        zlet ((Int.tdiv x2_3 x4_4)) (fun x6_9 =>
                          fX10_operate_228 F x6_9 D_2)
                      else none
                    else
                      if v1 = 6 then
                        if x2_3 < x4_4 then
                          fX10_operate_192 F 1 D_2
                        else
                          fX10_operate_192 F 0 D_2
                      else
                        if v1 = 7 then
                          if x4_4 < x2_3 then
                            fX10_operate_209 F 1 D_2
                          else
                            fX10_operate_209 F 0 D_2
                        else
                          if x2_3 = x4_4 then
                            fX10_operate_226 F 1 D_2
                          else
                            fX10_operate_226 F 0 D_2)
          else none)
      else none)
  else none
def fX10_operate (F : zFs) (v1 : Int) (D : zDa) : Option (Int × zDa) :=
  if v1 = 9 then
    if (D 49 3) < 1 then
      some (0, D)
    else
      if (-2147483648 ≤ (D 49 3) - 1 ∧ (D 49 3) - 1 ≤ 2147483647) ∧ (0 ≤ ((D 49 3) - 1) ∧ ((D 49 3) - 1) < 52) ∧ (-9223372036854775808 ≤ 1 - (D 51 ((D 49 3) - 1).toNat) ∧ 1 - (D 51 ((D 49 3) - 1).toNat) ≤ 9223372036854775807) then
        zlet (zwr D 51 ((D 49 3) - 1).toNat (1 - (D 51 ((D 49 3) - 1).toNat))) (fun D_1 =>
          some (1, D_1))
      else none
  else
    if (D 49 3) < 2 then
      some (0, D)
    else
      if v1 = 5 then
        if (-2147483648 ≤ (D 49 3) - 1 ∧ (D 49 3) - 1 ≤ 2147483647) ∧ (0 ≤ ((D 49 3) - 1) ∧ ((D 49 3) - 1) < 52) then
          if (D 51 ((D 49 3) - 1).toNat) = 0 then
            some (0, D)
          else
            fX10_operate_73 F v1 D
        else none
      else
        fX10_operate_73 F v1 D
theorem sX10_operate_228 {l : Launch} {E : zE} {d : Nat} {F : zFs} {n sl : Nat} (hG : zG F)    (v6 : Int) (D : zDa) : zO l E (d + 0) YX10_operate 228 [(0, zR 49), (6, zL v6)] [] (F, D, n, sl) (zcI F n sl) (fX10_operate_228 F v6 D) := by
  unfold fX10_operate_228
  refine zO_chk (fun h7 => ?_)
  refine zO_aload_n 114 rfl rfl (zR_P _) ?_
  refine gt10 (k := 2) 115 rfl wF_X10_17 (by decide) (gk_49 hG) (zgv (c := 10) (k := 2) rfl (Or.inl ⟨_, rfl⟩) (gf_49_2 hG)) ?_
  refine zO_aload_n 116 rfl rfl (zR_P _) ?_
  refine gt10 (k := 3) (v := zI (D 49 3)) 117 rfl wF_X10_81 (by decide) (gk_49 hG) rfl ?_
  refine zO_iconst 118 rfl (by decide) ?_
  refine zO_isub 119 rfl h7.1 ?_
  refine zO_lload 120 rfl rfl ?_
  refine zO_last 121 rfl (gk_51 hG) (gl_in (gl_51 hG) h7.2) ?_
  refine zO_letD (fun D_6 eD_6 => ?_)
  refine zO_lload 122 rfl rfl ?_
  refine zO_ldc2 (n := -1000000000) 123 rfl wK_X10_94 (by decide) ?_
  refine zO_lif_lt (tgt := 263) 124 125 rfl rfl rfl (fun c246 => ?_) (fun c246 => ?_)
  · refine zO_iconst 132 rfl (by decide) ?_
    exact zO_ret (rv := some (zI 0)) 133 rfl rfl rfl rfl
  · refine zO_lload 126 rfl rfl ?_
    refine zO_ldc2 (n := 1000000000) 127 rfl wK_X10_96 (by decide) ?_
    refine zO_lif_gt (tgt := 263) 128 129 rfl rfl rfl (fun c255 => ?_) (fun c255 => ?_)
    · refine zO_iconst 132 rfl (by decide) ?_
      exact zO_ret (rv := some (zI 0)) 133 rfl rfl rfl rfl
    · refine zO_iconst 130 rfl (by decide) ?_
      refine zO_goto (tgt := 264) 131 rfl rfl ?_
      exact zO_ret (rv := some (zI 1)) 133 rfl rfl rfl rfl
theorem sX10_operate_192 {l : Launch} {E : zE} {d : Nat} {F : zFs} {n sl : Nat} (hG : zG F)    (s0 : Int) (D : zDa) : zO l E (d + 0) YX10_operate 192 [(0, zR 49)] [zL s0] (F, D, n, sl) (zcI F n sl) (fX10_operate_192 F s0 D) := by
  unfold fX10_operate_192
  refine zO_lstore 95 rfl (by decide) ?_
  refine zO_goto (tgt := 228) 96 rfl rfl ?_
  refine zO_live [0, 6] ?_
  exact sX10_operate_228 hG s0 D
theorem sX10_operate_209 {l : Launch} {E : zE} {d : Nat} {F : zFs} {n sl : Nat} (hG : zG F)    (s0 : Int) (D : zDa) : zO l E (d + 0) YX10_operate 209 [(0, zR 49)] [zL s0] (F, D, n, sl) (zcI F n sl) (fX10_operate_209 F s0 D) := by
  unfold fX10_operate_209
  refine zO_lstore 104 rfl (by decide) ?_
  refine zO_goto (tgt := 228) 105 rfl rfl ?_
  refine zO_live [0, 6] ?_
  exact sX10_operate_228 hG s0 D
theorem sX10_operate_226 {l : Launch} {E : zE} {d : Nat} {F : zFs} {n sl : Nat} (hG : zG F)    (s0 : Int) (D : zDa) : zO l E (d + 0) YX10_operate 226 [(0, zR 49)] [zL s0] (F, D, n, sl) (zcI F n sl) (fX10_operate_226 F s0 D) := by
  unfold fX10_operate_226
  refine zO_lstore 113 rfl (by decide) ?_
  refine zO_live [0, 6] ?_
  exact sX10_operate_228 hG s0 D
theorem sX10_operate_73 {l : Launch} {E : zE} {d : Nat} {F : zFs} {n sl : Nat} (hG : zG F)    (v1 : Int) (D : zDa) : zO l E (d + 0) YX10_operate 73 [(0, zR 49), (1, zI v1)] [] (F, D, n, sl) (zcI F n sl) (fX10_operate_73 F v1 D) := by
  unfold fX10_operate_73
  refine zO_chk (fun h3 => ?_)
  refine zO_aload_n 46 rfl rfl (zR_P _) ?_
  refine zO_dup 47 rfl (rfl) ?_
  refine gt10 (k := 3) (v := zI (D 49 3)) 48 rfl wF_X10_81 (by decide) (gk_49 hG) rfl ?_
  refine zO_iconst 49 rfl (by decide) ?_
  refine zO_isub 50 rfl h3 ?_
  refine ptI10 (k := 3) (z := ((D 49 3) - 1)) 51 rfl wF_X10_81 (by decide) rfl (gk_49 hG) rfl ?_
  refine zO_letD (fun D_2 eD_2 => ?_)
  refine zO_chk (fun h4 => ?_)
  refine zO_aload_n 52 rfl rfl (zR_P _) ?_
  refine gt10 (k := 2) 53 rfl wF_X10_17 (by decide) (gk_49 hG) (zgv (c := 10) (k := 2) rfl (Or.inl ⟨_, rfl⟩) (gf_49_2 hG)) ?_
  refine zO_aload_n 54 rfl rfl (zR_P _) ?_
  refine gt10 (k := 3) (v := zI (D_2 49 3)) 55 rfl wF_X10_81 (by decide) (gk_49 hG) rfl ?_
  refine zO_iconst 56 rfl (by decide) ?_
  refine zO_isub 57 rfl h4.1 ?_
  refine zO_lald 58 rfl (gk_51 hG) (gl_in (gl_51 hG) h4.2) ?_
  refine zO_letJ (fun x2_3 ex2_3 => ?_)
  refine zO_lstore_n 59 rfl (by decide) ?_
  refine zO_chk (fun h5 => ?_)
  refine zO_aload_n 60 rfl rfl (zR_P _) ?_
  refine gt10 (k := 2) 61 rfl wF_X10_17 (by decide) (gk_49 hG) (zgv (c := 10) (k := 2) rfl (Or.inl ⟨_, rfl⟩) (gf_49_2 hG)) ?_
  refine zO_aload_n 62 rfl rfl (zR_P _) ?_
  refine gt10 (k := 3) (v := zI (D_2 49 3)) 63 rfl wF_X10_81 (by decide) (gk_49 hG) rfl ?_
  refine zO_lald 64 rfl (gk_51 hG) (gl_in (gl_51 hG) h5) ?_
  refine zO_letJ (fun x4_4 ex4_4 => ?_)
  refine zO_lstore 65 rfl (by decide) ?_
  refine zO_iload_n 66 rfl rfl ?_
  refine zO_ite (fun c107_0 => ?_) (fun c107_0 => ?_)
  · refine zO_tableIn (tgt := 144) 67 rfl ⟨2, c107_0, by decide, by decide, rfl⟩ rfl ?_
    refine zO_chk (fun h6 => ?_)
    refine zO_lload_n 68 rfl rfl ?_
    refine zO_lload 69 rfl rfl ?_
    refine zO_ladd 70 rfl h6 ?_
    refine zO_letJ (fun x6_5 ex6_5 => ?_)
    refine zO_lstore 71 rfl (by decide) ?_
    refine zO_goto (tgt := 228) 72 rfl rfl ?_
    refine zO_live [0, 6] ?_
    exact sX10_operate_228 hG x6_5 D_2
  · refine zO_ite (fun c107_1 => ?_) (fun c107_1 => ?_)
    · refine zO_tableIn (tgt := 153) 67 rfl ⟨3, c107_1, by decide, by decide, rfl⟩ rfl ?_
      refine zO_chk (fun h8 => ?_)
      refine zO_lload_n 73 rfl rfl ?_
      refine zO_lload 74 rfl rfl ?_
      refine zO_lsub 75 rfl h8 ?_
      refine zO_letJ (fun x6_7 ex6_7 => ?_)
      refine zO_lstore 76 rfl (by decide) ?_
      refine zO_goto (tgt := 228) 77 rfl rfl ?_
      refine zO_live [0, 6] ?_
      exact sX10_operate_228 hG x6_7 D_2
    · refine zO_ite (fun c107_2 => ?_) (fun c107_2 => ?_)
      · refine zO_tableIn (tgt := 162) 67 rfl ⟨4, c107_2, by decide, by decide, rfl⟩ rfl ?_
        refine zO_chk (fun h9 => ?_)
        refine zO_lload_n 78 rfl rfl ?_
        refine zO_lload 79 rfl rfl ?_
        refine zO_lmul 80 rfl h9 ?_
        refine zO_letJ (fun x6_8 ex6_8 => ?_)
        refine zO_lstore 81 rfl (by decide) ?_
        refine zO_goto (tgt := 228) 82 rfl rfl ?_
        refine zO_live [0, 6] ?_
        exact sX10_operate_228 hG x6_8 D_2
      · refine zO_ite (fun c107_3 => ?_) (fun c107_3 => ?_)
        · refine zO_tableIn (tgt := 171) 67 rfl ⟨5, c107_3, by decide, by decide, rfl⟩ rfl ?_
          refine zO_chk (fun h10 => ?_)
          refine zO_lload_n 83 rfl rfl ?_
          refine zO_lload 84 rfl rfl ?_
          refine zO_ldiv 85 rfl h10.1 h10.2 ?_
          refine zO_letJ (fun x6_9 ex6_9 => ?_)
          refine zO_lstore 86 rfl (by decide) ?_
          refine zO_goto (tgt := 228) 87 rfl rfl ?_
          refine zO_live [0, 6] ?_
          exact sX10_operate_228 hG x6_9 D_2
        · refine zO_ite (fun c107_4 => ?_) (fun c107_4 => ?_)
          · refine zO_tableIn (tgt := 180) 67 rfl ⟨6, c107_4, by decide, by decide, rfl⟩ rfl ?_
            refine zO_lload_n 88 rfl rfl ?_
            refine zO_lload 89 rfl rfl ?_
            refine zO_lif_ge (tgt := 191) 90 91 rfl rfl rfl (fun c183 => ?_) (fun c183 => ?_)
            · refine zO_lconst 92 rfl ?_
              refine zO_goto (tgt := 192) 93 rfl rfl ?_
              refine zO_live [0] ?_
              exact sX10_operate_192 hG 1 D_2
            · refine zO_lconst 94 rfl ?_
              refine zO_live [0] ?_
              exact sX10_operate_192 hG 0 D_2
          · refine zO_ite (fun c107_5 => ?_) (fun c107_5 => ?_)
            · refine zO_tableIn (tgt := 197) 67 rfl ⟨7, c107_5, by decide, by decide, rfl⟩ rfl ?_
              refine zO_lload_n 97 rfl rfl ?_
              refine zO_lload 98 rfl rfl ?_
              refine zO_lif_le (tgt := 208) 99 100 rfl rfl rfl (fun c200 => ?_) (fun c200 => ?_)
              · refine zO_lconst 101 rfl ?_
                refine zO_goto (tgt := 209) 102 rfl rfl ?_
                refine zO_live [0] ?_
                exact sX10_operate_209 hG 1 D_2
              · refine zO_lconst 103 rfl ?_
                refine zO_live [0] ?_
                exact sX10_operate_209 hG 0 D_2
            · refine zO_tableOut (tgt := 214) 67 rfl (by omega) rfl ?_
              refine zO_lload_n 106 rfl rfl ?_
              refine zO_lload 107 rfl rfl ?_
              refine zO_lif_ne (tgt := 225) 108 109 rfl rfl rfl (fun c217 => ?_) (fun c217 => ?_)
              · refine zO_lconst 110 rfl ?_
                refine zO_goto (tgt := 226) 111 rfl rfl ?_
                refine zO_live [0] ?_
                exact sX10_operate_226 hG 1 D_2
              · refine zO_lconst 112 rfl ?_
                refine zO_live [0] ?_
                exact sX10_operate_226 hG 0 D_2
theorem mX10_operate {l : Launch} {E : zE} {d : Nat} {F : zFs} {n sl : Nat} (hG : zG F) (v1 : Int) {D : zDa} : ∀ r, fX10_operate F  v1 D = some r → zMet l E (d + 0) YX10_operate [zR 49, zI v1] (F, D, n, sl) (zcI F n sl r) := by
  intro r hr
  refine zMet_of (plainFor_of_name (by decide)) tvX10_operate (Nat.le_of_ble_eq_true rfl) ?_
  have hz : zO l E (d + 0) YX10_operate 0 [(0, zR 49), (1, zI v1)] [] (F, D, n, sl) (zcI F n sl) (fX10_operate F  v1 D) := by
    unfold fX10_operate
    refine zO_iload_n 0 rfl rfl ?_
    refine zO_bipush 1 rfl (by decide) ?_
    refine zO_icmp_ne (tgt := 42) 2 rfl rfl (fun c3 => ?_) (fun c3 => ?_)
    · refine zO_aload_n 3 rfl rfl (zR_P _) ?_
      refine gt10 (k := 3) (v := zI (D 49 3)) 4 rfl wF_X10_81 (by decide) (gk_49 hG) rfl ?_
      refine zO_iconst 5 rfl (by decide) ?_
      refine zO_icmp_ge (tgt := 16) 6 rfl rfl (fun c11 => ?_) (fun c11 => ?_)
      · refine zO_iconst 7 rfl (by decide) ?_
        exact zO_ret (rv := some (zI 0)) 8 rfl rfl rfl rfl
      · refine zO_chk (fun h1 => ?_)
        refine zO_aload_n 9 rfl rfl (zR_P _) ?_
        refine gt10 (k := 2) 10 rfl wF_X10_17 (by decide) (gk_49 hG) (zgv (c := 10) (k := 2) rfl (Or.inl ⟨_, rfl⟩) (gf_49_2 hG)) ?_
        refine zO_aload_n 11 rfl rfl (zR_P _) ?_
        refine gt10 (k := 3) (v := zI (D 49 3)) 12 rfl wF_X10_81 (by decide) (gk_49 hG) rfl ?_
        refine zO_iconst 13 rfl (by decide) ?_
        refine zO_isub 14 rfl h1.1 ?_
        refine zO_lconst 15 rfl ?_
        refine zO_aload_n 16 rfl rfl (zR_P _) ?_
        refine gt10 (k := 2) 17 rfl wF_X10_17 (by decide) (gk_49 hG) (zgv (c := 10) (k := 2) rfl (Or.inl ⟨_, rfl⟩) (gf_49_2 hG)) ?_
        refine zO_aload_n 18 rfl rfl (zR_P _) ?_
        refine gt10 (k := 3) (v := zI (D 49 3)) 19 rfl wF_X10_81 (by decide) (gk_49 hG) rfl ?_
        refine zO_iconst 20 rfl (by decide) ?_
        refine zO_isub 21 rfl h1.1 ?_
        refine zO_lald 22 rfl (gk_51 hG) (gl_in (gl_51 hG) h1.2.1) ?_
        refine zO_lsub 23 rfl h1.2.2 ?_
        refine zO_last 24 rfl (gk_51 hG) (gl_in (gl_51 hG) h1.2.1) ?_
        refine zO_letD (fun D_1 eD_1 => ?_)
        refine zO_iconst 25 rfl (by decide) ?_
        exact zO_ret (rv := some (zI 1)) 26 rfl rfl rfl rfl
    · refine zO_aload_n 27 rfl rfl (zR_P _) ?_
      refine gt10 (k := 3) (v := zI (D 49 3)) 28 rfl wF_X10_81 (by decide) (gk_49 hG) rfl ?_
      refine zO_iconst 29 rfl (by decide) ?_
      refine zO_icmp_lt (tgt := 71) 30 rfl rfl (fun c47 => ?_) (fun c47 => ?_)
      · refine zO_iconst 44 rfl (by decide) ?_
        exact zO_ret (rv := some (zI 0)) 45 rfl rfl rfl rfl
      · refine zO_iload_n 31 rfl rfl ?_
        refine zO_iconst 32 rfl (by decide) ?_
        refine zO_icmp_ne (tgt := 73) 33 rfl rfl (fun c52 => ?_) (fun c52 => ?_)
        · refine zO_chk (fun h2 => ?_)
          refine zO_aload_n 34 rfl rfl (zR_P _) ?_
          refine gt10 (k := 2) 35 rfl wF_X10_17 (by decide) (gk_49 hG) (zgv (c := 10) (k := 2) rfl (Or.inl ⟨_, rfl⟩) (gf_49_2 hG)) ?_
          refine zO_aload_n 36 rfl rfl (zR_P _) ?_
          refine gt10 (k := 3) (v := zI (D 49 3)) 37 rfl wF_X10_81 (by decide) (gk_49 hG) rfl ?_
          refine zO_iconst 38 rfl (by decide) ?_
          refine zO_isub 39 rfl h2.1 ?_
          refine zO_lald 40 rfl (gk_51 hG) (gl_in (gl_51 hG) h2.2) ?_
          refine zO_lconst 41 rfl ?_
          refine zO_lif_ne (tgt := 73) 42 43 rfl rfl rfl (fun c67 => ?_) (fun c67 => ?_)
          · refine zO_iconst 44 rfl (by decide) ?_
            exact zO_ret (rv := some (zI 0)) 45 rfl rfl rfl rfl
          · refine zO_live [0, 1] ?_
            exact sX10_operate_73 hG v1 D
        · refine zO_live [0, 1] ?_
          exact sX10_operate_73 hG v1 D
  exact hz r hr
def tX10_holds : List (Nat × Instr × Nat) := [(0, .iload_n 2, 1), (1, .istore 4, 2), (3, .aload_n 0, 1), (4, .iconst 0, 1), (5, .putfield 81, 3), (8, .iconst 0, 1), (9, .istore 5, 2), (11, .iload 5, 2), (13, .sipush 412, 3), (16, .if_icmp .ge 172, 3), (19, .iload 4, 2), (21, .ifCond .lt 167, 3), (24, .iload 4, 2), (26, .iload_n 3, 1), (27, .if_icmp .ge 161, 3), (30, .aload_n 1, 1), (31, .getfield 84, 3), (34, .iload 4, 2), (36, .iaload, 1), (37, .bipush 15, 2), (39, .iand, 1), (40, .istore 6, 2), (42, .aload_n 1, 1), (43, .getfield 84, 3), (46, .iload 4, 2), (48, .iaload, 1), (49, .iconst 4, 1), (50, .ishr, 1), (51, .istore 7, 2), (53, .iinc 4 1, 3), (56, .iload 6, 2), (58, .ifCond .ne 12, 3), (61, .aload_n 0, 1), (62, .iload 7, 2), (64, .invokevirtual 87, 3), (67, .goto 115, 3), (70, .iload 6, 2), (72, .iconst 1, 1), (73, .if_icmp .ne 17, 3), (76, .aload_n 0, 1), (77, .aload_n 0, 1), (78, .getfield 11, 3), (81, .iload 7, 2), (83, .iaload, 1), (84, .invokevirtual 87, 3), (87, .goto 95, 3), (90, .iload 6, 2), (92, .bipush 10, 2), (94, .if_icmp .eq 10, 3), (97, .iload 6, 2), (99, .bipush 11, 2), (101, .if_icmp .ne 70, 3), (104, .aload_n 0, 1), (105, .getfield 81, 3), (108, .ifCond .le 35, 3), (111, .aload_n 0, 1), (112, .getfield 17, 3), (115, .aload_n 0, 1), (116, .getfield 81, 3), (119, .iconst 1, 1), (120, .isub, 1), (121, .laload, 1), (122, .iload 6, 2), (124, .bipush 11, 2), (126, .if_icmp .ne 7, 3), (129, .iconst 1, 1), (130, .goto 4, 3), (133, .iconst 0, 1), (134, .i2l, 1), (135, .lcmp, 1), (136, .ifCond .ne 7, 3), (139, .iconst 1, 1), (140, .goto 4, 3), (143, .iconst 0, 1), (144, .istore 8, 2), (146, .iload 8, 2), (148, .ifCond .eq 10, 3), (151, .iload 7, 2), (153, .istore 4, 2), (155, .goto 13, 3), (158, .aload_n 0, 1), (159, .dup, 1), (160, .getfield 81, 3), (163, .iconst 1, 1), (164, .isub, 1), (165, .putfield 81, 3), (168, .goto 14, 3), (171, .aload_n 0, 1), (172, .iload 6, 2), (174, .invokevirtual 91, 3), (177, .ifCond .ne 5, 3), (180, .iconst 0, 1), (181, .ireturn, 1), (182, .iinc 5 1, 3), (185, .goto (-174), 3), (188, .aload_n 0, 1), (189, .getfield 81, 3), (192, .iconst 2, 1), (193, .if_icmp .ne 18, 3), (196, .aload_n 0, 1), (197, .getfield 17, 3), (200, .iconst 1, 1), (201, .laload, 1), (202, .lconst 1, 1), (203, .lcmp, 1), (204, .ifCond .ne 7, 3), (207, .iconst 1, 1), (208, .goto 4, 3), (211, .iconst 0, 1), (212, .ireturn, 1)]
set_option maxRecDepth 100000 in
theorem tvX10_holds : ∀ q ∈ tX10_holds, decode cX10_holds q.1 = .ok q.2 := by decide +kernel
abbrev YX10_holds : zY := (yX10_holds, cX10_holds, 9, (Option.some Jvm.ClassFile.FieldType.boolean), tX10_holds)
def fX10_holds_188 (F : zFs)   (D : zDa) : Option (Int × zDa) :=
  if (D 49 3) = 2 then
    if (D 51 1) = 1 then
      some (1, D)
    else
      some (0, D)
  else
    some (0, D)
def fX10_holds_182 (F : zFs) (k_11 : Int → Int → zDa → Option (Int × zDa)) (o1 : Nat) (v3 : Int) (v4 : Int) (v5 : Int) (D : zDa) : Option (Int × zDa) :=
  if (-2147483648 ≤ v5 + 1 ∧ v5 + 1 ≤ 2147483647) then
    k_11 v4 (v5 + 1) D
  else none
def fX10_holds_168 (F : zFs) (k_11 : Int → Int → zDa → Option (Int × zDa)) (o1 : Nat) (v3 : Int) (v4 : Int) (v5 : Int) (D : zDa) : Option (Int × zDa) :=
  fX10_holds_182 F k_11 o1 v3 v4 v5 D
def fX10_holds_144 (F : zFs) (k_11 : Int → Int → zDa → Option (Int × zDa)) (o1 : Nat) (v3 : Int) (v4 : Int) (v5 : Int) (v7 : Int) (s0 : Int) (D : zDa) : Option (Int × zDa) :=
  if s0 = 0 then
    if (-2147483648 ≤ (D 49 3) - 1 ∧ (D 49 3) - 1 ≤ 2147483647) then
      zlet (zwr D 49 3 ((D 49 3) - 1)) (fun D_8 =>
        fX10_holds_168 F k_11 o1 v3 v4 v5 D_8)
    else none
  else
    fX10_holds_168 F k_11 o1 v3 v7 v5 D
def fX10_holds_143 (F : zFs) (k_11 : Int → Int → zDa → Option (Int × zDa)) (o1 : Nat) (v3 : Int) (v4 : Int) (v5 : Int) (v7 : Int) (D : zDa) : Option (Int × zDa) :=
  fX10_holds_144 F k_11 o1 v3 v4 v5 v7 0 D
def fX10_holds_134 (F : zFs) (k_11 : Int → Int → zDa → Option (Int × zDa)) (o1 : Nat) (v3 : Int) (v4 : Int) (v5 : Int) (v7 : Int) (s0 : Int) (s1 : Int) (D : zDa) : Option (Int × zDa) :=
  if s1 = s0 then
    fX10_holds_144 F k_11 o1 v3 v4 v5 v7 1 D
  else
    fX10_holds_143 F k_11 o1 v3 v4 v5 v7 D
def fX10_holds_104 (F : zFs) (k_11 : Int → Int → zDa → Option (Int × zDa)) (o1 : Nat) (v3 : Int) (v4 : Int) (v5 : Int) (v6 : Int) (v7 : Int) (D : zDa) : Option (Int × zDa) :=
  if 0 < (D 49 3) then
    if (-2147483648 ≤ (D 49 3) - 1 ∧ (D 49 3) - 1 ≤ 2147483647) ∧ (0 ≤ ((D 49 3) - 1) ∧ ((D 49 3) - 1) < 52) then
      if v6 = 11 then
        fX10_holds_134 F k_11 o1 v3 v4 v5 v7 1 (D 51 ((D 49 3) - 1).toNat) D
      else
        fX10_holds_134 F k_11 o1 v3 v4 v5 v7 0 (D 51 ((D 49 3) - 1).toNat) D
    else none
  else
    fX10_holds_143 F k_11 o1 v3 v4 v5 v7 D
def fX10_holds_11 (F : zFs) (o1 : Nat) (o3 : Int)  (k_11 : Int → Int → zDa → Option (Int × zDa)) (v4 : Int) (v5 : Int) (D : zDa) : Option (Int × zDa) :=
  if v5 < 412 then
    if v4 < 0 then
      fX10_holds_188 F D
    else
      if v4 < o3 then
        if ((F o1).1 = 4) ∧ (0 ≤ ((F o1).2.2 3)) ∧ ((F (((F o1).2.2 3).toNat)).1 = 20) ∧ (0 ≤ v4 ∧ v4 < ((F (((F o1).2.2 3).toNat)).2.1 : Int)) then
          zlet ((zand (D (((F o1).2.2 3).toNat) v4.toNat) 15)) (fun x6_2 =>
            zlet ((zshr (D (((F o1).2.2 3).toNat) v4.toNat) 4)) (fun x7_3 =>
              if (-2147483648 ≤ v4 + 1 ∧ v4 + 1 ≤ 2147483647) then
                if x6_2 = 0 then
                  (fX10_push F x7_3 D).bind (fun D_5 =>
                    fX10_holds_182 F k_11 o1 o3 (v4 + 1) v5 D_5)
                else
                  if x6_2 = 1 then
                    if (0 ≤ x7_3 ∧ x7_3 < 7) then
                      (fX10_push F (D 50 x7_3.toNat) D).bind (fun D_7 =>
                        fX10_holds_182 F k_11 o1 o3 (v4 + 1) v5 D_7)
                    else none
                  else
                    if x6_2 = 10 then
                      fX10_holds_104 F k_11 o1 o3 (v4 + 1) v5 x6_2 x7_3 D
                    else
                      if x6_2 = 11 then
                        fX10_holds_104 F k_11 o1 o3 (v4 + 1) v5 x6_2 x7_3 D
                      else
                        (fX10_operate F x6_2 D).bind (fun (r_9, D_10) =>
                          if r_9 = 0 then
                            some (0, D_10)
                          else
                            fX10_holds_182 F k_11 o1 o3 (v4 + 1) v5 D_10)
              else none))
        else none
      else
        fX10_holds_188 F D
  else
    fX10_holds_188 F D
def fX10_holds (F : zFs) (a1 : Nat) (v2 : Int) (v3 : Int) (D : zDa) : Option (Int × zDa) :=
  zlet (zwr D 49 3 0) (fun D_1 =>
    zfix (fun _ _ _ => none) (fX10_holds_11 F a1 v3) zfu v2 0 D_1)
theorem sX10_holds_188 {l : Launch} {E : zE} {d : Nat} {F : zFs} {n sl : Nat} (hG : zG F)     (D : zDa) : zO l E (d + 1) YX10_holds 188 [(0, zR 49)] [] (F, D, n, sl) (zcI F n sl) (fX10_holds_188 F D) := by
  unfold fX10_holds_188
  refine zO_aload_n 95 rfl rfl (zR_P _) ?_
  refine gt10 (k := 3) (v := zI (D 49 3)) 96 rfl wF_X10_81 (by decide) (gk_49 hG) rfl ?_
  refine zO_iconst 97 rfl (by decide) ?_
  refine zO_icmp_ne (tgt := 211) 98 rfl rfl (fun c193 => ?_) (fun c193 => ?_)
  · refine zO_aload_n 99 rfl rfl (zR_P _) ?_
    refine gt10 (k := 2) 100 rfl wF_X10_17 (by decide) (gk_49 hG) (zgv (c := 10) (k := 2) rfl (Or.inl ⟨_, rfl⟩) (gf_49_2 hG)) ?_
    refine zO_iconst 101 rfl (by decide) ?_
    refine zO_lald 102 rfl (gk_51 hG) (gl_in (gl_51 hG) (by decide)) ?_
    refine zO_lconst 103 rfl ?_
    refine zO_lif_ne (tgt := 211) 104 105 rfl rfl rfl (fun c203 => ?_) (fun c203 => ?_)
    · refine zO_iconst 106 rfl (by decide) ?_
      refine zO_goto (tgt := 212) 107 rfl rfl ?_
      exact zO_ret (rv := some (zI 1)) 109 rfl rfl rfl rfl
    · refine zO_iconst 108 rfl (by decide) ?_
      exact zO_ret (rv := some (zI 0)) 109 rfl rfl rfl rfl
  · refine zO_iconst 108 rfl (by decide) ?_
    exact zO_ret (rv := some (zI 0)) 109 rfl rfl rfl rfl
theorem sX10_holds_182 {l : Launch} {E : zE} {d : Nat} {F : zFs} {n sl : Nat} (hG : zG F) {o3 : Int} (k_11 : Int → Int → zDa → Option (Int × zDa)) (hk_11 : ∀ (u4 : Int) (u5 : Int) (D : zDa), zO l E (d + 1) YX10_holds 11 [(0, zR 49), (1, zR o1), (3, zI o3), (4, zI u4), (5, zI u5)] [] (F, D, n, sl) (zcI F n sl) (k_11 u4 u5 D)) (o1 : Nat) (v3 : Int) (v4 : Int) (v5 : Int) (D : zDa) : zO l E (d + 1) YX10_holds 182 [(0, zR 49), (1, zR o1), (3, zI v3), (4, zI v4), (5, zI v5)] [] (F, D, n, sl) (zcI F n sl) (fX10_holds_182 F k_11 o1 v3 v4 v5 D) := by
  unfold fX10_holds_182
  refine zO_chk (fun h3 => ?_)
  refine zO_iinc 93 rfl rfl h3 (by decide) ?_
  refine zO_goto (tgt := 11) 94 rfl rfl ?_
  refine zO_live [0, 1, 3, 4, 5] ?_
  exact hk_11 v4 (v5 + 1) D
theorem sX10_holds_168 {l : Launch} {E : zE} {d : Nat} {F : zFs} {n sl : Nat} (hG : zG F) {o3 : Int} (k_11 : Int → Int → zDa → Option (Int × zDa)) (hk_11 : ∀ (u4 : Int) (u5 : Int) (D : zDa), zO l E (d + 1) YX10_holds 11 [(0, zR 49), (1, zR o1), (3, zI o3), (4, zI u4), (5, zI u5)] [] (F, D, n, sl) (zcI F n sl) (k_11 u4 u5 D)) (o1 : Nat) (v3 : Int) (v4 : Int) (v5 : Int) (D : zDa) : zO l E (d + 1) YX10_holds 168 [(0, zR 49), (1, zR o1), (3, zI v3), (4, zI v4), (5, zI v5)] [] (F, D, n, sl) (zcI F n sl) (fX10_holds_168 F k_11 o1 v3 v4 v5 D) := by
  unfold fX10_holds_168
  refine zO_goto (tgt := 182) 86 rfl rfl ?_
  refine zO_live [0, 1, 3, 4, 5] ?_
  exact sX10_holds_182 hG _ hk_11 o1 v3 v4 v5 D
theorem sX10_holds_144 {l : Launch} {E : zE} {d : Nat} {F : zFs} {n sl : Nat} (hG : zG F) {o3 : Int} (k_11 : Int → Int → zDa → Option (Int × zDa)) (hk_11 : ∀ (u4 : Int) (u5 : Int) (D : zDa), zO l E (d + 1) YX10_holds 11 [(0, zR 49), (1, zR o1), (3, zI o3), (4, zI u4), (5, zI u5)] [] (F, D, n, sl) (zcI F n sl) (k_11 u4 u5 D)) (o1 : Nat) (v3 : Int) (v4 : Int) (v5 : Int) (v7 : Int) (s0 : Int) (D : zDa) : zO l E (d + 1) YX10_holds 144 [(0, zR 49), (1, zR o1), (3, zI v3), (4, zI v4), (5, zI v5), (7, zI v7)] [zI s0] (F, D, n, sl) (zcI F n sl) (fX10_holds_144 F k_11 o1 v3 v4 v5 v7 s0 D) := by
  unfold fX10_holds_144
  refine zO_istore 74 rfl (by decide) ?_
  refine zO_iload 75 rfl rfl ?_
  refine zO_if_eq (tgt := 158) 76 rfl rfl (fun c148 => ?_) (fun c148 => ?_)
  · refine zO_chk (fun h6 => ?_)
    refine zO_aload_n 80 rfl rfl (zR_P _) ?_
    refine zO_dup 81 rfl (rfl) ?_
    refine gt10 (k := 3) (v := zI (D 49 3)) 82 rfl wF_X10_81 (by decide) (gk_49 hG) rfl ?_
    refine zO_iconst 83 rfl (by decide) ?_
    refine zO_isub 84 rfl h6 ?_
    refine ptI10 (k := 3) (z := ((D 49 3) - 1)) 85 rfl wF_X10_81 (by decide) rfl (gk_49 hG) rfl ?_
    refine zO_letD (fun D_8 eD_8 => ?_)
    refine zO_live [0, 1, 3, 4, 5] ?_
    exact sX10_holds_168 hG _ hk_11 o1 v3 v4 v5 D_8
  · refine zO_iload 77 rfl rfl ?_
    refine zO_istore 78 rfl (by decide) ?_
    refine zO_goto (tgt := 168) 79 rfl rfl ?_
    refine zO_live [0, 1, 3, 4, 5] ?_
    exact sX10_holds_168 hG _ hk_11 o1 v3 v7 v5 D
theorem sX10_holds_143 {l : Launch} {E : zE} {d : Nat} {F : zFs} {n sl : Nat} (hG : zG F) {o3 : Int} (k_11 : Int → Int → zDa → Option (Int × zDa)) (hk_11 : ∀ (u4 : Int) (u5 : Int) (D : zDa), zO l E (d + 1) YX10_holds 11 [(0, zR 49), (1, zR o1), (3, zI o3), (4, zI u4), (5, zI u5)] [] (F, D, n, sl) (zcI F n sl) (k_11 u4 u5 D)) (o1 : Nat) (v3 : Int) (v4 : Int) (v5 : Int) (v7 : Int) (D : zDa) : zO l E (d + 1) YX10_holds 143 [(0, zR 49), (1, zR o1), (3, zI v3), (4, zI v4), (5, zI v5), (7, zI v7)] [] (F, D, n, sl) (zcI F n sl) (fX10_holds_143 F k_11 o1 v3 v4 v5 v7 D) := by
  unfold fX10_holds_143
  refine zO_iconst 73 rfl (by decide) ?_
  refine zO_live [0, 1, 3, 4, 5, 7] ?_
  exact sX10_holds_144 hG _ hk_11 o1 v3 v4 v5 v7 0 D
theorem sX10_holds_134 {l : Launch} {E : zE} {d : Nat} {F : zFs} {n sl : Nat} (hG : zG F) {o3 : Int} (k_11 : Int → Int → zDa → Option (Int × zDa)) (hk_11 : ∀ (u4 : Int) (u5 : Int) (D : zDa), zO l E (d + 1) YX10_holds 11 [(0, zR 49), (1, zR o1), (3, zI o3), (4, zI u4), (5, zI u5)] [] (F, D, n, sl) (zcI F n sl) (k_11 u4 u5 D)) (o1 : Nat) (v3 : Int) (v4 : Int) (v5 : Int) (v7 : Int) (s0 : Int) (s1 : Int) (D : zDa) : zO l E (d + 1) YX10_holds 134 [(0, zR 49), (1, zR o1), (3, zI v3), (4, zI v4), (5, zI v5), (7, zI v7)] [zI s0, zL s1] (F, D, n, sl) (zcI F n sl) (fX10_holds_134 F k_11 o1 v3 v4 v5 v7 s0 s1 D) := by
  unfold fX10_holds_134
  refine zO_i2l 68 rfl ?_
  refine zO_lif_ne (tgt := 143) 69 70 rfl rfl rfl (fun c135 => ?_) (fun c135 => ?_)
  · refine zO_iconst 71 rfl (by decide) ?_
    refine zO_goto (tgt := 144) 72 rfl rfl ?_
    refine zO_live [0, 1, 3, 4, 5, 7] ?_
    exact sX10_holds_144 hG _ hk_11 o1 v3 v4 v5 v7 1 D
  · refine zO_live [0, 1, 3, 4, 5, 7] ?_
    exact sX10_holds_143 hG _ hk_11 o1 v3 v4 v5 v7 D
theorem sX10_holds_104 {l : Launch} {E : zE} {d : Nat} {F : zFs} {n sl : Nat} (hG : zG F) {o3 : Int} (k_11 : Int → Int → zDa → Option (Int × zDa)) (hk_11 : ∀ (u4 : Int) (u5 : Int) (D : zDa), zO l E (d + 1) YX10_holds 11 [(0, zR 49), (1, zR o1), (3, zI o3), (4, zI u4), (5, zI u5)] [] (F, D, n, sl) (zcI F n sl) (k_11 u4 u5 D)) (o1 : Nat) (v3 : Int) (v4 : Int) (v5 : Int) (v6 : Int) (v7 : Int) (D : zDa) : zO l E (d + 1) YX10_holds 104 [(0, zR 49), (1, zR o1), (3, zI v3), (4, zI v4), (5, zI v5), (6, zI v6), (7, zI v7)] [] (F, D, n, sl) (zcI F n sl) (fX10_holds_104 F k_11 o1 v3 v4 v5 v6 v7 D) := by
  unfold fX10_holds_104
  refine zO_aload_n 52 rfl rfl (zR_P _) ?_
  refine gt10 (k := 3) (v := zI (D 49 3)) 53 rfl wF_X10_81 (by decide) (gk_49 hG) rfl ?_
  refine zO_if_le (tgt := 143) 54 rfl rfl (fun c108 => ?_) (fun c108 => ?_)
  · refine zO_chk (fun h5 => ?_)
    refine zO_aload_n 55 rfl rfl (zR_P _) ?_
    refine gt10 (k := 2) 56 rfl wF_X10_17 (by decide) (gk_49 hG) (zgv (c := 10) (k := 2) rfl (Or.inl ⟨_, rfl⟩) (gf_49_2 hG)) ?_
    refine zO_aload_n 57 rfl rfl (zR_P _) ?_
    refine gt10 (k := 3) (v := zI (D 49 3)) 58 rfl wF_X10_81 (by decide) (gk_49 hG) rfl ?_
    refine zO_iconst 59 rfl (by decide) ?_
    refine zO_isub 60 rfl h5.1 ?_
    refine zO_lald 61 rfl (gk_51 hG) (gl_in (gl_51 hG) h5.2) ?_
    refine zO_iload 62 rfl rfl ?_
    refine zO_bipush 63 rfl (by decide) ?_
    refine zO_icmp_ne (tgt := 133) 64 rfl rfl (fun c126 => ?_) (fun c126 => ?_)
    · refine zO_iconst 65 rfl (by decide) ?_
      refine zO_goto (tgt := 134) 66 rfl rfl ?_
      refine zO_live [0, 1, 3, 4, 5, 7] ?_
      exact sX10_holds_134 hG _ hk_11 o1 v3 v4 v5 v7 1 (D 51 ((D 49 3) - 1).toNat) D
    · refine zO_iconst 67 rfl (by decide) ?_
      refine zO_live [0, 1, 3, 4, 5, 7] ?_
      exact sX10_holds_134 hG _ hk_11 o1 v3 v4 v5 v7 0 (D 51 ((D 49 3) - 1).toNat) D
  · refine zO_live [0, 1, 3, 4, 5, 7] ?_
    exact sX10_holds_143 hG _ hk_11 o1 v3 v4 v5 v7 D
theorem sX10_holds_11 {l : Launch} {E : zE} {d : Nat} {F : zFs} {n sl : Nat} (hG : zG F)  (o1 : Nat) (o3 : Int)   : ∀ (N : Nat) (v4 : Int) (v5 : Int) (D : zDa), zO l E (d + 1) YX10_holds 11 [(0, zR 49), (1, zR o1), (3, zI o3), (4, zI v4), (5, zI v5)] [] (F, D, n, sl) (zcI F n sl) (zfix (fun _ _ _ => none) (fX10_holds_11 F o1 o3) N v4 v5 D) := by
  intro N
  induction N with
  | zero => intro v4 v5 D; exact zO_none
  | succ N hk_11 =>
    intro v4 v5 D
    show zO _ _ _ _ _ _ _ _ _ ((fX10_holds_11 F o1 o3) (zfix (fun _ _ _ => none) (fX10_holds_11 F o1 o3) N) v4 v5 D)
    unfold fX10_holds_11
    refine zO_iload 7 rfl rfl ?_
    refine zO_sipush 8 rfl (by decide) ?_
    refine zO_icmp_ge (tgt := 188) 9 rfl rfl (fun c16 => ?_) (fun c16 => ?_)
    · refine zO_iload 10 rfl rfl ?_
      refine zO_if_lt (tgt := 188) 11 rfl rfl (fun c21 => ?_) (fun c21 => ?_)
      · refine zO_live [0] ?_
        exact sX10_holds_188 hG D
      · refine zO_iload 12 rfl rfl ?_
        refine zO_iload_n 13 rfl rfl ?_
        refine zO_icmp_ge (tgt := 188) 14 rfl rfl (fun c27 => ?_) (fun c27 => ?_)
        · refine zO_chk (fun h1 => ?_)
          refine zO_aload_n 15 rfl rfl (zR_P _) ?_
          refine gt3 (k := 3) (v := zq ((F o1).2.2 3)) 16 rfl wF_X10_84 (by decide) h1.1 rfl ?_
          refine zO_iload 17 rfl rfl ?_
          refine zO_st (st' := [zI v4, zR (((F o1).2.2 3).toNat)]) (by rw [zq_pos h1.2.1]) ?_
          refine zO_iald 18 rfl h1.2.2.1 h1.2.2.2 ?_
          refine zO_bipush 19 rfl (by decide) ?_
          refine zO_iand 20 rfl ?_
          refine zO_letI (fun x6_2 ex6_2 => ?_)
          refine zO_istore 21 rfl (by decide) ?_
          refine zO_aload_n 22 rfl rfl (zR_P _) ?_
          refine gt3 (k := 3) (v := zq ((F o1).2.2 3)) 23 rfl wF_X10_84 (by decide) h1.1 rfl ?_
          refine zO_iload 24 rfl rfl ?_
          refine zO_st (st' := [zI v4, zR (((F o1).2.2 3).toNat)]) (by rw [zq_pos h1.2.1]) ?_
          refine zO_iald 25 rfl h1.2.2.1 h1.2.2.2 ?_
          refine zO_iconst 26 rfl (by decide) ?_
          refine zO_ishr 27 rfl ?_
          refine zO_letI (fun x7_3 ex7_3 => ?_)
          refine zO_istore 28 rfl (by decide) ?_
          refine zO_chk (fun h2 => ?_)
          refine zO_iinc 29 rfl rfl h2 (by decide) ?_
          refine zO_iload 30 rfl rfl ?_
          refine zO_if_ne (tgt := 70) 31 rfl rfl (fun c58 => ?_) (fun c58 => ?_)
          · refine zO_aload_n 32 rfl rfl (zR_P _) ?_
            refine zO_iload 33 rfl rfl ?_
            refine zO_callV (Y' := YX10_push) (cw := zcV F n sl) (as := [zI x7_3]) (rest := []) (na := 1) (ci := 10) rfl 34 rfl wC_X10_push wN_X10 wM_X10_87 wI_X10_push wV_X10_push (by decide) (by decide) rfl rfl (Nat.le_of_ble_eq_true rfl) rfl (by decide) (gk_49 hG) (fun r hr => mX10_push (d := d + 0) hG x7_3 r hr) ?_
            intro D_5 _
            show zO _ _ _ _ _ _ [] (F, D_5, n, sl) _ _
            refine zO_goto (tgt := 182) 35 rfl rfl ?_
            refine zO_live [0, 1, 3, 4, 5] ?_
            exact sX10_holds_182 hG _ hk_11 o1 o3 (v4 + 1) v5 D_5
          · refine zO_iload 36 rfl rfl ?_
            refine zO_iconst 37 rfl (by decide) ?_
            refine zO_icmp_ne (tgt := 90) 38 rfl rfl (fun c73 => ?_) (fun c73 => ?_)
            · refine zO_chk (fun h4 => ?_)
              refine zO_aload_n 39 rfl rfl (zR_P _) ?_
              refine zO_aload_n 40 rfl rfl (zR_P _) ?_
              refine gt10 (k := 1) 41 rfl wF_X10_11 (by decide) (gk_49 hG) (zgv (c := 10) (k := 1) rfl (Or.inl ⟨_, rfl⟩) (gf_49_1 hG)) ?_
              refine zO_iload 42 rfl rfl ?_
              refine zO_iald 43 rfl (gk_50 hG) (gl_in (gl_50 hG) h4) ?_
              refine zO_callV (Y' := YX10_push) (cw := zcV F n sl) (as := [zI (D 50 x7_3.toNat)]) (rest := []) (na := 1) (ci := 10) rfl 44 rfl wC_X10_push wN_X10 wM_X10_87 wI_X10_push wV_X10_push (by decide) (by decide) rfl rfl (Nat.le_of_ble_eq_true rfl) rfl (by decide) (gk_49 hG) (fun r hr => mX10_push (d := d + 0) hG (D 50 x7_3.toNat) r hr) ?_
              intro D_7 _
              show zO _ _ _ _ _ _ [] (F, D_7, n, sl) _ _
              refine zO_goto (tgt := 182) 45 rfl rfl ?_
              refine zO_live [0, 1, 3, 4, 5] ?_
              exact sX10_holds_182 hG _ hk_11 o1 o3 (v4 + 1) v5 D_7
            · refine zO_iload 46 rfl rfl ?_
              refine zO_bipush 47 rfl (by decide) ?_
              refine zO_icmp_eq (tgt := 104) 48 rfl rfl (fun c94 => ?_) (fun c94 => ?_)
              · refine zO_live [0, 1, 3, 4, 5, 6, 7] ?_
                exact sX10_holds_104 hG _ hk_11 o1 o3 (v4 + 1) v5 x6_2 x7_3 D
              · refine zO_iload 49 rfl rfl ?_
                refine zO_bipush 50 rfl (by decide) ?_
                refine zO_icmp_ne (tgt := 171) 51 rfl rfl (fun c101 => ?_) (fun c101 => ?_)
                · refine zO_live [0, 1, 3, 4, 5, 6, 7] ?_
                  exact sX10_holds_104 hG _ hk_11 o1 o3 (v4 + 1) v5 x6_2 x7_3 D
                · refine zO_aload_n 87 rfl rfl (zR_P _) ?_
                  refine zO_iload 88 rfl rfl ?_
                  refine zO_callV (Y' := YX10_operate) (cw := zcI F n sl) (as := [zI x6_2]) (rest := []) (na := 1) (ci := 10) rfl 89 rfl wC_X10_operate wN_X10 wM_X10_91 wI_X10_operate wV_X10_operate (by decide) (by decide) rfl rfl (Nat.le_of_ble_eq_true rfl) rfl (by decide) (gk_49 hG) (fun r hr => mX10_operate (d := d + 0) hG x6_2 r hr) ?_
                  rintro ⟨r_9, D_10⟩ -
                  show zO _ _ _ _ _ _ [zI r_9] (F, D_10, n, sl) _ _
                  refine zO_if_ne (tgt := 182) 90 rfl rfl (fun c177 => ?_) (fun c177 => ?_)
                  · refine zO_iconst 91 rfl (by decide) ?_
                    exact zO_ret (rv := some (zI 0)) 92 rfl rfl rfl rfl
                  · refine zO_live [0, 1, 3, 4, 5] ?_
                    exact sX10_holds_182 hG _ hk_11 o1 o3 (v4 + 1) v5 D_10
        · refine zO_live [0] ?_
          exact sX10_holds_188 hG D
    · refine zO_live [0] ?_
      exact sX10_holds_188 hG D
theorem mX10_holds {l : Launch} {E : zE} {d : Nat} {F : zFs} {n sl : Nat} (hG : zG F) (a1 : Nat) (v2 : Int) (v3 : Int) {D : zDa} : ∀ r, fX10_holds F  a1 v2 v3 D = some r → zMet l E (d + 1) YX10_holds [zR 49, zR a1, zI v2, zI v3] (F, D, n, sl) (zcI F n sl r) := by
  intro r hr
  refine zMet_of (plainFor_of_name (by decide)) tvX10_holds (Nat.le_of_ble_eq_true rfl) ?_
  have hz : zO l E (d + 1) YX10_holds 0 [(0, zR 49), (1, zR a1), (2, zI v2), (3, zI v3)] [] (F, D, n, sl) (zcI F n sl) (fX10_holds F  a1 v2 v3 D) := by
    unfold fX10_holds
    refine zO_iload_n 0 rfl rfl ?_
    refine zO_istore 1 rfl (by decide) ?_
    refine zO_aload_n 2 rfl rfl (zR_P _) ?_
    refine zO_iconst 3 rfl (by decide) ?_
    refine ptI10 (k := 3) (z := 0) 4 rfl wF_X10_81 (by decide) rfl (gk_49 hG) rfl ?_
    refine zO_letD (fun D_1 eD_1 => ?_)
    refine zO_iconst 5 rfl (by decide) ?_
    refine zO_istore 6 rfl (by decide) ?_
    refine zO_live [0, 1, 3, 4, 5] ?_
    exact sX10_holds_11 hG a1 v3 zfu v2 0 D_1
  exact hz r hr
def tJ9_min_f86c9 : List (Nat × Instr × Nat) := [(0, .lload_n 0, 1), (1, .lload_n 2, 1), (2, .lcmp, 1), (3, .ifCond .gt 7, 3), (6, .lload_n 0, 1), (7, .goto 4, 3), (10, .lload_n 2, 1), (11, .lreturn, 1)]
set_option maxRecDepth 100000 in
theorem tvJ9_min_f86c9 : ∀ q ∈ tJ9_min_f86c9, decode cJ9_min_f86c9 q.1 = .ok q.2 := by decide +kernel
abbrev YJ9_min_f86c9 : zY := (yJ9_min_f86c9, cJ9_min_f86c9, 4, (Option.some Jvm.ClassFile.FieldType.long), tJ9_min_f86c9)
def fJ9_min_f86c9 (F : zFs) (v0 : Int) (v2 : Int) (D : zDa) : Option (Int × zDa) :=
  if v2 < v0 then
    some (v2, D)
  else
    some (v0, D)
theorem mJ9_min_f86c9 {l : Launch} {E : zE} {d : Nat} {F : zFs} {n sl : Nat} (hG : zG F) (v0 : Int) (v2 : Int) {D : zDa} : ∀ r, fJ9_min_f86c9 F  v0 v2 D = some r → zMet l E (d + 0) YJ9_min_f86c9 [zL v0, zL v2] (F, D, n, sl) (zcJ F n sl r) := by
  intro r hr
  refine zMet_of (by decide +kernel) tvJ9_min_f86c9 (Nat.le_of_ble_eq_true rfl) ?_
  have hz : zO l E (d + 0) YJ9_min_f86c9 0 [(0, zL v0), (2, zL v2)] [] (F, D, n, sl) (zcJ F n sl) (fJ9_min_f86c9 F  v0 v2 D) := by
    unfold fJ9_min_f86c9
    refine zO_lload_n 0 rfl rfl ?_
    refine zO_lload_n 1 rfl rfl ?_
    refine zO_lif_gt (tgt := 10) 2 3 rfl rfl rfl (fun c2 => ?_) (fun c2 => ?_)
    · refine zO_lload_n 6 rfl rfl ?_
      exact zO_ret (rv := some (zL v2)) 7 rfl rfl trivial rfl
    · refine zO_lload_n 4 rfl rfl ?_
      refine zO_goto (tgt := 11) 5 rfl rfl ?_
      exact zO_ret (rv := some (zL v0)) 7 rfl rfl trivial rfl
  exact hz r hr
def tJ9_max_f86c9 : List (Nat × Instr × Nat) := [(0, .lload_n 0, 1), (1, .lload_n 2, 1), (2, .lcmp, 1), (3, .ifCond .lt 7, 3), (6, .lload_n 0, 1), (7, .goto 4, 3), (10, .lload_n 2, 1), (11, .lreturn, 1)]
set_option maxRecDepth 100000 in
theorem tvJ9_max_f86c9 : ∀ q ∈ tJ9_max_f86c9, decode cJ9_max_f86c9 q.1 = .ok q.2 := by decide +kernel
abbrev YJ9_max_f86c9 : zY := (yJ9_max_f86c9, cJ9_max_f86c9, 4, (Option.some Jvm.ClassFile.FieldType.long), tJ9_max_f86c9)
def fJ9_max_f86c9 (F : zFs) (v0 : Int) (v2 : Int) (D : zDa) : Option (Int × zDa) :=
  if v0 < v2 then
    some (v2, D)
  else
    some (v0, D)
theorem mJ9_max_f86c9 {l : Launch} {E : zE} {d : Nat} {F : zFs} {n sl : Nat} (hG : zG F) (v0 : Int) (v2 : Int) {D : zDa} : ∀ r, fJ9_max_f86c9 F  v0 v2 D = some r → zMet l E (d + 0) YJ9_max_f86c9 [zL v0, zL v2] (F, D, n, sl) (zcJ F n sl r) := by
  intro r hr
  refine zMet_of (by decide +kernel) tvJ9_max_f86c9 (Nat.le_of_ble_eq_true rfl) ?_
  have hz : zO l E (d + 0) YJ9_max_f86c9 0 [(0, zL v0), (2, zL v2)] [] (F, D, n, sl) (zcJ F n sl) (fJ9_max_f86c9 F  v0 v2 D) := by
    unfold fJ9_max_f86c9
    refine zO_lload_n 0 rfl rfl ?_
    refine zO_lload_n 1 rfl rfl ?_
    refine zO_lif_lt (tgt := 10) 2 3 rfl rfl rfl (fun c2 => ?_) (fun c2 => ?_)
    · refine zO_lload_n 6 rfl rfl ?_
      exact zO_ret (rv := some (zL v2)) 7 rfl rfl trivial rfl
    · refine zO_lload_n 4 rfl rfl ?_
      refine zO_goto (tgt := 11) 5 rfl rfl ?_
      exact zO_ret (rv := some (zL v0)) 7 rfl rfl trivial rfl
  exact hz r hr
def tX10_told : List (Nat × Instr × Nat) := [(0, .aload_n 0, 1), (1, .getfield 21, 3), (4, .invokevirtual 54, 3), (7, .astore 5, 2), (9, .aload 5, 2), (11, .ifnonnull 5, 3), (14, .iload_n 2, 1), (15, .ireturn, 1), (16, .aload 5, 2), (18, .getfield 58, 3), (21, .iconst 1, 1), (22, .isub, 1), (23, .istore 6, 2), (25, .iload 6, 2), (27, .ifCond .lt 67, 3), (30, .aload 5, 2), (32, .getfield 62, 3), (35, .iload 6, 2), (37, .iaload, 1), (38, .iload_n 1, 1), (39, .if_icmp .ne 49, 3), (42, .aload_n 0, 1), (43, .aload 5, 2), (45, .aload 5, 2), (47, .getfield 65, 3), (50, .iload 6, 2), (52, .iaload, 1), (53, .aload 5, 2), (55, .getfield 65, 3), (58, .iload 6, 2), (60, .iconst 1, 1), (61, .iadd, 1), (62, .iaload, 1), (63, .invokevirtual 68, 3), (66, .ifCond .eq 22, 3), (69, .iload_n 3, 1), (70, .i2l, 1), (71, .iload 4, 2), (73, .i2l, 1), (74, .aload_n 0, 1), (75, .getfield 17, 3), (78, .iconst 0, 1), (79, .laload, 1), (80, .invokestatic 72, 3), (83, .invokestatic 78, 3), (86, .l2i, 1), (87, .ireturn, 1), (88, .iinc 6 (-1), 3), (91, .goto (-66), 3), (94, .iload_n 2, 1), (95, .ireturn, 1)]
set_option maxRecDepth 100000 in
theorem tvX10_told : ∀ q ∈ tX10_told, decode cX10_told q.1 = .ok q.2 := by decide +kernel
abbrev YX10_told : zY := (yX10_told, cX10_told, 7, (Option.some Jvm.ClassFile.FieldType.int), tX10_told)
def fX10_told_88 (F : zFs) (k_25 : Int → zDa → Option (Int × zDa)) (v1 : Int) (v2 : Int) (v3 : Int) (v4 : Int) (o5 : Int) (v6 : Int) (D : zDa) : Option (Int × zDa) :=
  if (-2147483648 ≤ v6 + (-1) ∧ v6 + (-1) ≤ 2147483647) then
    k_25 (v6 + (-1)) D
  else none
def fX10_told_25 (F : zFs) (o1 : Int) (o2 : Int) (o3 : Int) (o4 : Int) (o5 : Int)  (k_25 : Int → zDa → Option (Int × zDa)) (v6 : Int) (D : zDa) : Option (Int × zDa) :=
  if v6 < 0 then
    some (o2, D)
  else
    if (0 ≤ o5) ∧ ((F o5.toNat).1 = 4) ∧ (0 ≤ ((F o5.toNat).2.2 1)) ∧ ((F (((F o5.toNat).2.2 1).toNat)).1 = 20) ∧ (0 ≤ v6 ∧ v6 < ((F (((F o5.toNat).2.2 1).toNat)).2.1 : Int)) then
      if (D (((F o5.toNat).2.2 1).toNat) v6.toNat) = o1 then
        if (0 ≤ ((F o5.toNat).2.2 2)) ∧ ((F (((F o5.toNat).2.2 2).toNat)).1 = 20) ∧ (0 ≤ v6 ∧ v6 < ((F (((F o5.toNat).2.2 2).toNat)).2.1 : Int)) ∧ (-2147483648 ≤ v6 + 1 ∧ v6 + 1 ≤ 2147483647) ∧ (0 ≤ (v6 + 1) ∧ (v6 + 1) < ((F (((F o5.toNat).2.2 2).toNat)).2.1 : Int)) then
          (fX10_holds F o5.toNat (D (((F o5.toNat).2.2 2).toNat) v6.toNat) (D (((F o5.toNat).2.2 2).toNat) (v6 + 1).toNat) D).bind (fun (r_4, D_5) =>
            if r_4 = 0 then
              fX10_told_88 F k_25 o1 o2 o3 o4 o5 v6 D_5
            else
              (fJ9_min_f86c9 F o4 (D_5 51 0) D_5).bind (fun (r_6, D_7) =>
                (fJ9_max_f86c9 F o3 r_6 D_7).bind (fun (r_8, D_9) =>
                  some ((zl2i r_8), D_9))))
        else none
      else
        fX10_told_88 F k_25 o1 o2 o3 o4 o5 v6 D
    else none
def fX10_told (F : zFs) (v1 : Int) (v2 : Int) (v3 : Int) (v4 : Int) (D : zDa) : Option (Int × zDa) :=
  (fX9_paperInUse F D).bind (fun (r_1, D_2) =>
    if r_1 < 0 then
      some (v2, D_2)
    else
      if ((F r_1.toNat).1 = 4) ∧ (-2147483648 ≤ ((F r_1.toNat).2.2 0) - 1 ∧ ((F r_1.toNat).2.2 0) - 1 ≤ 2147483647) then
        zlet ((((F r_1.toNat).2.2 0) - 1)) (fun x6_3 =>
          zfix (fun _ _ => none) (fX10_told_25 F v1 v2 v3 v4 r_1) zfu x6_3 D_2)
      else none)
theorem sX10_told_88 {l : Launch} {E : zE} {d : Nat} {F : zFs} {n sl : Nat} (hG : zG F) {o1 : Int} {o2 : Int} {o3 : Int} {o4 : Int} (k_25 : Int → zDa → Option (Int × zDa)) (hk_25 : ∀ (u6 : Int) (D : zDa), zO l E (d + 2) YX10_told 25 [(0, zR 49), (1, zI o1), (2, zI o2), (3, zI o3), (4, zI o4), (5, zq o5), (6, zI u6)] [] (F, D, n, sl) (zcI F n sl) (k_25 u6 D)) (v1 : Int) (v2 : Int) (v3 : Int) (v4 : Int) (o5 : Int) (v6 : Int) (D : zDa) : zO l E (d + 2) YX10_told 88 [(0, zR 49), (1, zI v1), (2, zI v2), (3, zI v3), (4, zI v4), (5, zq o5), (6, zI v6)] [] (F, D, n, sl) (zcI F n sl) (fX10_told_88 F k_25 v1 v2 v3 v4 o5 v6 D) := by
  unfold fX10_told_88
  refine zO_chk (fun h4 => ?_)
  refine zO_iinc 47 rfl rfl h4 (by decide) ?_
  refine zO_goto (tgt := 25) 48 rfl rfl ?_
  refine zO_live [0, 1, 2, 3, 4, 5, 6] ?_
  exact hk_25 (v6 + (-1)) D
theorem sX10_told_25 {l : Launch} {E : zE} {d : Nat} {F : zFs} {n sl : Nat} (hG : zG F)  (o1 : Int) (o2 : Int) (o3 : Int) (o4 : Int) (o5 : Int)   : ∀ (N : Nat) (v6 : Int) (D : zDa), zO l E (d + 2) YX10_told 25 [(0, zR 49), (1, zI o1), (2, zI o2), (3, zI o3), (4, zI o4), (5, zq o5), (6, zI v6)] [] (F, D, n, sl) (zcI F n sl) (zfix (fun _ _ => none) (fX10_told_25 F o1 o2 o3 o4 o5) N v6 D) := by
  intro N
  induction N with
  | zero => intro v6 D; exact zO_none
  | succ N hk_25 =>
    intro v6 D
    show zO _ _ _ _ _ _ _ _ _ ((fX10_told_25 F o1 o2 o3 o4 o5) (zfix (fun _ _ => none) (fX10_told_25 F o1 o2 o3 o4 o5) N) v6 D)
    unfold fX10_told_25
    refine zO_iload 13 rfl rfl ?_
    refine zO_if_lt (tgt := 94) 14 rfl rfl (fun c27 => ?_) (fun c27 => ?_)
    · refine zO_iload_n 49 rfl rfl ?_
      exact zO_ret (rv := some (zI o2)) 50 rfl rfl rfl rfl
    · refine zO_chk (fun h2 => ?_)
      refine zO_aload 15 rfl rfl (zq_P _) ?_
      refine zO_st (st' := [zR o5.toNat]) (by rw [zq_pos h2.1]) ?_
      refine gt3 (k := 1) (v := zq ((F o5.toNat).2.2 1)) 16 rfl wF_X10_62 (by decide) h2.2.1 rfl ?_
      refine zO_iload 17 rfl rfl ?_
      refine zO_st (st' := [zI v6, zR (((F o5.toNat).2.2 1).toNat)]) (by rw [zq_pos h2.2.2.1]) ?_
      refine zO_iald 18 rfl h2.2.2.2.1 h2.2.2.2.2 ?_
      refine zO_iload_n 19 rfl rfl ?_
      refine zO_icmp_ne (tgt := 88) 20 rfl rfl (fun c39 => ?_) (fun c39 => ?_)
      · refine zO_chk (fun h3 => ?_)
        refine zO_aload_n 21 rfl rfl (zR_P _) ?_
        refine zO_aload 22 rfl rfl (zq_P _) ?_
        refine zO_aload 23 rfl rfl (zq_P _) ?_
        refine zO_st (st' := [zR o5.toNat, zq o5, zR 49]) (by rw [zq_pos h2.1]) ?_
        refine gt3 (k := 2) (v := zq ((F o5.toNat).2.2 2)) 24 rfl wF_X10_65 (by decide) h2.2.1 rfl ?_
        refine zO_iload 25 rfl rfl ?_
        refine zO_st (st' := [zI v6, zR (((F o5.toNat).2.2 2).toNat), zq o5, zR 49]) (by rw [zq_pos h3.1]) ?_
        refine zO_iald 26 rfl h3.2.1 h3.2.2.1 ?_
        refine zO_aload 27 rfl rfl (zq_P _) ?_
        refine zO_st (st' := [zR o5.toNat, zI (D (((F o5.toNat).2.2 2).toNat) v6.toNat), zq o5, zR 49]) (by rw [zq_pos h2.1]) ?_
        refine gt3 (k := 2) (v := zq ((F o5.toNat).2.2 2)) 28 rfl wF_X10_65 (by decide) h2.2.1 rfl ?_
        refine zO_iload 29 rfl rfl ?_
        refine zO_iconst 30 rfl (by decide) ?_
        refine zO_iadd 31 rfl h3.2.2.2.1 ?_
        refine zO_st (st' := [zI (v6 + 1), zR (((F o5.toNat).2.2 2).toNat), zI (D (((F o5.toNat).2.2 2).toNat) v6.toNat), zq o5, zR 49]) (by rw [zq_pos h3.1]) ?_
        refine zO_iald 32 rfl h3.2.1 h3.2.2.2.2 ?_
        refine zO_st (st' := [zI (D (((F o5.toNat).2.2 2).toNat) (v6 + 1).toNat), zI (D (((F o5.toNat).2.2 2).toNat) v6.toNat), zR o5.toNat, zR 49]) (by rw [zq_pos h2.1]) ?_
        refine zO_callV (Y' := YX10_holds) (cw := zcI F n sl) (as := [zR o5.toNat, zI (D (((F o5.toNat).2.2 2).toNat) v6.toNat), zI (D (((F o5.toNat).2.2 2).toNat) (v6 + 1).toNat)]) (rest := []) (na := 3) (ci := 10) rfl 33 rfl wC_X10_holds wN_X10 wM_X10_68 wI_X10_holds wV_X10_holds (by decide) (by decide) rfl rfl (Nat.le_of_ble_eq_true rfl) rfl (by decide) (gk_49 hG) (fun r hr => mX10_holds (d := d + 0) hG o5.toNat (D (((F o5.toNat).2.2 2).toNat) v6.toNat) (D (((F o5.toNat).2.2 2).toNat) (v6 + 1).toNat) r hr) ?_
        rintro ⟨r_4, D_5⟩ -
        show zO _ _ _ _ _ _ [zI r_4] (F, D_5, n, sl) _ _
        refine zO_if_eq (tgt := 88) 34 rfl rfl (fun c66 => ?_) (fun c66 => ?_)
        · refine zO_live [0, 1, 2, 3, 4, 5, 6] ?_
          exact sX10_told_88 hG _ hk_25 o1 o2 o3 o4 o5 v6 D_5
        · refine zO_iload_n 35 rfl rfl ?_
          refine zO_i2l 36 rfl ?_
          refine zO_iload 37 rfl rfl ?_
          refine zO_i2l 38 rfl ?_
          refine zO_aload_n 39 rfl rfl (zR_P _) ?_
          refine gt10 (k := 2) 40 rfl wF_X10_17 (by decide) (gk_49 hG) (zgv (c := 10) (k := 2) rfl (Or.inl ⟨_, rfl⟩) (gf_49_2 hG)) ?_
          refine zO_iconst 41 rfl (by decide) ?_
          refine zO_lald 42 rfl (gk_51 hG) (gl_in (gl_51 hG) (by decide)) ?_
          refine zO_callS (Y' := YJ9_min_f86c9) (cw := zcJ F n sl) (as := [zL o4, zL (D_5 51 0)]) (rest := [zL o3]) (na := 2) 43 rfl wC_J9_min_f86c9 wN_J9 wM_X10_72 wS_J9_min_f86c9 (by decide) (by decide) rfl rfl (Nat.le_of_ble_eq_true rfl) (fun r hr => mJ9_min_f86c9 (d := d + 1) hG o4 (D_5 51 0) r hr) ?_
          rintro ⟨r_6, D_7⟩ -
          show zO _ _ _ _ _ _ [zL r_6, zL o3] (F, D_7, n, sl) _ _
          refine zO_callS (Y' := YJ9_max_f86c9) (cw := zcJ F n sl) (as := [zL o3, zL r_6]) (rest := []) (na := 2) 44 rfl wC_J9_max_f86c9 wN_J9 wM_X10_78 wS_J9_max_f86c9 (by decide) (by decide) rfl rfl (Nat.le_of_ble_eq_true rfl) (fun r hr => mJ9_max_f86c9 (d := d + 1) hG o3 r_6 r hr) ?_
          rintro ⟨r_8, D_9⟩ -
          show zO _ _ _ _ _ _ [zL r_8] (F, D_9, n, sl) _ _
          refine zO_l2i 45 rfl ?_
          exact zO_ret (rv := some (zI (zl2i r_8))) 46 rfl rfl rfl rfl
      · refine zO_live [0, 1, 2, 3, 4, 5, 6] ?_
        exact sX10_told_88 hG _ hk_25 o1 o2 o3 o4 o5 v6 D
theorem mX10_told {l : Launch} {E : zE} {d : Nat} {F : zFs} {n sl : Nat} (hG : zG F) (v1 : Int) (v2 : Int) (v3 : Int) (v4 : Int) {D : zDa} : ∀ r, fX10_told F  v1 v2 v3 v4 D = some r → zMet l E (d + 2) YX10_told [zR 49, zI v1, zI v2, zI v3, zI v4] (F, D, n, sl) (zcI F n sl r) := by
  intro r hr
  refine zMet_of (plainFor_of_name (by decide)) tvX10_told (Nat.le_of_ble_eq_true rfl) ?_
  have hz : zO l E (d + 2) YX10_told 0 [(0, zR 49), (1, zI v1), (2, zI v2), (3, zI v3), (4, zI v4)] [] (F, D, n, sl) (zcI F n sl) (fX10_told F  v1 v2 v3 v4 D) := by
    unfold fX10_told
    refine zO_aload_n 0 rfl rfl (zR_P _) ?_
    refine gt10 (k := 0) 1 rfl wF_X10_21 (by decide) (gk_49 hG) (zgv (c := 10) (k := 0) rfl (Or.inr ⟨_, rfl⟩) (gf_49_0 hG)) ?_
    refine zO_callV (Y' := YX9_paperInUse) (cw := zcQ F n sl) (as := []) (rest := []) (na := 0) (ci := 9) rfl 2 rfl wC_X9_paperInUse wN_X9 wM_X10_54 wI_X9_paperInUse wV_X9_paperInUse (by decide) (by decide) rfl rfl (Nat.le_of_ble_eq_true rfl) rfl (by decide) (gk_1 hG) (fun r hr => mX9_paperInUse (d := d + 1) hG  r hr) ?_
    rintro ⟨r_1, D_2⟩ -
    show zO _ _ _ _ _ _ [zq r_1] (F, D_2, n, sl) _ _
    refine zO_astore 3 rfl (by decide) (zq_P _) ?_
    refine zO_aload 4 rfl rfl (zq_P _) ?_
    refine zO_ifnnq (tgt := 16) 5 rfl rfl (fun c11 => ?_) (fun c11 => ?_)
    · refine zO_iload_n 6 rfl rfl ?_
      exact zO_ret (rv := some (zI v2)) 7 rfl rfl rfl rfl
    · refine zO_chk (fun h1 => ?_)
      refine zO_aload 8 rfl rfl (zq_P _) ?_
      refine zO_st (st' := [zR r_1.toNat]) (by rw [zq_pos (Int.not_lt.mp c11)]) ?_
      refine gt3 (k := 0) (v := zI ((F r_1.toNat).2.2 0)) 9 rfl wF_X10_58 (by decide) h1.1 rfl ?_
      refine zO_iconst 10 rfl (by decide) ?_
      refine zO_isub 11 rfl h1.2 ?_
      refine zO_letI (fun x6_3 ex6_3 => ?_)
      refine zO_istore 12 rfl (by decide) ?_
      refine zO_live [0, 1, 2, 3, 4, 5, 6] ?_
      exact sX10_told_25 hG v1 v2 v3 v4 r_1 zfu x6_3 D_2
  exact hz r hr
def tX10_hoursOf : List (Nat × Instr × Nat) := [(0, .aload_n 0, 1), (1, .iload_n 1, 1), (2, .iload_n 2, 1), (3, .invokevirtual 25, 3), (6, .aload_n 0, 1), (7, .getfield 11, 3), (10, .iconst 3, 1), (11, .iload_n 3, 1), (12, .iastore, 1), (13, .aload_n 0, 1), (14, .getfield 11, 3), (17, .iconst 5, 1), (18, .iload 4, 2), (20, .iastore, 1), (21, .aload_n 0, 1), (22, .iconst 0, 1), (23, .iconst 4, 1), (24, .iconst 1, 1), (25, .bipush 20, 2), (27, .invokevirtual 29, 3), (30, .ireturn, 1)]
set_option maxRecDepth 100000 in
theorem tvX10_hoursOf : ∀ q ∈ tX10_hoursOf, decode cX10_hoursOf q.1 = .ok q.2 := by decide +kernel
abbrev YX10_hoursOf : zY := (yX10_hoursOf, cX10_hoursOf, 5, (Option.some Jvm.ClassFile.FieldType.int), tX10_hoursOf)
def fX10_hoursOf (F : zFs) (v1 : Int) (v2 : Int) (v3 : Int) (v4 : Int) (D : zDa) : Option (Int × zDa) :=
  (fX10_ask F v1 v2 D).bind (fun D_2 =>
    zlet (zwr D_2 50 3 v3) (fun D_3 =>
      zlet (zwr D_3 50 5 v4) (fun D_4 =>
        (fX10_told F 0 4 1 20 D_4).bind (fun (r_5, D_6) =>
          some (r_5, D_6)))))
theorem mX10_hoursOf {l : Launch} {E : zE} {d : Nat} {F : zFs} {n sl : Nat} (hG : zG F) (v1 : Int) (v2 : Int) (v3 : Int) (v4 : Int) {D : zDa} : ∀ r, fX10_hoursOf F  v1 v2 v3 v4 D = some r → zMet l E (d + 3) YX10_hoursOf [zR 49, zI v1, zI v2, zI v3, zI v4] (F, D, n, sl) (zcI F n sl r) := by
  intro r hr
  refine zMet_of (plainFor_of_name (by decide)) tvX10_hoursOf (Nat.le_of_ble_eq_true rfl) ?_
  have hz : zO l E (d + 3) YX10_hoursOf 0 [(0, zR 49), (1, zI v1), (2, zI v2), (3, zI v3), (4, zI v4)] [] (F, D, n, sl) (zcI F n sl) (fX10_hoursOf F  v1 v2 v3 v4 D) := by
    unfold fX10_hoursOf
    refine zO_aload_n 0 rfl rfl (zR_P _) ?_
    refine zO_iload_n 1 rfl rfl ?_
    refine zO_iload_n 2 rfl rfl ?_
    refine zO_callV (Y' := YX10_ask) (cw := zcV F n sl) (as := [zI v1, zI v2]) (rest := []) (na := 2) (ci := 10) rfl 3 rfl wC_X10_ask wN_X10 wM_X10_25 wI_X10_ask wV_X10_ask (by decide) (by decide) rfl rfl (Nat.le_of_ble_eq_true rfl) rfl (by decide) (gk_49 hG) (fun r hr => mX10_ask (d := d + 1) hG v1 v2 r hr) ?_
    intro D_2 _
    show zO _ _ _ _ _ _ [] (F, D_2, n, sl) _ _
    refine zO_aload_n 4 rfl rfl (zR_P _) ?_
    refine gt10 (k := 1) 5 rfl wF_X10_11 (by decide) (gk_49 hG) (zgv (c := 10) (k := 1) rfl (Or.inl ⟨_, rfl⟩) (gf_49_1 hG)) ?_
    refine zO_iconst 6 rfl (by decide) ?_
    refine zO_iload_n 7 rfl rfl ?_
    refine zO_iast 8 rfl (gk_50 hG) (gl_in (gl_50 hG) (by decide)) ?_
    refine zO_letD (fun D_3 eD_3 => ?_)
    refine zO_aload_n 9 rfl rfl (zR_P _) ?_
    refine gt10 (k := 1) 10 rfl wF_X10_11 (by decide) (gk_49 hG) (zgv (c := 10) (k := 1) rfl (Or.inl ⟨_, rfl⟩) (gf_49_1 hG)) ?_
    refine zO_iconst 11 rfl (by decide) ?_
    refine zO_iload 12 rfl rfl ?_
    refine zO_iast 13 rfl (gk_50 hG) (gl_in (gl_50 hG) (by decide)) ?_
    refine zO_letD (fun D_4 eD_4 => ?_)
    refine zO_aload_n 14 rfl rfl (zR_P _) ?_
    refine zO_iconst 15 rfl (by decide) ?_
    refine zO_iconst 16 rfl (by decide) ?_
    refine zO_iconst 17 rfl (by decide) ?_
    refine zO_bipush 18 rfl (by decide) ?_
    refine zO_callV (Y' := YX10_told) (cw := zcI F n sl) (as := [zI 0, zI 4, zI 1, zI 20]) (rest := []) (na := 4) (ci := 10) rfl 19 rfl wC_X10_told wN_X10 wM_X10_29 wI_X10_told wV_X10_told (by decide) (by decide) rfl rfl (Nat.le_of_ble_eq_true rfl) rfl (by decide) (gk_49 hG) (fun r hr => mX10_told (d := d + 0) hG 0 4 1 20 r hr) ?_
    rintro ⟨r_5, D_6⟩ -
    show zO _ _ _ _ _ _ [zI r_5] (F, D_6, n, sl) _ _
    exact zO_ret (rv := some (zI r_5)) 20 rfl rfl rfl rfl
  exact hz r hr
def tX4_firstTakes : List (Nat × Instr × Nat) := [(0, .aload_n 0, 1), (1, .getfield 62, 3), (4, .iload_n 1, 1), (5, .iload_n 2, 1), (6, .aload_n 0, 1), (7, .getfield 50, 3), (10, .iload_n 1, 1), (11, .baload, 1), (12, .ifCond .eq 7, 3), (15, .iconst 1, 1), (16, .goto 4, 3), (19, .iconst 0, 1), (20, .iconst 0, 1), (21, .invokevirtual 114, 3), (24, .ireturn, 1)]
set_option maxRecDepth 100000 in
theorem tvX4_firstTakes : ∀ q ∈ tX4_firstTakes, decode cX4_firstTakes q.1 = .ok q.2 := by decide +kernel
abbrev YX4_firstTakes : zY := (yX4_firstTakes, cX4_firstTakes, 3, (Option.some Jvm.ClassFile.FieldType.int), tX4_firstTakes)
def fX4_firstTakes_20 (F : zFs)  (s0 : Int) (s1 : Int) (s2 : Int) (D : zDa) : Option (Int × zDa) :=
  (fX10_hoursOf F s2 s1 s0 0 D).bind (fun (r_1, D_2) =>
    some (r_1, D_2))
def fX4_firstTakes (F : zFs) (v1 : Int) (v2 : Int) (D : zDa) : Option (Int × zDa) :=
  if (0 ≤ v1 ∧ v1 < 20) then
    if (D 70 v1.toNat) = 0 then
      fX4_firstTakes_20 F 0 v2 v1 D
    else
      fX4_firstTakes_20 F 1 v2 v1 D
  else none
theorem sX4_firstTakes_20 {l : Launch} {E : zE} {d : Nat} {F : zFs} {n sl : Nat} (hG : zG F)    (s0 : Int) (s1 : Int) (s2 : Int) (D : zDa) : zO l E (d + 4) YX4_firstTakes 20 [] [zI s0, zI s1, zI s2, zR 49] (F, D, n, sl) (zcI F n sl) (fX4_firstTakes_20 F s0 s1 s2 D) := by
  unfold fX4_firstTakes_20
  refine zO_iconst 12 rfl (by decide) ?_
  refine zO_callV (Y' := YX10_hoursOf) (cw := zcI F n sl) (as := [zI s2, zI s1, zI s0, zI 0]) (rest := []) (na := 4) (ci := 10) rfl 13 rfl wC_X10_hoursOf wN_X10 wM_X4_114 wI_X10_hoursOf wV_X10_hoursOf (by decide) (by decide) rfl rfl (Nat.le_of_ble_eq_true rfl) rfl (by decide) (gk_49 hG) (fun r hr => mX10_hoursOf (d := d + 0) hG s2 s1 s0 0 r hr) ?_
  rintro ⟨r_1, D_2⟩ -
  show zO _ _ _ _ _ _ [zI r_1] (F, D_2, n, sl) _ _
  exact zO_ret (rv := some (zI r_1)) 14 rfl rfl rfl rfl
theorem mX4_firstTakes {l : Launch} {E : zE} {d : Nat} {F : zFs} {n sl : Nat} (hG : zG F) (v1 : Int) (v2 : Int) {D : zDa} : ∀ r, fX4_firstTakes F  v1 v2 D = some r → zMet l E (d + 4) YX4_firstTakes [zR 60, zI v1, zI v2] (F, D, n, sl) (zcI F n sl r) := by
  intro r hr
  refine zMet_of (plainFor_of_name (by decide)) tvX4_firstTakes (Nat.le_of_ble_eq_true rfl) ?_
  have hz : zO l E (d + 4) YX4_firstTakes 0 [(0, zR 60), (1, zI v1), (2, zI v2)] [] (F, D, n, sl) (zcI F n sl) (fX4_firstTakes F  v1 v2 D) := by
    unfold fX4_firstTakes
    refine zO_chk (fun h1 => ?_)
    refine zO_aload_n 0 rfl rfl (zR_P _) ?_
    refine gt4 (k := 1) 1 rfl wF_X4_62 (by decide) (gk_60 hG) (zgv (c := 4) (k := 1) rfl (Or.inr ⟨_, rfl⟩) (gf_60_1 hG)) ?_
    refine zO_iload_n 2 rfl rfl ?_
    refine zO_iload_n 3 rfl rfl ?_
    refine zO_aload_n 4 rfl rfl (zR_P _) ?_
    refine gt4 (k := 16) 5 rfl wF_X4_50 (by decide) (gk_60 hG) (zgv (c := 4) (k := 16) rfl (Or.inl ⟨_, rfl⟩) (gf_60_16 hG)) ?_
    refine zO_iload_n 6 rfl rfl ?_
    refine zO_zald 7 rfl (gk_70 hG) (gl_in (gl_70 hG) h1) ?_
    refine zO_if_eq (tgt := 19) 8 rfl rfl (fun c12 => ?_) (fun c12 => ?_)
    · refine zO_iconst 11 rfl (by decide) ?_
      refine zO_live [] ?_
      exact sX4_firstTakes_20 hG 0 v2 v1 D
    · refine zO_iconst 9 rfl (by decide) ?_
      refine zO_goto (tgt := 20) 10 rfl rfl ?_
      refine zO_live [] ?_
      exact sX4_firstTakes_20 hG 1 v2 v1 D
  exact hz r hr
def tX0_layAll : List (Nat × Instr × Nat) := [(0, .iload_n 2, 1), (1, .istore_n 3, 1), (2, .iload_n 3, 1), (3, .ifCond .le 110, 3), (6, .aload_n 0, 1), (7, .getfield 19, 3), (10, .iload_n 1, 1), (11, .iload_n 3, 1), (12, .invokevirtual 54, 3), (15, .istore 4, 2), (17, .aload_n 0, 1), (18, .getfield 38, 3), (21, .ifCond .lt 33, 3), (24, .iload 4, 2), (26, .aload_n 0, 1), (27, .getfield 44, 3), (30, .if_icmp .le 24, 3), (33, .aload_n 0, 1), (34, .dup, 1), (35, .getfield 38, 3), (38, .iconst 1, 1), (39, .isub, 1), (40, .putfield 38, 3), (43, .aload_n 0, 1), (44, .aload_n 0, 1), (45, .getfield 41, 3), (48, .putfield 44, 3), (51, .goto (-34), 3), (54, .aload_n 0, 1), (55, .getfield 38, 3), (58, .ifCond .ge 16, 3), (61, .aload_n 0, 1), (62, .dup, 1), (63, .getfield 35, 3), (66, .iconst 1, 1), (67, .iadd, 1), (68, .putfield 35, 3), (71, .goto 36, 3), (74, .aload_n 0, 1), (75, .dup, 1), (76, .getfield 44, 3), (79, .iload 4, 2), (81, .isub, 1), (82, .putfield 44, 3), (85, .aload_n 0, 1), (86, .getfield 9, 3), (89, .iload_n 1, 1), (90, .iconst 3, 1), (91, .imul, 1), (92, .iload_n 3, 1), (93, .iadd, 1), (94, .aload_n 0, 1), (95, .getfield 38, 3), (98, .iastore, 1), (99, .aload_n 0, 1), (100, .aload_n 0, 1), (101, .getfield 38, 3), (104, .putfield 15, 3), (107, .iinc 3 (-1), 3), (110, .goto (-108), 3), (113, .return_, 1)]
set_option maxRecDepth 100000 in
theorem tvX0_layAll : ∀ q ∈ tX0_layAll, decode cX0_layAll q.1 = .ok q.2 := by decide +kernel
abbrev YX0_layAll : zY := (yX0_layAll, cX0_layAll, 5, none, tX0_layAll)
def fX0_layAll_107 (F : zFs) (k_2 : Int → zDa → Option zDa) (v1 : Int) (v3 : Int) (D : zDa) : Option zDa :=
  if (-2147483648 ≤ v3 + (-1) ∧ v3 + (-1) ≤ 2147483647) then
    k_2 (v3 + (-1)) D
  else none
def fX0_layAll_54 (F : zFs) (k_2 : Int → zDa → Option zDa) (v1 : Int) (v3 : Int) (v4 : Int) (D : zDa) : Option zDa :=
  if (D 71 2) < 0 then
    if (-2147483648 ≤ (D 71 5) + 1 ∧ (D 71 5) + 1 ≤ 2147483647) then
      zlet (zwr D 71 5 ((D 71 5) + 1)) (fun D_3 =>
        fX0_layAll_107 F k_2 v1 v3 D_3)
    else none
  else
    if (-2147483648 ≤ (D 71 3) - v4 ∧ (D 71 3) - v4 ≤ 2147483647) then
      zlet (zwr D 71 3 ((D 71 3) - v4)) (fun D_4 =>
        if (-2147483648 ≤ v1 * 3 ∧ v1 * 3 ≤ 2147483647) ∧ (-2147483648 ≤ (v1 * 3) + v3 ∧ (v1 * 3) + v3 ≤ 2147483647) ∧ (0 ≤ ((v1 * 3) + v3) ∧ ((v1 * 3) + v3) < 60) then
          zlet (zwr D_4 72 ((v1 * 3) + v3).toNat (D_4 71 2)) (fun D_5 =>
            zlet (zwr D_5 71 6 (D_5 71 2)) (fun D_6 =>
              fX0_layAll_107 F k_2 v1 v3 D_6))
        else none)
    else none
def fX0_layAll_17 (F : zFs) (o1 : Int) (o3 : Int) (o4 : Int) (k_2 : Int → zDa → Option zDa) (k_17 : zDa → Option zDa)  (D : zDa) : Option zDa :=
  if (D 71 2) < 0 then
    fX0_layAll_54 F k_2 o1 o3 o4 D
  else
    if (D 71 3) < o4 then
      if (-2147483648 ≤ (D 71 2) - 1 ∧ (D 71 2) - 1 ≤ 2147483647) then
        zlet (zwr D 71 2 ((D 71 2) - 1)) (fun D_7 =>
          zlet (zwr D_7 71 3 (D_7 71 4)) (fun D_8 =>
            k_17 D_8))
      else none
    else
      fX0_layAll_54 F k_2 o1 o3 o4 D
def fX0_layAll_2 (F : zFs) (o1 : Int)  (k_2 : Int → zDa → Option zDa) (v3 : Int) (D : zDa) : Option zDa :=
  if 0 < v3 then
    (fX4_firstTakes F o1 v3 D).bind (fun (r_1, D_2) =>
      zfix (fun _ => none) (fX0_layAll_17 F o1 v3 r_1 k_2) zfu  D_2)
  else
    some D
def fX0_layAll (F : zFs) (v1 : Int) (v2 : Int) (D : zDa) : Option zDa :=
  zfix (fun _ _ => none) (fX0_layAll_2 F v1) zfu v2 D
theorem sX0_layAll_107 {l : Launch} {E : zE} {d : Nat} {F : zFs} {n sl : Nat} (hG : zG F) {o1 : Int} (k_2 : Int → zDa → Option zDa) (hk_2 : ∀ (u3 : Int) (D : zDa), zO l E (d + 5) YX0_layAll 2 [(0, zR 71), (1, zI o1), (3, zI u3)] [] (F, D, n, sl) (zcV F n sl) (k_2 u3 D)) (v1 : Int) (v3 : Int) (D : zDa) : zO l E (d + 5) YX0_layAll 107 [(0, zR 71), (1, zI v1), (3, zI v3)] [] (F, D, n, sl) (zcV F n sl) (fX0_layAll_107 F k_2 v1 v3 D) := by
  unfold fX0_layAll_107
  refine zO_chk (fun h2 => ?_)
  refine zO_iinc 58 rfl rfl h2 (by decide) ?_
  refine zO_goto (tgt := 2) 59 rfl rfl ?_
  refine zO_live [0, 1, 3] ?_
  exact hk_2 (v3 + (-1)) D
theorem sX0_layAll_54 {l : Launch} {E : zE} {d : Nat} {F : zFs} {n sl : Nat} (hG : zG F) {o1 : Int} (k_2 : Int → zDa → Option zDa) (hk_2 : ∀ (u3 : Int) (D : zDa), zO l E (d + 5) YX0_layAll 2 [(0, zR 71), (1, zI o1), (3, zI u3)] [] (F, D, n, sl) (zcV F n sl) (k_2 u3 D)) (v1 : Int) (v3 : Int) (v4 : Int) (D : zDa) : zO l E (d + 5) YX0_layAll 54 [(0, zR 71), (1, zI v1), (3, zI v3), (4, zI v4)] [] (F, D, n, sl) (zcV F n sl) (fX0_layAll_54 F k_2 v1 v3 v4 D) := by
  unfold fX0_layAll_54
  refine zO_aload_n 28 rfl rfl (zR_P _) ?_
  refine gt0 (k := 2) (v := zI (D 71 2)) 29 rfl wF_X0_38 (by decide) (gk_71 hG) rfl ?_
  refine zO_if_ge (tgt := 74) 30 rfl rfl (fun c58 => ?_) (fun c58 => ?_)
  · refine zO_chk (fun h1 => ?_)
    refine zO_aload_n 31 rfl rfl (zR_P _) ?_
    refine zO_dup 32 rfl (rfl) ?_
    refine gt0 (k := 5) (v := zI (D 71 5)) 33 rfl wF_X0_35 (by decide) (gk_71 hG) rfl ?_
    refine zO_iconst 34 rfl (by decide) ?_
    refine zO_iadd 35 rfl h1 ?_
    refine ptI0 (k := 5) (z := ((D 71 5) + 1)) 36 rfl wF_X0_35 (by decide) rfl (gk_71 hG) rfl ?_
    refine zO_letD (fun D_3 eD_3 => ?_)
    refine zO_goto (tgt := 107) 37 rfl rfl ?_
    refine zO_live [0, 1, 3] ?_
    exact sX0_layAll_107 hG _ hk_2 v1 v3 D_3
  · refine zO_chk (fun h3 => ?_)
    refine zO_aload_n 38 rfl rfl (zR_P _) ?_
    refine zO_dup 39 rfl (rfl) ?_
    refine gt0 (k := 3) (v := zI (D 71 3)) 40 rfl wF_X0_44 (by decide) (gk_71 hG) rfl ?_
    refine zO_iload 41 rfl rfl ?_
    refine zO_isub 42 rfl h3 ?_
    refine ptI0 (k := 3) (z := ((D 71 3) - v4)) 43 rfl wF_X0_44 (by decide) rfl (gk_71 hG) rfl ?_
    refine zO_letD (fun D_4 eD_4 => ?_)
    refine zO_chk (fun h4 => ?_)
    refine zO_aload_n 44 rfl rfl (zR_P _) ?_
    refine gt0 (k := 1) 45 rfl wF_X0_9 (by decide) (gk_71 hG) (zgv (c := 0) (k := 1) rfl (Or.inl ⟨_, rfl⟩) (gf_71_1 hG)) ?_
    refine zO_iload_n 46 rfl rfl ?_
    refine zO_iconst 47 rfl (by decide) ?_
    refine zO_imul 48 rfl h4.1 ?_
    refine zO_iload_n 49 rfl rfl ?_
    refine zO_iadd 50 rfl h4.2.1 ?_
    refine zO_aload_n 51 rfl rfl (zR_P _) ?_
    refine gt0 (k := 2) (v := zI (D_4 71 2)) 52 rfl wF_X0_38 (by decide) (gk_71 hG) rfl ?_
    refine zO_iast 53 rfl (gk_72 hG) (gl_in (gl_72 hG) h4.2.2) ?_
    refine zO_letD (fun D_5 eD_5 => ?_)
    refine zO_aload_n 54 rfl rfl (zR_P _) ?_
    refine zO_aload_n 55 rfl rfl (zR_P _) ?_
    refine gt0 (k := 2) (v := zI (D_5 71 2)) 56 rfl wF_X0_38 (by decide) (gk_71 hG) rfl ?_
    refine ptI0 (k := 6) (z := (D_5 71 2)) 57 rfl wF_X0_15 (by decide) rfl (gk_71 hG) rfl ?_
    refine zO_letD (fun D_6 eD_6 => ?_)
    refine zO_live [0, 1, 3] ?_
    exact sX0_layAll_107 hG _ hk_2 v1 v3 D_6
theorem sX0_layAll_17 {l : Launch} {E : zE} {d : Nat} {F : zFs} {n sl : Nat} (hG : zG F)  (o1 : Int) (o3 : Int) (o4 : Int) (k_2 : Int → zDa → Option zDa) (hk_2 : ∀ (u3 : Int) (D : zDa), zO l E (d + 5) YX0_layAll 2 [(0, zR 71), (1, zI o1), (3, zI u3)] [] (F, D, n, sl) (zcV F n sl) (k_2 u3 D)) : ∀ (N : Nat)  (D : zDa), zO l E (d + 5) YX0_layAll 17 [(0, zR 71), (1, zI o1), (3, zI o3), (4, zI o4)] [] (F, D, n, sl) (zcV F n sl) (zfix (fun _ => none) (fX0_layAll_17 F o1 o3 o4 k_2) N  D) := by
  intro N
  induction N with
  | zero => intro D; exact zO_none
  | succ N hk_17 =>
    intro D
    show zO _ _ _ _ _ _ _ _ _ ((fX0_layAll_17 F o1 o3 o4 k_2) (zfix (fun _ => none) (fX0_layAll_17 F o1 o3 o4 k_2) N)  D)
    unfold fX0_layAll_17
    refine zO_aload_n 10 rfl rfl (zR_P _) ?_
    refine gt0 (k := 2) (v := zI (D 71 2)) 11 rfl wF_X0_38 (by decide) (gk_71 hG) rfl ?_
    refine zO_if_lt (tgt := 54) 12 rfl rfl (fun c21 => ?_) (fun c21 => ?_)
    · refine zO_live [0, 1, 3, 4] ?_
      exact sX0_layAll_54 hG _ hk_2 o1 o3 o4 D
    · refine zO_iload 13 rfl rfl ?_
      refine zO_aload_n 14 rfl rfl (zR_P _) ?_
      refine gt0 (k := 3) (v := zI (D 71 3)) 15 rfl wF_X0_44 (by decide) (gk_71 hG) rfl ?_
      refine zO_icmp_le (tgt := 54) 16 rfl rfl (fun c30 => ?_) (fun c30 => ?_)
      · refine zO_chk (fun h5 => ?_)
        refine zO_aload_n 17 rfl rfl (zR_P _) ?_
        refine zO_dup 18 rfl (rfl) ?_
        refine gt0 (k := 2) (v := zI (D 71 2)) 19 rfl wF_X0_38 (by decide) (gk_71 hG) rfl ?_
        refine zO_iconst 20 rfl (by decide) ?_
        refine zO_isub 21 rfl h5 ?_
        refine ptI0 (k := 2) (z := ((D 71 2) - 1)) 22 rfl wF_X0_38 (by decide) rfl (gk_71 hG) rfl ?_
        refine zO_letD (fun D_7 eD_7 => ?_)
        refine zO_aload_n 23 rfl rfl (zR_P _) ?_
        refine zO_aload_n 24 rfl rfl (zR_P _) ?_
        refine gt0 (k := 4) (v := zI (D_7 71 4)) 25 rfl wF_X0_41 (by decide) (gk_71 hG) rfl ?_
        refine ptI0 (k := 3) (z := (D_7 71 4)) 26 rfl wF_X0_44 (by decide) rfl (gk_71 hG) rfl ?_
        refine zO_letD (fun D_8 eD_8 => ?_)
        refine zO_goto (tgt := 17) 27 rfl rfl ?_
        refine zO_live [0, 1, 3, 4] ?_
        exact hk_17 D_8
      · refine zO_live [0, 1, 3, 4] ?_
        exact sX0_layAll_54 hG _ hk_2 o1 o3 o4 D
theorem sX0_layAll_2 {l : Launch} {E : zE} {d : Nat} {F : zFs} {n sl : Nat} (hG : zG F)  (o1 : Int)   : ∀ (N : Nat) (v3 : Int) (D : zDa), zO l E (d + 5) YX0_layAll 2 [(0, zR 71), (1, zI o1), (3, zI v3)] [] (F, D, n, sl) (zcV F n sl) (zfix (fun _ _ => none) (fX0_layAll_2 F o1) N v3 D) := by
  intro N
  induction N with
  | zero => intro v3 D; exact zO_none
  | succ N hk_2 =>
    intro v3 D
    show zO _ _ _ _ _ _ _ _ _ ((fX0_layAll_2 F o1) (zfix (fun _ _ => none) (fX0_layAll_2 F o1) N) v3 D)
    unfold fX0_layAll_2
    refine zO_iload_n 2 rfl rfl ?_
    refine zO_if_le (tgt := 113) 3 rfl rfl (fun c3 => ?_) (fun c3 => ?_)
    · refine zO_aload_n 4 rfl rfl (zR_P _) ?_
      refine gt0 (k := 0) 5 rfl wF_X0_19 (by decide) (gk_71 hG) (zgv (c := 0) (k := 0) rfl (Or.inr ⟨_, rfl⟩) (gf_71_0 hG)) ?_
      refine zO_iload_n 6 rfl rfl ?_
      refine zO_iload_n 7 rfl rfl ?_
      refine zO_callV (Y' := YX4_firstTakes) (cw := zcI F n sl) (as := [zI o1, zI v3]) (rest := []) (na := 2) (ci := 4) rfl 8 rfl wC_X4_firstTakes wN_X4 wM_X0_54 wI_X4_firstTakes wV_X4_firstTakes (by decide) (by decide) rfl rfl (Nat.le_of_ble_eq_true rfl) rfl (by decide) (gk_60 hG) (fun r hr => mX4_firstTakes (d := d + 0) hG o1 v3 r hr) ?_
      rintro ⟨r_1, D_2⟩ -
      show zO _ _ _ _ _ _ [zI r_1] (F, D_2, n, sl) _ _
      refine zO_istore 9 rfl (by decide) ?_
      refine zO_live [0, 1, 3, 4] ?_
      exact sX0_layAll_17 hG o1 v3 r_1 _ hk_2 zfu D_2
    · exact zO_ret (rv := none) 60 rfl rfl trivial rfl
theorem mX0_layAll {l : Launch} {E : zE} {d : Nat} {F : zFs} {n sl : Nat} (hG : zG F) (v1 : Int) (v2 : Int) {D : zDa} : ∀ r, fX0_layAll F  v1 v2 D = some r → zMet l E (d + 5) YX0_layAll [zR 71, zI v1, zI v2] (F, D, n, sl) (zcV F n sl r) := by
  intro r hr
  refine zMet_of (plainFor_of_name (by decide)) tvX0_layAll (Nat.le_of_ble_eq_true rfl) ?_
  have hz : zO l E (d + 5) YX0_layAll 0 [(0, zR 71), (1, zI v1), (2, zI v2)] [] (F, D, n, sl) (zcV F n sl) (fX0_layAll F  v1 v2 D) := by
    unfold fX0_layAll
    refine zO_iload_n 0 rfl rfl ?_
    refine zO_istore_n 1 rfl (by decide) ?_
    refine zO_live [0, 1, 3] ?_
    exact sX0_layAll_2 hG v1 zfu v2 D
  exact hz r hr
def tX0_lay : List (Nat × Instr × Nat) := [(0, .aload_n 0, 1), (1, .getfield 19, 3), (4, .iload_n 1, 1), (5, .iload_n 2, 1), (6, .imul, 1), (7, .invokevirtual 23, 3), (10, .aload_n 0, 1), (11, .getfield 9, 3), (14, .iconst (-1), 1), (15, .invokestatic 29, 3), (18, .aload_n 0, 1), (19, .iconst 0, 1), (20, .putfield 35, 3), (23, .aload_n 0, 1), (24, .iconst (-1), 1), (25, .putfield 15, 3), (28, .aload_n 0, 1), (29, .iload_n 1, 1), (30, .iconst 1, 1), (31, .isub, 1), (32, .putfield 38, 3), (35, .aload_n 0, 1), (36, .iload_n 2, 1), (37, .putfield 41, 3), (40, .aload_n 0, 1), (41, .iload_n 2, 1), (42, .putfield 44, 3), (45, .iconst 2, 1), (46, .istore_n 3, 1), (47, .iload_n 3, 1), (48, .ifCond .le 46, 3), (51, .iconst 0, 1), (52, .istore 4, 2), (54, .iload 4, 2), (56, .bipush 20, 2), (58, .if_icmp .ge 30, 3), (61, .aload_n 0, 1), (62, .getfield 19, 3), (65, .getfield 47, 3), (68, .iload 4, 2), (70, .iaload, 1), (71, .iload_n 3, 1), (72, .if_icmp .ne 10, 3), (75, .aload_n 0, 1), (76, .iload 4, 2), (78, .iload_n 3, 1), (79, .invokevirtual 50, 3), (82, .iinc 4 1, 3), (85, .goto (-31), 3), (88, .iinc 3 (-1), 3), (91, .goto (-44), 3), (94, .return_, 1)]
set_option maxRecDepth 100000 in
theorem tvX0_lay : ∀ q ∈ tX0_lay, decode cX0_lay q.1 = .ok q.2 := by decide +kernel
abbrev YX0_lay : zY := (yX0_lay, cX0_lay, 5, none, tX0_lay)
def fX0_lay_82 (F : zFs) (k_47 : Int → zDa → Option zDa) (k_54 : Int → zDa → Option zDa) (v3 : Int) (v4 : Int) (D : zDa) : Option zDa :=
  if (-2147483648 ≤ v4 + 1 ∧ v4 + 1 ≤ 2147483647) then
    k_54 (v4 + 1) D
  else none
def fX0_lay_54 (F : zFs) (o3 : Int) (k_47 : Int → zDa → Option zDa) (k_54 : Int → zDa → Option zDa) (v4 : Int) (D : zDa) : Option zDa :=
  if v4 < 20 then
    if (0 ≤ v4 ∧ v4 < 20) then
      if (D 69 v4.toNat) = o3 then
        (fX0_layAll F v4 o3 D).bind (fun D_11 =>
          fX0_lay_82 F k_47 k_54 o3 v4 D_11)
      else
        fX0_lay_82 F k_47 k_54 o3 v4 D
    else none
  else
    if (-2147483648 ≤ o3 + (-1) ∧ o3 + (-1) ≤ 2147483647) then
      k_47 (o3 + (-1)) D
    else none
def fX0_lay_47 (F : zFs)   (k_47 : Int → zDa → Option zDa) (v3 : Int) (D : zDa) : Option zDa :=
  if 0 < v3 then
    zfix (fun _ _ => none) (fX0_lay_54 F v3 k_47) zfu 0 D
  else
    some D
def fX0_lay (F : zFs) (v1 : Int) (v2 : Int) (D : zDa) : Option zDa :=
  if (-2147483648 ≤ v1 * v2 ∧ v1 * v2 ≤ 2147483647) then
    (fX4_findFirst F (v1 * v2) D).bind (fun D_2 =>
      (fJ7_fill_53178 F 72 (-1) D_2).bind (fun D_4 =>
        zlet (zwr D_4 71 5 0) (fun D_5 =>
          zlet (zwr D_5 71 6 (-1)) (fun D_6 =>
            if (-2147483648 ≤ v1 - 1 ∧ v1 - 1 ≤ 2147483647) then
              zlet (zwr D_6 71 2 (v1 - 1)) (fun D_7 =>
                zlet (zwr D_7 71 4 v2) (fun D_8 =>
                  zlet (zwr D_8 71 3 v2) (fun D_9 =>
                    zfix (fun _ _ => none) (fX0_lay_47 F) zfu 2 D_9)))
            else none))))
  else none
theorem sX0_lay_82 {l : Launch} {E : zE} {d : Nat} {F : zFs} {n sl : Nat} (hG : zG F) {o3 : Int} (k_47 : Int → zDa → Option zDa) (k_54 : Int → zDa → Option zDa) (hk_47 : ∀ (u3 : Int) (D : zDa), zO l E (d + 6) YX0_lay 47 [(0, zR 71), (3, zI u3)] [] (F, D, n, sl) (zcV F n sl) (k_47 u3 D)) (hk_54 : ∀ (u4 : Int) (D : zDa), zO l E (d + 6) YX0_lay 54 [(0, zR 71), (3, zI o3), (4, zI u4)] [] (F, D, n, sl) (zcV F n sl) (k_54 u4 D)) (v3 : Int) (v4 : Int) (D : zDa) : zO l E (d + 6) YX0_lay 82 [(0, zR 71), (3, zI v3), (4, zI v4)] [] (F, D, n, sl) (zcV F n sl) (fX0_lay_82 F k_47 k_54 v3 v4 D) := by
  unfold fX0_lay_82
  refine zO_chk (fun h4 => ?_)
  refine zO_iinc 47 rfl rfl h4 (by decide) ?_
  refine zO_goto (tgt := 54) 48 rfl rfl ?_
  refine zO_live [0, 3, 4] ?_
  exact hk_54 (v4 + 1) D
theorem sX0_lay_54 {l : Launch} {E : zE} {d : Nat} {F : zFs} {n sl : Nat} (hG : zG F)  (o3 : Int) (k_47 : Int → zDa → Option zDa) (hk_47 : ∀ (u3 : Int) (D : zDa), zO l E (d + 6) YX0_lay 47 [(0, zR 71), (3, zI u3)] [] (F, D, n, sl) (zcV F n sl) (k_47 u3 D)) : ∀ (N : Nat) (v4 : Int) (D : zDa), zO l E (d + 6) YX0_lay 54 [(0, zR 71), (3, zI o3), (4, zI v4)] [] (F, D, n, sl) (zcV F n sl) (zfix (fun _ _ => none) (fX0_lay_54 F o3 k_47) N v4 D) := by
  intro N
  induction N with
  | zero => intro v4 D; exact zO_none
  | succ N hk_54 =>
    intro v4 D
    show zO _ _ _ _ _ _ _ _ _ ((fX0_lay_54 F o3 k_47) (zfix (fun _ _ => none) (fX0_lay_54 F o3 k_47) N) v4 D)
    unfold fX0_lay_54
    refine zO_iload 33 rfl rfl ?_
    refine zO_bipush 34 rfl (by decide) ?_
    refine zO_icmp_ge (tgt := 88) 35 rfl rfl (fun c58 => ?_) (fun c58 => ?_)
    · refine zO_chk (fun h3 => ?_)
      refine zO_aload_n 36 rfl rfl (zR_P _) ?_
      refine gt0 (k := 0) 37 rfl wF_X0_19 (by decide) (gk_71 hG) (zgv (c := 0) (k := 0) rfl (Or.inr ⟨_, rfl⟩) (gf_71_0 hG)) ?_
      refine gt4 (k := 15) 38 rfl wF_X0_47 (by decide) (gk_60 hG) (zgv (c := 4) (k := 15) rfl (Or.inl ⟨_, rfl⟩) (gf_60_15 hG)) ?_
      refine zO_iload 39 rfl rfl ?_
      refine zO_iald 40 rfl (gk_69 hG) (gl_in (gl_69 hG) h3) ?_
      refine zO_iload_n 41 rfl rfl ?_
      refine zO_icmp_ne (tgt := 82) 42 rfl rfl (fun c72 => ?_) (fun c72 => ?_)
      · refine zO_aload_n 43 rfl rfl (zR_P _) ?_
        refine zO_iload 44 rfl rfl ?_
        refine zO_iload_n 45 rfl rfl ?_
        refine zO_callV (Y' := YX0_layAll) (cw := zcV F n sl) (as := [zI v4, zI o3]) (rest := []) (na := 2) (ci := 0) rfl 46 rfl wC_X0_layAll wN_X0 wM_X0_50 wI_X0_layAll wV_X0_layAll (by decide) (by decide) rfl rfl (Nat.le_of_ble_eq_true rfl) rfl (by decide) (gk_71 hG) (fun r hr => mX0_layAll (d := d + 0) hG v4 o3 r hr) ?_
        intro D_11 _
        show zO _ _ _ _ _ _ [] (F, D_11, n, sl) _ _
        refine zO_live [0, 3, 4] ?_
        exact sX0_lay_82 hG _ _ hk_47 hk_54 o3 v4 D_11
      · refine zO_live [0, 3, 4] ?_
        exact sX0_lay_82 hG _ _ hk_47 hk_54 o3 v4 D
    · refine zO_chk (fun h5 => ?_)
      refine zO_iinc 49 rfl rfl h5 (by decide) ?_
      refine zO_goto (tgt := 47) 50 rfl rfl ?_
      refine zO_live [0, 3] ?_
      exact hk_47 (o3 + (-1)) D
theorem sX0_lay_47 {l : Launch} {E : zE} {d : Nat} {F : zFs} {n sl : Nat} (hG : zG F)     : ∀ (N : Nat) (v3 : Int) (D : zDa), zO l E (d + 6) YX0_lay 47 [(0, zR 71), (3, zI v3)] [] (F, D, n, sl) (zcV F n sl) (zfix (fun _ _ => none) (fX0_lay_47 F) N v3 D) := by
  intro N
  induction N with
  | zero => intro v3 D; exact zO_none
  | succ N hk_47 =>
    intro v3 D
    show zO _ _ _ _ _ _ _ _ _ ((fX0_lay_47 F) (zfix (fun _ _ => none) (fX0_lay_47 F) N) v3 D)
    unfold fX0_lay_47
    refine zO_iload_n 29 rfl rfl ?_
    refine zO_if_le (tgt := 94) 30 rfl rfl (fun c48 => ?_) (fun c48 => ?_)
    · refine zO_iconst 31 rfl (by decide) ?_
      refine zO_istore 32 rfl (by decide) ?_
      refine zO_live [0, 3, 4] ?_
      exact sX0_lay_54 hG v3 _ hk_47 zfu 0 D
    · exact zO_ret (rv := none) 51 rfl rfl trivial rfl
theorem mX0_lay {l : Launch} {E : zE} {d : Nat} {F : zFs} {n sl : Nat} (hG : zG F) (v1 : Int) (v2 : Int) {D : zDa} : ∀ r, fX0_lay F  v1 v2 D = some r → zMet l E (d + 6) YX0_lay [zR 71, zI v1, zI v2] (F, D, n, sl) (zcV F n sl r) := by
  intro r hr
  refine zMet_of (plainFor_of_name (by decide)) tvX0_lay (Nat.le_of_ble_eq_true rfl) ?_
  have hz : zO l E (d + 6) YX0_lay 0 [(0, zR 71), (1, zI v1), (2, zI v2)] [] (F, D, n, sl) (zcV F n sl) (fX0_lay F  v1 v2 D) := by
    unfold fX0_lay
    refine zO_chk (fun h1 => ?_)
    refine zO_aload_n 0 rfl rfl (zR_P _) ?_
    refine gt0 (k := 0) 1 rfl wF_X0_19 (by decide) (gk_71 hG) (zgv (c := 0) (k := 0) rfl (Or.inr ⟨_, rfl⟩) (gf_71_0 hG)) ?_
    refine zO_iload_n 2 rfl rfl ?_
    refine zO_iload_n 3 rfl rfl ?_
    refine zO_imul 4 rfl h1 ?_
    refine zO_callV (Y' := YX4_findFirst) (cw := zcV F n sl) (as := [zI (v1 * v2)]) (rest := []) (na := 1) (ci := 4) rfl 5 rfl wC_X4_findFirst wN_X4 wM_X0_23 wI_X4_findFirst wV_X4_findFirst (by decide) (by decide) rfl rfl (Nat.le_of_ble_eq_true rfl) rfl (by decide) (gk_60 hG) (fun r hr => mX4_findFirst (d := d + 2) hG (v1 * v2) r hr) ?_
    intro D_2 _
    show zO _ _ _ _ _ _ [] (F, D_2, n, sl) _ _
    refine zO_aload_n 6 rfl rfl (zR_P _) ?_
    refine gt0 (k := 1) 7 rfl wF_X0_9 (by decide) (gk_71 hG) (zgv (c := 0) (k := 1) rfl (Or.inl ⟨_, rfl⟩) (gf_71_1 hG)) ?_
    refine zO_iconst 8 rfl (by decide) ?_
    refine zO_callS (Y' := YJ7_fill_53178) (cw := zcV F n sl) (as := [zR 72, zI (-1)]) (rest := []) (na := 2) 9 rfl wC_J7_fill_53178 wN_J7 wM_X0_29 wS_J7_fill_53178 (by decide) (by decide) rfl rfl (Nat.le_of_ble_eq_true rfl) (fun r hr => mJ7_fill_53178 (d := d + 5) hG 72 (-1) r hr) ?_
    intro D_4 _
    show zO _ _ _ _ _ _ [] (F, D_4, n, sl) _ _
    refine zO_aload_n 10 rfl rfl (zR_P _) ?_
    refine zO_iconst 11 rfl (by decide) ?_
    refine ptI0 (k := 5) (z := 0) 12 rfl wF_X0_35 (by decide) rfl (gk_71 hG) rfl ?_
    refine zO_letD (fun D_5 eD_5 => ?_)
    refine zO_aload_n 13 rfl rfl (zR_P _) ?_
    refine zO_iconst 14 rfl (by decide) ?_
    refine ptI0 (k := 6) (z := (-1)) 15 rfl wF_X0_15 (by decide) rfl (gk_71 hG) rfl ?_
    refine zO_letD (fun D_6 eD_6 => ?_)
    refine zO_chk (fun h2 => ?_)
    refine zO_aload_n 16 rfl rfl (zR_P _) ?_
    refine zO_iload_n 17 rfl rfl ?_
    refine zO_iconst 18 rfl (by decide) ?_
    refine zO_isub 19 rfl h2 ?_
    refine ptI0 (k := 2) (z := (v1 - 1)) 20 rfl wF_X0_38 (by decide) rfl (gk_71 hG) rfl ?_
    refine zO_letD (fun D_7 eD_7 => ?_)
    refine zO_aload_n 21 rfl rfl (zR_P _) ?_
    refine zO_iload_n 22 rfl rfl ?_
    refine ptI0 (k := 4) (z := v2) 23 rfl wF_X0_41 (by decide) rfl (gk_71 hG) rfl ?_
    refine zO_letD (fun D_8 eD_8 => ?_)
    refine zO_aload_n 24 rfl rfl (zR_P _) ?_
    refine zO_iload_n 25 rfl rfl ?_
    refine ptI0 (k := 3) (z := v2) 26 rfl wF_X0_44 (by decide) rfl (gk_71 hG) rfl ?_
    refine zO_letD (fun D_9 eD_9 => ?_)
    refine zO_iconst 27 rfl (by decide) ?_
    refine zO_istore_n 28 rfl (by decide) ?_
    refine zO_live [0, 3] ?_
    exact sX0_lay_47 hG zfu 2 D_9
  exact hz r hr
def tX0_dayOf : List (Nat × Instr × Nat) := [(0, .aload_n 0, 1), (1, .getfield 9, 3), (4, .iload_n 1, 1), (5, .iconst 3, 1), (6, .imul, 1), (7, .iload_n 2, 1), (8, .iadd, 1), (9, .iaload, 1), (10, .ireturn, 1)]
set_option maxRecDepth 100000 in
theorem tvX0_dayOf : ∀ q ∈ tX0_dayOf, decode cX0_dayOf q.1 = .ok q.2 := by decide +kernel
abbrev YX0_dayOf : zY := (yX0_dayOf, cX0_dayOf, 3, (Option.some Jvm.ClassFile.FieldType.int), tX0_dayOf)
def fX0_dayOf (F : zFs) (v1 : Int) (v2 : Int) (D : zDa) : Option (Int × zDa) :=
  if (-2147483648 ≤ v1 * 3 ∧ v1 * 3 ≤ 2147483647) ∧ (-2147483648 ≤ (v1 * 3) + v2 ∧ (v1 * 3) + v2 ≤ 2147483647) ∧ (0 ≤ ((v1 * 3) + v2) ∧ ((v1 * 3) + v2) < 60) then
    some ((D 72 ((v1 * 3) + v2).toNat), D)
  else none
theorem mX0_dayOf {l : Launch} {E : zE} {d : Nat} {F : zFs} {n sl : Nat} (hG : zG F) (v1 : Int) (v2 : Int) {D : zDa} : ∀ r, fX0_dayOf F  v1 v2 D = some r → zMet l E (d + 0) YX0_dayOf [zR 71, zI v1, zI v2] (F, D, n, sl) (zcI F n sl r) := by
  intro r hr
  refine zMet_of (plainFor_of_name (by decide)) tvX0_dayOf (Nat.le_of_ble_eq_true rfl) ?_
  have hz : zO l E (d + 0) YX0_dayOf 0 [(0, zR 71), (1, zI v1), (2, zI v2)] [] (F, D, n, sl) (zcI F n sl) (fX0_dayOf F  v1 v2 D) := by
    unfold fX0_dayOf
    refine zO_chk (fun h1 => ?_)
    refine zO_aload_n 0 rfl rfl (zR_P _) ?_
    refine gt0 (k := 1) 1 rfl wF_X0_9 (by decide) (gk_71 hG) (zgv (c := 0) (k := 1) rfl (Or.inl ⟨_, rfl⟩) (gf_71_1 hG)) ?_
    refine zO_iload_n 2 rfl rfl ?_
    refine zO_iconst 3 rfl (by decide) ?_
    refine zO_imul 4 rfl h1.1 ?_
    refine zO_iload_n 5 rfl rfl ?_
    refine zO_iadd 6 rfl h1.2.1 ?_
    refine zO_iald 7 rfl (gk_72 hG) (gl_in (gl_72 hG) h1.2.2) ?_
    exact zO_ret (rv := some (zI (D 72 ((v1 * 3) + v2).toNat))) 8 rfl rfl rfl rfl
  exact hz r hr
def tX1_levelBehind : List (Nat × Instr × Nat) := [(0, .aload_n 0, 1), (1, .getfield 22, 3), (4, .iload_n 1, 1), (5, .bipush 20, 2), (7, .imul, 1), (8, .iload_n 2, 1), (9, .iadd, 1), (10, .iaload, 1), (11, .ireturn, 1)]
set_option maxRecDepth 100000 in
theorem tvX1_levelBehind : ∀ q ∈ tX1_levelBehind, decode cX1_levelBehind q.1 = .ok q.2 := by decide +kernel
abbrev YX1_levelBehind : zY := (yX1_levelBehind, cX1_levelBehind, 3, (Option.some Jvm.ClassFile.FieldType.int), tX1_levelBehind)
def fX1_levelBehind (F : zFs) (v1 : Int) (v2 : Int) (D : zDa) : Option (Int × zDa) :=
  if (-2147483648 ≤ v1 * 20 ∧ v1 * 20 ≤ 2147483647) ∧ (-2147483648 ≤ (v1 * 20) + v2 ∧ (v1 * 20) + v2 ≤ 2147483647) ∧ (0 ≤ ((v1 * 20) + v2) ∧ ((v1 * 20) + v2) < 400) then
    some ((D 76 ((v1 * 20) + v2).toNat), D)
  else none
theorem mX1_levelBehind {l : Launch} {E : zE} {d : Nat} {F : zFs} {n sl : Nat} (hG : zG F) (v1 : Int) (v2 : Int) {D : zDa} : ∀ r, fX1_levelBehind F  v1 v2 D = some r → zMet l E (d + 0) YX1_levelBehind [zR 73, zI v1, zI v2] (F, D, n, sl) (zcI F n sl r) := by
  intro r hr
  refine zMet_of (plainFor_of_name (by decide)) tvX1_levelBehind (Nat.le_of_ble_eq_true rfl) ?_
  have hz : zO l E (d + 0) YX1_levelBehind 0 [(0, zR 73), (1, zI v1), (2, zI v2)] [] (F, D, n, sl) (zcI F n sl) (fX1_levelBehind F  v1 v2 D) := by
    unfold fX1_levelBehind
    refine zO_chk (fun h1 => ?_)
    refine zO_aload_n 0 rfl rfl (zR_P _) ?_
    refine gt1 (k := 5) 1 rfl wF_X1_22 (by decide) (gk_73 hG) (zgv (c := 1) (k := 5) rfl (Or.inl ⟨_, rfl⟩) (gf_73_5 hG)) ?_
    refine zO_iload_n 2 rfl rfl ?_
    refine zO_bipush 3 rfl (by decide) ?_
    refine zO_imul 4 rfl h1.1 ?_
    refine zO_iload_n 5 rfl rfl ?_
    refine zO_iadd 6 rfl h1.2.1 ?_
    refine zO_iald 7 rfl (gk_76 hG) (gl_in (gl_76 hG) h1.2.2) ?_
    exact zO_ret (rv := some (zI (D 76 ((v1 * 20) + v2).toNat))) 8 rfl rfl rfl rfl
  exact hz r hr
