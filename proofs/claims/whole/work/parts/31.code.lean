/-! printed by wip/gen/emit_all.py: X12_wordOf X12_splits X12_fine X12_faults X12_takes0 X12_must X12_leaf X12_sign group2 group3 -/
theorem dX12_wordOf_0 : decode cX12_wordOf 0 = .ok (.iconst 1, 1) := by decide +kernel
theorem dX12_wordOf_1 : decode cX12_wordOf 1 = .ok (.istore_n 3, 1) := by decide +kernel
theorem dX12_wordOf_2 : decode cX12_wordOf 2 = .ok (.iconst 0, 1) := by decide +kernel
theorem dX12_wordOf_3 : decode cX12_wordOf 3 = .ok (.istore 4, 2) := by decide +kernel
theorem dX12_wordOf_5 : decode cX12_wordOf 5 = .ok (.iload 4, 2) := by decide +kernel
theorem dX12_wordOf_7 : decode cX12_wordOf 7 = .ok (.aload_n 0, 1) := by decide +kernel
theorem dX12_wordOf_8 : decode cX12_wordOf 8 = .ok (.getfield 30, 3) := by decide +kernel
theorem dX12_wordOf_11 : decode cX12_wordOf 11 = .ok (.arraylength, 1) := by decide +kernel
theorem dX12_wordOf_12 : decode cX12_wordOf 12 = .ok (.if_icmp .ge 114, 3) := by decide +kernel
theorem dX12_wordOf_15 : decode cX12_wordOf 15 = .ok (.iconst 0, 1) := by decide +kernel
theorem dX12_wordOf_16 : decode cX12_wordOf 16 = .ok (.istore 5, 2) := by decide +kernel
theorem dX12_wordOf_18 : decode cX12_wordOf 18 = .ok (.aload_n 0, 1) := by decide +kernel
theorem dX12_wordOf_19 : decode cX12_wordOf 19 = .ok (.getfield 30, 3) := by decide +kernel
theorem dX12_wordOf_22 : decode cX12_wordOf 22 = .ok (.iload 4, 2) := by decide +kernel
theorem dX12_wordOf_24 : decode cX12_wordOf 24 = .ok (.iload 5, 2) := by decide +kernel
theorem dX12_wordOf_26 : decode cX12_wordOf 26 = .ok (.iadd, 1) := by decide +kernel
theorem dX12_wordOf_27 : decode cX12_wordOf 27 = .ok (.baload, 1) := by decide +kernel
theorem dX12_wordOf_28 : decode cX12_wordOf 28 = .ok (.bipush 32, 2) := by decide +kernel
theorem dX12_wordOf_30 : decode cX12_wordOf 30 = .ok (.if_icmp .eq 9, 3) := by decide +kernel
theorem dX12_wordOf_33 : decode cX12_wordOf 33 = .ok (.iinc 5 1, 3) := by decide +kernel
theorem dX12_wordOf_36 : decode cX12_wordOf 36 = .ok (.goto (-18), 3) := by decide +kernel
theorem dX12_wordOf_39 : decode cX12_wordOf 39 = .ok (.iload 5, 2) := by decide +kernel
theorem dX12_wordOf_41 : decode cX12_wordOf 41 = .ok (.iload_n 2, 1) := by decide +kernel
theorem dX12_wordOf_42 : decode cX12_wordOf 42 = .ok (.iload_n 1, 1) := by decide +kernel
theorem dX12_wordOf_43 : decode cX12_wordOf 43 = .ok (.isub, 1) := by decide +kernel
theorem dX12_wordOf_44 : decode cX12_wordOf 44 = .ok (.if_icmp .ne 7, 3) := by decide +kernel
theorem dX12_wordOf_47 : decode cX12_wordOf 47 = .ok (.iconst 1, 1) := by decide +kernel
theorem dX12_wordOf_48 : decode cX12_wordOf 48 = .ok (.goto 4, 3) := by decide +kernel
theorem dX12_wordOf_51 : decode cX12_wordOf 51 = .ok (.iconst 0, 1) := by decide +kernel
theorem dX12_wordOf_52 : decode cX12_wordOf 52 = .ok (.istore 6, 2) := by decide +kernel
theorem dX12_wordOf_54 : decode cX12_wordOf 54 = .ok (.iconst 0, 1) := by decide +kernel
theorem dX12_wordOf_55 : decode cX12_wordOf 55 = .ok (.istore 7, 2) := by decide +kernel
theorem dX12_wordOf_57 : decode cX12_wordOf 57 = .ok (.iload 7, 2) := by decide +kernel
theorem dX12_wordOf_59 : decode cX12_wordOf 59 = .ok (.iload 5, 2) := by decide +kernel
theorem dX12_wordOf_61 : decode cX12_wordOf 61 = .ok (.if_icmp .ge 43, 3) := by decide +kernel
theorem dX12_wordOf_64 : decode cX12_wordOf 64 = .ok (.iload 6, 2) := by decide +kernel
theorem dX12_wordOf_66 : decode cX12_wordOf 66 = .ok (.ifCond .eq 38, 3) := by decide +kernel
theorem dX12_wordOf_69 : decode cX12_wordOf 69 = .ok (.aload_n 0, 1) := by decide +kernel
theorem dX12_wordOf_70 : decode cX12_wordOf 70 = .ok (.getfield 30, 3) := by decide +kernel
theorem dX12_wordOf_73 : decode cX12_wordOf 73 = .ok (.iload 4, 2) := by decide +kernel
theorem dX12_wordOf_75 : decode cX12_wordOf 75 = .ok (.iload 7, 2) := by decide +kernel
theorem dX12_wordOf_77 : decode cX12_wordOf 77 = .ok (.iadd, 1) := by decide +kernel
theorem dX12_wordOf_78 : decode cX12_wordOf 78 = .ok (.baload, 1) := by decide +kernel
theorem dX12_wordOf_79 : decode cX12_wordOf 79 = .ok (.aload_n 0, 1) := by decide +kernel
theorem dX12_wordOf_80 : decode cX12_wordOf 80 = .ok (.getfield 34, 3) := by decide +kernel
theorem dX12_wordOf_83 : decode cX12_wordOf 83 = .ok (.iload_n 1, 1) := by decide +kernel
theorem dX12_wordOf_84 : decode cX12_wordOf 84 = .ok (.iload 7, 2) := by decide +kernel
theorem dX12_wordOf_86 : decode cX12_wordOf 86 = .ok (.iadd, 1) := by decide +kernel
theorem dX12_wordOf_87 : decode cX12_wordOf 87 = .ok (.baload, 1) := by decide +kernel
theorem dX12_wordOf_88 : decode cX12_wordOf 88 = .ok (.if_icmp .ne 7, 3) := by decide +kernel
theorem dX12_wordOf_91 : decode cX12_wordOf 91 = .ok (.iconst 1, 1) := by decide +kernel
theorem dX12_wordOf_92 : decode cX12_wordOf 92 = .ok (.goto 4, 3) := by decide +kernel
theorem dX12_wordOf_95 : decode cX12_wordOf 95 = .ok (.iconst 0, 1) := by decide +kernel
theorem dX12_wordOf_96 : decode cX12_wordOf 96 = .ok (.istore 6, 2) := by decide +kernel
theorem dX12_wordOf_98 : decode cX12_wordOf 98 = .ok (.iinc 7 1, 3) := by decide +kernel
theorem dX12_wordOf_101 : decode cX12_wordOf 101 = .ok (.goto (-44), 3) := by decide +kernel
theorem dX12_wordOf_104 : decode cX12_wordOf 104 = .ok (.iload 6, 2) := by decide +kernel
theorem dX12_wordOf_106 : decode cX12_wordOf 106 = .ok (.ifCond .eq 5, 3) := by decide +kernel
theorem dX12_wordOf_109 : decode cX12_wordOf 109 = .ok (.iload_n 3, 1) := by decide +kernel
theorem dX12_wordOf_110 : decode cX12_wordOf 110 = .ok (.ireturn, 1) := by decide +kernel
theorem dX12_wordOf_111 : decode cX12_wordOf 111 = .ok (.iload 4, 2) := by decide +kernel
theorem dX12_wordOf_113 : decode cX12_wordOf 113 = .ok (.iload 5, 2) := by decide +kernel
theorem dX12_wordOf_115 : decode cX12_wordOf 115 = .ok (.iconst 1, 1) := by decide +kernel
theorem dX12_wordOf_116 : decode cX12_wordOf 116 = .ok (.iadd, 1) := by decide +kernel
theorem dX12_wordOf_117 : decode cX12_wordOf 117 = .ok (.iadd, 1) := by decide +kernel
theorem dX12_wordOf_118 : decode cX12_wordOf 118 = .ok (.istore 4, 2) := by decide +kernel
theorem dX12_wordOf_120 : decode cX12_wordOf 120 = .ok (.iinc 3 1, 3) := by decide +kernel
theorem dX12_wordOf_123 : decode cX12_wordOf 123 = .ok (.goto (-118), 3) := by decide +kernel
theorem dX12_wordOf_126 : decode cX12_wordOf 126 = .ok (.iconst 0, 1) := by decide +kernel
theorem dX12_wordOf_127 : decode cX12_wordOf 127 = .ok (.ireturn, 1) := by decide +kernel
abbrev YX12_wordOf : zY := (yX12_wordOf, cX12_wordOf, 8, (Option.some Jvm.ClassFile.FieldType.int), [])
def fX12_wordOf_104 (F : zFs) (k_5 : Int → Int → zDa → Option (Int × zDa)) (o1 : Int) (o2 : Int) (o3 : Int) (o4 : Int) (o5 : Int) (v6 : Int) (D : zDa) : Option (Int × zDa) :=
  if v6 = 0 then
    if (-2147483648 ≤ o5 + 1 ∧ o5 + 1 ≤ 2147483647) ∧ (-2147483648 ≤ o4 + (o5 + 1) ∧ o4 + (o5 + 1) ≤ 2147483647) then
      zlet ((o4 + (o5 + 1))) (fun x4_1 =>
        if (-2147483648 ≤ o3 + 1 ∧ o3 + 1 ≤ 2147483647) then
          k_5 (o3 + 1) x4_1 D
        else none)
    else none
  else
    some (o3, D)
def fX12_wordOf_96 (F : zFs) (k_5 : Int → Int → zDa → Option (Int × zDa)) (k_57 : Int → Int → zDa → Option (Int × zDa)) (o1 : Int) (o2 : Int) (o3 : Int) (o4 : Int) (o5 : Int) (v7 : Int) (s0 : Int) (D : zDa) : Option (Int × zDa) :=
  if (-2147483648 ≤ v7 + 1 ∧ v7 + 1 ≤ 2147483647) then
    k_57 s0 (v7 + 1) D
  else none
def fX12_wordOf_57 (F : zFs) (o1 : Int) (o2 : Int) (o3 : Int) (o4 : Int) (o5 : Int) (k_5 : Int → Int → zDa → Option (Int × zDa)) (k_57 : Int → Int → zDa → Option (Int × zDa)) (v6 : Int) (v7 : Int) (D : zDa) : Option (Int × zDa) :=
  if v7 < o5 then
    if v6 = 0 then
      fX12_wordOf_104 F k_5 o1 o2 o3 o4 o5 v6 D
    else
      if (-2147483648 ≤ o4 + v7 ∧ o4 + v7 ≤ 2147483647) ∧ (0 ≤ (o4 + v7) ∧ (o4 + v7) < 76) ∧ (-2147483648 ≤ o1 + v7 ∧ o1 + v7 ≤ 2147483647) ∧ (0 ≤ (o1 + v7) ∧ (o1 + v7) < 400) then
        if (D 96 (o4 + v7).toNat) = (D 97 (o1 + v7).toNat) then
          fX12_wordOf_96 F k_5 k_57 o1 o2 o3 o4 o5 v7 1 D
        else
          fX12_wordOf_96 F k_5 k_57 o1 o2 o3 o4 o5 v7 0 D
      else none
  else
    fX12_wordOf_104 F k_5 o1 o2 o3 o4 o5 v6 D
def fX12_wordOf_52 (F : zFs) (k_5 : Int → Int → zDa → Option (Int × zDa)) (o1 : Int) (o2 : Int) (o3 : Int) (o4 : Int) (v5 : Int) (s0 : Int) (D : zDa) : Option (Int × zDa) :=
  zfix (fun _ _ _ => none) (fX12_wordOf_57 F o1 o2 o3 o4 v5 k_5) zfu s0 0 D
def fX12_wordOf_18 (F : zFs) (o1 : Int) (o2 : Int) (o3 : Int) (o4 : Int) (k_5 : Int → Int → zDa → Option (Int × zDa)) (k_18 : Int → zDa → Option (Int × zDa)) (v5 : Int) (D : zDa) : Option (Int × zDa) :=
  if (-2147483648 ≤ o4 + v5 ∧ o4 + v5 ≤ 2147483647) ∧ (0 ≤ (o4 + v5) ∧ (o4 + v5) < 76) then
    if (D 96 (o4 + v5).toNat) = 32 then
      if (-2147483648 ≤ o2 - o1 ∧ o2 - o1 ≤ 2147483647) then
        if v5 = (o2 - o1) then
          fX12_wordOf_52 F k_5 o1 o2 o3 o4 v5 1 D
        else
          fX12_wordOf_52 F k_5 o1 o2 o3 o4 v5 0 D
      else none
    else
      if (-2147483648 ≤ v5 + 1 ∧ v5 + 1 ≤ 2147483647) then
        k_18 (v5 + 1) D
      else none
  else none
def fX12_wordOf_5 (F : zFs) (o1 : Int) (o2 : Int)  (k_5 : Int → Int → zDa → Option (Int × zDa)) (v3 : Int) (v4 : Int) (D : zDa) : Option (Int × zDa) :=
  if v4 < 76 then
    zfix (fun _ _ => none) (fX12_wordOf_18 F o1 o2 v3 v4 k_5) zfu 0 D
  else
    some (0, D)
def fX12_wordOf (F : zFs) (v1 : Int) (v2 : Int) (D : zDa) : Option (Int × zDa) :=
  zfix (fun _ _ _ => none) (fX12_wordOf_5 F v1 v2) zfu 1 0 D
set_option maxHeartbeats 20000000 in
theorem sX12_wordOf_104 {l : Launch} {E : zE} {d : Nat} {F : zFs} {n sl : Nat} (hG : zG F)  (o1 : Int) (o2 : Int) (o3 : Int) (o4 : Int) (o5 : Int) (v6 : Int) (k_5 : Int → Int → zDa → Option (Int × zDa)) (hk_5 : ∀ (u3 : Int) (u4 : Int) (D : zDa), zO l E (d + 0) YX12_wordOf 5 [(0, zR 91), (1, zI o1), (2, zI o2), (3, zI u3), (4, zI u4)] [] (F, D, n, sl) (zcI F n sl) (k_5 u3 u4 D)) (D : zDa) : zO l E (d + 0) YX12_wordOf 104 [(0, zR 91), (1, zI o1), (2, zI o2), (3, zI o3), (4, zI o4), (5, zI o5), (6, zI v6)] [] (F, D, n, sl) (zcI F n sl) (fX12_wordOf_104 F k_5 o1 o2 o3 o4 o5 v6 D) := by
  unfold fX12_wordOf_104
  refine zO_iload dX12_wordOf_104 rfl ?_
  refine zO_if_eq (tgt := 111) dX12_wordOf_106 rfl (fun c106 => ?_) (fun c106 => ?_)
  · refine zO_chk (fun h3 => ?_)
    refine zO_iload dX12_wordOf_111 rfl ?_
    refine zO_iload dX12_wordOf_113 rfl ?_
    refine zO_iconst dX12_wordOf_115 (by decide) ?_
    refine zO_iadd dX12_wordOf_116 h3.1 ?_
    refine zO_iadd dX12_wordOf_117 h3.2 ?_
    refine zO_letI (fun x4_1 ex4_1 => ?_)
    refine zO_istore dX12_wordOf_118 (by decide) ?_
    refine zO_ls (ls' := [(0, zR 91), (1, zI o1), (2, zI o2), (3, zI o3), (4, zI x4_1), (5, zI o5), (6, zI v6)]) rfl ?_
    refine zO_chk (fun h4 => ?_)
    refine zO_iinc dX12_wordOf_120 rfl h4 (by decide) ?_
    refine zO_ls (ls' := [(0, zR 91), (1, zI o1), (2, zI o2), (3, zI (o3 + 1)), (4, zI x4_1), (5, zI o5), (6, zI v6)]) rfl ?_
    refine zO_goto (tgt := 5) dX12_wordOf_123 rfl ?_
    refine zO_live [0, 1, 2, 3, 4] ?_
    exact hk_5 (o3 + 1) x4_1 D
  · refine zO_iload_n dX12_wordOf_109 rfl ?_
    exact zO_ret (rv := some (zI o3)) dX12_wordOf_110 rfl rfl rfl
set_option maxHeartbeats 20000000 in
theorem sX12_wordOf_96 {l : Launch} {E : zE} {d : Nat} {F : zFs} {n sl : Nat} (hG : zG F)  (o1 : Int) (o2 : Int) (o3 : Int) (o4 : Int) (o5 : Int) (v7 : Int) (s0 : Int) (k_5 : Int → Int → zDa → Option (Int × zDa)) (k_57 : Int → Int → zDa → Option (Int × zDa)) (hk_5 : ∀ (u3 : Int) (u4 : Int) (D : zDa), zO l E (d + 0) YX12_wordOf 5 [(0, zR 91), (1, zI o1), (2, zI o2), (3, zI u3), (4, zI u4)] [] (F, D, n, sl) (zcI F n sl) (k_5 u3 u4 D)) (hk_57 : ∀ (u6 : Int) (u7 : Int) (D : zDa), zO l E (d + 0) YX12_wordOf 57 [(0, zR 91), (1, zI o1), (2, zI o2), (3, zI o3), (4, zI o4), (5, zI o5), (6, zI u6), (7, zI u7)] [] (F, D, n, sl) (zcI F n sl) (k_57 u6 u7 D)) (D : zDa) : zO l E (d + 0) YX12_wordOf 96 [(0, zR 91), (1, zI o1), (2, zI o2), (3, zI o3), (4, zI o4), (5, zI o5), (7, zI v7)] [zI s0] (F, D, n, sl) (zcI F n sl) (fX12_wordOf_96 F k_5 k_57 o1 o2 o3 o4 o5 v7 s0 D) := by
  unfold fX12_wordOf_96
  refine zO_chk (fun h6 => ?_)
  refine zO_istore dX12_wordOf_96 (by decide) ?_
  refine zO_ls (ls' := [(0, zR 91), (1, zI o1), (2, zI o2), (3, zI o3), (4, zI o4), (5, zI o5), (6, zI s0), (7, zI v7)]) rfl ?_
  refine zO_iinc dX12_wordOf_98 rfl h6 (by decide) ?_
  refine zO_ls (ls' := [(0, zR 91), (1, zI o1), (2, zI o2), (3, zI o3), (4, zI o4), (5, zI o5), (6, zI s0), (7, zI (v7 + 1))]) rfl ?_
  refine zO_goto (tgt := 57) dX12_wordOf_101 rfl ?_
  refine zO_live [0, 1, 2, 3, 4, 5, 6, 7] ?_
  exact hk_57 s0 (v7 + 1) D
set_option maxHeartbeats 20000000 in
theorem sX12_wordOf_57 {l : Launch} {E : zE} {d : Nat} {F : zFs} {n sl : Nat} (hG : zG F)  (o1 : Int) (o2 : Int) (o3 : Int) (o4 : Int) (o5 : Int) (k_5 : Int → Int → zDa → Option (Int × zDa)) (hk_5 : ∀ (u3 : Int) (u4 : Int) (D : zDa), zO l E (d + 0) YX12_wordOf 5 [(0, zR 91), (1, zI o1), (2, zI o2), (3, zI u3), (4, zI u4)] [] (F, D, n, sl) (zcI F n sl) (k_5 u3 u4 D)) : ∀ (N : Nat) (v6 : Int) (v7 : Int) (D : zDa), zO l E (d + 0) YX12_wordOf 57 [(0, zR 91), (1, zI o1), (2, zI o2), (3, zI o3), (4, zI o4), (5, zI o5), (6, zI v6), (7, zI v7)] [] (F, D, n, sl) (zcI F n sl) (zfix (fun _ _ _ => none) (fX12_wordOf_57 F o1 o2 o3 o4 o5 k_5) N v6 v7 D) := by
  intro N
  induction N with
  | zero => intro v6 v7 D; exact zO_none
  | succ N hk_57 =>
    intro v6 v7 D
    show zO _ _ _ _ _ _ _ _ _ ((fX12_wordOf_57 F o1 o2 o3 o4 o5 k_5) (zfix (fun _ _ _ => none) (fX12_wordOf_57 F o1 o2 o3 o4 o5 k_5) N) v6 v7 D)
    unfold fX12_wordOf_57
    refine zO_iload dX12_wordOf_57 rfl ?_
    refine zO_iload dX12_wordOf_59 rfl ?_
    refine zO_icmp_ge (tgt := 104) dX12_wordOf_61 rfl (fun c61 => ?_) (fun c61 => ?_)
    · refine zO_iload dX12_wordOf_64 rfl ?_
      refine zO_if_eq (tgt := 104) dX12_wordOf_66 rfl (fun c66 => ?_) (fun c66 => ?_)
      · refine zO_live [0, 1, 2, 3, 4, 5, 6] ?_
        exact sX12_wordOf_104 hG o1 o2 o3 o4 o5 v6 _ hk_5 D
      · refine zO_chk (fun h5 => ?_)
        refine zO_aload_n dX12_wordOf_69 rfl (zR_P _) ?_
        refine gt12 (k := 6) dX12_wordOf_70 wF_X12_30 (by decide) (gk_91 hG) (zgv (c := 12) (k := 6) rfl (Or.inl ⟨_, rfl⟩) (gf_91_6 hG)) ?_
        refine zO_iload dX12_wordOf_73 rfl ?_
        refine zO_iload dX12_wordOf_75 rfl ?_
        refine zO_iadd dX12_wordOf_77 h5.1 ?_
        refine zO_bald dX12_wordOf_78 (gk_96 hG) (gl_in (gl_96 hG) h5.2.1) ?_
        refine zO_aload_n dX12_wordOf_79 rfl (zR_P _) ?_
        refine gt12 (k := 7) dX12_wordOf_80 wF_X12_34 (by decide) (gk_91 hG) (zgv (c := 12) (k := 7) rfl (Or.inl ⟨_, rfl⟩) (gf_91_7 hG)) ?_
        refine zO_iload_n dX12_wordOf_83 rfl ?_
        refine zO_iload dX12_wordOf_84 rfl ?_
        refine zO_iadd dX12_wordOf_86 h5.2.2.1 ?_
        refine zO_bald dX12_wordOf_87 (gk_97 hG) (gl_in (gl_97 hG) h5.2.2.2) ?_
        refine zO_icmp_ne (tgt := 95) dX12_wordOf_88 rfl (fun c88 => ?_) (fun c88 => ?_)
        · refine zO_iconst dX12_wordOf_91 (by decide) ?_
          refine zO_goto (tgt := 96) dX12_wordOf_92 rfl ?_
          refine zO_live [0, 1, 2, 3, 4, 5, 7] ?_
          exact sX12_wordOf_96 hG o1 o2 o3 o4 o5 v7 1 _ _ hk_5 hk_57 D
        · refine zO_iconst dX12_wordOf_95 (by decide) ?_
          refine zO_live [0, 1, 2, 3, 4, 5, 7] ?_
          exact sX12_wordOf_96 hG o1 o2 o3 o4 o5 v7 0 _ _ hk_5 hk_57 D
    · refine zO_live [0, 1, 2, 3, 4, 5, 6] ?_
      exact sX12_wordOf_104 hG o1 o2 o3 o4 o5 v6 _ hk_5 D
set_option maxHeartbeats 20000000 in
theorem sX12_wordOf_52 {l : Launch} {E : zE} {d : Nat} {F : zFs} {n sl : Nat} (hG : zG F)  (o1 : Int) (o2 : Int) (o3 : Int) (o4 : Int) (v5 : Int) (s0 : Int) (k_5 : Int → Int → zDa → Option (Int × zDa)) (hk_5 : ∀ (u3 : Int) (u4 : Int) (D : zDa), zO l E (d + 0) YX12_wordOf 5 [(0, zR 91), (1, zI o1), (2, zI o2), (3, zI u3), (4, zI u4)] [] (F, D, n, sl) (zcI F n sl) (k_5 u3 u4 D)) (D : zDa) : zO l E (d + 0) YX12_wordOf 52 [(0, zR 91), (1, zI o1), (2, zI o2), (3, zI o3), (4, zI o4), (5, zI v5)] [zI s0] (F, D, n, sl) (zcI F n sl) (fX12_wordOf_52 F k_5 o1 o2 o3 o4 v5 s0 D) := by
  unfold fX12_wordOf_52
  refine zO_istore dX12_wordOf_52 (by decide) ?_
  refine zO_ls (ls' := [(0, zR 91), (1, zI o1), (2, zI o2), (3, zI o3), (4, zI o4), (5, zI v5), (6, zI s0)]) rfl ?_
  refine zO_iconst dX12_wordOf_54 (by decide) ?_
  refine zO_istore dX12_wordOf_55 (by decide) ?_
  refine zO_ls (ls' := [(0, zR 91), (1, zI o1), (2, zI o2), (3, zI o3), (4, zI o4), (5, zI v5), (6, zI s0), (7, zI 0)]) rfl ?_
  refine zO_live [0, 1, 2, 3, 4, 5, 6, 7] ?_
  exact sX12_wordOf_57 hG o1 o2 o3 o4 v5 _ hk_5 zfu s0 0 D
set_option maxHeartbeats 20000000 in
theorem sX12_wordOf_18 {l : Launch} {E : zE} {d : Nat} {F : zFs} {n sl : Nat} (hG : zG F)  (o1 : Int) (o2 : Int) (o3 : Int) (o4 : Int) (k_5 : Int → Int → zDa → Option (Int × zDa)) (hk_5 : ∀ (u3 : Int) (u4 : Int) (D : zDa), zO l E (d + 0) YX12_wordOf 5 [(0, zR 91), (1, zI o1), (2, zI o2), (3, zI u3), (4, zI u4)] [] (F, D, n, sl) (zcI F n sl) (k_5 u3 u4 D)) : ∀ (N : Nat) (v5 : Int) (D : zDa), zO l E (d + 0) YX12_wordOf 18 [(0, zR 91), (1, zI o1), (2, zI o2), (3, zI o3), (4, zI o4), (5, zI v5)] [] (F, D, n, sl) (zcI F n sl) (zfix (fun _ _ => none) (fX12_wordOf_18 F o1 o2 o3 o4 k_5) N v5 D) := by
  intro N
  induction N with
  | zero => intro v5 D; exact zO_none
  | succ N hk_18 =>
    intro v5 D
    show zO _ _ _ _ _ _ _ _ _ ((fX12_wordOf_18 F o1 o2 o3 o4 k_5) (zfix (fun _ _ => none) (fX12_wordOf_18 F o1 o2 o3 o4 k_5) N) v5 D)
    unfold fX12_wordOf_18
    refine zO_chk (fun h1 => ?_)
    refine zO_aload_n dX12_wordOf_18 rfl (zR_P _) ?_
    refine gt12 (k := 6) dX12_wordOf_19 wF_X12_30 (by decide) (gk_91 hG) (zgv (c := 12) (k := 6) rfl (Or.inl ⟨_, rfl⟩) (gf_91_6 hG)) ?_
    refine zO_iload dX12_wordOf_22 rfl ?_
    refine zO_iload dX12_wordOf_24 rfl ?_
    refine zO_iadd dX12_wordOf_26 h1.1 ?_
    refine zO_bald dX12_wordOf_27 (gk_96 hG) (gl_in (gl_96 hG) h1.2) ?_
    refine zO_bipush dX12_wordOf_28 (by decide) ?_
    refine zO_icmp_eq (tgt := 39) dX12_wordOf_30 rfl (fun c30 => ?_) (fun c30 => ?_)
    · refine zO_chk (fun h2 => ?_)
      refine zO_iload dX12_wordOf_39 rfl ?_
      refine zO_iload_n dX12_wordOf_41 rfl ?_
      refine zO_iload_n dX12_wordOf_42 rfl ?_
      refine zO_isub dX12_wordOf_43 h2 ?_
      refine zO_icmp_ne (tgt := 51) dX12_wordOf_44 rfl (fun c44 => ?_) (fun c44 => ?_)
      · refine zO_iconst dX12_wordOf_47 (by decide) ?_
        refine zO_goto (tgt := 52) dX12_wordOf_48 rfl ?_
        refine zO_live [0, 1, 2, 3, 4, 5] ?_
        exact sX12_wordOf_52 hG o1 o2 o3 o4 v5 1 _ hk_5 D
      · refine zO_iconst dX12_wordOf_51 (by decide) ?_
        refine zO_live [0, 1, 2, 3, 4, 5] ?_
        exact sX12_wordOf_52 hG o1 o2 o3 o4 v5 0 _ hk_5 D
    · refine zO_chk (fun h7 => ?_)
      refine zO_iinc dX12_wordOf_33 rfl h7 (by decide) ?_
      refine zO_ls (ls' := [(0, zR 91), (1, zI o1), (2, zI o2), (3, zI o3), (4, zI o4), (5, zI (v5 + 1))]) rfl ?_
      refine zO_goto (tgt := 18) dX12_wordOf_36 rfl ?_
      refine zO_live [0, 1, 2, 3, 4, 5] ?_
      exact hk_18 (v5 + 1) D
set_option maxHeartbeats 20000000 in
theorem sX12_wordOf_5 {l : Launch} {E : zE} {d : Nat} {F : zFs} {n sl : Nat} (hG : zG F)  (o1 : Int) (o2 : Int)   : ∀ (N : Nat) (v3 : Int) (v4 : Int) (D : zDa), zO l E (d + 0) YX12_wordOf 5 [(0, zR 91), (1, zI o1), (2, zI o2), (3, zI v3), (4, zI v4)] [] (F, D, n, sl) (zcI F n sl) (zfix (fun _ _ _ => none) (fX12_wordOf_5 F o1 o2) N v3 v4 D) := by
  intro N
  induction N with
  | zero => intro v3 v4 D; exact zO_none
  | succ N hk_5 =>
    intro v3 v4 D
    show zO _ _ _ _ _ _ _ _ _ ((fX12_wordOf_5 F o1 o2) (zfix (fun _ _ _ => none) (fX12_wordOf_5 F o1 o2) N) v3 v4 D)
    unfold fX12_wordOf_5
    refine zO_iload dX12_wordOf_5 rfl ?_
    refine zO_aload_n dX12_wordOf_7 rfl (zR_P _) ?_
    refine gt12 (k := 6) dX12_wordOf_8 wF_X12_30 (by decide) (gk_91 hG) (zgv (c := 12) (k := 6) rfl (Or.inl ⟨_, rfl⟩) (gf_91_6 hG)) ?_
    refine zO_alen (kd := 22) dX12_wordOf_11 (gk_96 hG) (by decide) ?_
    refine zO_st (st' := [zI 76, zI v4]) (by rw [gl_96 hG]; rfl) ?_
    refine zO_icmp_ge (tgt := 126) dX12_wordOf_12 rfl (fun c12 => ?_) (fun c12 => ?_)
    · refine zO_iconst dX12_wordOf_15 (by decide) ?_
      refine zO_istore dX12_wordOf_16 (by decide) ?_
      refine zO_ls (ls' := [(0, zR 91), (1, zI o1), (2, zI o2), (3, zI v3), (4, zI v4), (5, zI 0)]) rfl ?_
      refine zO_live [0, 1, 2, 3, 4, 5] ?_
      exact sX12_wordOf_18 hG o1 o2 v3 v4 _ hk_5 zfu 0 D
    · refine zO_iconst dX12_wordOf_126 (by decide) ?_
      exact zO_ret (rv := some (zI 0)) dX12_wordOf_127 rfl rfl rfl
set_option maxHeartbeats 20000000 in
theorem mX12_wordOf {l : Launch} {E : zE} {d : Nat} {F : zFs} {n sl : Nat} (hG : zG F) (v1 : Int) (v2 : Int) {D : zDa} : ∀ r, fX12_wordOf F  v1 v2 D = some r → zMet l E (d + 0) YX12_wordOf [zR 91, zI v1, zI v2] (F, D, n, sl) (zcI F n sl r) := by
  intro r hr
  refine zMet_of (plainFor_of_name (by decide)) (fun _ h => (nomatch h)) (Nat.le_of_ble_eq_true rfl) ?_
  have hz : zO l E (d + 0) YX12_wordOf 0 [(0, zR 91), (1, zI v1), (2, zI v2)] [] (F, D, n, sl) (zcI F n sl) (fX12_wordOf F  v1 v2 D) := by
    unfold fX12_wordOf
    refine zO_iconst dX12_wordOf_0 (by decide) ?_
    refine zO_istore_n dX12_wordOf_1 (by decide) ?_
    refine zO_ls (ls' := [(0, zR 91), (1, zI v1), (2, zI v2), (3, zI 1)]) rfl ?_
    refine zO_iconst dX12_wordOf_2 (by decide) ?_
    refine zO_istore dX12_wordOf_3 (by decide) ?_
    refine zO_ls (ls' := [(0, zR 91), (1, zI v1), (2, zI v2), (3, zI 1), (4, zI 0)]) rfl ?_
    refine zO_live [0, 1, 2, 3, 4] ?_
    exact sX12_wordOf_5 hG v1 v2 zfu 1 0 D
  exact hz r hr
theorem dX12_splits_0 : decode cX12_splits 0 = .ok (.aload_n 0, 1) := by decide +kernel
theorem dX12_splits_1 : decode cX12_splits 1 = .ok (.iconst 0, 1) := by decide +kernel
theorem dX12_splits_2 : decode cX12_splits 2 = .ok (.putfield 173, 3) := by decide +kernel
theorem dX12_splits_5 : decode cX12_splits 5 = .ok (.iconst 0, 1) := by decide +kernel
theorem dX12_splits_6 : decode cX12_splits 6 = .ok (.istore_n 2, 1) := by decide +kernel
theorem dX12_splits_7 : decode cX12_splits 7 = .ok (.iload_n 2, 1) := by decide +kernel
theorem dX12_splits_8 : decode cX12_splits 8 = .ok (.iload_n 1, 1) := by decide +kernel
theorem dX12_splits_9 : decode cX12_splits 9 = .ok (.if_icmp .ge 254, 3) := by decide +kernel
theorem dX12_splits_12 : decode cX12_splits 12 = .ok (.aload_n 0, 1) := by decide +kernel
theorem dX12_splits_13 : decode cX12_splits 13 = .ok (.getfield 34, 3) := by decide +kernel
theorem dX12_splits_16 : decode cX12_splits 16 = .ok (.iload_n 2, 1) := by decide +kernel
theorem dX12_splits_17 : decode cX12_splits 17 = .ok (.baload, 1) := by decide +kernel
theorem dX12_splits_18 : decode cX12_splits 18 = .ok (.istore_n 3, 1) := by decide +kernel
theorem dX12_splits_19 : decode cX12_splits 19 = .ok (.iload_n 3, 1) := by decide +kernel
theorem dX12_splits_20 : decode cX12_splits 20 = .ok (.bipush 32, 2) := by decide +kernel
theorem dX12_splits_22 : decode cX12_splits 22 = .ok (.if_icmp .ne 9, 3) := by decide +kernel
theorem dX12_splits_25 : decode cX12_splits 25 = .ok (.iinc 2 1, 3) := by decide +kernel
theorem dX12_splits_28 : decode cX12_splits 28 = .ok (.goto (-21), 3) := by decide +kernel
theorem dX12_splits_31 : decode cX12_splits 31 = .ok (.iload_n 2, 1) := by decide +kernel
theorem dX12_splits_32 : decode cX12_splits 32 = .ok (.iconst 1, 1) := by decide +kernel
theorem dX12_splits_33 : decode cX12_splits 33 = .ok (.iadd, 1) := by decide +kernel
theorem dX12_splits_34 : decode cX12_splits 34 = .ok (.istore 4, 2) := by decide +kernel
theorem dX12_splits_36 : decode cX12_splits 36 = .ok (.iload_n 3, 1) := by decide +kernel
theorem dX12_splits_37 : decode cX12_splits 37 = .ok (.invokestatic 176, 3) := by decide +kernel
theorem dX12_splits_40 : decode cX12_splits 40 = .ok (.ifCond .eq 28, 3) := by decide +kernel
theorem dX12_splits_43 : decode cX12_splits 43 = .ok (.iload 4, 2) := by decide +kernel
theorem dX12_splits_45 : decode cX12_splits 45 = .ok (.iload_n 1, 1) := by decide +kernel
theorem dX12_splits_46 : decode cX12_splits 46 = .ok (.if_icmp .ge 22, 3) := by decide +kernel
theorem dX12_splits_49 : decode cX12_splits 49 = .ok (.aload_n 0, 1) := by decide +kernel
theorem dX12_splits_50 : decode cX12_splits 50 = .ok (.getfield 34, 3) := by decide +kernel
theorem dX12_splits_53 : decode cX12_splits 53 = .ok (.iload 4, 2) := by decide +kernel
theorem dX12_splits_55 : decode cX12_splits 55 = .ok (.baload, 1) := by decide +kernel
theorem dX12_splits_56 : decode cX12_splits 56 = .ok (.invokestatic 176, 3) := by decide +kernel
theorem dX12_splits_59 : decode cX12_splits 59 = .ok (.ifCond .eq 9, 3) := by decide +kernel
theorem dX12_splits_62 : decode cX12_splits 62 = .ok (.iinc 4 1, 3) := by decide +kernel
theorem dX12_splits_65 : decode cX12_splits 65 = .ok (.goto (-22), 3) := by decide +kernel
theorem dX12_splits_68 : decode cX12_splits 68 = .ok (.iload_n 3, 1) := by decide +kernel
theorem dX12_splits_69 : decode cX12_splits 69 = .ok (.invokestatic 179, 3) := by decide +kernel
theorem dX12_splits_72 : decode cX12_splits 72 = .ok (.ifCond .eq 28, 3) := by decide +kernel
theorem dX12_splits_75 : decode cX12_splits 75 = .ok (.iload 4, 2) := by decide +kernel
theorem dX12_splits_77 : decode cX12_splits 77 = .ok (.iload_n 1, 1) := by decide +kernel
theorem dX12_splits_78 : decode cX12_splits 78 = .ok (.if_icmp .ge 22, 3) := by decide +kernel
theorem dX12_splits_81 : decode cX12_splits 81 = .ok (.aload_n 0, 1) := by decide +kernel
theorem dX12_splits_82 : decode cX12_splits 82 = .ok (.getfield 34, 3) := by decide +kernel
theorem dX12_splits_85 : decode cX12_splits 85 = .ok (.iload 4, 2) := by decide +kernel
theorem dX12_splits_87 : decode cX12_splits 87 = .ok (.baload, 1) := by decide +kernel
theorem dX12_splits_88 : decode cX12_splits 88 = .ok (.invokestatic 179, 3) := by decide +kernel
theorem dX12_splits_91 : decode cX12_splits 91 = .ok (.ifCond .eq 9, 3) := by decide +kernel
theorem dX12_splits_94 : decode cX12_splits 94 = .ok (.iinc 4 1, 3) := by decide +kernel
theorem dX12_splits_97 : decode cX12_splits 97 = .ok (.goto (-22), 3) := by decide +kernel
theorem dX12_splits_100 : decode cX12_splits 100 = .ok (.aload_n 0, 1) := by decide +kernel
theorem dX12_splits_101 : decode cX12_splits 101 = .ok (.getfield 49, 3) := by decide +kernel
theorem dX12_splits_104 : decode cX12_splits 104 = .ok (.aload_n 0, 1) := by decide +kernel
theorem dX12_splits_105 : decode cX12_splits 105 = .ok (.getfield 173, 3) := by decide +kernel
theorem dX12_splits_108 : decode cX12_splits 108 = .ok (.iload_n 2, 1) := by decide +kernel
theorem dX12_splits_109 : decode cX12_splits 109 = .ok (.iastore, 1) := by decide +kernel
theorem dX12_splits_110 : decode cX12_splits 110 = .ok (.aload_n 0, 1) := by decide +kernel
theorem dX12_splits_111 : decode cX12_splits 111 = .ok (.getfield 46, 3) := by decide +kernel
theorem dX12_splits_114 : decode cX12_splits 114 = .ok (.aload_n 0, 1) := by decide +kernel
theorem dX12_splits_115 : decode cX12_splits 115 = .ok (.getfield 173, 3) := by decide +kernel
theorem dX12_splits_118 : decode cX12_splits 118 = .ok (.iconst 0, 1) := by decide +kernel
theorem dX12_splits_119 : decode cX12_splits 119 = .ok (.iastore, 1) := by decide +kernel
theorem dX12_splits_120 : decode cX12_splits 120 = .ok (.aload_n 0, 1) := by decide +kernel
theorem dX12_splits_121 : decode cX12_splits 121 = .ok (.getfield 43, 3) := by decide +kernel
theorem dX12_splits_124 : decode cX12_splits 124 = .ok (.aload_n 0, 1) := by decide +kernel
theorem dX12_splits_125 : decode cX12_splits 125 = .ok (.getfield 173, 3) := by decide +kernel
theorem dX12_splits_128 : decode cX12_splits 128 = .ok (.iload_n 3, 1) := by decide +kernel
theorem dX12_splits_129 : decode cX12_splits 129 = .ok (.invokestatic 176, 3) := by decide +kernel
theorem dX12_splits_132 : decode cX12_splits 132 = .ok (.ifCond .eq 13, 3) := by decide +kernel
theorem dX12_splits_135 : decode cX12_splits 135 = .ok (.aload_n 0, 1) := by decide +kernel
theorem dX12_splits_136 : decode cX12_splits 136 = .ok (.iload_n 2, 1) := by decide +kernel
theorem dX12_splits_137 : decode cX12_splits 137 = .ok (.iload 4, 2) := by decide +kernel
theorem dX12_splits_139 : decode cX12_splits 139 = .ok (.invokevirtual 182, 3) := by decide +kernel
theorem dX12_splits_142 : decode cX12_splits 142 = .ok (.goto 23, 3) := by decide +kernel
theorem dX12_splits_145 : decode cX12_splits 145 = .ok (.iload_n 3, 1) := by decide +kernel
theorem dX12_splits_146 : decode cX12_splits 146 = .ok (.invokestatic 179, 3) := by decide +kernel
theorem dX12_splits_149 : decode cX12_splits 149 = .ok (.ifCond .eq 8, 3) := by decide +kernel
theorem dX12_splits_152 : decode cX12_splits 152 = .ok (.bipush 50, 2) := by decide +kernel
theorem dX12_splits_154 : decode cX12_splits 154 = .ok (.goto 11, 3) := by decide +kernel
theorem dX12_splits_157 : decode cX12_splits 157 = .ok (.bipush 100, 2) := by decide +kernel
theorem dX12_splits_159 : decode cX12_splits 159 = .ok (.iload_n 3, 1) := by decide +kernel
theorem dX12_splits_160 : decode cX12_splits 160 = .ok (.sipush 255, 3) := by decide +kernel
theorem dX12_splits_163 : decode cX12_splits 163 = .ok (.iand, 1) := by decide +kernel
theorem dX12_splits_164 : decode cX12_splits 164 = .ok (.iadd, 1) := by decide +kernel
theorem dX12_splits_165 : decode cX12_splits 165 = .ok (.iastore, 1) := by decide +kernel
theorem dX12_splits_166 : decode cX12_splits 166 = .ok (.iload_n 2, 1) := by decide +kernel
theorem dX12_splits_167 : decode cX12_splits 167 = .ok (.istore 5, 2) := by decide +kernel
theorem dX12_splits_169 : decode cX12_splits 169 = .ok (.iload 5, 2) := by decide +kernel
theorem dX12_splits_171 : decode cX12_splits 171 = .ok (.iload 4, 2) := by decide +kernel
theorem dX12_splits_173 : decode cX12_splits 173 = .ok (.if_icmp .ge 74, 3) := by decide +kernel
theorem dX12_splits_176 : decode cX12_splits 176 = .ok (.iload_n 3, 1) := by decide +kernel
theorem dX12_splits_177 : decode cX12_splits 177 = .ok (.invokestatic 179, 3) := by decide +kernel
theorem dX12_splits_180 : decode cX12_splits 180 = .ok (.ifCond .eq 67, 3) := by decide +kernel
theorem dX12_splits_183 : decode cX12_splits 183 = .ok (.aload_n 0, 1) := by decide +kernel
theorem dX12_splits_184 : decode cX12_splits 184 = .ok (.getfield 46, 3) := by decide +kernel
theorem dX12_splits_187 : decode cX12_splits 187 = .ok (.aload_n 0, 1) := by decide +kernel
theorem dX12_splits_188 : decode cX12_splits 188 = .ok (.getfield 173, 3) := by decide +kernel
theorem dX12_splits_191 : decode cX12_splits 191 = .ok (.aload_n 0, 1) := by decide +kernel
theorem dX12_splits_192 : decode cX12_splits 192 = .ok (.getfield 46, 3) := by decide +kernel
theorem dX12_splits_195 : decode cX12_splits 195 = .ok (.aload_n 0, 1) := by decide +kernel
theorem dX12_splits_196 : decode cX12_splits 196 = .ok (.getfield 173, 3) := by decide +kernel
theorem dX12_splits_199 : decode cX12_splits 199 = .ok (.iaload, 1) := by decide +kernel
theorem dX12_splits_200 : decode cX12_splits 200 = .ok (.ldc 185, 2) := by decide +kernel
theorem dX12_splits_202 : decode cX12_splits 202 = .ok (.if_icmp .le 15, 3) := by decide +kernel
theorem dX12_splits_205 : decode cX12_splits 205 = .ok (.aload_n 0, 1) := by decide +kernel
theorem dX12_splits_206 : decode cX12_splits 206 = .ok (.getfield 46, 3) := by decide +kernel
theorem dX12_splits_209 : decode cX12_splits 209 = .ok (.aload_n 0, 1) := by decide +kernel
theorem dX12_splits_210 : decode cX12_splits 210 = .ok (.getfield 173, 3) := by decide +kernel
theorem dX12_splits_213 : decode cX12_splits 213 = .ok (.iaload, 1) := by decide +kernel
theorem dX12_splits_214 : decode cX12_splits 214 = .ok (.goto 26, 3) := by decide +kernel
theorem dX12_splits_217 : decode cX12_splits 217 = .ok (.bipush 10, 2) := by decide +kernel
theorem dX12_splits_219 : decode cX12_splits 219 = .ok (.aload_n 0, 1) := by decide +kernel
theorem dX12_splits_220 : decode cX12_splits 220 = .ok (.getfield 46, 3) := by decide +kernel
theorem dX12_splits_223 : decode cX12_splits 223 = .ok (.aload_n 0, 1) := by decide +kernel
theorem dX12_splits_224 : decode cX12_splits 224 = .ok (.getfield 173, 3) := by decide +kernel
theorem dX12_splits_227 : decode cX12_splits 227 = .ok (.iaload, 1) := by decide +kernel
theorem dX12_splits_228 : decode cX12_splits 228 = .ok (.imul, 1) := by decide +kernel
theorem dX12_splits_229 : decode cX12_splits 229 = .ok (.aload_n 0, 1) := by decide +kernel
theorem dX12_splits_230 : decode cX12_splits 230 = .ok (.getfield 34, 3) := by decide +kernel
theorem dX12_splits_233 : decode cX12_splits 233 = .ok (.iload 5, 2) := by decide +kernel
theorem dX12_splits_235 : decode cX12_splits 235 = .ok (.baload, 1) := by decide +kernel
theorem dX12_splits_236 : decode cX12_splits 236 = .ok (.iadd, 1) := by decide +kernel
theorem dX12_splits_237 : decode cX12_splits 237 = .ok (.bipush 48, 2) := by decide +kernel
theorem dX12_splits_239 : decode cX12_splits 239 = .ok (.isub, 1) := by decide +kernel
theorem dX12_splits_240 : decode cX12_splits 240 = .ok (.iastore, 1) := by decide +kernel
theorem dX12_splits_241 : decode cX12_splits 241 = .ok (.iinc 5 1, 3) := by decide +kernel
theorem dX12_splits_244 : decode cX12_splits 244 = .ok (.goto (-75), 3) := by decide +kernel
theorem dX12_splits_247 : decode cX12_splits 247 = .ok (.aload_n 0, 1) := by decide +kernel
theorem dX12_splits_248 : decode cX12_splits 248 = .ok (.dup, 1) := by decide +kernel
theorem dX12_splits_249 : decode cX12_splits 249 = .ok (.getfield 173, 3) := by decide +kernel
theorem dX12_splits_252 : decode cX12_splits 252 = .ok (.iconst 1, 1) := by decide +kernel
theorem dX12_splits_253 : decode cX12_splits 253 = .ok (.iadd, 1) := by decide +kernel
theorem dX12_splits_254 : decode cX12_splits 254 = .ok (.putfield 173, 3) := by decide +kernel
theorem dX12_splits_257 : decode cX12_splits 257 = .ok (.iload 4, 2) := by decide +kernel
theorem dX12_splits_259 : decode cX12_splits 259 = .ok (.istore_n 2, 1) := by decide +kernel
theorem dX12_splits_260 : decode cX12_splits 260 = .ok (.goto (-253), 3) := by decide +kernel
theorem dX12_splits_263 : decode cX12_splits 263 = .ok (.aload_n 0, 1) := by decide +kernel
theorem dX12_splits_264 : decode cX12_splits 264 = .ok (.getfield 49, 3) := by decide +kernel
theorem dX12_splits_267 : decode cX12_splits 267 = .ok (.aload_n 0, 1) := by decide +kernel
theorem dX12_splits_268 : decode cX12_splits 268 = .ok (.getfield 173, 3) := by decide +kernel
theorem dX12_splits_271 : decode cX12_splits 271 = .ok (.iload_n 1, 1) := by decide +kernel
theorem dX12_splits_272 : decode cX12_splits 272 = .ok (.iastore, 1) := by decide +kernel
theorem dX12_splits_273 : decode cX12_splits 273 = .ok (.aload_n 0, 1) := by decide +kernel
theorem dX12_splits_274 : decode cX12_splits 274 = .ok (.getfield 43, 3) := by decide +kernel
theorem dX12_splits_277 : decode cX12_splits 277 = .ok (.aload_n 0, 1) := by decide +kernel
theorem dX12_splits_278 : decode cX12_splits 278 = .ok (.getfield 173, 3) := by decide +kernel
theorem dX12_splits_281 : decode cX12_splits 281 = .ok (.iconst 0, 1) := by decide +kernel
theorem dX12_splits_282 : decode cX12_splits 282 = .ok (.iastore, 1) := by decide +kernel
theorem dX12_splits_283 : decode cX12_splits 283 = .ok (.aload_n 0, 1) := by decide +kernel
theorem dX12_splits_284 : decode cX12_splits 284 = .ok (.getfield 46, 3) := by decide +kernel
theorem dX12_splits_287 : decode cX12_splits 287 = .ok (.aload_n 0, 1) := by decide +kernel
theorem dX12_splits_288 : decode cX12_splits 288 = .ok (.getfield 173, 3) := by decide +kernel
theorem dX12_splits_291 : decode cX12_splits 291 = .ok (.iconst 0, 1) := by decide +kernel
theorem dX12_splits_292 : decode cX12_splits 292 = .ok (.iastore, 1) := by decide +kernel
theorem dX12_splits_293 : decode cX12_splits 293 = .ok (.return_, 1) := by decide +kernel
abbrev YX12_splits : zY := (yX12_splits, cX12_splits, 6, none, [])
def fX12_splits_247 (F : zFs) (k_7 : Int → zDa → Option zDa) (o1 : Int) (o4 : Int) (D : zDa) : Option zDa :=
  if (-2147483648 ≤ (D 91 14) + 1 ∧ (D 91 14) + 1 ≤ 2147483647) then
    zlet (zwr D 91 14 ((D 91 14) + 1)) (fun D_17 =>
      k_7 o4 D_17)
  else none
def fX12_splits_240 (F : zFs) (k_7 : Int → zDa → Option zDa) (k_169 : Int → zDa → Option zDa) (o1 : Int) (o3 : Int) (o4 : Int) (v5 : Int) (s0 : Int) (s1 : Int) (D : zDa) : Option zDa :=
  if (0 ≤ s1 ∧ s1 < 401) then
    zlet (zwr D 100 s1.toNat s0) (fun D_18 =>
      if (-2147483648 ≤ v5 + 1 ∧ v5 + 1 ≤ 2147483647) then
        k_169 (v5 + 1) D_18
      else none)
  else none
def fX12_splits_169 (F : zFs) (o1 : Int) (o3 : Int) (o4 : Int) (k_7 : Int → zDa → Option zDa) (k_169 : Int → zDa → Option zDa) (v5 : Int) (D : zDa) : Option zDa :=
  if v5 < o4 then
    (fX12_isDigit F o3 D).bind (fun (r_15, D_16) =>
      if r_15 = 0 then
        fX12_splits_247 F k_7 o1 o4 D_16
      else
        if (0 ≤ (D_16 91 14) ∧ (D_16 91 14) < 401) then
          if 1000000 < (D_16 100 (D_16 91 14).toNat) then
            fX12_splits_240 F k_7 k_169 o1 o3 o4 v5 (D_16 100 (D_16 91 14).toNat) (D_16 91 14) D_16
          else
            if (-2147483648 ≤ 10 * (D_16 100 (D_16 91 14).toNat) ∧ 10 * (D_16 100 (D_16 91 14).toNat) ≤ 2147483647) ∧ (0 ≤ v5 ∧ v5 < 400) ∧ (-2147483648 ≤ (10 * (D_16 100 (D_16 91 14).toNat)) + (D_16 97 v5.toNat) ∧ (10 * (D_16 100 (D_16 91 14).toNat)) + (D_16 97 v5.toNat) ≤ 2147483647) ∧ (-2147483648 ≤ ((10 * (D_16 100 (D_16 91 14).toNat)) + (D_16 97 v5.toNat)) - 48 ∧ ((10 * (D_16 100 (D_16 91 14).toNat)) + (D_16 97 v5.toNat)) - 48 ≤ 2147483647) then
              fX12_splits_240 F k_7 k_169 o1 o3 o4 v5 (((10 * (D_16 100 (D_16 91 14).toNat)) + (D_16 97 v5.toNat)) - 48) (D_16 91 14) D_16
            else none
        else none)
  else
    fX12_splits_247 F k_7 o1 o4 D
def fX12_splits_165 (F : zFs) (k_7 : Int → zDa → Option zDa) (o1 : Int) (v2 : Int) (v3 : Int) (v4 : Int) (s0 : Int) (s1 : Int) (D : zDa) : Option zDa :=
  if (0 ≤ s1 ∧ s1 < 401) then
    zlet (zwr D 99 s1.toNat s0) (fun D_14 =>
      zfix (fun _ _ => none) (fX12_splits_169 F o1 v3 v4 k_7) zfu v2 D_14)
  else none
def fX12_splits_100 (F : zFs) (k_7 : Int → zDa → Option zDa) (o1 : Int) (v2 : Int) (v3 : Int) (v4 : Int) (D : zDa) : Option zDa :=
  if (0 ≤ (D 91 14) ∧ (D 91 14) < 401) then
    zlet (zwr D 101 (D 91 14).toNat v2) (fun D_8 =>
      if (0 ≤ (D_8 91 14) ∧ (D_8 91 14) < 401) then
        zlet (zwr D_8 100 (D_8 91 14).toNat 0) (fun D_9 =>
          (fX12_isSmall F v3 D_9).bind (fun (r_10, D_11) =>
            if r_10 = 0 then
              (fX12_isDigit F v3 D_11).bind (fun (r_12, D_13) =>
                if r_12 = 0 then
                  if (-2147483648 ≤ 100 + (zand v3 255) ∧ 100 + (zand v3 255) ≤ 2147483647) then
                    fX12_splits_165 F k_7 o1 v2 v3 v4 (100 + (zand v3 255)) (D_9 91 14) D_13
                  else none
                else
                  fX12_splits_165 F k_7 o1 v2 v3 v4 50 (D_9 91 14) D_13)
            else
              (fX12_wordOf F v2 v4 D_11).bind (fun (r_19, D_20) =>
                fX12_splits_165 F k_7 o1 v2 v3 v4 r_19 (D_9 91 14) D_20)))
      else none)
  else none
def fX12_splits_75 (F : zFs) (o1 : Int) (o2 : Int) (o3 : Int) (k_7 : Int → zDa → Option zDa) (k_75 : Int → zDa → Option zDa) (v4 : Int) (D : zDa) : Option zDa :=
  if v4 < o1 then
    if (0 ≤ v4 ∧ v4 < 400) then
      (fX12_isDigit F (D 97 v4.toNat) D).bind (fun (r_21, D_22) =>
        if r_21 = 0 then
          fX12_splits_100 F k_7 o1 o2 o3 v4 D_22
        else
          if (-2147483648 ≤ v4 + 1 ∧ v4 + 1 ≤ 2147483647) then
            k_75 (v4 + 1) D_22
          else none)
    else none
  else
    fX12_splits_100 F k_7 o1 o2 o3 v4 D
def fX12_splits_68 (F : zFs) (k_7 : Int → zDa → Option zDa) (o1 : Int) (v2 : Int) (v3 : Int) (v4 : Int) (D : zDa) : Option zDa :=
  (fX12_isDigit F v3 D).bind (fun (r_6, D_7) =>
    if r_6 = 0 then
      fX12_splits_100 F k_7 o1 v2 v3 v4 D_7
    else
      zfix (fun _ _ => none) (fX12_splits_75 F o1 v2 v3 k_7) zfu v4 D_7)
def fX12_splits_43 (F : zFs) (o1 : Int) (o2 : Int) (o3 : Int) (k_7 : Int → zDa → Option zDa) (k_43 : Int → zDa → Option zDa) (v4 : Int) (D : zDa) : Option zDa :=
  if v4 < o1 then
    if (0 ≤ v4 ∧ v4 < 400) then
      (fX12_isSmall F (D 97 v4.toNat) D).bind (fun (r_23, D_24) =>
        if r_23 = 0 then
          fX12_splits_68 F k_7 o1 o2 o3 v4 D_24
        else
          if (-2147483648 ≤ v4 + 1 ∧ v4 + 1 ≤ 2147483647) then
            k_43 (v4 + 1) D_24
          else none)
    else none
  else
    fX12_splits_68 F k_7 o1 o2 o3 v4 D
def fX12_splits_7 (F : zFs) (o1 : Int)  (k_7 : Int → zDa → Option zDa) (v2 : Int) (D : zDa) : Option zDa :=
  if v2 < o1 then
    if (0 ≤ v2 ∧ v2 < 400) then
      zlet ((D 97 v2.toNat)) (fun x3_2 =>
        if x3_2 = 32 then
          if (-2147483648 ≤ v2 + 1 ∧ v2 + 1 ≤ 2147483647) then
            k_7 (v2 + 1) D
          else none
        else
          if (-2147483648 ≤ v2 + 1 ∧ v2 + 1 ≤ 2147483647) then
            zlet ((v2 + 1)) (fun x4_3 =>
              (fX12_isSmall F x3_2 D).bind (fun (r_4, D_5) =>
                if r_4 = 0 then
                  fX12_splits_68 F k_7 o1 v2 x3_2 x4_3 D_5
                else
                  zfix (fun _ _ => none) (fX12_splits_43 F o1 v2 x3_2 k_7) zfu x4_3 D_5))
          else none)
    else none
  else
    if (0 ≤ (D 91 14) ∧ (D 91 14) < 401) then
      zlet (zwr D 101 (D 91 14).toNat o1) (fun D_25 =>
        if (0 ≤ (D_25 91 14) ∧ (D_25 91 14) < 401) then
          zlet (zwr D_25 99 (D_25 91 14).toNat 0) (fun D_26 =>
            if (0 ≤ (D_26 91 14) ∧ (D_26 91 14) < 401) then
              zlet (zwr D_26 100 (D_26 91 14).toNat 0) (fun D_27 =>
                some D_27)
            else none)
        else none)
    else none
def fX12_splits (F : zFs) (v1 : Int) (D : zDa) : Option zDa :=
  zlet (zwr D 91 14 0) (fun D_1 =>
    zfix (fun _ _ => none) (fX12_splits_7 F v1) zfu 0 D_1)
set_option maxHeartbeats 20000000 in
theorem sX12_splits_247 {l : Launch} {E : zE} {d : Nat} {F : zFs} {n sl : Nat} (hG : zG F)  (o1 : Int) (o4 : Int) (k_7 : Int → zDa → Option zDa) (hk_7 : ∀ (u2 : Int) (D : zDa), zO l E (d + 1) YX12_splits 7 [(0, zR 91), (1, zI o1), (2, zI u2)] [] (F, D, n, sl) (zcV F n sl) (k_7 u2 D)) (D : zDa) : zO l E (d + 1) YX12_splits 247 [(0, zR 91), (1, zI o1), (4, zI o4)] [] (F, D, n, sl) (zcV F n sl) (fX12_splits_247 F k_7 o1 o4 D) := by
  unfold fX12_splits_247
  refine zO_chk (fun h8 => ?_)
  refine zO_aload_n dX12_splits_247 rfl (zR_P _) ?_
  refine zO_dup dX12_splits_248 (rfl) ?_
  refine gt12 (k := 14) (v := zI (D 91 14)) dX12_splits_249 wF_X12_173 (by decide) (gk_91 hG) rfl ?_
  refine zO_iconst dX12_splits_252 (by decide) ?_
  refine zO_iadd dX12_splits_253 h8 ?_
  refine ptI12 (k := 14) (z := ((D 91 14) + 1)) dX12_splits_254 wF_X12_173 (by decide) rfl (gk_91 hG) rfl ?_
  refine zO_letD (fun D_17 eD_17 => ?_)
  refine zO_iload dX12_splits_257 rfl ?_
  refine zO_istore_n dX12_splits_259 (by decide) ?_
  refine zO_ls (ls' := [(0, zR 91), (1, zI o1), (2, zI o4), (4, zI o4)]) rfl ?_
  refine zO_goto (tgt := 7) dX12_splits_260 rfl ?_
  refine zO_live [0, 1, 2] ?_
  exact hk_7 o4 D_17
set_option maxHeartbeats 20000000 in
theorem sX12_splits_240 {l : Launch} {E : zE} {d : Nat} {F : zFs} {n sl : Nat} (hG : zG F)  (o1 : Int) (o3 : Int) (o4 : Int) (v5 : Int) (s0 : Int) (s1 : Int) (k_7 : Int → zDa → Option zDa) (k_169 : Int → zDa → Option zDa) (hk_7 : ∀ (u2 : Int) (D : zDa), zO l E (d + 1) YX12_splits 7 [(0, zR 91), (1, zI o1), (2, zI u2)] [] (F, D, n, sl) (zcV F n sl) (k_7 u2 D)) (hk_169 : ∀ (u5 : Int) (D : zDa), zO l E (d + 1) YX12_splits 169 [(0, zR 91), (1, zI o1), (3, zI o3), (4, zI o4), (5, zI u5)] [] (F, D, n, sl) (zcV F n sl) (k_169 u5 D)) (D : zDa) : zO l E (d + 1) YX12_splits 240 [(0, zR 91), (1, zI o1), (3, zI o3), (4, zI o4), (5, zI v5)] [zI s0, zI s1, zR 100] (F, D, n, sl) (zcV F n sl) (fX12_splits_240 F k_7 k_169 o1 o3 o4 v5 s0 s1 D) := by
  unfold fX12_splits_240
  refine zO_chk (fun h10 => ?_)
  refine zO_iast dX12_splits_240 (gk_100 hG) (gl_in (gl_100 hG) h10) ?_
  refine zO_letD (fun D_18 eD_18 => ?_)
  refine zO_chk (fun h11 => ?_)
  refine zO_iinc dX12_splits_241 rfl h11 (by decide) ?_
  refine zO_ls (ls' := [(0, zR 91), (1, zI o1), (3, zI o3), (4, zI o4), (5, zI (v5 + 1))]) rfl ?_
  refine zO_goto (tgt := 169) dX12_splits_244 rfl ?_
  refine zO_live [0, 1, 3, 4, 5] ?_
  exact hk_169 (v5 + 1) D_18
set_option maxHeartbeats 20000000 in
theorem sX12_splits_169 {l : Launch} {E : zE} {d : Nat} {F : zFs} {n sl : Nat} (hG : zG F)  (o1 : Int) (o3 : Int) (o4 : Int) (k_7 : Int → zDa → Option zDa) (hk_7 : ∀ (u2 : Int) (D : zDa), zO l E (d + 1) YX12_splits 7 [(0, zR 91), (1, zI o1), (2, zI u2)] [] (F, D, n, sl) (zcV F n sl) (k_7 u2 D)) : ∀ (N : Nat) (v5 : Int) (D : zDa), zO l E (d + 1) YX12_splits 169 [(0, zR 91), (1, zI o1), (3, zI o3), (4, zI o4), (5, zI v5)] [] (F, D, n, sl) (zcV F n sl) (zfix (fun _ _ => none) (fX12_splits_169 F o1 o3 o4 k_7) N v5 D) := by
  intro N
  induction N with
  | zero => intro v5 D; exact zO_none
  | succ N hk_169 =>
    intro v5 D
    show zO _ _ _ _ _ _ _ _ _ ((fX12_splits_169 F o1 o3 o4 k_7) (zfix (fun _ _ => none) (fX12_splits_169 F o1 o3 o4 k_7) N) v5 D)
    unfold fX12_splits_169
    refine zO_iload dX12_splits_169 rfl ?_
    refine zO_iload dX12_splits_171 rfl ?_
    refine zO_icmp_ge (tgt := 247) dX12_splits_173 rfl (fun c173 => ?_) (fun c173 => ?_)
    · refine zO_iload_n dX12_splits_176 rfl ?_
      refine zO_callS (Y' := YX12_isDigit) (cw := zcI F n sl) (as := [zI o3]) (rest := []) (na := 1) dX12_splits_177 wC_X12_isDigit wN_X12 wM_X12_179 wS_X12_isDigit (by decide) (by decide) rfl rfl (Nat.le_of_ble_eq_true rfl) (fun r hr => zMet_cast (Nat.add_assoc d 0 0) (mX12_isDigit (d := d + 0) hG o3 r hr)) ?_
      rintro ⟨r_15, D_16⟩ -
      show zO _ _ _ _ _ _ [zI r_15] (F, D_16, n, sl) _ _
      refine zO_if_eq (tgt := 247) dX12_splits_180 rfl (fun c180 => ?_) (fun c180 => ?_)
      · refine zO_live [0, 1, 4] ?_
        exact sX12_splits_247 hG o1 o4 _ hk_7 D_16
      · refine zO_chk (fun h9 => ?_)
        refine zO_aload_n dX12_splits_183 rfl (zR_P _) ?_
        refine gt12 (k := 12) dX12_splits_184 wF_X12_46 (by decide) (gk_91 hG) (zgv (c := 12) (k := 12) rfl (Or.inl ⟨_, rfl⟩) (gf_91_12 hG)) ?_
        refine zO_aload_n dX12_splits_187 rfl (zR_P _) ?_
        refine gt12 (k := 14) (v := zI (D_16 91 14)) dX12_splits_188 wF_X12_173 (by decide) (gk_91 hG) rfl ?_
        refine zO_aload_n dX12_splits_191 rfl (zR_P _) ?_
        refine gt12 (k := 12) dX12_splits_192 wF_X12_46 (by decide) (gk_91 hG) (zgv (c := 12) (k := 12) rfl (Or.inl ⟨_, rfl⟩) (gf_91_12 hG)) ?_
        refine zO_aload_n dX12_splits_195 rfl (zR_P _) ?_
        refine gt12 (k := 14) (v := zI (D_16 91 14)) dX12_splits_196 wF_X12_173 (by decide) (gk_91 hG) rfl ?_
        refine zO_iald dX12_splits_199 (gk_100 hG) (gl_in (gl_100 hG) h9) ?_
        refine zO_ldc (n := 1000000) dX12_splits_200 wK_X12_185 (by decide) ?_
        refine zO_icmp_le (tgt := 217) dX12_splits_202 rfl (fun c202 => ?_) (fun c202 => ?_)
        · refine zO_aload_n dX12_splits_205 rfl (zR_P _) ?_
          refine gt12 (k := 12) dX12_splits_206 wF_X12_46 (by decide) (gk_91 hG) (zgv (c := 12) (k := 12) rfl (Or.inl ⟨_, rfl⟩) (gf_91_12 hG)) ?_
          refine zO_aload_n dX12_splits_209 rfl (zR_P _) ?_
          refine gt12 (k := 14) (v := zI (D_16 91 14)) dX12_splits_210 wF_X12_173 (by decide) (gk_91 hG) rfl ?_
          refine zO_iald dX12_splits_213 (gk_100 hG) (gl_in (gl_100 hG) h9) ?_
          refine zO_goto (tgt := 240) dX12_splits_214 rfl ?_
          refine zO_live [0, 1, 3, 4, 5] ?_
          exact sX12_splits_240 hG o1 o3 o4 v5 (D_16 100 (D_16 91 14).toNat) (D_16 91 14) _ _ hk_7 hk_169 D_16
        · refine zO_chk (fun h12 => ?_)
          refine zO_bipush dX12_splits_217 (by decide) ?_
          refine zO_aload_n dX12_splits_219 rfl (zR_P _) ?_
          refine gt12 (k := 12) dX12_splits_220 wF_X12_46 (by decide) (gk_91 hG) (zgv (c := 12) (k := 12) rfl (Or.inl ⟨_, rfl⟩) (gf_91_12 hG)) ?_
          refine zO_aload_n dX12_splits_223 rfl (zR_P _) ?_
          refine gt12 (k := 14) (v := zI (D_16 91 14)) dX12_splits_224 wF_X12_173 (by decide) (gk_91 hG) rfl ?_
          refine zO_iald dX12_splits_227 (gk_100 hG) (gl_in (gl_100 hG) h9) ?_
          refine zO_imul dX12_splits_228 h12.1 ?_
          refine zO_aload_n dX12_splits_229 rfl (zR_P _) ?_
          refine gt12 (k := 7) dX12_splits_230 wF_X12_34 (by decide) (gk_91 hG) (zgv (c := 12) (k := 7) rfl (Or.inl ⟨_, rfl⟩) (gf_91_7 hG)) ?_
          refine zO_iload dX12_splits_233 rfl ?_
          refine zO_bald dX12_splits_235 (gk_97 hG) (gl_in (gl_97 hG) h12.2.1) ?_
          refine zO_iadd dX12_splits_236 h12.2.2.1 ?_
          refine zO_bipush dX12_splits_237 (by decide) ?_
          refine zO_isub dX12_splits_239 h12.2.2.2 ?_
          refine zO_live [0, 1, 3, 4, 5] ?_
          exact sX12_splits_240 hG o1 o3 o4 v5 (((10 * (D_16 100 (D_16 91 14).toNat)) + (D_16 97 v5.toNat)) - 48) (D_16 91 14) _ _ hk_7 hk_169 D_16
    · refine zO_live [0, 1, 4] ?_
      exact sX12_splits_247 hG o1 o4 _ hk_7 D
set_option maxHeartbeats 20000000 in
theorem sX12_splits_165 {l : Launch} {E : zE} {d : Nat} {F : zFs} {n sl : Nat} (hG : zG F)  (o1 : Int) (v2 : Int) (v3 : Int) (v4 : Int) (s0 : Int) (s1 : Int) (k_7 : Int → zDa → Option zDa) (hk_7 : ∀ (u2 : Int) (D : zDa), zO l E (d + 1) YX12_splits 7 [(0, zR 91), (1, zI o1), (2, zI u2)] [] (F, D, n, sl) (zcV F n sl) (k_7 u2 D)) (D : zDa) : zO l E (d + 1) YX12_splits 165 [(0, zR 91), (1, zI o1), (2, zI v2), (3, zI v3), (4, zI v4)] [zI s0, zI s1, zR 99] (F, D, n, sl) (zcV F n sl) (fX12_splits_165 F k_7 o1 v2 v3 v4 s0 s1 D) := by
  unfold fX12_splits_165
  refine zO_chk (fun h7 => ?_)
  refine zO_iast dX12_splits_165 (gk_99 hG) (gl_in (gl_99 hG) h7) ?_
  refine zO_letD (fun D_14 eD_14 => ?_)
  refine zO_iload_n dX12_splits_166 rfl ?_
  refine zO_istore dX12_splits_167 (by decide) ?_
  refine zO_ls (ls' := [(0, zR 91), (1, zI o1), (2, zI v2), (3, zI v3), (4, zI v4), (5, zI v2)]) rfl ?_
  refine zO_live [0, 1, 3, 4, 5] ?_
  exact sX12_splits_169 hG o1 v3 v4 _ hk_7 zfu v2 D_14
set_option maxHeartbeats 20000000 in
theorem sX12_splits_100 {l : Launch} {E : zE} {d : Nat} {F : zFs} {n sl : Nat} (hG : zG F)  (o1 : Int) (v2 : Int) (v3 : Int) (v4 : Int) (k_7 : Int → zDa → Option zDa) (hk_7 : ∀ (u2 : Int) (D : zDa), zO l E (d + 1) YX12_splits 7 [(0, zR 91), (1, zI o1), (2, zI u2)] [] (F, D, n, sl) (zcV F n sl) (k_7 u2 D)) (D : zDa) : zO l E (d + 1) YX12_splits 100 [(0, zR 91), (1, zI o1), (2, zI v2), (3, zI v3), (4, zI v4)] [] (F, D, n, sl) (zcV F n sl) (fX12_splits_100 F k_7 o1 v2 v3 v4 D) := by
  unfold fX12_splits_100
  refine zO_chk (fun h4 => ?_)
  refine zO_aload_n dX12_splits_100 rfl (zR_P _) ?_
  refine gt12 (k := 13) dX12_splits_101 wF_X12_49 (by decide) (gk_91 hG) (zgv (c := 12) (k := 13) rfl (Or.inl ⟨_, rfl⟩) (gf_91_13 hG)) ?_
  refine zO_aload_n dX12_splits_104 rfl (zR_P _) ?_
  refine gt12 (k := 14) (v := zI (D 91 14)) dX12_splits_105 wF_X12_173 (by decide) (gk_91 hG) rfl ?_
  refine zO_iload_n dX12_splits_108 rfl ?_
  refine zO_iast dX12_splits_109 (gk_101 hG) (gl_in (gl_101 hG) h4) ?_
  refine zO_letD (fun D_8 eD_8 => ?_)
  refine zO_chk (fun h5 => ?_)
  refine zO_aload_n dX12_splits_110 rfl (zR_P _) ?_
  refine gt12 (k := 12) dX12_splits_111 wF_X12_46 (by decide) (gk_91 hG) (zgv (c := 12) (k := 12) rfl (Or.inl ⟨_, rfl⟩) (gf_91_12 hG)) ?_
  refine zO_aload_n dX12_splits_114 rfl (zR_P _) ?_
  refine gt12 (k := 14) (v := zI (D_8 91 14)) dX12_splits_115 wF_X12_173 (by decide) (gk_91 hG) rfl ?_
  refine zO_iconst dX12_splits_118 (by decide) ?_
  refine zO_iast dX12_splits_119 (gk_100 hG) (gl_in (gl_100 hG) h5) ?_
  refine zO_letD (fun D_9 eD_9 => ?_)
  refine zO_aload_n dX12_splits_120 rfl (zR_P _) ?_
  refine gt12 (k := 11) dX12_splits_121 wF_X12_43 (by decide) (gk_91 hG) (zgv (c := 12) (k := 11) rfl (Or.inl ⟨_, rfl⟩) (gf_91_11 hG)) ?_
  refine zO_aload_n dX12_splits_124 rfl (zR_P _) ?_
  refine gt12 (k := 14) (v := zI (D_9 91 14)) dX12_splits_125 wF_X12_173 (by decide) (gk_91 hG) rfl ?_
  refine zO_iload_n dX12_splits_128 rfl ?_
  refine zO_callS (Y' := YX12_isSmall) (cw := zcI F n sl) (as := [zI v3]) (rest := [zI (D_9 91 14), zR 99]) (na := 1) dX12_splits_129 wC_X12_isSmall wN_X12 wM_X12_176 wS_X12_isSmall (by decide) (by decide) rfl rfl (Nat.le_of_ble_eq_true rfl) (fun r hr => zMet_cast (Nat.add_assoc d 0 0) (mX12_isSmall (d := d + 0) hG v3 r hr)) ?_
  rintro ⟨r_10, D_11⟩ -
  show zO _ _ _ _ _ _ [zI r_10, zI (D_9 91 14), zR 99] (F, D_11, n, sl) _ _
  refine zO_if_eq (tgt := 145) dX12_splits_132 rfl (fun c132 => ?_) (fun c132 => ?_)
  · refine zO_iload_n dX12_splits_145 rfl ?_
    refine zO_callS (Y' := YX12_isDigit) (cw := zcI F n sl) (as := [zI v3]) (rest := [zI (D_9 91 14), zR 99]) (na := 1) dX12_splits_146 wC_X12_isDigit wN_X12 wM_X12_179 wS_X12_isDigit (by decide) (by decide) rfl rfl (Nat.le_of_ble_eq_true rfl) (fun r hr => zMet_cast (Nat.add_assoc d 0 0) (mX12_isDigit (d := d + 0) hG v3 r hr)) ?_
    rintro ⟨r_12, D_13⟩ -
    show zO _ _ _ _ _ _ [zI r_12, zI (D_9 91 14), zR 99] (F, D_13, n, sl) _ _
    refine zO_if_eq (tgt := 157) dX12_splits_149 rfl (fun c149 => ?_) (fun c149 => ?_)
    · refine zO_chk (fun h6 => ?_)
      refine zO_bipush dX12_splits_157 (by decide) ?_
      refine zO_iload_n dX12_splits_159 rfl ?_
      refine zO_sipush dX12_splits_160 (by decide) ?_
      refine zO_iand dX12_splits_163 ?_
      refine zO_iadd dX12_splits_164 h6 ?_
      refine zO_live [0, 1, 2, 3, 4] ?_
      exact sX12_splits_165 hG o1 v2 v3 v4 (100 + (zand v3 255)) (D_9 91 14) _ hk_7 D_13
    · refine zO_bipush dX12_splits_152 (by decide) ?_
      refine zO_goto (tgt := 165) dX12_splits_154 rfl ?_
      refine zO_live [0, 1, 2, 3, 4] ?_
      exact sX12_splits_165 hG o1 v2 v3 v4 50 (D_9 91 14) _ hk_7 D_13
  · refine zO_aload_n dX12_splits_135 rfl (zR_P _) ?_
    refine zO_iload_n dX12_splits_136 rfl ?_
    refine zO_iload dX12_splits_137 rfl ?_
    refine zO_callV (Y' := YX12_wordOf) (cw := zcI F n sl) (as := [zI v2, zI v4]) (rest := [zI (D_9 91 14), zR 99]) (na := 2) (ci := 12) rfl dX12_splits_139 wC_X12_wordOf wN_X12 wM_X12_182 wI_X12_wordOf wV_X12_wordOf (by decide) (by decide) rfl rfl (Nat.le_of_ble_eq_true rfl) rfl (by decide) (gk_91 hG) (fun r hr => zMet_cast (Nat.add_assoc d 0 0) (mX12_wordOf (d := d + 0) hG v2 v4 r hr)) ?_
    rintro ⟨r_19, D_20⟩ -
    show zO _ _ _ _ _ _ [zI r_19, zI (D_9 91 14), zR 99] (F, D_20, n, sl) _ _
    refine zO_goto (tgt := 165) dX12_splits_142 rfl ?_
    refine zO_live [0, 1, 2, 3, 4] ?_
    exact sX12_splits_165 hG o1 v2 v3 v4 r_19 (D_9 91 14) _ hk_7 D_20
set_option maxHeartbeats 20000000 in
theorem sX12_splits_75 {l : Launch} {E : zE} {d : Nat} {F : zFs} {n sl : Nat} (hG : zG F)  (o1 : Int) (o2 : Int) (o3 : Int) (k_7 : Int → zDa → Option zDa) (hk_7 : ∀ (u2 : Int) (D : zDa), zO l E (d + 1) YX12_splits 7 [(0, zR 91), (1, zI o1), (2, zI u2)] [] (F, D, n, sl) (zcV F n sl) (k_7 u2 D)) : ∀ (N : Nat) (v4 : Int) (D : zDa), zO l E (d + 1) YX12_splits 75 [(0, zR 91), (1, zI o1), (2, zI o2), (3, zI o3), (4, zI v4)] [] (F, D, n, sl) (zcV F n sl) (zfix (fun _ _ => none) (fX12_splits_75 F o1 o2 o3 k_7) N v4 D) := by
  intro N
  induction N with
  | zero => intro v4 D; exact zO_none
  | succ N hk_75 =>
    intro v4 D
    show zO _ _ _ _ _ _ _ _ _ ((fX12_splits_75 F o1 o2 o3 k_7) (zfix (fun _ _ => none) (fX12_splits_75 F o1 o2 o3 k_7) N) v4 D)
    unfold fX12_splits_75
    refine zO_iload dX12_splits_75 rfl ?_
    refine zO_iload_n dX12_splits_77 rfl ?_
    refine zO_icmp_ge (tgt := 100) dX12_splits_78 rfl (fun c78 => ?_) (fun c78 => ?_)
    · refine zO_chk (fun h13 => ?_)
      refine zO_aload_n dX12_splits_81 rfl (zR_P _) ?_
      refine gt12 (k := 7) dX12_splits_82 wF_X12_34 (by decide) (gk_91 hG) (zgv (c := 12) (k := 7) rfl (Or.inl ⟨_, rfl⟩) (gf_91_7 hG)) ?_
      refine zO_iload dX12_splits_85 rfl ?_
      refine zO_bald dX12_splits_87 (gk_97 hG) (gl_in (gl_97 hG) h13) ?_
      refine zO_callS (Y' := YX12_isDigit) (cw := zcI F n sl) (as := [zI (D 97 v4.toNat)]) (rest := []) (na := 1) dX12_splits_88 wC_X12_isDigit wN_X12 wM_X12_179 wS_X12_isDigit (by decide) (by decide) rfl rfl (Nat.le_of_ble_eq_true rfl) (fun r hr => zMet_cast (Nat.add_assoc d 0 0) (mX12_isDigit (d := d + 0) hG (D 97 v4.toNat) r hr)) ?_
      rintro ⟨r_21, D_22⟩ -
      show zO _ _ _ _ _ _ [zI r_21] (F, D_22, n, sl) _ _
      refine zO_if_eq (tgt := 100) dX12_splits_91 rfl (fun c91 => ?_) (fun c91 => ?_)
      · refine zO_live [0, 1, 2, 3, 4] ?_
        exact sX12_splits_100 hG o1 o2 o3 v4 _ hk_7 D_22
      · refine zO_chk (fun h14 => ?_)
        refine zO_iinc dX12_splits_94 rfl h14 (by decide) ?_
        refine zO_ls (ls' := [(0, zR 91), (1, zI o1), (2, zI o2), (3, zI o3), (4, zI (v4 + 1))]) rfl ?_
        refine zO_goto (tgt := 75) dX12_splits_97 rfl ?_
        refine zO_live [0, 1, 2, 3, 4] ?_
        exact hk_75 (v4 + 1) D_22
    · refine zO_live [0, 1, 2, 3, 4] ?_
      exact sX12_splits_100 hG o1 o2 o3 v4 _ hk_7 D
set_option maxHeartbeats 20000000 in
theorem sX12_splits_68 {l : Launch} {E : zE} {d : Nat} {F : zFs} {n sl : Nat} (hG : zG F)  (o1 : Int) (v2 : Int) (v3 : Int) (v4 : Int) (k_7 : Int → zDa → Option zDa) (hk_7 : ∀ (u2 : Int) (D : zDa), zO l E (d + 1) YX12_splits 7 [(0, zR 91), (1, zI o1), (2, zI u2)] [] (F, D, n, sl) (zcV F n sl) (k_7 u2 D)) (D : zDa) : zO l E (d + 1) YX12_splits 68 [(0, zR 91), (1, zI o1), (2, zI v2), (3, zI v3), (4, zI v4)] [] (F, D, n, sl) (zcV F n sl) (fX12_splits_68 F k_7 o1 v2 v3 v4 D) := by
  unfold fX12_splits_68
  refine zO_iload_n dX12_splits_68 rfl ?_
  refine zO_callS (Y' := YX12_isDigit) (cw := zcI F n sl) (as := [zI v3]) (rest := []) (na := 1) dX12_splits_69 wC_X12_isDigit wN_X12 wM_X12_179 wS_X12_isDigit (by decide) (by decide) rfl rfl (Nat.le_of_ble_eq_true rfl) (fun r hr => zMet_cast (Nat.add_assoc d 0 0) (mX12_isDigit (d := d + 0) hG v3 r hr)) ?_
  rintro ⟨r_6, D_7⟩ -
  show zO _ _ _ _ _ _ [zI r_6] (F, D_7, n, sl) _ _
  refine zO_if_eq (tgt := 100) dX12_splits_72 rfl (fun c72 => ?_) (fun c72 => ?_)
  · refine zO_live [0, 1, 2, 3, 4] ?_
    exact sX12_splits_100 hG o1 v2 v3 v4 _ hk_7 D_7
  · refine zO_live [0, 1, 2, 3, 4] ?_
    exact sX12_splits_75 hG o1 v2 v3 _ hk_7 zfu v4 D_7
set_option maxHeartbeats 20000000 in
theorem sX12_splits_43 {l : Launch} {E : zE} {d : Nat} {F : zFs} {n sl : Nat} (hG : zG F)  (o1 : Int) (o2 : Int) (o3 : Int) (k_7 : Int → zDa → Option zDa) (hk_7 : ∀ (u2 : Int) (D : zDa), zO l E (d + 1) YX12_splits 7 [(0, zR 91), (1, zI o1), (2, zI u2)] [] (F, D, n, sl) (zcV F n sl) (k_7 u2 D)) : ∀ (N : Nat) (v4 : Int) (D : zDa), zO l E (d + 1) YX12_splits 43 [(0, zR 91), (1, zI o1), (2, zI o2), (3, zI o3), (4, zI v4)] [] (F, D, n, sl) (zcV F n sl) (zfix (fun _ _ => none) (fX12_splits_43 F o1 o2 o3 k_7) N v4 D) := by
  intro N
  induction N with
  | zero => intro v4 D; exact zO_none
  | succ N hk_43 =>
    intro v4 D
    show zO _ _ _ _ _ _ _ _ _ ((fX12_splits_43 F o1 o2 o3 k_7) (zfix (fun _ _ => none) (fX12_splits_43 F o1 o2 o3 k_7) N) v4 D)
    unfold fX12_splits_43
    refine zO_iload dX12_splits_43 rfl ?_
    refine zO_iload_n dX12_splits_45 rfl ?_
    refine zO_icmp_ge (tgt := 68) dX12_splits_46 rfl (fun c46 => ?_) (fun c46 => ?_)
    · refine zO_chk (fun h15 => ?_)
      refine zO_aload_n dX12_splits_49 rfl (zR_P _) ?_
      refine gt12 (k := 7) dX12_splits_50 wF_X12_34 (by decide) (gk_91 hG) (zgv (c := 12) (k := 7) rfl (Or.inl ⟨_, rfl⟩) (gf_91_7 hG)) ?_
      refine zO_iload dX12_splits_53 rfl ?_
      refine zO_bald dX12_splits_55 (gk_97 hG) (gl_in (gl_97 hG) h15) ?_
      refine zO_callS (Y' := YX12_isSmall) (cw := zcI F n sl) (as := [zI (D 97 v4.toNat)]) (rest := []) (na := 1) dX12_splits_56 wC_X12_isSmall wN_X12 wM_X12_176 wS_X12_isSmall (by decide) (by decide) rfl rfl (Nat.le_of_ble_eq_true rfl) (fun r hr => zMet_cast (Nat.add_assoc d 0 0) (mX12_isSmall (d := d + 0) hG (D 97 v4.toNat) r hr)) ?_
      rintro ⟨r_23, D_24⟩ -
      show zO _ _ _ _ _ _ [zI r_23] (F, D_24, n, sl) _ _
      refine zO_if_eq (tgt := 68) dX12_splits_59 rfl (fun c59 => ?_) (fun c59 => ?_)
      · refine zO_live [0, 1, 2, 3, 4] ?_
        exact sX12_splits_68 hG o1 o2 o3 v4 _ hk_7 D_24
      · refine zO_chk (fun h16 => ?_)
        refine zO_iinc dX12_splits_62 rfl h16 (by decide) ?_
        refine zO_ls (ls' := [(0, zR 91), (1, zI o1), (2, zI o2), (3, zI o3), (4, zI (v4 + 1))]) rfl ?_
        refine zO_goto (tgt := 43) dX12_splits_65 rfl ?_
        refine zO_live [0, 1, 2, 3, 4] ?_
        exact hk_43 (v4 + 1) D_24
    · refine zO_live [0, 1, 2, 3, 4] ?_
      exact sX12_splits_68 hG o1 o2 o3 v4 _ hk_7 D
set_option maxHeartbeats 20000000 in
theorem sX12_splits_7 {l : Launch} {E : zE} {d : Nat} {F : zFs} {n sl : Nat} (hG : zG F)  (o1 : Int)   : ∀ (N : Nat) (v2 : Int) (D : zDa), zO l E (d + 1) YX12_splits 7 [(0, zR 91), (1, zI o1), (2, zI v2)] [] (F, D, n, sl) (zcV F n sl) (zfix (fun _ _ => none) (fX12_splits_7 F o1) N v2 D) := by
  intro N
  induction N with
  | zero => intro v2 D; exact zO_none
  | succ N hk_7 =>
    intro v2 D
    show zO _ _ _ _ _ _ _ _ _ ((fX12_splits_7 F o1) (zfix (fun _ _ => none) (fX12_splits_7 F o1) N) v2 D)
    unfold fX12_splits_7
    refine zO_iload_n dX12_splits_7 rfl ?_
    refine zO_iload_n dX12_splits_8 rfl ?_
    refine zO_icmp_ge (tgt := 263) dX12_splits_9 rfl (fun c9 => ?_) (fun c9 => ?_)
    · refine zO_chk (fun h1 => ?_)
      refine zO_aload_n dX12_splits_12 rfl (zR_P _) ?_
      refine gt12 (k := 7) dX12_splits_13 wF_X12_34 (by decide) (gk_91 hG) (zgv (c := 12) (k := 7) rfl (Or.inl ⟨_, rfl⟩) (gf_91_7 hG)) ?_
      refine zO_iload_n dX12_splits_16 rfl ?_
      refine zO_bald dX12_splits_17 (gk_97 hG) (gl_in (gl_97 hG) h1) ?_
      refine zO_letI (fun x3_2 ex3_2 => ?_)
      refine zO_istore_n dX12_splits_18 (by decide) ?_
      refine zO_ls (ls' := [(0, zR 91), (1, zI o1), (2, zI v2), (3, zI x3_2)]) rfl ?_
      refine zO_iload_n dX12_splits_19 rfl ?_
      refine zO_bipush dX12_splits_20 (by decide) ?_
      refine zO_icmp_ne (tgt := 31) dX12_splits_22 rfl (fun c22 => ?_) (fun c22 => ?_)
      · refine zO_chk (fun h2 => ?_)
        refine zO_iinc dX12_splits_25 rfl h2 (by decide) ?_
        refine zO_ls (ls' := [(0, zR 91), (1, zI o1), (2, zI (v2 + 1)), (3, zI x3_2)]) rfl ?_
        refine zO_goto (tgt := 7) dX12_splits_28 rfl ?_
        refine zO_live [0, 1, 2] ?_
        exact hk_7 (v2 + 1) D
      · refine zO_chk (fun h3 => ?_)
        refine zO_iload_n dX12_splits_31 rfl ?_
        refine zO_iconst dX12_splits_32 (by decide) ?_
        refine zO_iadd dX12_splits_33 h3 ?_
        refine zO_letI (fun x4_3 ex4_3 => ?_)
        refine zO_istore dX12_splits_34 (by decide) ?_
        refine zO_ls (ls' := [(0, zR 91), (1, zI o1), (2, zI v2), (3, zI x3_2), (4, zI x4_3)]) rfl ?_
        refine zO_iload_n dX12_splits_36 rfl ?_
        refine zO_callS (Y' := YX12_isSmall) (cw := zcI F n sl) (as := [zI x3_2]) (rest := []) (na := 1) dX12_splits_37 wC_X12_isSmall wN_X12 wM_X12_176 wS_X12_isSmall (by decide) (by decide) rfl rfl (Nat.le_of_ble_eq_true rfl) (fun r hr => zMet_cast (Nat.add_assoc d 0 0) (mX12_isSmall (d := d + 0) hG x3_2 r hr)) ?_
        rintro ⟨r_4, D_5⟩ -
        show zO _ _ _ _ _ _ [zI r_4] (F, D_5, n, sl) _ _
        refine zO_if_eq (tgt := 68) dX12_splits_40 rfl (fun c40 => ?_) (fun c40 => ?_)
        · refine zO_live [0, 1, 2, 3, 4] ?_
          exact sX12_splits_68 hG o1 v2 x3_2 x4_3 _ hk_7 D_5
        · refine zO_live [0, 1, 2, 3, 4] ?_
          exact sX12_splits_43 hG o1 v2 x3_2 _ hk_7 zfu x4_3 D_5
    · refine zO_chk (fun h17 => ?_)
      refine zO_aload_n dX12_splits_263 rfl (zR_P _) ?_
      refine gt12 (k := 13) dX12_splits_264 wF_X12_49 (by decide) (gk_91 hG) (zgv (c := 12) (k := 13) rfl (Or.inl ⟨_, rfl⟩) (gf_91_13 hG)) ?_
      refine zO_aload_n dX12_splits_267 rfl (zR_P _) ?_
      refine gt12 (k := 14) (v := zI (D 91 14)) dX12_splits_268 wF_X12_173 (by decide) (gk_91 hG) rfl ?_
      refine zO_iload_n dX12_splits_271 rfl ?_
      refine zO_iast dX12_splits_272 (gk_101 hG) (gl_in (gl_101 hG) h17) ?_
      refine zO_letD (fun D_25 eD_25 => ?_)
      refine zO_chk (fun h18 => ?_)
      refine zO_aload_n dX12_splits_273 rfl (zR_P _) ?_
      refine gt12 (k := 11) dX12_splits_274 wF_X12_43 (by decide) (gk_91 hG) (zgv (c := 12) (k := 11) rfl (Or.inl ⟨_, rfl⟩) (gf_91_11 hG)) ?_
      refine zO_aload_n dX12_splits_277 rfl (zR_P _) ?_
      refine gt12 (k := 14) (v := zI (D_25 91 14)) dX12_splits_278 wF_X12_173 (by decide) (gk_91 hG) rfl ?_
      refine zO_iconst dX12_splits_281 (by decide) ?_
      refine zO_iast dX12_splits_282 (gk_99 hG) (gl_in (gl_99 hG) h18) ?_
      refine zO_letD (fun D_26 eD_26 => ?_)
      refine zO_chk (fun h19 => ?_)
      refine zO_aload_n dX12_splits_283 rfl (zR_P _) ?_
      refine gt12 (k := 12) dX12_splits_284 wF_X12_46 (by decide) (gk_91 hG) (zgv (c := 12) (k := 12) rfl (Or.inl ⟨_, rfl⟩) (gf_91_12 hG)) ?_
      refine zO_aload_n dX12_splits_287 rfl (zR_P _) ?_
      refine gt12 (k := 14) (v := zI (D_26 91 14)) dX12_splits_288 wF_X12_173 (by decide) (gk_91 hG) rfl ?_
      refine zO_iconst dX12_splits_291 (by decide) ?_
      refine zO_iast dX12_splits_292 (gk_100 hG) (gl_in (gl_100 hG) h19) ?_
      refine zO_letD (fun D_27 eD_27 => ?_)
      exact zO_ret (rv := none) dX12_splits_293 rfl trivial rfl
set_option maxHeartbeats 20000000 in
theorem mX12_splits {l : Launch} {E : zE} {d : Nat} {F : zFs} {n sl : Nat} (hG : zG F) (v1 : Int) {D : zDa} : ∀ r, fX12_splits F  v1 D = some r → zMet l E (d + 1) YX12_splits [zR 91, zI v1] (F, D, n, sl) (zcV F n sl r) := by
  intro r hr
  refine zMet_of (plainFor_of_name (by decide)) (fun _ h => (nomatch h)) (Nat.le_of_ble_eq_true rfl) ?_
  have hz : zO l E (d + 1) YX12_splits 0 [(0, zR 91), (1, zI v1)] [] (F, D, n, sl) (zcV F n sl) (fX12_splits F  v1 D) := by
    unfold fX12_splits
    refine zO_aload_n dX12_splits_0 rfl (zR_P _) ?_
    refine zO_iconst dX12_splits_1 (by decide) ?_
    refine ptI12 (k := 14) (z := 0) dX12_splits_2 wF_X12_173 (by decide) rfl (gk_91 hG) rfl ?_
    refine zO_letD (fun D_1 eD_1 => ?_)
    refine zO_iconst dX12_splits_5 (by decide) ?_
    refine zO_istore_n dX12_splits_6 (by decide) ?_
    refine zO_ls (ls' := [(0, zR 91), (1, zI v1), (2, zI 0)]) rfl ?_
    refine zO_live [0, 1, 2] ?_
    exact sX12_splits_7 hG v1 zfu 0 D_1
  exact hz r hr
theorem dX12_fine_0 : decode cX12_fine 0 = .ok (.aload_n 0, 1) := by decide +kernel
theorem dX12_fine_1 : decode cX12_fine 1 = .ok (.getfield 186, 3) := by decide +kernel
theorem dX12_fine_4 : decode cX12_fine 4 = .ok (.iconst (-1), 1) := by decide +kernel
theorem dX12_fine_5 : decode cX12_fine 5 = .ok (.if_icmp .ne 7, 3) := by decide +kernel
theorem dX12_fine_8 : decode cX12_fine 8 = .ok (.iconst 1, 1) := by decide +kernel
theorem dX12_fine_9 : decode cX12_fine 9 = .ok (.goto 4, 3) := by decide +kernel
theorem dX12_fine_12 : decode cX12_fine 12 = .ok (.iconst 0, 1) := by decide +kernel
theorem dX12_fine_13 : decode cX12_fine 13 = .ok (.ireturn, 1) := by decide +kernel
abbrev YX12_fine : zY := (yX12_fine, cX12_fine, 1, (Option.some Jvm.ClassFile.FieldType.boolean), [])
def fX12_fine (F : zFs)  (D : zDa) : Option (Int × zDa) :=
  if (D 91 17) = (-1) then
    some (1, D)
  else
    some (0, D)
set_option maxHeartbeats 20000000 in
theorem mX12_fine {l : Launch} {E : zE} {d : Nat} {F : zFs} {n sl : Nat} (hG : zG F)  {D : zDa} : ∀ r, fX12_fine F   D = some r → zMet l E (d + 0) YX12_fine [zR 91] (F, D, n, sl) (zcI F n sl r) := by
  intro r hr
  refine zMet_of (plainFor_of_name (by decide)) (fun _ h => (nomatch h)) (Nat.le_of_ble_eq_true rfl) ?_
  have hz : zO l E (d + 0) YX12_fine 0 [(0, zR 91)] [] (F, D, n, sl) (zcI F n sl) (fX12_fine F   D) := by
    unfold fX12_fine
    refine zO_aload_n dX12_fine_0 rfl (zR_P _) ?_
    refine gt12 (k := 17) (v := zI (D 91 17)) dX12_fine_1 wF_X12_186 (by decide) (gk_91 hG) rfl ?_
    refine zO_iconst dX12_fine_4 (by decide) ?_
    refine zO_icmp_ne (tgt := 12) dX12_fine_5 rfl (fun c5 => ?_) (fun c5 => ?_)
    · refine zO_iconst dX12_fine_8 (by decide) ?_
      refine zO_goto (tgt := 13) dX12_fine_9 rfl ?_
      exact zO_ret (rv := some (zI 1)) dX12_fine_13 rfl rfl rfl
    · refine zO_iconst dX12_fine_12 (by decide) ?_
      exact zO_ret (rv := some (zI 0)) dX12_fine_13 rfl rfl rfl
  exact hz r hr
theorem dX12_faults_0 : decode cX12_faults 0 = .ok (.aload_n 0, 1) := by decide +kernel
theorem dX12_faults_1 : decode cX12_faults 1 = .ok (.invokevirtual 189, 3) := by decide +kernel
theorem dX12_faults_4 : decode cX12_faults 4 = .ok (.ifCond .eq 16, 3) := by decide +kernel
theorem dX12_faults_7 : decode cX12_faults 7 = .ok (.aload_n 0, 1) := by decide +kernel
theorem dX12_faults_8 : decode cX12_faults 8 = .ok (.aload_n 0, 1) := by decide +kernel
theorem dX12_faults_9 : decode cX12_faults 9 = .ok (.getfield 49, 3) := by decide +kernel
theorem dX12_faults_12 : decode cX12_faults 12 = .ok (.aload_n 0, 1) := by decide +kernel
theorem dX12_faults_13 : decode cX12_faults 13 = .ok (.getfield 193, 3) := by decide +kernel
theorem dX12_faults_16 : decode cX12_faults 16 = .ok (.iaload, 1) := by decide +kernel
theorem dX12_faults_17 : decode cX12_faults 17 = .ok (.putfield 186, 3) := by decide +kernel
theorem dX12_faults_20 : decode cX12_faults 20 = .ok (.return_, 1) := by decide +kernel
abbrev YX12_faults : zY := (yX12_faults, cX12_faults, 1, none, [])
def fX12_faults (F : zFs)  (D : zDa) : Option zDa :=
  (fX12_fine F D).bind (fun (r_1, D_2) =>
    if r_1 = 0 then
      some D_2
    else
      if (0 ≤ (D_2 91 15) ∧ (D_2 91 15) < 401) then
        zlet (zwr D_2 91 17 (D_2 101 (D_2 91 15).toNat)) (fun D_3 =>
          some D_3)
      else none)
set_option maxHeartbeats 20000000 in
theorem mX12_faults {l : Launch} {E : zE} {d : Nat} {F : zFs} {n sl : Nat} (hG : zG F)  {D : zDa} : ∀ r, fX12_faults F   D = some r → zMet l E (d + 1) YX12_faults [zR 91] (F, D, n, sl) (zcV F n sl r) := by
  intro r hr
  refine zMet_of (plainFor_of_name (by decide)) (fun _ h => (nomatch h)) (Nat.le_of_ble_eq_true rfl) ?_
  have hz : zO l E (d + 1) YX12_faults 0 [(0, zR 91)] [] (F, D, n, sl) (zcV F n sl) (fX12_faults F   D) := by
    unfold fX12_faults
    refine zO_aload_n dX12_faults_0 rfl (zR_P _) ?_
    refine zO_callV (Y' := YX12_fine) (cw := zcI F n sl) (as := []) (rest := []) (na := 0) (ci := 12) rfl dX12_faults_1 wC_X12_fine wN_X12 wM_X12_189 wI_X12_fine wV_X12_fine (by decide) (by decide) rfl rfl (Nat.le_of_ble_eq_true rfl) rfl (by decide) (gk_91 hG) (fun r hr => zMet_cast (Nat.add_assoc d 0 0) (mX12_fine (d := d + 0) hG  r hr)) ?_
    rintro ⟨r_1, D_2⟩ -
    show zO _ _ _ _ _ _ [zI r_1] (F, D_2, n, sl) _ _
    refine zO_if_eq (tgt := 20) dX12_faults_4 rfl (fun c4 => ?_) (fun c4 => ?_)
    · exact zO_ret (rv := none) dX12_faults_20 rfl trivial rfl
    · refine zO_chk (fun h1 => ?_)
      refine zO_aload_n dX12_faults_7 rfl (zR_P _) ?_
      refine zO_aload_n dX12_faults_8 rfl (zR_P _) ?_
      refine gt12 (k := 13) dX12_faults_9 wF_X12_49 (by decide) (gk_91 hG) (zgv (c := 12) (k := 13) rfl (Or.inl ⟨_, rfl⟩) (gf_91_13 hG)) ?_
      refine zO_aload_n dX12_faults_12 rfl (zR_P _) ?_
      refine gt12 (k := 15) (v := zI (D_2 91 15)) dX12_faults_13 wF_X12_193 (by decide) (gk_91 hG) rfl ?_
      refine zO_iald dX12_faults_16 (gk_101 hG) (gl_in (gl_101 hG) h1) ?_
      refine ptI12 (k := 17) (z := (D_2 101 (D_2 91 15).toNat)) dX12_faults_17 wF_X12_186 (by decide) rfl (gk_91 hG) rfl ?_
      refine zO_letD (fun D_3 eD_3 => ?_)
      exact zO_ret (rv := none) dX12_faults_20 rfl trivial rfl
  exact hz r hr
theorem dX12_takes0_0 : decode cX12_takes0 0 = .ok (.aload_n 0, 1) := by decide +kernel
theorem dX12_takes0_1 : decode cX12_takes0 1 = .ok (.invokevirtual 189, 3) := by decide +kernel
theorem dX12_takes0_4 : decode cX12_takes0 4 = .ok (.ifCond .eq 20, 3) := by decide +kernel
theorem dX12_takes0_7 : decode cX12_takes0 7 = .ok (.aload_n 0, 1) := by decide +kernel
theorem dX12_takes0_8 : decode cX12_takes0 8 = .ok (.getfield 43, 3) := by decide +kernel
theorem dX12_takes0_11 : decode cX12_takes0 11 = .ok (.aload_n 0, 1) := by decide +kernel
theorem dX12_takes0_12 : decode cX12_takes0 12 = .ok (.getfield 193, 3) := by decide +kernel
theorem dX12_takes0_15 : decode cX12_takes0 15 = .ok (.iaload, 1) := by decide +kernel
theorem dX12_takes0_16 : decode cX12_takes0 16 = .ok (.iload_n 1, 1) := by decide +kernel
theorem dX12_takes0_17 : decode cX12_takes0 17 = .ok (.if_icmp .ne 7, 3) := by decide +kernel
theorem dX12_takes0_20 : decode cX12_takes0 20 = .ok (.iconst 1, 1) := by decide +kernel
theorem dX12_takes0_21 : decode cX12_takes0 21 = .ok (.goto 4, 3) := by decide +kernel
theorem dX12_takes0_24 : decode cX12_takes0 24 = .ok (.iconst 0, 1) := by decide +kernel
theorem dX12_takes0_25 : decode cX12_takes0 25 = .ok (.istore_n 2, 1) := by decide +kernel
theorem dX12_takes0_26 : decode cX12_takes0 26 = .ok (.iload_n 2, 1) := by decide +kernel
theorem dX12_takes0_27 : decode cX12_takes0 27 = .ok (.ifCond .eq 13, 3) := by decide +kernel
theorem dX12_takes0_30 : decode cX12_takes0 30 = .ok (.aload_n 0, 1) := by decide +kernel
theorem dX12_takes0_31 : decode cX12_takes0 31 = .ok (.dup, 1) := by decide +kernel
theorem dX12_takes0_32 : decode cX12_takes0 32 = .ok (.getfield 193, 3) := by decide +kernel
theorem dX12_takes0_35 : decode cX12_takes0 35 = .ok (.iconst 1, 1) := by decide +kernel
theorem dX12_takes0_36 : decode cX12_takes0 36 = .ok (.iadd, 1) := by decide +kernel
theorem dX12_takes0_37 : decode cX12_takes0 37 = .ok (.putfield 193, 3) := by decide +kernel
theorem dX12_takes0_40 : decode cX12_takes0 40 = .ok (.iload_n 2, 1) := by decide +kernel
theorem dX12_takes0_41 : decode cX12_takes0 41 = .ok (.ireturn, 1) := by decide +kernel
abbrev YX12_takes0 : zY := (yX12_takes0, cX12_takes0, 3, (Option.some Jvm.ClassFile.FieldType.boolean), [])
def fX12_takes0_25 (F : zFs)  (s0 : Int) (D : zDa) : Option (Int × zDa) :=
  if s0 = 0 then
    if (s0 = 0 ∨ s0 = 1) then
      some (s0, D)
    else none
  else
    if (-2147483648 ≤ (D 91 15) + 1 ∧ (D 91 15) + 1 ≤ 2147483647) then
      zlet (zwr D 91 15 ((D 91 15) + 1)) (fun D_3 =>
        if (s0 = 0 ∨ s0 = 1) then
          some (s0, D_3)
        else none)
    else none
def fX12_takes0_24 (F : zFs)   (D : zDa) : Option (Int × zDa) :=
  fX12_takes0_25 F 0 D
def fX12_takes0 (F : zFs) (v1 : Int) (D : zDa) : Option (Int × zDa) :=
  (fX12_fine F D).bind (fun (r_1, D_2) =>
    if r_1 = 0 then
      fX12_takes0_24 F D_2
    else
      if (0 ≤ (D_2 91 15) ∧ (D_2 91 15) < 401) then
        if (D_2 99 (D_2 91 15).toNat) = v1 then
          fX12_takes0_25 F 1 D_2
        else
          fX12_takes0_24 F D_2
      else none)
set_option maxHeartbeats 20000000 in
theorem sX12_takes0_25 {l : Launch} {E : zE} {d : Nat} {F : zFs} {n sl : Nat} (hG : zG F)  (s0 : Int)   (D : zDa) : zO l E (d + 1) YX12_takes0 25 [(0, zR 91)] [zI s0] (F, D, n, sl) (zcI F n sl) (fX12_takes0_25 F s0 D) := by
  unfold fX12_takes0_25
  refine zO_istore_n dX12_takes0_25 (by decide) ?_
  refine zO_ls (ls' := [(0, zR 91), (2, zI s0)]) rfl ?_
  refine zO_iload_n dX12_takes0_26 rfl ?_
  refine zO_if_eq (tgt := 40) dX12_takes0_27 rfl (fun c27 => ?_) (fun c27 => ?_)
  · refine zO_chk (fun h1 => ?_)
    refine zO_iload_n dX12_takes0_40 rfl ?_
    exact zO_ret (rv := some (zI s0)) dX12_takes0_41 rfl (zretok_z h1) rfl
  · refine zO_chk (fun h2 => ?_)
    refine zO_aload_n dX12_takes0_30 rfl (zR_P _) ?_
    refine zO_dup dX12_takes0_31 (rfl) ?_
    refine gt12 (k := 15) (v := zI (D 91 15)) dX12_takes0_32 wF_X12_193 (by decide) (gk_91 hG) rfl ?_
    refine zO_iconst dX12_takes0_35 (by decide) ?_
    refine zO_iadd dX12_takes0_36 h2 ?_
    refine ptI12 (k := 15) (z := ((D 91 15) + 1)) dX12_takes0_37 wF_X12_193 (by decide) rfl (gk_91 hG) rfl ?_
    refine zO_letD (fun D_3 eD_3 => ?_)
    refine zO_chk (fun h3 => ?_)
    refine zO_iload_n dX12_takes0_40 rfl ?_
    exact zO_ret (rv := some (zI s0)) dX12_takes0_41 rfl (zretok_z h3) rfl
set_option maxHeartbeats 20000000 in
theorem sX12_takes0_24 {l : Launch} {E : zE} {d : Nat} {F : zFs} {n sl : Nat} (hG : zG F)     (D : zDa) : zO l E (d + 1) YX12_takes0 24 [(0, zR 91)] [] (F, D, n, sl) (zcI F n sl) (fX12_takes0_24 F D) := by
  unfold fX12_takes0_24
  refine zO_iconst dX12_takes0_24 (by decide) ?_
  refine zO_live [0] ?_
  exact sX12_takes0_25 hG 0 D
set_option maxHeartbeats 20000000 in
theorem mX12_takes0 {l : Launch} {E : zE} {d : Nat} {F : zFs} {n sl : Nat} (hG : zG F) (v1 : Int) {D : zDa} : ∀ r, fX12_takes0 F  v1 D = some r → zMet l E (d + 1) YX12_takes0 [zR 91, zI v1] (F, D, n, sl) (zcI F n sl r) := by
  intro r hr
  refine zMet_of (plainFor_of_name (by decide)) (fun _ h => (nomatch h)) (Nat.le_of_ble_eq_true rfl) ?_
  have hz : zO l E (d + 1) YX12_takes0 0 [(0, zR 91), (1, zI v1)] [] (F, D, n, sl) (zcI F n sl) (fX12_takes0 F  v1 D) := by
    unfold fX12_takes0
    refine zO_aload_n dX12_takes0_0 rfl (zR_P _) ?_
    refine zO_callV (Y' := YX12_fine) (cw := zcI F n sl) (as := []) (rest := []) (na := 0) (ci := 12) rfl dX12_takes0_1 wC_X12_fine wN_X12 wM_X12_189 wI_X12_fine wV_X12_fine (by decide) (by decide) rfl rfl (Nat.le_of_ble_eq_true rfl) rfl (by decide) (gk_91 hG) (fun r hr => zMet_cast (Nat.add_assoc d 0 0) (mX12_fine (d := d + 0) hG  r hr)) ?_
    rintro ⟨r_1, D_2⟩ -
    show zO _ _ _ _ _ _ [zI r_1] (F, D_2, n, sl) _ _
    refine zO_if_eq (tgt := 24) dX12_takes0_4 rfl (fun c4 => ?_) (fun c4 => ?_)
    · refine zO_live [0] ?_
      exact sX12_takes0_24 hG D_2
    · refine zO_chk (fun h4 => ?_)
      refine zO_aload_n dX12_takes0_7 rfl (zR_P _) ?_
      refine gt12 (k := 11) dX12_takes0_8 wF_X12_43 (by decide) (gk_91 hG) (zgv (c := 12) (k := 11) rfl (Or.inl ⟨_, rfl⟩) (gf_91_11 hG)) ?_
      refine zO_aload_n dX12_takes0_11 rfl (zR_P _) ?_
      refine gt12 (k := 15) (v := zI (D_2 91 15)) dX12_takes0_12 wF_X12_193 (by decide) (gk_91 hG) rfl ?_
      refine zO_iald dX12_takes0_15 (gk_99 hG) (gl_in (gl_99 hG) h4) ?_
      refine zO_iload_n dX12_takes0_16 rfl ?_
      refine zO_icmp_ne (tgt := 24) dX12_takes0_17 rfl (fun c17 => ?_) (fun c17 => ?_)
      · refine zO_iconst dX12_takes0_20 (by decide) ?_
        refine zO_goto (tgt := 25) dX12_takes0_21 rfl ?_
        refine zO_live [0] ?_
        exact sX12_takes0_25 hG 1 D_2
      · refine zO_live [0] ?_
        exact sX12_takes0_24 hG D_2
  exact hz r hr
theorem dX12_must_0 : decode cX12_must 0 = .ok (.aload_n 0, 1) := by decide +kernel
theorem dX12_must_1 : decode cX12_must 1 = .ok (.iload_n 1, 1) := by decide +kernel
theorem dX12_must_2 : decode cX12_must 2 = .ok (.invokevirtual 196, 3) := by decide +kernel
theorem dX12_must_5 : decode cX12_must 5 = .ok (.ifCond .ne 7, 3) := by decide +kernel
theorem dX12_must_8 : decode cX12_must 8 = .ok (.aload_n 0, 1) := by decide +kernel
theorem dX12_must_9 : decode cX12_must 9 = .ok (.invokevirtual 199, 3) := by decide +kernel
theorem dX12_must_12 : decode cX12_must 12 = .ok (.return_, 1) := by decide +kernel
abbrev YX12_must : zY := (yX12_must, cX12_must, 2, none, [])
def fX12_must (F : zFs) (v1 : Int) (D : zDa) : Option zDa :=
  (fX12_takes0 F v1 D).bind (fun (r_1, D_2) =>
    if r_1 = 0 then
      (fX12_faults F D_2).bind (fun D_4 =>
        some D_4)
    else
      some D_2)
set_option maxHeartbeats 20000000 in
theorem mX12_must {l : Launch} {E : zE} {d : Nat} {F : zFs} {n sl : Nat} (hG : zG F) (v1 : Int) {D : zDa} : ∀ r, fX12_must F  v1 D = some r → zMet l E (d + 2) YX12_must [zR 91, zI v1] (F, D, n, sl) (zcV F n sl r) := by
  intro r hr
  refine zMet_of (plainFor_of_name (by decide)) (fun _ h => (nomatch h)) (Nat.le_of_ble_eq_true rfl) ?_
  have hz : zO l E (d + 2) YX12_must 0 [(0, zR 91), (1, zI v1)] [] (F, D, n, sl) (zcV F n sl) (fX12_must F  v1 D) := by
    unfold fX12_must
    refine zO_aload_n dX12_must_0 rfl (zR_P _) ?_
    refine zO_iload_n dX12_must_1 rfl ?_
    refine zO_callV (Y' := YX12_takes0) (cw := zcI F n sl) (as := [zI v1]) (rest := []) (na := 1) (ci := 12) rfl dX12_must_2 wC_X12_takes0 wN_X12 wM_X12_196 wI_X12_takes0 wV_X12_takes0 (by decide) (by decide) rfl rfl (Nat.le_of_ble_eq_true rfl) rfl (by decide) (gk_91 hG) (fun r hr => zMet_cast (Nat.add_assoc d 0 1) (mX12_takes0 (d := d + 0) hG v1 r hr)) ?_
    rintro ⟨r_1, D_2⟩ -
    show zO _ _ _ _ _ _ [zI r_1] (F, D_2, n, sl) _ _
    refine zO_if_ne (tgt := 12) dX12_must_5 rfl (fun c5 => ?_) (fun c5 => ?_)
    · refine zO_aload_n dX12_must_8 rfl (zR_P _) ?_
      refine zO_callV (Y' := YX12_faults) (cw := zcV F n sl) (as := []) (rest := []) (na := 0) (ci := 12) rfl dX12_must_9 wC_X12_faults wN_X12 wM_X12_199 wI_X12_faults wV_X12_faults (by decide) (by decide) rfl rfl (Nat.le_of_ble_eq_true rfl) rfl (by decide) (gk_91 hG) (fun r hr => zMet_cast (Nat.add_assoc d 0 1) (mX12_faults (d := d + 0) hG  r hr)) ?_
      intro D_4 _
      show zO _ _ _ _ _ _ [] (F, D_4, n, sl) _ _
      exact zO_ret (rv := none) dX12_must_12 rfl trivial rfl
    · exact zO_ret (rv := none) dX12_must_12 rfl trivial rfl
  exact hz r hr
theorem dX12_leaf_0 : decode cX12_leaf 0 = .ok (.aload_n 0, 1) := by decide +kernel
theorem dX12_leaf_1 : decode cX12_leaf 1 = .ok (.getfield 202, 3) := by decide +kernel
theorem dX12_leaf_4 : decode cX12_leaf 4 = .ok (.bipush 50, 2) := by decide +kernel
theorem dX12_leaf_6 : decode cX12_leaf 6 = .ok (.if_icmp .ne 7, 3) := by decide +kernel
theorem dX12_leaf_9 : decode cX12_leaf 9 = .ok (.aload_n 0, 1) := by decide +kernel
theorem dX12_leaf_10 : decode cX12_leaf 10 = .ok (.invokevirtual 199, 3) := by decide +kernel
theorem dX12_leaf_13 : decode cX12_leaf 13 = .ok (.aload_n 0, 1) := by decide +kernel
theorem dX12_leaf_14 : decode cX12_leaf 14 = .ok (.dup, 1) := by decide +kernel
theorem dX12_leaf_15 : decode cX12_leaf 15 = .ok (.getfield 202, 3) := by decide +kernel
theorem dX12_leaf_18 : decode cX12_leaf 18 = .ok (.iconst 1, 1) := by decide +kernel
theorem dX12_leaf_19 : decode cX12_leaf 19 = .ok (.iadd, 1) := by decide +kernel
theorem dX12_leaf_20 : decode cX12_leaf 20 = .ok (.putfield 202, 3) := by decide +kernel
theorem dX12_leaf_23 : decode cX12_leaf 23 = .ok (.aload_n 0, 1) := by decide +kernel
theorem dX12_leaf_24 : decode cX12_leaf 24 = .ok (.invokevirtual 189, 3) := by decide +kernel
theorem dX12_leaf_27 : decode cX12_leaf 27 = .ok (.ifCond .eq 13, 3) := by decide +kernel
theorem dX12_leaf_30 : decode cX12_leaf 30 = .ok (.aload_n 0, 1) := by decide +kernel
theorem dX12_leaf_31 : decode cX12_leaf 31 = .ok (.dup, 1) := by decide +kernel
theorem dX12_leaf_32 : decode cX12_leaf 32 = .ok (.getfield 193, 3) := by decide +kernel
theorem dX12_leaf_35 : decode cX12_leaf 35 = .ok (.iconst 1, 1) := by decide +kernel
theorem dX12_leaf_36 : decode cX12_leaf 36 = .ok (.iadd, 1) := by decide +kernel
theorem dX12_leaf_37 : decode cX12_leaf 37 = .ok (.putfield 193, 3) := by decide +kernel
theorem dX12_leaf_40 : decode cX12_leaf 40 = .ok (.return_, 1) := by decide +kernel
abbrev YX12_leaf : zY := (yX12_leaf, cX12_leaf, 1, none, [])
def fX12_leaf_13 (F : zFs)   (D : zDa) : Option zDa :=
  if (-2147483648 ≤ (D 91 16) + 1 ∧ (D 91 16) + 1 ≤ 2147483647) then
    zlet (zwr D 91 16 ((D 91 16) + 1)) (fun D_3 =>
      (fX12_fine F D_3).bind (fun (r_4, D_5) =>
        if r_4 = 0 then
          some D_5
        else
          if (-2147483648 ≤ (D_5 91 15) + 1 ∧ (D_5 91 15) + 1 ≤ 2147483647) then
            zlet (zwr D_5 91 15 ((D_5 91 15) + 1)) (fun D_6 =>
              some D_6)
          else none))
  else none
def fX12_leaf (F : zFs)  (D : zDa) : Option zDa :=
  if (D 91 16) = 50 then
    (fX12_faults F D).bind (fun D_2 =>
      fX12_leaf_13 F D_2)
  else
    fX12_leaf_13 F D
set_option maxHeartbeats 20000000 in
theorem sX12_leaf_13 {l : Launch} {E : zE} {d : Nat} {F : zFs} {n sl : Nat} (hG : zG F)     (D : zDa) : zO l E (d + 2) YX12_leaf 13 [(0, zR 91)] [] (F, D, n, sl) (zcV F n sl) (fX12_leaf_13 F D) := by
  unfold fX12_leaf_13
  refine zO_chk (fun h1 => ?_)
  refine zO_aload_n dX12_leaf_13 rfl (zR_P _) ?_
  refine zO_dup dX12_leaf_14 (rfl) ?_
  refine gt12 (k := 16) (v := zI (D 91 16)) dX12_leaf_15 wF_X12_202 (by decide) (gk_91 hG) rfl ?_
  refine zO_iconst dX12_leaf_18 (by decide) ?_
  refine zO_iadd dX12_leaf_19 h1 ?_
  refine ptI12 (k := 16) (z := ((D 91 16) + 1)) dX12_leaf_20 wF_X12_202 (by decide) rfl (gk_91 hG) rfl ?_
  refine zO_letD (fun D_3 eD_3 => ?_)
  refine zO_aload_n dX12_leaf_23 rfl (zR_P _) ?_
  refine zO_callV (Y' := YX12_fine) (cw := zcI F n sl) (as := []) (rest := []) (na := 0) (ci := 12) rfl dX12_leaf_24 wC_X12_fine wN_X12 wM_X12_189 wI_X12_fine wV_X12_fine (by decide) (by decide) rfl rfl (Nat.le_of_ble_eq_true rfl) rfl (by decide) (gk_91 hG) (fun r hr => zMet_cast (Nat.add_assoc d 1 0) (mX12_fine (d := d + 1) hG  r hr)) ?_
  rintro ⟨r_4, D_5⟩ -
  show zO _ _ _ _ _ _ [zI r_4] (F, D_5, n, sl) _ _
  refine zO_if_eq (tgt := 40) dX12_leaf_27 rfl (fun c27 => ?_) (fun c27 => ?_)
  · exact zO_ret (rv := none) dX12_leaf_40 rfl trivial rfl
  · refine zO_chk (fun h2 => ?_)
    refine zO_aload_n dX12_leaf_30 rfl (zR_P _) ?_
    refine zO_dup dX12_leaf_31 (rfl) ?_
    refine gt12 (k := 15) (v := zI (D_5 91 15)) dX12_leaf_32 wF_X12_193 (by decide) (gk_91 hG) rfl ?_
    refine zO_iconst dX12_leaf_35 (by decide) ?_
    refine zO_iadd dX12_leaf_36 h2 ?_
    refine ptI12 (k := 15) (z := ((D_5 91 15) + 1)) dX12_leaf_37 wF_X12_193 (by decide) rfl (gk_91 hG) rfl ?_
    refine zO_letD (fun D_6 eD_6 => ?_)
    exact zO_ret (rv := none) dX12_leaf_40 rfl trivial rfl
set_option maxHeartbeats 20000000 in
theorem mX12_leaf {l : Launch} {E : zE} {d : Nat} {F : zFs} {n sl : Nat} (hG : zG F)  {D : zDa} : ∀ r, fX12_leaf F   D = some r → zMet l E (d + 2) YX12_leaf [zR 91] (F, D, n, sl) (zcV F n sl r) := by
  intro r hr
  refine zMet_of (plainFor_of_name (by decide)) (fun _ h => (nomatch h)) (Nat.le_of_ble_eq_true rfl) ?_
  have hz : zO l E (d + 2) YX12_leaf 0 [(0, zR 91)] [] (F, D, n, sl) (zcV F n sl) (fX12_leaf F   D) := by
    unfold fX12_leaf
    refine zO_aload_n dX12_leaf_0 rfl (zR_P _) ?_
    refine gt12 (k := 16) (v := zI (D 91 16)) dX12_leaf_1 wF_X12_202 (by decide) (gk_91 hG) rfl ?_
    refine zO_bipush dX12_leaf_4 (by decide) ?_
    refine zO_icmp_ne (tgt := 13) dX12_leaf_6 rfl (fun c6 => ?_) (fun c6 => ?_)
    · refine zO_aload_n dX12_leaf_9 rfl (zR_P _) ?_
      refine zO_callV (Y' := YX12_faults) (cw := zcV F n sl) (as := []) (rest := []) (na := 0) (ci := 12) rfl dX12_leaf_10 wC_X12_faults wN_X12 wM_X12_199 wI_X12_faults wV_X12_faults (by decide) (by decide) rfl rfl (Nat.le_of_ble_eq_true rfl) rfl (by decide) (gk_91 hG) (fun r hr => zMet_cast (Nat.add_assoc d 0 1) (mX12_faults (d := d + 0) hG  r hr)) ?_
      intro D_2 _
      show zO _ _ _ _ _ _ [] (F, D_2, n, sl) _ _
      refine zO_live [0] ?_
      exact sX12_leaf_13 hG D_2
    · refine zO_live [0] ?_
      exact sX12_leaf_13 hG D
  exact hz r hr
theorem dX12_sign_0 : decode cX12_sign 0 = .ok (.bipush 100, 2) := by decide +kernel
theorem dX12_sign_2 : decode cX12_sign 2 = .ok (.iload_n 0, 1) := by decide +kernel
theorem dX12_sign_3 : decode cX12_sign 3 = .ok (.iadd, 1) := by decide +kernel
theorem dX12_sign_4 : decode cX12_sign 4 = .ok (.ireturn, 1) := by decide +kernel
abbrev YX12_sign : zY := (yX12_sign, cX12_sign, 1, (Option.some Jvm.ClassFile.FieldType.int), [])
def fX12_sign (F : zFs) (v0 : Int) (D : zDa) : Option (Int × zDa) :=
  if (-2147483648 ≤ 100 + v0 ∧ 100 + v0 ≤ 2147483647) then
    some ((100 + v0), D)
  else none
set_option maxHeartbeats 20000000 in
theorem mX12_sign {l : Launch} {E : zE} {d : Nat} {F : zFs} {n sl : Nat} (hG : zG F) (v0 : Int) {D : zDa} : ∀ r, fX12_sign F  v0 D = some r → zMet l E (d + 0) YX12_sign [zI v0] (F, D, n, sl) (zcI F n sl r) := by
  intro r hr
  refine zMet_of (plainFor_of_name (by decide)) (fun _ h => (nomatch h)) (Nat.le_of_ble_eq_true rfl) ?_
  have hz : zO l E (d + 0) YX12_sign 0 [(0, zI v0)] [] (F, D, n, sl) (zcI F n sl) (fX12_sign F  v0 D) := by
    unfold fX12_sign
    refine zO_chk (fun h1 => ?_)
    refine zO_bipush dX12_sign_0 (by decide) ?_
    refine zO_iload_n dX12_sign_2 rfl ?_
    refine zO_iadd dX12_sign_3 h1 ?_
    exact zO_ret (rv := some (zI (100 + v0))) dX12_sign_4 rfl rfl rfl
  exact hz r hr
theorem dX12_readSum_0 : decode cX12_readSum 0 = .ok (.aload_n 0, 1) := by decide +kernel
theorem dX12_readSum_1 : decode cX12_readSum 1 = .ok (.iload_n 1, 1) := by decide +kernel
theorem dX12_readSum_2 : decode cX12_readSum 2 = .ok (.invokevirtual 225, 3) := by decide +kernel
theorem dX12_readSum_5 : decode cX12_readSum 5 = .ok (.aload_n 0, 1) := by decide +kernel
theorem dX12_readSum_6 : decode cX12_readSum 6 = .ok (.bipush 43, 2) := by decide +kernel
theorem dX12_readSum_8 : decode cX12_readSum 8 = .ok (.invokestatic 221, 3) := by decide +kernel
theorem dX12_readSum_11 : decode cX12_readSum 11 = .ok (.invokevirtual 196, 3) := by decide +kernel
theorem dX12_readSum_14 : decode cX12_readSum 14 = .ok (.ifCond .ne 15, 3) := by decide +kernel
theorem dX12_readSum_17 : decode cX12_readSum 17 = .ok (.aload_n 0, 1) := by decide +kernel
theorem dX12_readSum_18 : decode cX12_readSum 18 = .ok (.bipush 45, 2) := by decide +kernel
theorem dX12_readSum_20 : decode cX12_readSum 20 = .ok (.invokestatic 221, 3) := by decide +kernel
theorem dX12_readSum_23 : decode cX12_readSum 23 = .ok (.invokevirtual 196, 3) := by decide +kernel
theorem dX12_readSum_26 : decode cX12_readSum 26 = .ok (.ifCond .eq 11, 3) := by decide +kernel
theorem dX12_readSum_29 : decode cX12_readSum 29 = .ok (.aload_n 0, 1) := by decide +kernel
theorem dX12_readSum_30 : decode cX12_readSum 30 = .ok (.iload_n 1, 1) := by decide +kernel
theorem dX12_readSum_31 : decode cX12_readSum 31 = .ok (.invokevirtual 225, 3) := by decide +kernel
theorem dX12_readSum_34 : decode cX12_readSum 34 = .ok (.goto (-29), 3) := by decide +kernel
theorem dX12_readSum_37 : decode cX12_readSum 37 = .ok (.return_, 1) := by decide +kernel
abbrev YX12_readSum : zY := (yX12_readSum, cX12_readSum, 2, none, [])
theorem dX12_readTerm_0 : decode cX12_readTerm 0 = .ok (.aload_n 0, 1) := by decide +kernel
theorem dX12_readTerm_1 : decode cX12_readTerm 1 = .ok (.iload_n 1, 1) := by decide +kernel
theorem dX12_readTerm_2 : decode cX12_readTerm 2 = .ok (.invokevirtual 228, 3) := by decide +kernel
theorem dX12_readTerm_5 : decode cX12_readTerm 5 = .ok (.aload_n 0, 1) := by decide +kernel
theorem dX12_readTerm_6 : decode cX12_readTerm 6 = .ok (.bipush 42, 2) := by decide +kernel
theorem dX12_readTerm_8 : decode cX12_readTerm 8 = .ok (.invokestatic 221, 3) := by decide +kernel
theorem dX12_readTerm_11 : decode cX12_readTerm 11 = .ok (.invokevirtual 196, 3) := by decide +kernel
theorem dX12_readTerm_14 : decode cX12_readTerm 14 = .ok (.ifCond .ne 15, 3) := by decide +kernel
theorem dX12_readTerm_17 : decode cX12_readTerm 17 = .ok (.aload_n 0, 1) := by decide +kernel
theorem dX12_readTerm_18 : decode cX12_readTerm 18 = .ok (.bipush 47, 2) := by decide +kernel
theorem dX12_readTerm_20 : decode cX12_readTerm 20 = .ok (.invokestatic 221, 3) := by decide +kernel
theorem dX12_readTerm_23 : decode cX12_readTerm 23 = .ok (.invokevirtual 196, 3) := by decide +kernel
theorem dX12_readTerm_26 : decode cX12_readTerm 26 = .ok (.ifCond .eq 11, 3) := by decide +kernel
theorem dX12_readTerm_29 : decode cX12_readTerm 29 = .ok (.aload_n 0, 1) := by decide +kernel
theorem dX12_readTerm_30 : decode cX12_readTerm 30 = .ok (.iload_n 1, 1) := by decide +kernel
theorem dX12_readTerm_31 : decode cX12_readTerm 31 = .ok (.invokevirtual 228, 3) := by decide +kernel
theorem dX12_readTerm_34 : decode cX12_readTerm 34 = .ok (.goto (-29), 3) := by decide +kernel
theorem dX12_readTerm_37 : decode cX12_readTerm 37 = .ok (.return_, 1) := by decide +kernel
abbrev YX12_readTerm : zY := (yX12_readTerm, cX12_readTerm, 2, none, [])
theorem dX12_readPart_0 : decode cX12_readPart 0 = .ok (.aload_n 0, 1) := by decide +kernel
theorem dX12_readPart_1 : decode cX12_readPart 1 = .ok (.invokevirtual 189, 3) := by decide +kernel
theorem dX12_readPart_4 : decode cX12_readPart 4 = .ok (.ifCond .ne 4, 3) := by decide +kernel
theorem dX12_readPart_7 : decode cX12_readPart 7 = .ok (.return_, 1) := by decide +kernel
theorem dX12_readPart_8 : decode cX12_readPart 8 = .ok (.aload_n 0, 1) := by decide +kernel
theorem dX12_readPart_9 : decode cX12_readPart 9 = .ok (.getfield 43, 3) := by decide +kernel
theorem dX12_readPart_12 : decode cX12_readPart 12 = .ok (.aload_n 0, 1) := by decide +kernel
theorem dX12_readPart_13 : decode cX12_readPart 13 = .ok (.getfield 193, 3) := by decide +kernel
theorem dX12_readPart_16 : decode cX12_readPart 16 = .ok (.iaload, 1) := by decide +kernel
theorem dX12_readPart_17 : decode cX12_readPart 17 = .ok (.istore_n 2, 1) := by decide +kernel
theorem dX12_readPart_18 : decode cX12_readPart 18 = .ok (.iload_n 2, 1) := by decide +kernel
theorem dX12_readPart_19 : decode cX12_readPart 19 = .ok (.bipush 91, 2) := by decide +kernel
theorem dX12_readPart_21 : decode cX12_readPart 21 = .ok (.invokestatic 221, 3) := by decide +kernel
theorem dX12_readPart_24 : decode cX12_readPart 24 = .ok (.if_icmp .ne 50, 3) := by decide +kernel
theorem dX12_readPart_27 : decode cX12_readPart 27 = .ok (.iload_n 1, 1) := by decide +kernel
theorem dX12_readPart_28 : decode cX12_readPart 28 = .ok (.bipush 8, 2) := by decide +kernel
theorem dX12_readPart_30 : decode cX12_readPart 30 = .ok (.if_icmp .ne 7, 3) := by decide +kernel
theorem dX12_readPart_33 : decode cX12_readPart 33 = .ok (.aload_n 0, 1) := by decide +kernel
theorem dX12_readPart_34 : decode cX12_readPart 34 = .ok (.invokevirtual 199, 3) := by decide +kernel
theorem dX12_readPart_37 : decode cX12_readPart 37 = .ok (.aload_n 0, 1) := by decide +kernel
theorem dX12_readPart_38 : decode cX12_readPart 38 = .ok (.invokevirtual 189, 3) := by decide +kernel
theorem dX12_readPart_41 : decode cX12_readPart 41 = .ok (.ifCond .ne 4, 3) := by decide +kernel
theorem dX12_readPart_44 : decode cX12_readPart 44 = .ok (.return_, 1) := by decide +kernel
theorem dX12_readPart_45 : decode cX12_readPart 45 = .ok (.aload_n 0, 1) := by decide +kernel
theorem dX12_readPart_46 : decode cX12_readPart 46 = .ok (.dup, 1) := by decide +kernel
theorem dX12_readPart_47 : decode cX12_readPart 47 = .ok (.getfield 193, 3) := by decide +kernel
theorem dX12_readPart_50 : decode cX12_readPart 50 = .ok (.iconst 1, 1) := by decide +kernel
theorem dX12_readPart_51 : decode cX12_readPart 51 = .ok (.iadd, 1) := by decide +kernel
theorem dX12_readPart_52 : decode cX12_readPart 52 = .ok (.putfield 193, 3) := by decide +kernel
theorem dX12_readPart_55 : decode cX12_readPart 55 = .ok (.aload_n 0, 1) := by decide +kernel
theorem dX12_readPart_56 : decode cX12_readPart 56 = .ok (.iload_n 1, 1) := by decide +kernel
theorem dX12_readPart_57 : decode cX12_readPart 57 = .ok (.iconst 1, 1) := by decide +kernel
theorem dX12_readPart_58 : decode cX12_readPart 58 = .ok (.iadd, 1) := by decide +kernel
theorem dX12_readPart_59 : decode cX12_readPart 59 = .ok (.invokevirtual 209, 3) := by decide +kernel
theorem dX12_readPart_62 : decode cX12_readPart 62 = .ok (.aload_n 0, 1) := by decide +kernel
theorem dX12_readPart_63 : decode cX12_readPart 63 = .ok (.bipush 93, 2) := by decide +kernel
theorem dX12_readPart_65 : decode cX12_readPart 65 = .ok (.invokestatic 221, 3) := by decide +kernel
theorem dX12_readPart_68 : decode cX12_readPart 68 = .ok (.invokevirtual 205, 3) := by decide +kernel
theorem dX12_readPart_71 : decode cX12_readPart 71 = .ok (.goto 47, 3) := by decide +kernel
theorem dX12_readPart_74 : decode cX12_readPart 74 = .ok (.iload_n 2, 1) := by decide +kernel
theorem dX12_readPart_75 : decode cX12_readPart 75 = .ok (.bipush 50, 2) := by decide +kernel
theorem dX12_readPart_77 : decode cX12_readPart 77 = .ok (.if_icmp .ne 18, 3) := by decide +kernel
theorem dX12_readPart_80 : decode cX12_readPart 80 = .ok (.aload_n 0, 1) := by decide +kernel
theorem dX12_readPart_81 : decode cX12_readPart 81 = .ok (.getfield 46, 3) := by decide +kernel
theorem dX12_readPart_84 : decode cX12_readPart 84 = .ok (.aload_n 0, 1) := by decide +kernel
theorem dX12_readPart_85 : decode cX12_readPart 85 = .ok (.getfield 193, 3) := by decide +kernel
theorem dX12_readPart_88 : decode cX12_readPart 88 = .ok (.iaload, 1) := by decide +kernel
theorem dX12_readPart_89 : decode cX12_readPart 89 = .ok (.sipush 1000, 3) := by decide +kernel
theorem dX12_readPart_92 : decode cX12_readPart 92 = .ok (.if_icmp .le 15, 3) := by decide +kernel
theorem dX12_readPart_95 : decode cX12_readPart 95 = .ok (.iload_n 2, 1) := by decide +kernel
theorem dX12_readPart_96 : decode cX12_readPart 96 = .ok (.bipush 8, 2) := by decide +kernel
theorem dX12_readPart_98 : decode cX12_readPart 98 = .ok (.if_icmp .lt 16, 3) := by decide +kernel
theorem dX12_readPart_101 : decode cX12_readPart 101 = .ok (.iload_n 2, 1) := by decide +kernel
theorem dX12_readPart_102 : decode cX12_readPart 102 = .ok (.bipush 14, 2) := by decide +kernel
theorem dX12_readPart_104 : decode cX12_readPart 104 = .ok (.if_icmp .gt 10, 3) := by decide +kernel
theorem dX12_readPart_107 : decode cX12_readPart 107 = .ok (.aload_n 0, 1) := by decide +kernel
theorem dX12_readPart_108 : decode cX12_readPart 108 = .ok (.invokevirtual 231, 3) := by decide +kernel
theorem dX12_readPart_111 : decode cX12_readPart 111 = .ok (.goto 7, 3) := by decide +kernel
theorem dX12_readPart_114 : decode cX12_readPart 114 = .ok (.aload_n 0, 1) := by decide +kernel
theorem dX12_readPart_115 : decode cX12_readPart 115 = .ok (.invokevirtual 199, 3) := by decide +kernel
theorem dX12_readPart_118 : decode cX12_readPart 118 = .ok (.return_, 1) := by decide +kernel
abbrev YX12_readPart : zY := (yX12_readPart, cX12_readPart, 3, none, [])
def fX12_readSum_29 (F : zFs) (rec : Nat → Int → Int → zDa → Option zDa) (k_5 : zDa → Option zDa) (o1 : Int) (D : zDa) : Option zDa :=
  (rec 1 o1 0 D).bind (fun D_12 =>
    k_5 D_12)
def fX12_readSum_5 (F : zFs) (rec : Nat → Int → Int → zDa → Option zDa) (o1 : Int)  (k_5 : zDa → Option zDa)  (D : zDa) : Option zDa :=
  (fX12_sign F 43 D).bind (fun (r_3, D_4) =>
    (fX12_takes0 F r_3 D_4).bind (fun (r_5, D_6) =>
      if r_5 = 0 then
        (fX12_sign F 45 D_6).bind (fun (r_7, D_8) =>
          (fX12_takes0 F r_7 D_8).bind (fun (r_9, D_10) =>
            if r_9 = 0 then
              some D_10
            else
              fX12_readSum_29 F rec k_5 o1 D_10))
      else
        fX12_readSum_29 F rec k_5 o1 D_6))
def bX12_readSum (F : zFs) (rec : Nat → Int → Int → zDa → Option zDa) (v1 : Int) (D : zDa) : Option zDa :=
  (rec 1 v1 0 D).bind (fun D_2 =>
    zfix (fun _ => none) (fX12_readSum_5 F rec v1) zfu  D_2)
set_option maxHeartbeats 20000000 in
theorem sX12_readSum_29 {l : Launch} {E : zE} {d : Nat} {F : zFs} {n sl : Nat} (hG : zG F) (rec : Nat → Int → Int → zDa → Option zDa) (hr0 : ∀ (a b : Int) (D : zDa) r, rec 0 a b D = some r → zMet l E (d + 3) YX12_readSum [zR 91, zI a] (F, D, n, sl) (zcV F n sl r)) (hr1 : ∀ (a b : Int) (D : zDa) r, rec 1 a b D = some r → zMet l E (d + 3) YX12_readTerm [zR 91, zI a] (F, D, n, sl) (zcV F n sl r)) (hr2 : ∀ (a b : Int) (D : zDa) r, rec 2 a b D = some r → zMet l E (d + 3) YX12_readPart [zR 91, zI a] (F, D, n, sl) (zcV F n sl r))  (o1 : Int) (k_5 : zDa → Option zDa) (hk_5 : ∀  (D : zDa), zO l E (d + 4) YX12_readSum 5 [(0, zR 91), (1, zI o1)] [] (F, D, n, sl) (zcV F n sl) (k_5  D)) (D : zDa) : zO l E (d + 4) YX12_readSum 29 [(0, zR 91), (1, zI o1)] [] (F, D, n, sl) (zcV F n sl) (fX12_readSum_29 F rec k_5 o1 D) := by
  unfold fX12_readSum_29
  refine zO_aload_n dX12_readSum_29 rfl (zR_P _) ?_
  refine zO_iload_n dX12_readSum_30 rfl ?_
  refine zO_callV (Y' := YX12_readTerm) (cw := zcV F n sl) (as := [zI o1]) (rest := []) (na := 1) (ci := 12) rfl dX12_readSum_31 wC_X12_readTerm wN_X12 wM_X12_225 wI_X12_readTerm wV_X12_readTerm (by decide) (by decide) rfl rfl (Nat.le_of_ble_eq_true rfl) rfl (by decide) (gk_91 hG) (fun r hr => hr1 o1 0 _ r hr) ?_
  intro D_12 _
  show zO _ _ _ _ _ _ [] (F, D_12, n, sl) _ _
  refine zO_goto (tgt := 5) dX12_readSum_34 rfl ?_
  refine zO_live [0, 1] ?_
  exact hk_5 D_12
set_option maxHeartbeats 20000000 in
theorem sX12_readSum_5 {l : Launch} {E : zE} {d : Nat} {F : zFs} {n sl : Nat} (hG : zG F) (rec : Nat → Int → Int → zDa → Option zDa) (hr0 : ∀ (a b : Int) (D : zDa) r, rec 0 a b D = some r → zMet l E (d + 3) YX12_readSum [zR 91, zI a] (F, D, n, sl) (zcV F n sl r)) (hr1 : ∀ (a b : Int) (D : zDa) r, rec 1 a b D = some r → zMet l E (d + 3) YX12_readTerm [zR 91, zI a] (F, D, n, sl) (zcV F n sl r)) (hr2 : ∀ (a b : Int) (D : zDa) r, rec 2 a b D = some r → zMet l E (d + 3) YX12_readPart [zR 91, zI a] (F, D, n, sl) (zcV F n sl r))  (o1 : Int)   : ∀ (N : Nat)  (D : zDa), zO l E (d + 4) YX12_readSum 5 [(0, zR 91), (1, zI o1)] [] (F, D, n, sl) (zcV F n sl) (zfix (fun _ => none) (fX12_readSum_5 F rec o1) N  D) := by
  intro N
  induction N with
  | zero => intro D; exact zO_none
  | succ N hk_5 =>
    intro D
    show zO _ _ _ _ _ _ _ _ _ ((fX12_readSum_5 F rec o1) (zfix (fun _ => none) (fX12_readSum_5 F rec o1) N)  D)
    unfold fX12_readSum_5
    refine zO_aload_n dX12_readSum_5 rfl (zR_P _) ?_
    refine zO_bipush dX12_readSum_6 (by decide) ?_
    refine zO_callS (Y' := YX12_sign) (cw := zcI F n sl) (as := [zI 43]) (rest := [zR 91]) (na := 1) dX12_readSum_8 wC_X12_sign wN_X12 wM_X12_221 wS_X12_sign (by decide) (by decide) rfl rfl (Nat.le_of_ble_eq_true rfl) (fun r hr => zMet_cast (Nat.add_assoc d 3 0) (mX12_sign (d := d + 3) hG 43 r hr)) ?_
    rintro ⟨r_3, D_4⟩ -
    show zO _ _ _ _ _ _ [zI r_3, zR 91] (F, D_4, n, sl) _ _
    refine zO_callV (Y' := YX12_takes0) (cw := zcI F n sl) (as := [zI r_3]) (rest := []) (na := 1) (ci := 12) rfl dX12_readSum_11 wC_X12_takes0 wN_X12 wM_X12_196 wI_X12_takes0 wV_X12_takes0 (by decide) (by decide) rfl rfl (Nat.le_of_ble_eq_true rfl) rfl (by decide) (gk_91 hG) (fun r hr => zMet_cast (Nat.add_assoc d 2 1) (mX12_takes0 (d := d + 2) hG r_3 r hr)) ?_
    rintro ⟨r_5, D_6⟩ -
    show zO _ _ _ _ _ _ [zI r_5] (F, D_6, n, sl) _ _
    refine zO_if_ne (tgt := 29) dX12_readSum_14 rfl (fun c14 => ?_) (fun c14 => ?_)
    · refine zO_aload_n dX12_readSum_17 rfl (zR_P _) ?_
      refine zO_bipush dX12_readSum_18 (by decide) ?_
      refine zO_callS (Y' := YX12_sign) (cw := zcI F n sl) (as := [zI 45]) (rest := [zR 91]) (na := 1) dX12_readSum_20 wC_X12_sign wN_X12 wM_X12_221 wS_X12_sign (by decide) (by decide) rfl rfl (Nat.le_of_ble_eq_true rfl) (fun r hr => zMet_cast (Nat.add_assoc d 3 0) (mX12_sign (d := d + 3) hG 45 r hr)) ?_
      rintro ⟨r_7, D_8⟩ -
      show zO _ _ _ _ _ _ [zI r_7, zR 91] (F, D_8, n, sl) _ _
      refine zO_callV (Y' := YX12_takes0) (cw := zcI F n sl) (as := [zI r_7]) (rest := []) (na := 1) (ci := 12) rfl dX12_readSum_23 wC_X12_takes0 wN_X12 wM_X12_196 wI_X12_takes0 wV_X12_takes0 (by decide) (by decide) rfl rfl (Nat.le_of_ble_eq_true rfl) rfl (by decide) (gk_91 hG) (fun r hr => zMet_cast (Nat.add_assoc d 2 1) (mX12_takes0 (d := d + 2) hG r_7 r hr)) ?_
      rintro ⟨r_9, D_10⟩ -
      show zO _ _ _ _ _ _ [zI r_9] (F, D_10, n, sl) _ _
      refine zO_if_eq (tgt := 37) dX12_readSum_26 rfl (fun c26 => ?_) (fun c26 => ?_)
      · exact zO_ret (rv := none) dX12_readSum_37 rfl trivial rfl
      · refine zO_live [0, 1] ?_
        exact sX12_readSum_29 hG rec hr0 hr1 hr2 o1 _ hk_5 D_10
    · refine zO_live [0, 1] ?_
      exact sX12_readSum_29 hG rec hr0 hr1 hr2 o1 _ hk_5 D_6
set_option maxHeartbeats 20000000 in
theorem mbX12_readSum {l : Launch} {E : zE} {d : Nat} {F : zFs} {n sl : Nat} (hG : zG F) (rec : Nat → Int → Int → zDa → Option zDa) (hr0 : ∀ (a b : Int) (D : zDa) r, rec 0 a b D = some r → zMet l E (d + 3) YX12_readSum [zR 91, zI a] (F, D, n, sl) (zcV F n sl r)) (hr1 : ∀ (a b : Int) (D : zDa) r, rec 1 a b D = some r → zMet l E (d + 3) YX12_readTerm [zR 91, zI a] (F, D, n, sl) (zcV F n sl r)) (hr2 : ∀ (a b : Int) (D : zDa) r, rec 2 a b D = some r → zMet l E (d + 3) YX12_readPart [zR 91, zI a] (F, D, n, sl) (zcV F n sl r)) (v1 : Int) {D : zDa} : ∀ r, bX12_readSum F rec v1 D = some r → zMet l E (d + 4) YX12_readSum [zR 91, zI v1] (F, D, n, sl) (zcV F n sl r) := by
  intro r hr
  refine zMet_of (plainFor_of_name (by decide)) (fun _ h => (nomatch h)) (Nat.le_of_ble_eq_true rfl) ?_
  have hz : zO l E (d + 4) YX12_readSum 0 [(0, zR 91), (1, zI v1)] [] (F, D, n, sl) (zcV F n sl) (bX12_readSum F rec v1 D) := by
    unfold bX12_readSum
    refine zO_aload_n dX12_readSum_0 rfl (zR_P _) ?_
    refine zO_iload_n dX12_readSum_1 rfl ?_
    refine zO_callV (Y' := YX12_readTerm) (cw := zcV F n sl) (as := [zI v1]) (rest := []) (na := 1) (ci := 12) rfl dX12_readSum_2 wC_X12_readTerm wN_X12 wM_X12_225 wI_X12_readTerm wV_X12_readTerm (by decide) (by decide) rfl rfl (Nat.le_of_ble_eq_true rfl) rfl (by decide) (gk_91 hG) (fun r hr => hr1 v1 0 _ r hr) ?_
    intro D_2 _
    show zO _ _ _ _ _ _ [] (F, D_2, n, sl) _ _
    refine zO_live [0, 1] ?_
    exact sX12_readSum_5 hG rec hr0 hr1 hr2 v1 zfu D_2
  exact hz r hr
def fX12_readTerm_29 (F : zFs) (rec : Nat → Int → Int → zDa → Option zDa) (k_5 : zDa → Option zDa) (o1 : Int) (D : zDa) : Option zDa :=
  (rec 2 o1 0 D).bind (fun D_12 =>
    k_5 D_12)
def fX12_readTerm_5 (F : zFs) (rec : Nat → Int → Int → zDa → Option zDa) (o1 : Int)  (k_5 : zDa → Option zDa)  (D : zDa) : Option zDa :=
  (fX12_sign F 42 D).bind (fun (r_3, D_4) =>
    (fX12_takes0 F r_3 D_4).bind (fun (r_5, D_6) =>
      if r_5 = 0 then
        (fX12_sign F 47 D_6).bind (fun (r_7, D_8) =>
          (fX12_takes0 F r_7 D_8).bind (fun (r_9, D_10) =>
            if r_9 = 0 then
              some D_10
            else
              fX12_readTerm_29 F rec k_5 o1 D_10))
      else
        fX12_readTerm_29 F rec k_5 o1 D_6))
def bX12_readTerm (F : zFs) (rec : Nat → Int → Int → zDa → Option zDa) (v1 : Int) (D : zDa) : Option zDa :=
  (rec 2 v1 0 D).bind (fun D_2 =>
    zfix (fun _ => none) (fX12_readTerm_5 F rec v1) zfu  D_2)
set_option maxHeartbeats 20000000 in
theorem sX12_readTerm_29 {l : Launch} {E : zE} {d : Nat} {F : zFs} {n sl : Nat} (hG : zG F) (rec : Nat → Int → Int → zDa → Option zDa) (hr0 : ∀ (a b : Int) (D : zDa) r, rec 0 a b D = some r → zMet l E (d + 3) YX12_readSum [zR 91, zI a] (F, D, n, sl) (zcV F n sl r)) (hr1 : ∀ (a b : Int) (D : zDa) r, rec 1 a b D = some r → zMet l E (d + 3) YX12_readTerm [zR 91, zI a] (F, D, n, sl) (zcV F n sl r)) (hr2 : ∀ (a b : Int) (D : zDa) r, rec 2 a b D = some r → zMet l E (d + 3) YX12_readPart [zR 91, zI a] (F, D, n, sl) (zcV F n sl r))  (o1 : Int) (k_5 : zDa → Option zDa) (hk_5 : ∀  (D : zDa), zO l E (d + 4) YX12_readTerm 5 [(0, zR 91), (1, zI o1)] [] (F, D, n, sl) (zcV F n sl) (k_5  D)) (D : zDa) : zO l E (d + 4) YX12_readTerm 29 [(0, zR 91), (1, zI o1)] [] (F, D, n, sl) (zcV F n sl) (fX12_readTerm_29 F rec k_5 o1 D) := by
  unfold fX12_readTerm_29
  refine zO_aload_n dX12_readTerm_29 rfl (zR_P _) ?_
  refine zO_iload_n dX12_readTerm_30 rfl ?_
  refine zO_callV (Y' := YX12_readPart) (cw := zcV F n sl) (as := [zI o1]) (rest := []) (na := 1) (ci := 12) rfl dX12_readTerm_31 wC_X12_readPart wN_X12 wM_X12_228 wI_X12_readPart wV_X12_readPart (by decide) (by decide) rfl rfl (Nat.le_of_ble_eq_true rfl) rfl (by decide) (gk_91 hG) (fun r hr => hr2 o1 0 _ r hr) ?_
  intro D_12 _
  show zO _ _ _ _ _ _ [] (F, D_12, n, sl) _ _
  refine zO_goto (tgt := 5) dX12_readTerm_34 rfl ?_
  refine zO_live [0, 1] ?_
  exact hk_5 D_12
set_option maxHeartbeats 20000000 in
theorem sX12_readTerm_5 {l : Launch} {E : zE} {d : Nat} {F : zFs} {n sl : Nat} (hG : zG F) (rec : Nat → Int → Int → zDa → Option zDa) (hr0 : ∀ (a b : Int) (D : zDa) r, rec 0 a b D = some r → zMet l E (d + 3) YX12_readSum [zR 91, zI a] (F, D, n, sl) (zcV F n sl r)) (hr1 : ∀ (a b : Int) (D : zDa) r, rec 1 a b D = some r → zMet l E (d + 3) YX12_readTerm [zR 91, zI a] (F, D, n, sl) (zcV F n sl r)) (hr2 : ∀ (a b : Int) (D : zDa) r, rec 2 a b D = some r → zMet l E (d + 3) YX12_readPart [zR 91, zI a] (F, D, n, sl) (zcV F n sl r))  (o1 : Int)   : ∀ (N : Nat)  (D : zDa), zO l E (d + 4) YX12_readTerm 5 [(0, zR 91), (1, zI o1)] [] (F, D, n, sl) (zcV F n sl) (zfix (fun _ => none) (fX12_readTerm_5 F rec o1) N  D) := by
  intro N
  induction N with
  | zero => intro D; exact zO_none
  | succ N hk_5 =>
    intro D
    show zO _ _ _ _ _ _ _ _ _ ((fX12_readTerm_5 F rec o1) (zfix (fun _ => none) (fX12_readTerm_5 F rec o1) N)  D)
    unfold fX12_readTerm_5
    refine zO_aload_n dX12_readTerm_5 rfl (zR_P _) ?_
    refine zO_bipush dX12_readTerm_6 (by decide) ?_
    refine zO_callS (Y' := YX12_sign) (cw := zcI F n sl) (as := [zI 42]) (rest := [zR 91]) (na := 1) dX12_readTerm_8 wC_X12_sign wN_X12 wM_X12_221 wS_X12_sign (by decide) (by decide) rfl rfl (Nat.le_of_ble_eq_true rfl) (fun r hr => zMet_cast (Nat.add_assoc d 3 0) (mX12_sign (d := d + 3) hG 42 r hr)) ?_
    rintro ⟨r_3, D_4⟩ -
    show zO _ _ _ _ _ _ [zI r_3, zR 91] (F, D_4, n, sl) _ _
    refine zO_callV (Y' := YX12_takes0) (cw := zcI F n sl) (as := [zI r_3]) (rest := []) (na := 1) (ci := 12) rfl dX12_readTerm_11 wC_X12_takes0 wN_X12 wM_X12_196 wI_X12_takes0 wV_X12_takes0 (by decide) (by decide) rfl rfl (Nat.le_of_ble_eq_true rfl) rfl (by decide) (gk_91 hG) (fun r hr => zMet_cast (Nat.add_assoc d 2 1) (mX12_takes0 (d := d + 2) hG r_3 r hr)) ?_
    rintro ⟨r_5, D_6⟩ -
    show zO _ _ _ _ _ _ [zI r_5] (F, D_6, n, sl) _ _
    refine zO_if_ne (tgt := 29) dX12_readTerm_14 rfl (fun c14 => ?_) (fun c14 => ?_)
    · refine zO_aload_n dX12_readTerm_17 rfl (zR_P _) ?_
      refine zO_bipush dX12_readTerm_18 (by decide) ?_
      refine zO_callS (Y' := YX12_sign) (cw := zcI F n sl) (as := [zI 47]) (rest := [zR 91]) (na := 1) dX12_readTerm_20 wC_X12_sign wN_X12 wM_X12_221 wS_X12_sign (by decide) (by decide) rfl rfl (Nat.le_of_ble_eq_true rfl) (fun r hr => zMet_cast (Nat.add_assoc d 3 0) (mX12_sign (d := d + 3) hG 47 r hr)) ?_
      rintro ⟨r_7, D_8⟩ -
      show zO _ _ _ _ _ _ [zI r_7, zR 91] (F, D_8, n, sl) _ _
      refine zO_callV (Y' := YX12_takes0) (cw := zcI F n sl) (as := [zI r_7]) (rest := []) (na := 1) (ci := 12) rfl dX12_readTerm_23 wC_X12_takes0 wN_X12 wM_X12_196 wI_X12_takes0 wV_X12_takes0 (by decide) (by decide) rfl rfl (Nat.le_of_ble_eq_true rfl) rfl (by decide) (gk_91 hG) (fun r hr => zMet_cast (Nat.add_assoc d 2 1) (mX12_takes0 (d := d + 2) hG r_7 r hr)) ?_
      rintro ⟨r_9, D_10⟩ -
      show zO _ _ _ _ _ _ [zI r_9] (F, D_10, n, sl) _ _
      refine zO_if_eq (tgt := 37) dX12_readTerm_26 rfl (fun c26 => ?_) (fun c26 => ?_)
      · exact zO_ret (rv := none) dX12_readTerm_37 rfl trivial rfl
      · refine zO_live [0, 1] ?_
        exact sX12_readTerm_29 hG rec hr0 hr1 hr2 o1 _ hk_5 D_10
    · refine zO_live [0, 1] ?_
      exact sX12_readTerm_29 hG rec hr0 hr1 hr2 o1 _ hk_5 D_6
set_option maxHeartbeats 20000000 in
theorem mbX12_readTerm {l : Launch} {E : zE} {d : Nat} {F : zFs} {n sl : Nat} (hG : zG F) (rec : Nat → Int → Int → zDa → Option zDa) (hr0 : ∀ (a b : Int) (D : zDa) r, rec 0 a b D = some r → zMet l E (d + 3) YX12_readSum [zR 91, zI a] (F, D, n, sl) (zcV F n sl r)) (hr1 : ∀ (a b : Int) (D : zDa) r, rec 1 a b D = some r → zMet l E (d + 3) YX12_readTerm [zR 91, zI a] (F, D, n, sl) (zcV F n sl r)) (hr2 : ∀ (a b : Int) (D : zDa) r, rec 2 a b D = some r → zMet l E (d + 3) YX12_readPart [zR 91, zI a] (F, D, n, sl) (zcV F n sl r)) (v1 : Int) {D : zDa} : ∀ r, bX12_readTerm F rec v1 D = some r → zMet l E (d + 4) YX12_readTerm [zR 91, zI v1] (F, D, n, sl) (zcV F n sl r) := by
  intro r hr
  refine zMet_of (plainFor_of_name (by decide)) (fun _ h => (nomatch h)) (Nat.le_of_ble_eq_true rfl) ?_
  have hz : zO l E (d + 4) YX12_readTerm 0 [(0, zR 91), (1, zI v1)] [] (F, D, n, sl) (zcV F n sl) (bX12_readTerm F rec v1 D) := by
    unfold bX12_readTerm
    refine zO_aload_n dX12_readTerm_0 rfl (zR_P _) ?_
    refine zO_iload_n dX12_readTerm_1 rfl ?_
    refine zO_callV (Y' := YX12_readPart) (cw := zcV F n sl) (as := [zI v1]) (rest := []) (na := 1) (ci := 12) rfl dX12_readTerm_2 wC_X12_readPart wN_X12 wM_X12_228 wI_X12_readPart wV_X12_readPart (by decide) (by decide) rfl rfl (Nat.le_of_ble_eq_true rfl) rfl (by decide) (gk_91 hG) (fun r hr => hr2 v1 0 _ r hr) ?_
    intro D_2 _
    show zO _ _ _ _ _ _ [] (F, D_2, n, sl) _ _
    refine zO_live [0, 1] ?_
    exact sX12_readTerm_5 hG rec hr0 hr1 hr2 v1 zfu D_2
  exact hz r hr
def fX12_readPart_37 (F : zFs) (rec : Nat → Int → Int → zDa → Option zDa)  (v1 : Int) (D : zDa) : Option zDa :=
  (fX12_fine F D).bind (fun (r_8, D_9) =>
    if r_8 = 0 then
      some D_9
    else
      if (-2147483648 ≤ (D_9 91 15) + 1 ∧ (D_9 91 15) + 1 ≤ 2147483647) then
        zlet (zwr D_9 91 15 ((D_9 91 15) + 1)) (fun D_10 =>
          if (-2147483648 ≤ v1 + 1 ∧ v1 + 1 ≤ 2147483647) then
            (rec 0 (v1 + 1) 0 D_10).bind (fun D_12 =>
              (fX12_sign F 93 D_12).bind (fun (r_13, D_14) =>
                (fX12_must F r_13 D_14).bind (fun D_16 =>
                  some D_16)))
          else none)
      else none)
def fX12_readPart_114 (F : zFs) (rec : Nat → Int → Int → zDa → Option zDa)   (D : zDa) : Option zDa :=
  (fX12_faults F D).bind (fun D_18 =>
    some D_18)
def fX12_readPart_107 (F : zFs) (rec : Nat → Int → Int → zDa → Option zDa)   (D : zDa) : Option zDa :=
  (fX12_leaf F D).bind (fun D_20 =>
    some D_20)
def fX12_readPart_95 (F : zFs) (rec : Nat → Int → Int → zDa → Option zDa)  (v2 : Int) (D : zDa) : Option zDa :=
  if v2 < 8 then
    fX12_readPart_114 F rec D
  else
    if 14 < v2 then
      fX12_readPart_114 F rec D
    else
      fX12_readPart_107 F rec D
def bX12_readPart (F : zFs) (rec : Nat → Int → Int → zDa → Option zDa) (v1 : Int) (D : zDa) : Option zDa :=
  (fX12_fine F D).bind (fun (r_1, D_2) =>
    if r_1 = 0 then
      some D_2
    else
      if (0 ≤ (D_2 91 15) ∧ (D_2 91 15) < 401) then
        zlet ((D_2 99 (D_2 91 15).toNat)) (fun x2_3 =>
          (fX12_sign F 91 D_2).bind (fun (r_4, D_5) =>
            if x2_3 = r_4 then
              if v1 = 8 then
                (fX12_faults F D_5).bind (fun D_7 =>
                  fX12_readPart_37 F rec v1 D_7)
              else
                fX12_readPart_37 F rec v1 D_5
            else
              if x2_3 = 50 then
                if (0 ≤ (D_5 91 15) ∧ (D_5 91 15) < 401) then
                  if 1000 < (D_5 100 (D_5 91 15).toNat) then
                    fX12_readPart_95 F rec x2_3 D_5
                  else
                    fX12_readPart_107 F rec D_5
                else none
              else
                fX12_readPart_95 F rec x2_3 D_5))
      else none)
set_option maxHeartbeats 20000000 in
theorem sX12_readPart_37 {l : Launch} {E : zE} {d : Nat} {F : zFs} {n sl : Nat} (hG : zG F) (rec : Nat → Int → Int → zDa → Option zDa) (hr0 : ∀ (a b : Int) (D : zDa) r, rec 0 a b D = some r → zMet l E (d + 3) YX12_readSum [zR 91, zI a] (F, D, n, sl) (zcV F n sl r)) (hr1 : ∀ (a b : Int) (D : zDa) r, rec 1 a b D = some r → zMet l E (d + 3) YX12_readTerm [zR 91, zI a] (F, D, n, sl) (zcV F n sl r)) (hr2 : ∀ (a b : Int) (D : zDa) r, rec 2 a b D = some r → zMet l E (d + 3) YX12_readPart [zR 91, zI a] (F, D, n, sl) (zcV F n sl r))  (v1 : Int)   (D : zDa) : zO l E (d + 4) YX12_readPart 37 [(0, zR 91), (1, zI v1)] [] (F, D, n, sl) (zcV F n sl) (fX12_readPart_37 F rec v1 D) := by
  unfold fX12_readPart_37
  refine zO_aload_n dX12_readPart_37 rfl (zR_P _) ?_
  refine zO_callV (Y' := YX12_fine) (cw := zcI F n sl) (as := []) (rest := []) (na := 0) (ci := 12) rfl dX12_readPart_38 wC_X12_fine wN_X12 wM_X12_189 wI_X12_fine wV_X12_fine (by decide) (by decide) rfl rfl (Nat.le_of_ble_eq_true rfl) rfl (by decide) (gk_91 hG) (fun r hr => zMet_cast (Nat.add_assoc d 3 0) (mX12_fine (d := d + 3) hG  r hr)) ?_
  rintro ⟨r_8, D_9⟩ -
  show zO _ _ _ _ _ _ [zI r_8] (F, D_9, n, sl) _ _
  refine zO_if_ne (tgt := 45) dX12_readPart_41 rfl (fun c41 => ?_) (fun c41 => ?_)
  · exact zO_ret (rv := none) dX12_readPart_44 rfl trivial rfl
  · refine zO_chk (fun h2 => ?_)
    refine zO_aload_n dX12_readPart_45 rfl (zR_P _) ?_
    refine zO_dup dX12_readPart_46 (rfl) ?_
    refine gt12 (k := 15) (v := zI (D_9 91 15)) dX12_readPart_47 wF_X12_193 (by decide) (gk_91 hG) rfl ?_
    refine zO_iconst dX12_readPart_50 (by decide) ?_
    refine zO_iadd dX12_readPart_51 h2 ?_
    refine ptI12 (k := 15) (z := ((D_9 91 15) + 1)) dX12_readPart_52 wF_X12_193 (by decide) rfl (gk_91 hG) rfl ?_
    refine zO_letD (fun D_10 eD_10 => ?_)
    refine zO_chk (fun h3 => ?_)
    refine zO_aload_n dX12_readPart_55 rfl (zR_P _) ?_
    refine zO_iload_n dX12_readPart_56 rfl ?_
    refine zO_iconst dX12_readPart_57 (by decide) ?_
    refine zO_iadd dX12_readPart_58 h3 ?_
    refine zO_callV (Y' := YX12_readSum) (cw := zcV F n sl) (as := [zI (v1 + 1)]) (rest := []) (na := 1) (ci := 12) rfl dX12_readPart_59 wC_X12_readSum wN_X12 wM_X12_209 wI_X12_readSum wV_X12_readSum (by decide) (by decide) rfl rfl (Nat.le_of_ble_eq_true rfl) rfl (by decide) (gk_91 hG) (fun r hr => hr0 (v1 + 1) 0 _ r hr) ?_
    intro D_12 _
    show zO _ _ _ _ _ _ [] (F, D_12, n, sl) _ _
    refine zO_aload_n dX12_readPart_62 rfl (zR_P _) ?_
    refine zO_bipush dX12_readPart_63 (by decide) ?_
    refine zO_callS (Y' := YX12_sign) (cw := zcI F n sl) (as := [zI 93]) (rest := [zR 91]) (na := 1) dX12_readPart_65 wC_X12_sign wN_X12 wM_X12_221 wS_X12_sign (by decide) (by decide) rfl rfl (Nat.le_of_ble_eq_true rfl) (fun r hr => zMet_cast (Nat.add_assoc d 3 0) (mX12_sign (d := d + 3) hG 93 r hr)) ?_
    rintro ⟨r_13, D_14⟩ -
    show zO _ _ _ _ _ _ [zI r_13, zR 91] (F, D_14, n, sl) _ _
    refine zO_callV (Y' := YX12_must) (cw := zcV F n sl) (as := [zI r_13]) (rest := []) (na := 1) (ci := 12) rfl dX12_readPart_68 wC_X12_must wN_X12 wM_X12_205 wI_X12_must wV_X12_must (by decide) (by decide) rfl rfl (Nat.le_of_ble_eq_true rfl) rfl (by decide) (gk_91 hG) (fun r hr => zMet_cast (Nat.add_assoc d 1 2) (mX12_must (d := d + 1) hG r_13 r hr)) ?_
    intro D_16 _
    show zO _ _ _ _ _ _ [] (F, D_16, n, sl) _ _
    refine zO_goto (tgt := 118) dX12_readPart_71 rfl ?_
    exact zO_ret (rv := none) dX12_readPart_118 rfl trivial rfl
set_option maxHeartbeats 20000000 in
theorem sX12_readPart_114 {l : Launch} {E : zE} {d : Nat} {F : zFs} {n sl : Nat} (hG : zG F) (rec : Nat → Int → Int → zDa → Option zDa) (hr0 : ∀ (a b : Int) (D : zDa) r, rec 0 a b D = some r → zMet l E (d + 3) YX12_readSum [zR 91, zI a] (F, D, n, sl) (zcV F n sl r)) (hr1 : ∀ (a b : Int) (D : zDa) r, rec 1 a b D = some r → zMet l E (d + 3) YX12_readTerm [zR 91, zI a] (F, D, n, sl) (zcV F n sl r)) (hr2 : ∀ (a b : Int) (D : zDa) r, rec 2 a b D = some r → zMet l E (d + 3) YX12_readPart [zR 91, zI a] (F, D, n, sl) (zcV F n sl r))     (D : zDa) : zO l E (d + 4) YX12_readPart 114 [(0, zR 91)] [] (F, D, n, sl) (zcV F n sl) (fX12_readPart_114 F rec D) := by
  unfold fX12_readPart_114
  refine zO_aload_n dX12_readPart_114 rfl (zR_P _) ?_
  refine zO_callV (Y' := YX12_faults) (cw := zcV F n sl) (as := []) (rest := []) (na := 0) (ci := 12) rfl dX12_readPart_115 wC_X12_faults wN_X12 wM_X12_199 wI_X12_faults wV_X12_faults (by decide) (by decide) rfl rfl (Nat.le_of_ble_eq_true rfl) rfl (by decide) (gk_91 hG) (fun r hr => zMet_cast (Nat.add_assoc d 2 1) (mX12_faults (d := d + 2) hG  r hr)) ?_
  intro D_18 _
  show zO _ _ _ _ _ _ [] (F, D_18, n, sl) _ _
  exact zO_ret (rv := none) dX12_readPart_118 rfl trivial rfl
set_option maxHeartbeats 20000000 in
theorem sX12_readPart_107 {l : Launch} {E : zE} {d : Nat} {F : zFs} {n sl : Nat} (hG : zG F) (rec : Nat → Int → Int → zDa → Option zDa) (hr0 : ∀ (a b : Int) (D : zDa) r, rec 0 a b D = some r → zMet l E (d + 3) YX12_readSum [zR 91, zI a] (F, D, n, sl) (zcV F n sl r)) (hr1 : ∀ (a b : Int) (D : zDa) r, rec 1 a b D = some r → zMet l E (d + 3) YX12_readTerm [zR 91, zI a] (F, D, n, sl) (zcV F n sl r)) (hr2 : ∀ (a b : Int) (D : zDa) r, rec 2 a b D = some r → zMet l E (d + 3) YX12_readPart [zR 91, zI a] (F, D, n, sl) (zcV F n sl r))     (D : zDa) : zO l E (d + 4) YX12_readPart 107 [(0, zR 91)] [] (F, D, n, sl) (zcV F n sl) (fX12_readPart_107 F rec D) := by
  unfold fX12_readPart_107
  refine zO_aload_n dX12_readPart_107 rfl (zR_P _) ?_
  refine zO_callV (Y' := YX12_leaf) (cw := zcV F n sl) (as := []) (rest := []) (na := 0) (ci := 12) rfl dX12_readPart_108 wC_X12_leaf wN_X12 wM_X12_231 wI_X12_leaf wV_X12_leaf (by decide) (by decide) rfl rfl (Nat.le_of_ble_eq_true rfl) rfl (by decide) (gk_91 hG) (fun r hr => zMet_cast (Nat.add_assoc d 1 2) (mX12_leaf (d := d + 1) hG  r hr)) ?_
  intro D_20 _
  show zO _ _ _ _ _ _ [] (F, D_20, n, sl) _ _
  refine zO_goto (tgt := 118) dX12_readPart_111 rfl ?_
  exact zO_ret (rv := none) dX12_readPart_118 rfl trivial rfl
set_option maxHeartbeats 20000000 in
theorem sX12_readPart_95 {l : Launch} {E : zE} {d : Nat} {F : zFs} {n sl : Nat} (hG : zG F) (rec : Nat → Int → Int → zDa → Option zDa) (hr0 : ∀ (a b : Int) (D : zDa) r, rec 0 a b D = some r → zMet l E (d + 3) YX12_readSum [zR 91, zI a] (F, D, n, sl) (zcV F n sl r)) (hr1 : ∀ (a b : Int) (D : zDa) r, rec 1 a b D = some r → zMet l E (d + 3) YX12_readTerm [zR 91, zI a] (F, D, n, sl) (zcV F n sl r)) (hr2 : ∀ (a b : Int) (D : zDa) r, rec 2 a b D = some r → zMet l E (d + 3) YX12_readPart [zR 91, zI a] (F, D, n, sl) (zcV F n sl r))  (v2 : Int)   (D : zDa) : zO l E (d + 4) YX12_readPart 95 [(0, zR 91), (2, zI v2)] [] (F, D, n, sl) (zcV F n sl) (fX12_readPart_95 F rec v2 D) := by
  unfold fX12_readPart_95
  refine zO_iload_n dX12_readPart_95 rfl ?_
  refine zO_bipush dX12_readPart_96 (by decide) ?_
  refine zO_icmp_lt (tgt := 114) dX12_readPart_98 rfl (fun c98 => ?_) (fun c98 => ?_)
  · refine zO_live [0] ?_
    exact sX12_readPart_114 hG rec hr0 hr1 hr2 D
  · refine zO_iload_n dX12_readPart_101 rfl ?_
    refine zO_bipush dX12_readPart_102 (by decide) ?_
    refine zO_icmp_gt (tgt := 114) dX12_readPart_104 rfl (fun c104 => ?_) (fun c104 => ?_)
    · refine zO_live [0] ?_
      exact sX12_readPart_114 hG rec hr0 hr1 hr2 D
    · refine zO_live [0] ?_
      exact sX12_readPart_107 hG rec hr0 hr1 hr2 D
set_option maxHeartbeats 20000000 in
theorem mbX12_readPart {l : Launch} {E : zE} {d : Nat} {F : zFs} {n sl : Nat} (hG : zG F) (rec : Nat → Int → Int → zDa → Option zDa) (hr0 : ∀ (a b : Int) (D : zDa) r, rec 0 a b D = some r → zMet l E (d + 3) YX12_readSum [zR 91, zI a] (F, D, n, sl) (zcV F n sl r)) (hr1 : ∀ (a b : Int) (D : zDa) r, rec 1 a b D = some r → zMet l E (d + 3) YX12_readTerm [zR 91, zI a] (F, D, n, sl) (zcV F n sl r)) (hr2 : ∀ (a b : Int) (D : zDa) r, rec 2 a b D = some r → zMet l E (d + 3) YX12_readPart [zR 91, zI a] (F, D, n, sl) (zcV F n sl r)) (v1 : Int) {D : zDa} : ∀ r, bX12_readPart F rec v1 D = some r → zMet l E (d + 4) YX12_readPart [zR 91, zI v1] (F, D, n, sl) (zcV F n sl r) := by
  intro r hr
  refine zMet_of (plainFor_of_name (by decide)) (fun _ h => (nomatch h)) (Nat.le_of_ble_eq_true rfl) ?_
  have hz : zO l E (d + 4) YX12_readPart 0 [(0, zR 91), (1, zI v1)] [] (F, D, n, sl) (zcV F n sl) (bX12_readPart F rec v1 D) := by
    unfold bX12_readPart
    refine zO_aload_n dX12_readPart_0 rfl (zR_P _) ?_
    refine zO_callV (Y' := YX12_fine) (cw := zcI F n sl) (as := []) (rest := []) (na := 0) (ci := 12) rfl dX12_readPart_1 wC_X12_fine wN_X12 wM_X12_189 wI_X12_fine wV_X12_fine (by decide) (by decide) rfl rfl (Nat.le_of_ble_eq_true rfl) rfl (by decide) (gk_91 hG) (fun r hr => zMet_cast (Nat.add_assoc d 3 0) (mX12_fine (d := d + 3) hG  r hr)) ?_
    rintro ⟨r_1, D_2⟩ -
    show zO _ _ _ _ _ _ [zI r_1] (F, D_2, n, sl) _ _
    refine zO_if_ne (tgt := 8) dX12_readPart_4 rfl (fun c4 => ?_) (fun c4 => ?_)
    · exact zO_ret (rv := none) dX12_readPart_7 rfl trivial rfl
    · refine zO_chk (fun h1 => ?_)
      refine zO_aload_n dX12_readPart_8 rfl (zR_P _) ?_
      refine gt12 (k := 11) dX12_readPart_9 wF_X12_43 (by decide) (gk_91 hG) (zgv (c := 12) (k := 11) rfl (Or.inl ⟨_, rfl⟩) (gf_91_11 hG)) ?_
      refine zO_aload_n dX12_readPart_12 rfl (zR_P _) ?_
      refine gt12 (k := 15) (v := zI (D_2 91 15)) dX12_readPart_13 wF_X12_193 (by decide) (gk_91 hG) rfl ?_
      refine zO_iald dX12_readPart_16 (gk_99 hG) (gl_in (gl_99 hG) h1) ?_
      refine zO_letI (fun x2_3 ex2_3 => ?_)
      refine zO_istore_n dX12_readPart_17 (by decide) ?_
      refine zO_ls (ls' := [(0, zR 91), (1, zI v1), (2, zI x2_3)]) rfl ?_
      refine zO_iload_n dX12_readPart_18 rfl ?_
      refine zO_bipush dX12_readPart_19 (by decide) ?_
      refine zO_callS (Y' := YX12_sign) (cw := zcI F n sl) (as := [zI 91]) (rest := [zI x2_3]) (na := 1) dX12_readPart_21 wC_X12_sign wN_X12 wM_X12_221 wS_X12_sign (by decide) (by decide) rfl rfl (Nat.le_of_ble_eq_true rfl) (fun r hr => zMet_cast (Nat.add_assoc d 3 0) (mX12_sign (d := d + 3) hG 91 r hr)) ?_
      rintro ⟨r_4, D_5⟩ -
      show zO _ _ _ _ _ _ [zI r_4, zI x2_3] (F, D_5, n, sl) _ _
      refine zO_icmp_ne (tgt := 74) dX12_readPart_24 rfl (fun c24 => ?_) (fun c24 => ?_)
      · refine zO_iload_n dX12_readPart_27 rfl ?_
        refine zO_bipush dX12_readPart_28 (by decide) ?_
        refine zO_icmp_ne (tgt := 37) dX12_readPart_30 rfl (fun c30 => ?_) (fun c30 => ?_)
        · refine zO_aload_n dX12_readPart_33 rfl (zR_P _) ?_
          refine zO_callV (Y' := YX12_faults) (cw := zcV F n sl) (as := []) (rest := []) (na := 0) (ci := 12) rfl dX12_readPart_34 wC_X12_faults wN_X12 wM_X12_199 wI_X12_faults wV_X12_faults (by decide) (by decide) rfl rfl (Nat.le_of_ble_eq_true rfl) rfl (by decide) (gk_91 hG) (fun r hr => zMet_cast (Nat.add_assoc d 2 1) (mX12_faults (d := d + 2) hG  r hr)) ?_
          intro D_7 _
          show zO _ _ _ _ _ _ [] (F, D_7, n, sl) _ _
          refine zO_live [0, 1] ?_
          exact sX12_readPart_37 hG rec hr0 hr1 hr2 v1 D_7
        · refine zO_live [0, 1] ?_
          exact sX12_readPart_37 hG rec hr0 hr1 hr2 v1 D_5
      · refine zO_iload_n dX12_readPart_74 rfl ?_
        refine zO_bipush dX12_readPart_75 (by decide) ?_
        refine zO_icmp_ne (tgt := 95) dX12_readPart_77 rfl (fun c77 => ?_) (fun c77 => ?_)
        · refine zO_chk (fun h4 => ?_)
          refine zO_aload_n dX12_readPart_80 rfl (zR_P _) ?_
          refine gt12 (k := 12) dX12_readPart_81 wF_X12_46 (by decide) (gk_91 hG) (zgv (c := 12) (k := 12) rfl (Or.inl ⟨_, rfl⟩) (gf_91_12 hG)) ?_
          refine zO_aload_n dX12_readPart_84 rfl (zR_P _) ?_
          refine gt12 (k := 15) (v := zI (D_5 91 15)) dX12_readPart_85 wF_X12_193 (by decide) (gk_91 hG) rfl ?_
          refine zO_iald dX12_readPart_88 (gk_100 hG) (gl_in (gl_100 hG) h4) ?_
          refine zO_sipush dX12_readPart_89 (by decide) ?_
          refine zO_icmp_le (tgt := 107) dX12_readPart_92 rfl (fun c92 => ?_) (fun c92 => ?_)
          · refine zO_live [0, 2] ?_
            exact sX12_readPart_95 hG rec hr0 hr1 hr2 x2_3 D_5
          · refine zO_live [0] ?_
            exact sX12_readPart_107 hG rec hr0 hr1 hr2 D_5
        · refine zO_live [0, 2] ?_
          exact sX12_readPart_95 hG rec hr0 hr1 hr2 x2_3 D_5
  exact hz r hr
def R2 (F : zFs) (N : Nat) : Nat → Int → Int → zDa → Option zDa := zfix (fun _ _ _ _ => none) (fun rec t a b D => if t = 0 then bX12_readSum F rec a D else if t = 1 then bX12_readTerm F rec a D else bX12_readPart F rec a D) N
theorem R2_succ (F : zFs) (N t : Nat) (a b : Int) (D : zDa) : R2 F (N + 1) t a b D = (if t = 0 then bX12_readSum F (R2 F N) a D else if t = 1 then bX12_readTerm F (R2 F N) a D else bX12_readPart F (R2 F N) a D) := rfl
theorem mG2 {l : Launch} {E : zE} {F : zFs} {n sl : Nat} (hG : zG F) : ∀ (N d : Nat), (∀ (a b : Int) (D : zDa) r, R2 F N 0 a b D = some r → zMet l E (d + N + 3) YX12_readSum [zR 91, zI a] (F, D, n, sl) (zcV F n sl r)) ∧ (∀ (a b : Int) (D : zDa) r, R2 F N 1 a b D = some r → zMet l E (d + N + 3) YX12_readTerm [zR 91, zI a] (F, D, n, sl) (zcV F n sl r)) ∧ (∀ (a b : Int) (D : zDa) r, R2 F N 2 a b D = some r → zMet l E (d + N + 3) YX12_readPart [zR 91, zI a] (F, D, n, sl) (zcV F n sl r)) := by
  intro N
  induction N with
  | zero => intro d; refine ⟨(fun a b D r h => nomatch (show (none : Option _) = some r from h)), (fun a b D r h => nomatch (show (none : Option _) = some r from h)), (fun a b D r h => nomatch (show (none : Option _) = some r from h))⟩
  | succ N ih =>
    intro d
    have ih := ih d
    exact ⟨(fun a b D r h => zMet_cast (show d + N + 4 = d + (N + 1) + 3 by omega) (mbX12_readSum (d := d + N) hG (R2 F N) (fun a b D r h => ih.1 a b D r h) (fun a b D r h => ih.2.1 a b D r h) (fun a b D r h => ih.2.2 a b D r h) a r (by rw [R2_succ] at h; rw [if_pos rfl] at h; exact h))), (fun a b D r h => zMet_cast (show d + N + 4 = d + (N + 1) + 3 by omega) (mbX12_readTerm (d := d + N) hG (R2 F N) (fun a b D r h => ih.1 a b D r h) (fun a b D r h => ih.2.1 a b D r h) (fun a b D r h => ih.2.2 a b D r h) a r (by rw [R2_succ] at h; rw [if_neg (by decide), if_pos rfl] at h; exact h))), (fun a b D r h => zMet_cast (show d + N + 4 = d + (N + 1) + 3 by omega) (mbX12_readPart (d := d + N) hG (R2 F N) (fun a b D r h => ih.1 a b D r h) (fun a b D r h => ih.2.1 a b D r h) (fun a b D r h => ih.2.2 a b D r h) a r (by rw [R2_succ] at h; rw [if_neg (by decide), if_neg (by decide)] at h; exact h)))⟩
def fX12_readSum (F : zFs) (v1 : Int) (D : zDa) : Option zDa := R2 F 40 0 v1 0 D
theorem mX12_readSum {l : Launch} {E : zE} {d : Nat} {F : zFs} {n sl : Nat} (hG : zG F) (v1 : Int) {D : zDa} : ∀ r, fX12_readSum F v1 D = some r → zMet l E (d + 44) YX12_readSum [zR 91, zI v1] (F, D, n, sl) (zcV F n sl r) := fun r h => zMet_cast (show d + 1 + 40 + 3 = d + 44 by omega) ((mG2 hG 40 (d + 1)).1 v1 0 D r h)
def fX12_readTerm (F : zFs) (v1 : Int) (D : zDa) : Option zDa := R2 F 40 1 v1 0 D
theorem mX12_readTerm {l : Launch} {E : zE} {d : Nat} {F : zFs} {n sl : Nat} (hG : zG F) (v1 : Int) {D : zDa} : ∀ r, fX12_readTerm F v1 D = some r → zMet l E (d + 44) YX12_readTerm [zR 91, zI v1] (F, D, n, sl) (zcV F n sl r) := fun r h => zMet_cast (show d + 1 + 40 + 3 = d + 44 by omega) ((mG2 hG 40 (d + 1)).2.1 v1 0 D r h)
def fX12_readPart (F : zFs) (v1 : Int) (D : zDa) : Option zDa := R2 F 40 2 v1 0 D
theorem mX12_readPart {l : Launch} {E : zE} {d : Nat} {F : zFs} {n sl : Nat} (hG : zG F) (v1 : Int) {D : zDa} : ∀ r, fX12_readPart F v1 D = some r → zMet l E (d + 44) YX12_readPart [zR 91, zI v1] (F, D, n, sl) (zcV F n sl r) := fun r h => zMet_cast (show d + 1 + 40 + 3 = d + 44 by omega) ((mG2 hG 40 (d + 1)).2.2 v1 0 D r h)
theorem dX12_readTest_0 : decode cX12_readTest 0 = .ok (.aload_n 0, 1) := by decide +kernel
theorem dX12_readTest_1 : decode cX12_readTest 1 = .ok (.iload_n 1, 1) := by decide +kernel
theorem dX12_readTest_2 : decode cX12_readTest 2 = .ok (.invokevirtual 215, 3) := by decide +kernel
theorem dX12_readTest_5 : decode cX12_readTest 5 = .ok (.aload_n 0, 1) := by decide +kernel
theorem dX12_readTest_6 : decode cX12_readTest 6 = .ok (.iconst 5, 1) := by decide +kernel
theorem dX12_readTest_7 : decode cX12_readTest 7 = .ok (.invokevirtual 196, 3) := by decide +kernel
theorem dX12_readTest_10 : decode cX12_readTest 10 = .ok (.ifCond .eq 11, 3) := by decide +kernel
theorem dX12_readTest_13 : decode cX12_readTest 13 = .ok (.aload_n 0, 1) := by decide +kernel
theorem dX12_readTest_14 : decode cX12_readTest 14 = .ok (.iload_n 1, 1) := by decide +kernel
theorem dX12_readTest_15 : decode cX12_readTest 15 = .ok (.invokevirtual 215, 3) := by decide +kernel
theorem dX12_readTest_18 : decode cX12_readTest 18 = .ok (.goto (-13), 3) := by decide +kernel
theorem dX12_readTest_21 : decode cX12_readTest 21 = .ok (.return_, 1) := by decide +kernel
abbrev YX12_readTest : zY := (yX12_readTest, cX12_readTest, 2, none, [])
theorem dX12_readBoth_0 : decode cX12_readBoth 0 = .ok (.aload_n 0, 1) := by decide +kernel
theorem dX12_readBoth_1 : decode cX12_readBoth 1 = .ok (.iload_n 1, 1) := by decide +kernel
theorem dX12_readBoth_2 : decode cX12_readBoth 2 = .ok (.invokevirtual 218, 3) := by decide +kernel
theorem dX12_readBoth_5 : decode cX12_readBoth 5 = .ok (.aload_n 0, 1) := by decide +kernel
theorem dX12_readBoth_6 : decode cX12_readBoth 6 = .ok (.bipush 6, 2) := by decide +kernel
theorem dX12_readBoth_8 : decode cX12_readBoth 8 = .ok (.invokevirtual 196, 3) := by decide +kernel
theorem dX12_readBoth_11 : decode cX12_readBoth 11 = .ok (.ifCond .eq 11, 3) := by decide +kernel
theorem dX12_readBoth_14 : decode cX12_readBoth 14 = .ok (.aload_n 0, 1) := by decide +kernel
theorem dX12_readBoth_15 : decode cX12_readBoth 15 = .ok (.iload_n 1, 1) := by decide +kernel
theorem dX12_readBoth_16 : decode cX12_readBoth 16 = .ok (.invokevirtual 218, 3) := by decide +kernel
theorem dX12_readBoth_19 : decode cX12_readBoth 19 = .ok (.goto (-14), 3) := by decide +kernel
theorem dX12_readBoth_22 : decode cX12_readBoth 22 = .ok (.return_, 1) := by decide +kernel
abbrev YX12_readBoth : zY := (yX12_readBoth, cX12_readBoth, 2, none, [])
theorem dX12_readPlain_0 : decode cX12_readPlain 0 = .ok (.iconst 1, 1) := by decide +kernel
theorem dX12_readPlain_1 : decode cX12_readPlain 1 = .ok (.istore_n 2, 1) := by decide +kernel
theorem dX12_readPlain_2 : decode cX12_readPlain 2 = .ok (.iload_n 2, 1) := by decide +kernel
theorem dX12_readPlain_3 : decode cX12_readPlain 3 = .ok (.ifCond .eq 13, 3) := by decide +kernel
theorem dX12_readPlain_6 : decode cX12_readPlain 6 = .ok (.aload_n 0, 1) := by decide +kernel
theorem dX12_readPlain_7 : decode cX12_readPlain 7 = .ok (.bipush 7, 2) := by decide +kernel
theorem dX12_readPlain_9 : decode cX12_readPlain 9 = .ok (.invokevirtual 196, 3) := by decide +kernel
theorem dX12_readPlain_12 : decode cX12_readPlain 12 = .ok (.istore_n 2, 1) := by decide +kernel
theorem dX12_readPlain_13 : decode cX12_readPlain 13 = .ok (.goto (-11), 3) := by decide +kernel
theorem dX12_readPlain_16 : decode cX12_readPlain 16 = .ok (.aload_n 0, 1) := by decide +kernel
theorem dX12_readPlain_17 : decode cX12_readPlain 17 = .ok (.invokevirtual 189, 3) := by decide +kernel
theorem dX12_readPlain_20 : decode cX12_readPlain 20 = .ok (.ifCond .ne 4, 3) := by decide +kernel
theorem dX12_readPlain_23 : decode cX12_readPlain 23 = .ok (.return_, 1) := by decide +kernel
theorem dX12_readPlain_24 : decode cX12_readPlain 24 = .ok (.aload_n 0, 1) := by decide +kernel
theorem dX12_readPlain_25 : decode cX12_readPlain 25 = .ok (.getfield 43, 3) := by decide +kernel
theorem dX12_readPlain_28 : decode cX12_readPlain 28 = .ok (.aload_n 0, 1) := by decide +kernel
theorem dX12_readPlain_29 : decode cX12_readPlain 29 = .ok (.getfield 193, 3) := by decide +kernel
theorem dX12_readPlain_32 : decode cX12_readPlain 32 = .ok (.iaload, 1) := by decide +kernel
theorem dX12_readPlain_33 : decode cX12_readPlain 33 = .ok (.istore_n 3, 1) := by decide +kernel
theorem dX12_readPlain_34 : decode cX12_readPlain 34 = .ok (.iload_n 3, 1) := by decide +kernel
theorem dX12_readPlain_35 : decode cX12_readPlain 35 = .ok (.bipush 40, 2) := by decide +kernel
theorem dX12_readPlain_37 : decode cX12_readPlain 37 = .ok (.invokestatic 221, 3) := by decide +kernel
theorem dX12_readPlain_40 : decode cX12_readPlain 40 = .ok (.if_icmp .ne 50, 3) := by decide +kernel
theorem dX12_readPlain_43 : decode cX12_readPlain 43 = .ok (.iload_n 1, 1) := by decide +kernel
theorem dX12_readPlain_44 : decode cX12_readPlain 44 = .ok (.bipush 8, 2) := by decide +kernel
theorem dX12_readPlain_46 : decode cX12_readPlain 46 = .ok (.if_icmp .ne 7, 3) := by decide +kernel
theorem dX12_readPlain_49 : decode cX12_readPlain 49 = .ok (.aload_n 0, 1) := by decide +kernel
theorem dX12_readPlain_50 : decode cX12_readPlain 50 = .ok (.invokevirtual 199, 3) := by decide +kernel
theorem dX12_readPlain_53 : decode cX12_readPlain 53 = .ok (.aload_n 0, 1) := by decide +kernel
theorem dX12_readPlain_54 : decode cX12_readPlain 54 = .ok (.invokevirtual 189, 3) := by decide +kernel
theorem dX12_readPlain_57 : decode cX12_readPlain 57 = .ok (.ifCond .ne 4, 3) := by decide +kernel
theorem dX12_readPlain_60 : decode cX12_readPlain 60 = .ok (.return_, 1) := by decide +kernel
theorem dX12_readPlain_61 : decode cX12_readPlain 61 = .ok (.aload_n 0, 1) := by decide +kernel
theorem dX12_readPlain_62 : decode cX12_readPlain 62 = .ok (.dup, 1) := by decide +kernel
theorem dX12_readPlain_63 : decode cX12_readPlain 63 = .ok (.getfield 193, 3) := by decide +kernel
theorem dX12_readPlain_66 : decode cX12_readPlain 66 = .ok (.iconst 1, 1) := by decide +kernel
theorem dX12_readPlain_67 : decode cX12_readPlain 67 = .ok (.iadd, 1) := by decide +kernel
theorem dX12_readPlain_68 : decode cX12_readPlain 68 = .ok (.putfield 193, 3) := by decide +kernel
theorem dX12_readPlain_71 : decode cX12_readPlain 71 = .ok (.aload_n 0, 1) := by decide +kernel
theorem dX12_readPlain_72 : decode cX12_readPlain 72 = .ok (.iload_n 1, 1) := by decide +kernel
theorem dX12_readPlain_73 : decode cX12_readPlain 73 = .ok (.iconst 1, 1) := by decide +kernel
theorem dX12_readPlain_74 : decode cX12_readPlain 74 = .ok (.iadd, 1) := by decide +kernel
theorem dX12_readPlain_75 : decode cX12_readPlain 75 = .ok (.invokevirtual 212, 3) := by decide +kernel
theorem dX12_readPlain_78 : decode cX12_readPlain 78 = .ok (.aload_n 0, 1) := by decide +kernel
theorem dX12_readPlain_79 : decode cX12_readPlain 79 = .ok (.bipush 41, 2) := by decide +kernel
theorem dX12_readPlain_81 : decode cX12_readPlain 81 = .ok (.invokestatic 221, 3) := by decide +kernel
theorem dX12_readPlain_84 : decode cX12_readPlain 84 = .ok (.invokevirtual 205, 3) := by decide +kernel
theorem dX12_readPlain_87 : decode cX12_readPlain 87 = .ok (.goto 46, 3) := by decide +kernel
theorem dX12_readPlain_90 : decode cX12_readPlain 90 = .ok (.aload_n 0, 1) := by decide +kernel
theorem dX12_readPlain_91 : decode cX12_readPlain 91 = .ok (.iload_n 1, 1) := by decide +kernel
theorem dX12_readPlain_92 : decode cX12_readPlain 92 = .ok (.invokevirtual 209, 3) := by decide +kernel
theorem dX12_readPlain_95 : decode cX12_readPlain 95 = .ok (.aload_n 0, 1) := by decide +kernel
theorem dX12_readPlain_96 : decode cX12_readPlain 96 = .ok (.bipush 60, 2) := by decide +kernel
theorem dX12_readPlain_98 : decode cX12_readPlain 98 = .ok (.invokestatic 221, 3) := by decide +kernel
theorem dX12_readPlain_101 : decode cX12_readPlain 101 = .ok (.invokevirtual 196, 3) := by decide +kernel
theorem dX12_readPlain_104 : decode cX12_readPlain 104 = .ok (.ifCond .ne 24, 3) := by decide +kernel
theorem dX12_readPlain_107 : decode cX12_readPlain 107 = .ok (.aload_n 0, 1) := by decide +kernel
theorem dX12_readPlain_108 : decode cX12_readPlain 108 = .ok (.bipush 62, 2) := by decide +kernel
theorem dX12_readPlain_110 : decode cX12_readPlain 110 = .ok (.invokestatic 221, 3) := by decide +kernel
theorem dX12_readPlain_113 : decode cX12_readPlain 113 = .ok (.invokevirtual 196, 3) := by decide +kernel
theorem dX12_readPlain_116 : decode cX12_readPlain 116 = .ok (.ifCond .ne 12, 3) := by decide +kernel
theorem dX12_readPlain_119 : decode cX12_readPlain 119 = .ok (.aload_n 0, 1) := by decide +kernel
theorem dX12_readPlain_120 : decode cX12_readPlain 120 = .ok (.bipush 61, 2) := by decide +kernel
theorem dX12_readPlain_122 : decode cX12_readPlain 122 = .ok (.invokestatic 221, 3) := by decide +kernel
theorem dX12_readPlain_125 : decode cX12_readPlain 125 = .ok (.invokevirtual 205, 3) := by decide +kernel
theorem dX12_readPlain_128 : decode cX12_readPlain 128 = .ok (.aload_n 0, 1) := by decide +kernel
theorem dX12_readPlain_129 : decode cX12_readPlain 129 = .ok (.iload_n 1, 1) := by decide +kernel
theorem dX12_readPlain_130 : decode cX12_readPlain 130 = .ok (.invokevirtual 209, 3) := by decide +kernel
theorem dX12_readPlain_133 : decode cX12_readPlain 133 = .ok (.return_, 1) := by decide +kernel
abbrev YX12_readPlain : zY := (yX12_readPlain, cX12_readPlain, 4, none, [])
def fX12_readTest_5 (F : zFs) (rec : Nat → Int → Int → zDa → Option zDa) (o1 : Int)  (k_5 : zDa → Option zDa)  (D : zDa) : Option zDa :=
  (fX12_takes0 F 5 D).bind (fun (r_3, D_4) =>
    if r_3 = 0 then
      some D_4
    else
      (rec 1 o1 0 D_4).bind (fun D_6 =>
        k_5 D_6))
def bX12_readTest (F : zFs) (rec : Nat → Int → Int → zDa → Option zDa) (v1 : Int) (D : zDa) : Option zDa :=
  (rec 1 v1 0 D).bind (fun D_2 =>
    zfix (fun _ => none) (fX12_readTest_5 F rec v1) zfu  D_2)
set_option maxHeartbeats 20000000 in
theorem sX12_readTest_5 {l : Launch} {E : zE} {d : Nat} {F : zFs} {n sl : Nat} (hG : zG F) (rec : Nat → Int → Int → zDa → Option zDa) (hr0 : ∀ (a b : Int) (D : zDa) r, rec 0 a b D = some r → zMet l E (d + 45) YX12_readTest [zR 91, zI a] (F, D, n, sl) (zcV F n sl r)) (hr1 : ∀ (a b : Int) (D : zDa) r, rec 1 a b D = some r → zMet l E (d + 45) YX12_readBoth [zR 91, zI a] (F, D, n, sl) (zcV F n sl r)) (hr2 : ∀ (a b : Int) (D : zDa) r, rec 2 a b D = some r → zMet l E (d + 45) YX12_readPlain [zR 91, zI a] (F, D, n, sl) (zcV F n sl r))  (o1 : Int)   : ∀ (N : Nat)  (D : zDa), zO l E (d + 46) YX12_readTest 5 [(0, zR 91), (1, zI o1)] [] (F, D, n, sl) (zcV F n sl) (zfix (fun _ => none) (fX12_readTest_5 F rec o1) N  D) := by
  intro N
  induction N with
  | zero => intro D; exact zO_none
  | succ N hk_5 =>
    intro D
    show zO _ _ _ _ _ _ _ _ _ ((fX12_readTest_5 F rec o1) (zfix (fun _ => none) (fX12_readTest_5 F rec o1) N)  D)
    unfold fX12_readTest_5
    refine zO_aload_n dX12_readTest_5 rfl (zR_P _) ?_
    refine zO_iconst dX12_readTest_6 (by decide) ?_
    refine zO_callV (Y' := YX12_takes0) (cw := zcI F n sl) (as := [zI 5]) (rest := []) (na := 1) (ci := 12) rfl dX12_readTest_7 wC_X12_takes0 wN_X12 wM_X12_196 wI_X12_takes0 wV_X12_takes0 (by decide) (by decide) rfl rfl (Nat.le_of_ble_eq_true rfl) rfl (by decide) (gk_91 hG) (fun r hr => zMet_cast (Nat.add_assoc d 44 1) (mX12_takes0 (d := d + 44) hG 5 r hr)) ?_
    rintro ⟨r_3, D_4⟩ -
    show zO _ _ _ _ _ _ [zI r_3] (F, D_4, n, sl) _ _
    refine zO_if_eq (tgt := 21) dX12_readTest_10 rfl (fun c10 => ?_) (fun c10 => ?_)
    · exact zO_ret (rv := none) dX12_readTest_21 rfl trivial rfl
    · refine zO_aload_n dX12_readTest_13 rfl (zR_P _) ?_
      refine zO_iload_n dX12_readTest_14 rfl ?_
      refine zO_callV (Y' := YX12_readBoth) (cw := zcV F n sl) (as := [zI o1]) (rest := []) (na := 1) (ci := 12) rfl dX12_readTest_15 wC_X12_readBoth wN_X12 wM_X12_215 wI_X12_readBoth wV_X12_readBoth (by decide) (by decide) rfl rfl (Nat.le_of_ble_eq_true rfl) rfl (by decide) (gk_91 hG) (fun r hr => hr1 o1 0 _ r hr) ?_
      intro D_6 _
      show zO _ _ _ _ _ _ [] (F, D_6, n, sl) _ _
      refine zO_goto (tgt := 5) dX12_readTest_18 rfl ?_
      refine zO_live [0, 1] ?_
      exact hk_5 D_6
set_option maxHeartbeats 20000000 in
theorem mbX12_readTest {l : Launch} {E : zE} {d : Nat} {F : zFs} {n sl : Nat} (hG : zG F) (rec : Nat → Int → Int → zDa → Option zDa) (hr0 : ∀ (a b : Int) (D : zDa) r, rec 0 a b D = some r → zMet l E (d + 45) YX12_readTest [zR 91, zI a] (F, D, n, sl) (zcV F n sl r)) (hr1 : ∀ (a b : Int) (D : zDa) r, rec 1 a b D = some r → zMet l E (d + 45) YX12_readBoth [zR 91, zI a] (F, D, n, sl) (zcV F n sl r)) (hr2 : ∀ (a b : Int) (D : zDa) r, rec 2 a b D = some r → zMet l E (d + 45) YX12_readPlain [zR 91, zI a] (F, D, n, sl) (zcV F n sl r)) (v1 : Int) {D : zDa} : ∀ r, bX12_readTest F rec v1 D = some r → zMet l E (d + 46) YX12_readTest [zR 91, zI v1] (F, D, n, sl) (zcV F n sl r) := by
  intro r hr
  refine zMet_of (plainFor_of_name (by decide)) (fun _ h => (nomatch h)) (Nat.le_of_ble_eq_true rfl) ?_
  have hz : zO l E (d + 46) YX12_readTest 0 [(0, zR 91), (1, zI v1)] [] (F, D, n, sl) (zcV F n sl) (bX12_readTest F rec v1 D) := by
    unfold bX12_readTest
    refine zO_aload_n dX12_readTest_0 rfl (zR_P _) ?_
    refine zO_iload_n dX12_readTest_1 rfl ?_
    refine zO_callV (Y' := YX12_readBoth) (cw := zcV F n sl) (as := [zI v1]) (rest := []) (na := 1) (ci := 12) rfl dX12_readTest_2 wC_X12_readBoth wN_X12 wM_X12_215 wI_X12_readBoth wV_X12_readBoth (by decide) (by decide) rfl rfl (Nat.le_of_ble_eq_true rfl) rfl (by decide) (gk_91 hG) (fun r hr => hr1 v1 0 _ r hr) ?_
    intro D_2 _
    show zO _ _ _ _ _ _ [] (F, D_2, n, sl) _ _
    refine zO_live [0, 1] ?_
    exact sX12_readTest_5 hG rec hr0 hr1 hr2 v1 zfu D_2
  exact hz r hr
def fX12_readBoth_5 (F : zFs) (rec : Nat → Int → Int → zDa → Option zDa) (o1 : Int)  (k_5 : zDa → Option zDa)  (D : zDa) : Option zDa :=
  (fX12_takes0 F 6 D).bind (fun (r_3, D_4) =>
    if r_3 = 0 then
      some D_4
    else
      (rec 2 o1 0 D_4).bind (fun D_6 =>
        k_5 D_6))
def bX12_readBoth (F : zFs) (rec : Nat → Int → Int → zDa → Option zDa) (v1 : Int) (D : zDa) : Option zDa :=
  (rec 2 v1 0 D).bind (fun D_2 =>
    zfix (fun _ => none) (fX12_readBoth_5 F rec v1) zfu  D_2)
set_option maxHeartbeats 20000000 in
theorem sX12_readBoth_5 {l : Launch} {E : zE} {d : Nat} {F : zFs} {n sl : Nat} (hG : zG F) (rec : Nat → Int → Int → zDa → Option zDa) (hr0 : ∀ (a b : Int) (D : zDa) r, rec 0 a b D = some r → zMet l E (d + 45) YX12_readTest [zR 91, zI a] (F, D, n, sl) (zcV F n sl r)) (hr1 : ∀ (a b : Int) (D : zDa) r, rec 1 a b D = some r → zMet l E (d + 45) YX12_readBoth [zR 91, zI a] (F, D, n, sl) (zcV F n sl r)) (hr2 : ∀ (a b : Int) (D : zDa) r, rec 2 a b D = some r → zMet l E (d + 45) YX12_readPlain [zR 91, zI a] (F, D, n, sl) (zcV F n sl r))  (o1 : Int)   : ∀ (N : Nat)  (D : zDa), zO l E (d + 46) YX12_readBoth 5 [(0, zR 91), (1, zI o1)] [] (F, D, n, sl) (zcV F n sl) (zfix (fun _ => none) (fX12_readBoth_5 F rec o1) N  D) := by
  intro N
  induction N with
  | zero => intro D; exact zO_none
  | succ N hk_5 =>
    intro D
    show zO _ _ _ _ _ _ _ _ _ ((fX12_readBoth_5 F rec o1) (zfix (fun _ => none) (fX12_readBoth_5 F rec o1) N)  D)
    unfold fX12_readBoth_5
    refine zO_aload_n dX12_readBoth_5 rfl (zR_P _) ?_
    refine zO_bipush dX12_readBoth_6 (by decide) ?_
    refine zO_callV (Y' := YX12_takes0) (cw := zcI F n sl) (as := [zI 6]) (rest := []) (na := 1) (ci := 12) rfl dX12_readBoth_8 wC_X12_takes0 wN_X12 wM_X12_196 wI_X12_takes0 wV_X12_takes0 (by decide) (by decide) rfl rfl (Nat.le_of_ble_eq_true rfl) rfl (by decide) (gk_91 hG) (fun r hr => zMet_cast (Nat.add_assoc d 44 1) (mX12_takes0 (d := d + 44) hG 6 r hr)) ?_
    rintro ⟨r_3, D_4⟩ -
    show zO _ _ _ _ _ _ [zI r_3] (F, D_4, n, sl) _ _
    refine zO_if_eq (tgt := 22) dX12_readBoth_11 rfl (fun c11 => ?_) (fun c11 => ?_)
    · exact zO_ret (rv := none) dX12_readBoth_22 rfl trivial rfl
    · refine zO_aload_n dX12_readBoth_14 rfl (zR_P _) ?_
      refine zO_iload_n dX12_readBoth_15 rfl ?_
      refine zO_callV (Y' := YX12_readPlain) (cw := zcV F n sl) (as := [zI o1]) (rest := []) (na := 1) (ci := 12) rfl dX12_readBoth_16 wC_X12_readPlain wN_X12 wM_X12_218 wI_X12_readPlain wV_X12_readPlain (by decide) (by decide) rfl rfl (Nat.le_of_ble_eq_true rfl) rfl (by decide) (gk_91 hG) (fun r hr => hr2 o1 0 _ r hr) ?_
      intro D_6 _
      show zO _ _ _ _ _ _ [] (F, D_6, n, sl) _ _
      refine zO_goto (tgt := 5) dX12_readBoth_19 rfl ?_
      refine zO_live [0, 1] ?_
      exact hk_5 D_6
set_option maxHeartbeats 20000000 in
theorem mbX12_readBoth {l : Launch} {E : zE} {d : Nat} {F : zFs} {n sl : Nat} (hG : zG F) (rec : Nat → Int → Int → zDa → Option zDa) (hr0 : ∀ (a b : Int) (D : zDa) r, rec 0 a b D = some r → zMet l E (d + 45) YX12_readTest [zR 91, zI a] (F, D, n, sl) (zcV F n sl r)) (hr1 : ∀ (a b : Int) (D : zDa) r, rec 1 a b D = some r → zMet l E (d + 45) YX12_readBoth [zR 91, zI a] (F, D, n, sl) (zcV F n sl r)) (hr2 : ∀ (a b : Int) (D : zDa) r, rec 2 a b D = some r → zMet l E (d + 45) YX12_readPlain [zR 91, zI a] (F, D, n, sl) (zcV F n sl r)) (v1 : Int) {D : zDa} : ∀ r, bX12_readBoth F rec v1 D = some r → zMet l E (d + 46) YX12_readBoth [zR 91, zI v1] (F, D, n, sl) (zcV F n sl r) := by
  intro r hr
  refine zMet_of (plainFor_of_name (by decide)) (fun _ h => (nomatch h)) (Nat.le_of_ble_eq_true rfl) ?_
  have hz : zO l E (d + 46) YX12_readBoth 0 [(0, zR 91), (1, zI v1)] [] (F, D, n, sl) (zcV F n sl) (bX12_readBoth F rec v1 D) := by
    unfold bX12_readBoth
    refine zO_aload_n dX12_readBoth_0 rfl (zR_P _) ?_
    refine zO_iload_n dX12_readBoth_1 rfl ?_
    refine zO_callV (Y' := YX12_readPlain) (cw := zcV F n sl) (as := [zI v1]) (rest := []) (na := 1) (ci := 12) rfl dX12_readBoth_2 wC_X12_readPlain wN_X12 wM_X12_218 wI_X12_readPlain wV_X12_readPlain (by decide) (by decide) rfl rfl (Nat.le_of_ble_eq_true rfl) rfl (by decide) (gk_91 hG) (fun r hr => hr2 v1 0 _ r hr) ?_
    intro D_2 _
    show zO _ _ _ _ _ _ [] (F, D_2, n, sl) _ _
    refine zO_live [0, 1] ?_
    exact sX12_readBoth_5 hG rec hr0 hr1 hr2 v1 zfu D_2
  exact hz r hr
def fX12_readPlain_53 (F : zFs) (rec : Nat → Int → Int → zDa → Option zDa)  (o1 : Int) (D : zDa) : Option zDa :=
  (fX12_fine F D).bind (fun (r_8, D_9) =>
    if r_8 = 0 then
      some D_9
    else
      if (-2147483648 ≤ (D_9 91 15) + 1 ∧ (D_9 91 15) + 1 ≤ 2147483647) then
        zlet (zwr D_9 91 15 ((D_9 91 15) + 1)) (fun D_10 =>
          if (-2147483648 ≤ o1 + 1 ∧ o1 + 1 ≤ 2147483647) then
            (rec 0 (o1 + 1) 0 D_10).bind (fun D_12 =>
              (fX12_sign F 41 D_12).bind (fun (r_13, D_14) =>
                (fX12_must F r_13 D_14).bind (fun D_16 =>
                  some D_16)))
          else none)
      else none)
def fX12_readPlain_128 (F : zFs) (rec : Nat → Int → Int → zDa → Option zDa)  (o1 : Int) (D : zDa) : Option zDa :=
  (fX12_readSum F o1 D).bind (fun D_32 =>
    some D_32)
def fX12_readPlain_2 (F : zFs) (rec : Nat → Int → Int → zDa → Option zDa) (o1 : Int)  (k_2 : Int → zDa → Option zDa) (v2 : Int) (D : zDa) : Option zDa :=
  if v2 = 0 then
    (fX12_fine F D).bind (fun (r_1, D_2) =>
      if r_1 = 0 then
        some D_2
      else
        if (0 ≤ (D_2 91 15) ∧ (D_2 91 15) < 401) then
          zlet ((D_2 99 (D_2 91 15).toNat)) (fun x3_3 =>
            (fX12_sign F 40 D_2).bind (fun (r_4, D_5) =>
              if x3_3 = r_4 then
                if o1 = 8 then
                  (fX12_faults F D_5).bind (fun D_7 =>
                    fX12_readPlain_53 F rec o1 D_7)
                else
                  fX12_readPlain_53 F rec o1 D_5
              else
                (fX12_readSum F o1 D_5).bind (fun D_18 =>
                  (fX12_sign F 60 D_18).bind (fun (r_19, D_20) =>
                    (fX12_takes0 F r_19 D_20).bind (fun (r_21, D_22) =>
                      if r_21 = 0 then
                        (fX12_sign F 62 D_22).bind (fun (r_23, D_24) =>
                          (fX12_takes0 F r_23 D_24).bind (fun (r_25, D_26) =>
                            if r_25 = 0 then
                              (fX12_sign F 61 D_26).bind (fun (r_27, D_28) =>
                                (fX12_must F r_27 D_28).bind (fun D_30 =>
                                  fX12_readPlain_128 F rec o1 D_30))
                            else
                              fX12_readPlain_128 F rec o1 D_26))
                      else
                        fX12_readPlain_128 F rec o1 D_22)))))
        else none)
  else
    (fX12_takes0 F 7 D).bind (fun (r_33, D_34) =>
      k_2 r_33 D_34)
def bX12_readPlain (F : zFs) (rec : Nat → Int → Int → zDa → Option zDa) (v1 : Int) (D : zDa) : Option zDa :=
  zfix (fun _ _ => none) (fX12_readPlain_2 F rec v1) zfu 1 D
set_option maxHeartbeats 20000000 in
theorem sX12_readPlain_53 {l : Launch} {E : zE} {d : Nat} {F : zFs} {n sl : Nat} (hG : zG F) (rec : Nat → Int → Int → zDa → Option zDa) (hr0 : ∀ (a b : Int) (D : zDa) r, rec 0 a b D = some r → zMet l E (d + 45) YX12_readTest [zR 91, zI a] (F, D, n, sl) (zcV F n sl r)) (hr1 : ∀ (a b : Int) (D : zDa) r, rec 1 a b D = some r → zMet l E (d + 45) YX12_readBoth [zR 91, zI a] (F, D, n, sl) (zcV F n sl r)) (hr2 : ∀ (a b : Int) (D : zDa) r, rec 2 a b D = some r → zMet l E (d + 45) YX12_readPlain [zR 91, zI a] (F, D, n, sl) (zcV F n sl r))  (o1 : Int)   (D : zDa) : zO l E (d + 46) YX12_readPlain 53 [(0, zR 91), (1, zI o1)] [] (F, D, n, sl) (zcV F n sl) (fX12_readPlain_53 F rec o1 D) := by
  unfold fX12_readPlain_53
  refine zO_aload_n dX12_readPlain_53 rfl (zR_P _) ?_
  refine zO_callV (Y' := YX12_fine) (cw := zcI F n sl) (as := []) (rest := []) (na := 0) (ci := 12) rfl dX12_readPlain_54 wC_X12_fine wN_X12 wM_X12_189 wI_X12_fine wV_X12_fine (by decide) (by decide) rfl rfl (Nat.le_of_ble_eq_true rfl) rfl (by decide) (gk_91 hG) (fun r hr => zMet_cast (Nat.add_assoc d 45 0) (mX12_fine (d := d + 45) hG  r hr)) ?_
  rintro ⟨r_8, D_9⟩ -
  show zO _ _ _ _ _ _ [zI r_8] (F, D_9, n, sl) _ _
  refine zO_if_ne (tgt := 61) dX12_readPlain_57 rfl (fun c57 => ?_) (fun c57 => ?_)
  · exact zO_ret (rv := none) dX12_readPlain_60 rfl trivial rfl
  · refine zO_chk (fun h2 => ?_)
    refine zO_aload_n dX12_readPlain_61 rfl (zR_P _) ?_
    refine zO_dup dX12_readPlain_62 (rfl) ?_
    refine gt12 (k := 15) (v := zI (D_9 91 15)) dX12_readPlain_63 wF_X12_193 (by decide) (gk_91 hG) rfl ?_
    refine zO_iconst dX12_readPlain_66 (by decide) ?_
    refine zO_iadd dX12_readPlain_67 h2 ?_
    refine ptI12 (k := 15) (z := ((D_9 91 15) + 1)) dX12_readPlain_68 wF_X12_193 (by decide) rfl (gk_91 hG) rfl ?_
    refine zO_letD (fun D_10 eD_10 => ?_)
    refine zO_chk (fun h3 => ?_)
    refine zO_aload_n dX12_readPlain_71 rfl (zR_P _) ?_
    refine zO_iload_n dX12_readPlain_72 rfl ?_
    refine zO_iconst dX12_readPlain_73 (by decide) ?_
    refine zO_iadd dX12_readPlain_74 h3 ?_
    refine zO_callV (Y' := YX12_readTest) (cw := zcV F n sl) (as := [zI (o1 + 1)]) (rest := []) (na := 1) (ci := 12) rfl dX12_readPlain_75 wC_X12_readTest wN_X12 wM_X12_212 wI_X12_readTest wV_X12_readTest (by decide) (by decide) rfl rfl (Nat.le_of_ble_eq_true rfl) rfl (by decide) (gk_91 hG) (fun r hr => hr0 (o1 + 1) 0 _ r hr) ?_
    intro D_12 _
    show zO _ _ _ _ _ _ [] (F, D_12, n, sl) _ _
    refine zO_aload_n dX12_readPlain_78 rfl (zR_P _) ?_
    refine zO_bipush dX12_readPlain_79 (by decide) ?_
    refine zO_callS (Y' := YX12_sign) (cw := zcI F n sl) (as := [zI 41]) (rest := [zR 91]) (na := 1) dX12_readPlain_81 wC_X12_sign wN_X12 wM_X12_221 wS_X12_sign (by decide) (by decide) rfl rfl (Nat.le_of_ble_eq_true rfl) (fun r hr => zMet_cast (Nat.add_assoc d 45 0) (mX12_sign (d := d + 45) hG 41 r hr)) ?_
    rintro ⟨r_13, D_14⟩ -
    show zO _ _ _ _ _ _ [zI r_13, zR 91] (F, D_14, n, sl) _ _
    refine zO_callV (Y' := YX12_must) (cw := zcV F n sl) (as := [zI r_13]) (rest := []) (na := 1) (ci := 12) rfl dX12_readPlain_84 wC_X12_must wN_X12 wM_X12_205 wI_X12_must wV_X12_must (by decide) (by decide) rfl rfl (Nat.le_of_ble_eq_true rfl) rfl (by decide) (gk_91 hG) (fun r hr => zMet_cast (Nat.add_assoc d 43 2) (mX12_must (d := d + 43) hG r_13 r hr)) ?_
    intro D_16 _
    show zO _ _ _ _ _ _ [] (F, D_16, n, sl) _ _
    refine zO_goto (tgt := 133) dX12_readPlain_87 rfl ?_
    exact zO_ret (rv := none) dX12_readPlain_133 rfl trivial rfl
set_option maxHeartbeats 20000000 in
theorem sX12_readPlain_128 {l : Launch} {E : zE} {d : Nat} {F : zFs} {n sl : Nat} (hG : zG F) (rec : Nat → Int → Int → zDa → Option zDa) (hr0 : ∀ (a b : Int) (D : zDa) r, rec 0 a b D = some r → zMet l E (d + 45) YX12_readTest [zR 91, zI a] (F, D, n, sl) (zcV F n sl r)) (hr1 : ∀ (a b : Int) (D : zDa) r, rec 1 a b D = some r → zMet l E (d + 45) YX12_readBoth [zR 91, zI a] (F, D, n, sl) (zcV F n sl r)) (hr2 : ∀ (a b : Int) (D : zDa) r, rec 2 a b D = some r → zMet l E (d + 45) YX12_readPlain [zR 91, zI a] (F, D, n, sl) (zcV F n sl r))  (o1 : Int)   (D : zDa) : zO l E (d + 46) YX12_readPlain 128 [(0, zR 91), (1, zI o1)] [] (F, D, n, sl) (zcV F n sl) (fX12_readPlain_128 F rec o1 D) := by
  unfold fX12_readPlain_128
  refine zO_aload_n dX12_readPlain_128 rfl (zR_P _) ?_
  refine zO_iload_n dX12_readPlain_129 rfl ?_
  refine zO_callV (Y' := YX12_readSum) (cw := zcV F n sl) (as := [zI o1]) (rest := []) (na := 1) (ci := 12) rfl dX12_readPlain_130 wC_X12_readSum wN_X12 wM_X12_209 wI_X12_readSum wV_X12_readSum (by decide) (by decide) rfl rfl (Nat.le_of_ble_eq_true rfl) rfl (by decide) (gk_91 hG) (fun r hr => zMet_cast (Nat.add_assoc d 1 44) (mX12_readSum (d := d + 1) hG o1 r hr)) ?_
  intro D_32 _
  show zO _ _ _ _ _ _ [] (F, D_32, n, sl) _ _
  exact zO_ret (rv := none) dX12_readPlain_133 rfl trivial rfl
set_option maxHeartbeats 20000000 in
theorem sX12_readPlain_2 {l : Launch} {E : zE} {d : Nat} {F : zFs} {n sl : Nat} (hG : zG F) (rec : Nat → Int → Int → zDa → Option zDa) (hr0 : ∀ (a b : Int) (D : zDa) r, rec 0 a b D = some r → zMet l E (d + 45) YX12_readTest [zR 91, zI a] (F, D, n, sl) (zcV F n sl r)) (hr1 : ∀ (a b : Int) (D : zDa) r, rec 1 a b D = some r → zMet l E (d + 45) YX12_readBoth [zR 91, zI a] (F, D, n, sl) (zcV F n sl r)) (hr2 : ∀ (a b : Int) (D : zDa) r, rec 2 a b D = some r → zMet l E (d + 45) YX12_readPlain [zR 91, zI a] (F, D, n, sl) (zcV F n sl r))  (o1 : Int)   : ∀ (N : Nat) (v2 : Int) (D : zDa), zO l E (d + 46) YX12_readPlain 2 [(0, zR 91), (1, zI o1), (2, zI v2)] [] (F, D, n, sl) (zcV F n sl) (zfix (fun _ _ => none) (fX12_readPlain_2 F rec o1) N v2 D) := by
  intro N
  induction N with
  | zero => intro v2 D; exact zO_none
  | succ N hk_2 =>
    intro v2 D
    show zO _ _ _ _ _ _ _ _ _ ((fX12_readPlain_2 F rec o1) (zfix (fun _ _ => none) (fX12_readPlain_2 F rec o1) N) v2 D)
    unfold fX12_readPlain_2
    refine zO_iload_n dX12_readPlain_2 rfl ?_
    refine zO_if_eq (tgt := 16) dX12_readPlain_3 rfl (fun c3 => ?_) (fun c3 => ?_)
    · refine zO_aload_n dX12_readPlain_16 rfl (zR_P _) ?_
      refine zO_callV (Y' := YX12_fine) (cw := zcI F n sl) (as := []) (rest := []) (na := 0) (ci := 12) rfl dX12_readPlain_17 wC_X12_fine wN_X12 wM_X12_189 wI_X12_fine wV_X12_fine (by decide) (by decide) rfl rfl (Nat.le_of_ble_eq_true rfl) rfl (by decide) (gk_91 hG) (fun r hr => zMet_cast (Nat.add_assoc d 45 0) (mX12_fine (d := d + 45) hG  r hr)) ?_
      rintro ⟨r_1, D_2⟩ -
      show zO _ _ _ _ _ _ [zI r_1] (F, D_2, n, sl) _ _
      refine zO_if_ne (tgt := 24) dX12_readPlain_20 rfl (fun c20 => ?_) (fun c20 => ?_)
      · exact zO_ret (rv := none) dX12_readPlain_23 rfl trivial rfl
      · refine zO_chk (fun h1 => ?_)
        refine zO_aload_n dX12_readPlain_24 rfl (zR_P _) ?_
        refine gt12 (k := 11) dX12_readPlain_25 wF_X12_43 (by decide) (gk_91 hG) (zgv (c := 12) (k := 11) rfl (Or.inl ⟨_, rfl⟩) (gf_91_11 hG)) ?_
        refine zO_aload_n dX12_readPlain_28 rfl (zR_P _) ?_
        refine gt12 (k := 15) (v := zI (D_2 91 15)) dX12_readPlain_29 wF_X12_193 (by decide) (gk_91 hG) rfl ?_
        refine zO_iald dX12_readPlain_32 (gk_99 hG) (gl_in (gl_99 hG) h1) ?_
        refine zO_letI (fun x3_3 ex3_3 => ?_)
        refine zO_istore_n dX12_readPlain_33 (by decide) ?_
        refine zO_ls (ls' := [(0, zR 91), (1, zI o1), (2, zI v2), (3, zI x3_3)]) rfl ?_
        refine zO_iload_n dX12_readPlain_34 rfl ?_
        refine zO_bipush dX12_readPlain_35 (by decide) ?_
        refine zO_callS (Y' := YX12_sign) (cw := zcI F n sl) (as := [zI 40]) (rest := [zI x3_3]) (na := 1) dX12_readPlain_37 wC_X12_sign wN_X12 wM_X12_221 wS_X12_sign (by decide) (by decide) rfl rfl (Nat.le_of_ble_eq_true rfl) (fun r hr => zMet_cast (Nat.add_assoc d 45 0) (mX12_sign (d := d + 45) hG 40 r hr)) ?_
        rintro ⟨r_4, D_5⟩ -
        show zO _ _ _ _ _ _ [zI r_4, zI x3_3] (F, D_5, n, sl) _ _
        refine zO_icmp_ne (tgt := 90) dX12_readPlain_40 rfl (fun c40 => ?_) (fun c40 => ?_)
        · refine zO_iload_n dX12_readPlain_43 rfl ?_
          refine zO_bipush dX12_readPlain_44 (by decide) ?_
          refine zO_icmp_ne (tgt := 53) dX12_readPlain_46 rfl (fun c46 => ?_) (fun c46 => ?_)
          · refine zO_aload_n dX12_readPlain_49 rfl (zR_P _) ?_
            refine zO_callV (Y' := YX12_faults) (cw := zcV F n sl) (as := []) (rest := []) (na := 0) (ci := 12) rfl dX12_readPlain_50 wC_X12_faults wN_X12 wM_X12_199 wI_X12_faults wV_X12_faults (by decide) (by decide) rfl rfl (Nat.le_of_ble_eq_true rfl) rfl (by decide) (gk_91 hG) (fun r hr => zMet_cast (Nat.add_assoc d 44 1) (mX12_faults (d := d + 44) hG  r hr)) ?_
            intro D_7 _
            show zO _ _ _ _ _ _ [] (F, D_7, n, sl) _ _
            refine zO_live [0, 1] ?_
            exact sX12_readPlain_53 hG rec hr0 hr1 hr2 o1 D_7
          · refine zO_live [0, 1] ?_
            exact sX12_readPlain_53 hG rec hr0 hr1 hr2 o1 D_5
        · refine zO_aload_n dX12_readPlain_90 rfl (zR_P _) ?_
          refine zO_iload_n dX12_readPlain_91 rfl ?_
          refine zO_callV (Y' := YX12_readSum) (cw := zcV F n sl) (as := [zI o1]) (rest := []) (na := 1) (ci := 12) rfl dX12_readPlain_92 wC_X12_readSum wN_X12 wM_X12_209 wI_X12_readSum wV_X12_readSum (by decide) (by decide) rfl rfl (Nat.le_of_ble_eq_true rfl) rfl (by decide) (gk_91 hG) (fun r hr => zMet_cast (Nat.add_assoc d 1 44) (mX12_readSum (d := d + 1) hG o1 r hr)) ?_
          intro D_18 _
          show zO _ _ _ _ _ _ [] (F, D_18, n, sl) _ _
          refine zO_aload_n dX12_readPlain_95 rfl (zR_P _) ?_
          refine zO_bipush dX12_readPlain_96 (by decide) ?_
          refine zO_callS (Y' := YX12_sign) (cw := zcI F n sl) (as := [zI 60]) (rest := [zR 91]) (na := 1) dX12_readPlain_98 wC_X12_sign wN_X12 wM_X12_221 wS_X12_sign (by decide) (by decide) rfl rfl (Nat.le_of_ble_eq_true rfl) (fun r hr => zMet_cast (Nat.add_assoc d 45 0) (mX12_sign (d := d + 45) hG 60 r hr)) ?_
          rintro ⟨r_19, D_20⟩ -
          show zO _ _ _ _ _ _ [zI r_19, zR 91] (F, D_20, n, sl) _ _
          refine zO_callV (Y' := YX12_takes0) (cw := zcI F n sl) (as := [zI r_19]) (rest := []) (na := 1) (ci := 12) rfl dX12_readPlain_101 wC_X12_takes0 wN_X12 wM_X12_196 wI_X12_takes0 wV_X12_takes0 (by decide) (by decide) rfl rfl (Nat.le_of_ble_eq_true rfl) rfl (by decide) (gk_91 hG) (fun r hr => zMet_cast (Nat.add_assoc d 44 1) (mX12_takes0 (d := d + 44) hG r_19 r hr)) ?_
          rintro ⟨r_21, D_22⟩ -
          show zO _ _ _ _ _ _ [zI r_21] (F, D_22, n, sl) _ _
          refine zO_if_ne (tgt := 128) dX12_readPlain_104 rfl (fun c104 => ?_) (fun c104 => ?_)
          · refine zO_aload_n dX12_readPlain_107 rfl (zR_P _) ?_
            refine zO_bipush dX12_readPlain_108 (by decide) ?_
            refine zO_callS (Y' := YX12_sign) (cw := zcI F n sl) (as := [zI 62]) (rest := [zR 91]) (na := 1) dX12_readPlain_110 wC_X12_sign wN_X12 wM_X12_221 wS_X12_sign (by decide) (by decide) rfl rfl (Nat.le_of_ble_eq_true rfl) (fun r hr => zMet_cast (Nat.add_assoc d 45 0) (mX12_sign (d := d + 45) hG 62 r hr)) ?_
            rintro ⟨r_23, D_24⟩ -
            show zO _ _ _ _ _ _ [zI r_23, zR 91] (F, D_24, n, sl) _ _
            refine zO_callV (Y' := YX12_takes0) (cw := zcI F n sl) (as := [zI r_23]) (rest := []) (na := 1) (ci := 12) rfl dX12_readPlain_113 wC_X12_takes0 wN_X12 wM_X12_196 wI_X12_takes0 wV_X12_takes0 (by decide) (by decide) rfl rfl (Nat.le_of_ble_eq_true rfl) rfl (by decide) (gk_91 hG) (fun r hr => zMet_cast (Nat.add_assoc d 44 1) (mX12_takes0 (d := d + 44) hG r_23 r hr)) ?_
            rintro ⟨r_25, D_26⟩ -
            show zO _ _ _ _ _ _ [zI r_25] (F, D_26, n, sl) _ _
            refine zO_if_ne (tgt := 128) dX12_readPlain_116 rfl (fun c116 => ?_) (fun c116 => ?_)
            · refine zO_aload_n dX12_readPlain_119 rfl (zR_P _) ?_
              refine zO_bipush dX12_readPlain_120 (by decide) ?_
              refine zO_callS (Y' := YX12_sign) (cw := zcI F n sl) (as := [zI 61]) (rest := [zR 91]) (na := 1) dX12_readPlain_122 wC_X12_sign wN_X12 wM_X12_221 wS_X12_sign (by decide) (by decide) rfl rfl (Nat.le_of_ble_eq_true rfl) (fun r hr => zMet_cast (Nat.add_assoc d 45 0) (mX12_sign (d := d + 45) hG 61 r hr)) ?_
              rintro ⟨r_27, D_28⟩ -
              show zO _ _ _ _ _ _ [zI r_27, zR 91] (F, D_28, n, sl) _ _
              refine zO_callV (Y' := YX12_must) (cw := zcV F n sl) (as := [zI r_27]) (rest := []) (na := 1) (ci := 12) rfl dX12_readPlain_125 wC_X12_must wN_X12 wM_X12_205 wI_X12_must wV_X12_must (by decide) (by decide) rfl rfl (Nat.le_of_ble_eq_true rfl) rfl (by decide) (gk_91 hG) (fun r hr => zMet_cast (Nat.add_assoc d 43 2) (mX12_must (d := d + 43) hG r_27 r hr)) ?_
              intro D_30 _
              show zO _ _ _ _ _ _ [] (F, D_30, n, sl) _ _
              refine zO_live [0, 1] ?_
              exact sX12_readPlain_128 hG rec hr0 hr1 hr2 o1 D_30
            · refine zO_live [0, 1] ?_
              exact sX12_readPlain_128 hG rec hr0 hr1 hr2 o1 D_26
          · refine zO_live [0, 1] ?_
            exact sX12_readPlain_128 hG rec hr0 hr1 hr2 o1 D_22
    · refine zO_aload_n dX12_readPlain_6 rfl (zR_P _) ?_
      refine zO_bipush dX12_readPlain_7 (by decide) ?_
      refine zO_callV (Y' := YX12_takes0) (cw := zcI F n sl) (as := [zI 7]) (rest := []) (na := 1) (ci := 12) rfl dX12_readPlain_9 wC_X12_takes0 wN_X12 wM_X12_196 wI_X12_takes0 wV_X12_takes0 (by decide) (by decide) rfl rfl (Nat.le_of_ble_eq_true rfl) rfl (by decide) (gk_91 hG) (fun r hr => zMet_cast (Nat.add_assoc d 44 1) (mX12_takes0 (d := d + 44) hG 7 r hr)) ?_
      rintro ⟨r_33, D_34⟩ -
      show zO _ _ _ _ _ _ [zI r_33] (F, D_34, n, sl) _ _
      refine zO_istore_n dX12_readPlain_12 (by decide) ?_
      refine zO_ls (ls' := [(0, zR 91), (1, zI o1), (2, zI r_33)]) rfl ?_
      refine zO_goto (tgt := 2) dX12_readPlain_13 rfl ?_
      refine zO_live [0, 1, 2] ?_
      exact hk_2 r_33 D_34
set_option maxHeartbeats 20000000 in
theorem mbX12_readPlain {l : Launch} {E : zE} {d : Nat} {F : zFs} {n sl : Nat} (hG : zG F) (rec : Nat → Int → Int → zDa → Option zDa) (hr0 : ∀ (a b : Int) (D : zDa) r, rec 0 a b D = some r → zMet l E (d + 45) YX12_readTest [zR 91, zI a] (F, D, n, sl) (zcV F n sl r)) (hr1 : ∀ (a b : Int) (D : zDa) r, rec 1 a b D = some r → zMet l E (d + 45) YX12_readBoth [zR 91, zI a] (F, D, n, sl) (zcV F n sl r)) (hr2 : ∀ (a b : Int) (D : zDa) r, rec 2 a b D = some r → zMet l E (d + 45) YX12_readPlain [zR 91, zI a] (F, D, n, sl) (zcV F n sl r)) (v1 : Int) {D : zDa} : ∀ r, bX12_readPlain F rec v1 D = some r → zMet l E (d + 46) YX12_readPlain [zR 91, zI v1] (F, D, n, sl) (zcV F n sl r) := by
  intro r hr
  refine zMet_of (plainFor_of_name (by decide)) (fun _ h => (nomatch h)) (Nat.le_of_ble_eq_true rfl) ?_
  have hz : zO l E (d + 46) YX12_readPlain 0 [(0, zR 91), (1, zI v1)] [] (F, D, n, sl) (zcV F n sl) (bX12_readPlain F rec v1 D) := by
    unfold bX12_readPlain
    refine zO_iconst dX12_readPlain_0 (by decide) ?_
    refine zO_istore_n dX12_readPlain_1 (by decide) ?_
    refine zO_ls (ls' := [(0, zR 91), (1, zI v1), (2, zI 1)]) rfl ?_
    refine zO_live [0, 1, 2] ?_
    exact sX12_readPlain_2 hG rec hr0 hr1 hr2 v1 zfu 1 D
  exact hz r hr
def R3 (F : zFs) (N : Nat) : Nat → Int → Int → zDa → Option zDa := zfix (fun _ _ _ _ => none) (fun rec t a b D => if t = 0 then bX12_readTest F rec a D else if t = 1 then bX12_readBoth F rec a D else bX12_readPlain F rec a D) N
theorem R3_succ (F : zFs) (N t : Nat) (a b : Int) (D : zDa) : R3 F (N + 1) t a b D = (if t = 0 then bX12_readTest F (R3 F N) a D else if t = 1 then bX12_readBoth F (R3 F N) a D else bX12_readPlain F (R3 F N) a D) := rfl
theorem mG3 {l : Launch} {E : zE} {F : zFs} {n sl : Nat} (hG : zG F) : ∀ (N d : Nat), (∀ (a b : Int) (D : zDa) r, R3 F N 0 a b D = some r → zMet l E (d + N + 45) YX12_readTest [zR 91, zI a] (F, D, n, sl) (zcV F n sl r)) ∧ (∀ (a b : Int) (D : zDa) r, R3 F N 1 a b D = some r → zMet l E (d + N + 45) YX12_readBoth [zR 91, zI a] (F, D, n, sl) (zcV F n sl r)) ∧ (∀ (a b : Int) (D : zDa) r, R3 F N 2 a b D = some r → zMet l E (d + N + 45) YX12_readPlain [zR 91, zI a] (F, D, n, sl) (zcV F n sl r)) := by
  intro N
  induction N with
  | zero => intro d; refine ⟨(fun a b D r h => nomatch (show (none : Option _) = some r from h)), (fun a b D r h => nomatch (show (none : Option _) = some r from h)), (fun a b D r h => nomatch (show (none : Option _) = some r from h))⟩
  | succ N ih =>
    intro d
    have ih := ih d
    exact ⟨(fun a b D r h => zMet_cast (show d + N + 46 = d + (N + 1) + 45 by omega) (mbX12_readTest (d := d + N) hG (R3 F N) (fun a b D r h => ih.1 a b D r h) (fun a b D r h => ih.2.1 a b D r h) (fun a b D r h => ih.2.2 a b D r h) a r (by rw [R3_succ] at h; rw [if_pos rfl] at h; exact h))), (fun a b D r h => zMet_cast (show d + N + 46 = d + (N + 1) + 45 by omega) (mbX12_readBoth (d := d + N) hG (R3 F N) (fun a b D r h => ih.1 a b D r h) (fun a b D r h => ih.2.1 a b D r h) (fun a b D r h => ih.2.2 a b D r h) a r (by rw [R3_succ] at h; rw [if_neg (by decide), if_pos rfl] at h; exact h))), (fun a b D r h => zMet_cast (show d + N + 46 = d + (N + 1) + 45 by omega) (mbX12_readPlain (d := d + N) hG (R3 F N) (fun a b D r h => ih.1 a b D r h) (fun a b D r h => ih.2.1 a b D r h) (fun a b D r h => ih.2.2 a b D r h) a r (by rw [R3_succ] at h; rw [if_neg (by decide), if_neg (by decide)] at h; exact h)))⟩
def fX12_readTest (F : zFs) (v1 : Int) (D : zDa) : Option zDa := R3 F 40 0 v1 0 D
theorem mX12_readTest {l : Launch} {E : zE} {d : Nat} {F : zFs} {n sl : Nat} (hG : zG F) (v1 : Int) {D : zDa} : ∀ r, fX12_readTest F v1 D = some r → zMet l E (d + 86) YX12_readTest [zR 91, zI v1] (F, D, n, sl) (zcV F n sl r) := fun r h => zMet_cast (show d + 1 + 40 + 45 = d + 86 by omega) ((mG3 hG 40 (d + 1)).1 v1 0 D r h)
def fX12_readBoth (F : zFs) (v1 : Int) (D : zDa) : Option zDa := R3 F 40 1 v1 0 D
theorem mX12_readBoth {l : Launch} {E : zE} {d : Nat} {F : zFs} {n sl : Nat} (hG : zG F) (v1 : Int) {D : zDa} : ∀ r, fX12_readBoth F v1 D = some r → zMet l E (d + 86) YX12_readBoth [zR 91, zI v1] (F, D, n, sl) (zcV F n sl r) := fun r h => zMet_cast (show d + 1 + 40 + 45 = d + 86 by omega) ((mG3 hG 40 (d + 1)).2.1 v1 0 D r h)
def fX12_readPlain (F : zFs) (v1 : Int) (D : zDa) : Option zDa := R3 F 40 2 v1 0 D
theorem mX12_readPlain {l : Launch} {E : zE} {d : Nat} {F : zFs} {n sl : Nat} (hG : zG F) (v1 : Int) {D : zDa} : ∀ r, fX12_readPlain F v1 D = some r → zMet l E (d + 86) YX12_readPlain [zR 91, zI v1] (F, D, n, sl) (zcV F n sl r) := fun r h => zMet_cast (show d + 1 + 40 + 45 = d + 86 by omega) ((mG3 hG 40 (d + 1)).2.2 v1 0 D r h)
