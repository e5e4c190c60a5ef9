/-! printed by wip/gen/emit_all.py: group5 X12_told X12_asksOf X12_takesOf X12_takes X12_keepsOf X12_keeps X12_chanceOf X12_chance X12_choose X12_laysChances -/
theorem dX12_testOf_0 : decode cX12_testOf 0 = .ok (.aload_n 0, 1) := by decide +kernel
theorem dX12_testOf_1 : decode cX12_testOf 1 = .ok (.iload_n 1, 1) := by decide +kernel
theorem dX12_testOf_2 : decode cX12_testOf 2 = .ok (.invokevirtual 277, 3) := by decide +kernel
theorem dX12_testOf_5 : decode cX12_testOf 5 = .ok (.istore_n 2, 1) := by decide +kernel
theorem dX12_testOf_6 : decode cX12_testOf 6 = .ok (.aload_n 0, 1) := by decide +kernel
theorem dX12_testOf_7 : decode cX12_testOf 7 = .ok (.iconst 5, 1) := by decide +kernel
theorem dX12_testOf_8 : decode cX12_testOf 8 = .ok (.invokevirtual 271, 3) := by decide +kernel
theorem dX12_testOf_11 : decode cX12_testOf 11 = .ok (.ifCond .eq 38, 3) := by decide +kernel
theorem dX12_testOf_14 : decode cX12_testOf 14 = .ok (.aload_n 0, 1) := by decide +kernel
theorem dX12_testOf_15 : decode cX12_testOf 15 = .ok (.iload_n 1, 1) := by decide +kernel
theorem dX12_testOf_16 : decode cX12_testOf 16 = .ok (.ifCond .eq 11, 3) := by decide +kernel
theorem dX12_testOf_19 : decode cX12_testOf 19 = .ok (.iload_n 2, 1) := by decide +kernel
theorem dX12_testOf_20 : decode cX12_testOf 20 = .ok (.ifCond .ne 7, 3) := by decide +kernel
theorem dX12_testOf_23 : decode cX12_testOf 23 = .ok (.iconst 1, 1) := by decide +kernel
theorem dX12_testOf_24 : decode cX12_testOf 24 = .ok (.goto 4, 3) := by decide +kernel
theorem dX12_testOf_27 : decode cX12_testOf 27 = .ok (.iconst 0, 1) := by decide +kernel
theorem dX12_testOf_28 : decode cX12_testOf 28 = .ok (.invokevirtual 277, 3) := by decide +kernel
theorem dX12_testOf_31 : decode cX12_testOf 31 = .ok (.istore_n 3, 1) := by decide +kernel
theorem dX12_testOf_32 : decode cX12_testOf 32 = .ok (.iload_n 2, 1) := by decide +kernel
theorem dX12_testOf_33 : decode cX12_testOf 33 = .ok (.ifCond .ne 7, 3) := by decide +kernel
theorem dX12_testOf_36 : decode cX12_testOf 36 = .ok (.iload_n 3, 1) := by decide +kernel
theorem dX12_testOf_37 : decode cX12_testOf 37 = .ok (.ifCond .eq 7, 3) := by decide +kernel
theorem dX12_testOf_40 : decode cX12_testOf 40 = .ok (.iconst 1, 1) := by decide +kernel
theorem dX12_testOf_41 : decode cX12_testOf 41 = .ok (.goto 4, 3) := by decide +kernel
theorem dX12_testOf_44 : decode cX12_testOf 44 = .ok (.iconst 0, 1) := by decide +kernel
theorem dX12_testOf_45 : decode cX12_testOf 45 = .ok (.istore_n 2, 1) := by decide +kernel
theorem dX12_testOf_46 : decode cX12_testOf 46 = .ok (.goto (-40), 3) := by decide +kernel
theorem dX12_testOf_49 : decode cX12_testOf 49 = .ok (.iload_n 2, 1) := by decide +kernel
theorem dX12_testOf_50 : decode cX12_testOf 50 = .ok (.ireturn, 1) := by decide +kernel
abbrev YX12_testOf : zY := (yX12_testOf, cX12_testOf, 4, (Option.some Jvm.ClassFile.FieldType.boolean), [])
theorem dX12_bothOf_0 : decode cX12_bothOf 0 = .ok (.aload_n 0, 1) := by decide +kernel
theorem dX12_bothOf_1 : decode cX12_bothOf 1 = .ok (.iload_n 1, 1) := by decide +kernel
theorem dX12_bothOf_2 : decode cX12_bothOf 2 = .ok (.invokevirtual 281, 3) := by decide +kernel
theorem dX12_bothOf_5 : decode cX12_bothOf 5 = .ok (.istore_n 2, 1) := by decide +kernel
theorem dX12_bothOf_6 : decode cX12_bothOf 6 = .ok (.aload_n 0, 1) := by decide +kernel
theorem dX12_bothOf_7 : decode cX12_bothOf 7 = .ok (.bipush 6, 2) := by decide +kernel
theorem dX12_bothOf_9 : decode cX12_bothOf 9 = .ok (.invokevirtual 271, 3) := by decide +kernel
theorem dX12_bothOf_12 : decode cX12_bothOf 12 = .ok (.ifCond .eq 38, 3) := by decide +kernel
theorem dX12_bothOf_15 : decode cX12_bothOf 15 = .ok (.aload_n 0, 1) := by decide +kernel
theorem dX12_bothOf_16 : decode cX12_bothOf 16 = .ok (.iload_n 1, 1) := by decide +kernel
theorem dX12_bothOf_17 : decode cX12_bothOf 17 = .ok (.ifCond .eq 11, 3) := by decide +kernel
theorem dX12_bothOf_20 : decode cX12_bothOf 20 = .ok (.iload_n 2, 1) := by decide +kernel
theorem dX12_bothOf_21 : decode cX12_bothOf 21 = .ok (.ifCond .eq 7, 3) := by decide +kernel
theorem dX12_bothOf_24 : decode cX12_bothOf 24 = .ok (.iconst 1, 1) := by decide +kernel
theorem dX12_bothOf_25 : decode cX12_bothOf 25 = .ok (.goto 4, 3) := by decide +kernel
theorem dX12_bothOf_28 : decode cX12_bothOf 28 = .ok (.iconst 0, 1) := by decide +kernel
theorem dX12_bothOf_29 : decode cX12_bothOf 29 = .ok (.invokevirtual 281, 3) := by decide +kernel
theorem dX12_bothOf_32 : decode cX12_bothOf 32 = .ok (.istore_n 3, 1) := by decide +kernel
theorem dX12_bothOf_33 : decode cX12_bothOf 33 = .ok (.iload_n 2, 1) := by decide +kernel
theorem dX12_bothOf_34 : decode cX12_bothOf 34 = .ok (.ifCond .eq 11, 3) := by decide +kernel
theorem dX12_bothOf_37 : decode cX12_bothOf 37 = .ok (.iload_n 3, 1) := by decide +kernel
theorem dX12_bothOf_38 : decode cX12_bothOf 38 = .ok (.ifCond .eq 7, 3) := by decide +kernel
theorem dX12_bothOf_41 : decode cX12_bothOf 41 = .ok (.iconst 1, 1) := by decide +kernel
theorem dX12_bothOf_42 : decode cX12_bothOf 42 = .ok (.goto 4, 3) := by decide +kernel
theorem dX12_bothOf_45 : decode cX12_bothOf 45 = .ok (.iconst 0, 1) := by decide +kernel
theorem dX12_bothOf_46 : decode cX12_bothOf 46 = .ok (.istore_n 2, 1) := by decide +kernel
theorem dX12_bothOf_47 : decode cX12_bothOf 47 = .ok (.goto (-41), 3) := by decide +kernel
theorem dX12_bothOf_50 : decode cX12_bothOf 50 = .ok (.iload_n 2, 1) := by decide +kernel
theorem dX12_bothOf_51 : decode cX12_bothOf 51 = .ok (.ireturn, 1) := by decide +kernel
abbrev YX12_bothOf : zY := (yX12_bothOf, cX12_bothOf, 4, (Option.some Jvm.ClassFile.FieldType.boolean), [])
theorem dX12_plainOf_0 : decode cX12_plainOf 0 = .ok (.iconst 0, 1) := by decide +kernel
theorem dX12_plainOf_1 : decode cX12_plainOf 1 = .ok (.istore_n 2, 1) := by decide +kernel
theorem dX12_plainOf_2 : decode cX12_plainOf 2 = .ok (.aload_n 0, 1) := by decide +kernel
theorem dX12_plainOf_3 : decode cX12_plainOf 3 = .ok (.bipush 7, 2) := by decide +kernel
theorem dX12_plainOf_5 : decode cX12_plainOf 5 = .ok (.invokevirtual 271, 3) := by decide +kernel
theorem dX12_plainOf_8 : decode cX12_plainOf 8 = .ok (.ifCond .eq 16, 3) := by decide +kernel
theorem dX12_plainOf_11 : decode cX12_plainOf 11 = .ok (.iload_n 2, 1) := by decide +kernel
theorem dX12_plainOf_12 : decode cX12_plainOf 12 = .ok (.ifCond .ne 7, 3) := by decide +kernel
theorem dX12_plainOf_15 : decode cX12_plainOf 15 = .ok (.iconst 1, 1) := by decide +kernel
theorem dX12_plainOf_16 : decode cX12_plainOf 16 = .ok (.goto 4, 3) := by decide +kernel
theorem dX12_plainOf_19 : decode cX12_plainOf 19 = .ok (.iconst 0, 1) := by decide +kernel
theorem dX12_plainOf_20 : decode cX12_plainOf 20 = .ok (.istore_n 2, 1) := by decide +kernel
theorem dX12_plainOf_21 : decode cX12_plainOf 21 = .ok (.goto (-19), 3) := by decide +kernel
theorem dX12_plainOf_24 : decode cX12_plainOf 24 = .ok (.aload_n 0, 1) := by decide +kernel
theorem dX12_plainOf_25 : decode cX12_plainOf 25 = .ok (.iload_n 1, 1) := by decide +kernel
theorem dX12_plainOf_26 : decode cX12_plainOf 26 = .ok (.invokevirtual 284, 3) := by decide +kernel
theorem dX12_plainOf_29 : decode cX12_plainOf 29 = .ok (.iload_n 2, 1) := by decide +kernel
theorem dX12_plainOf_30 : decode cX12_plainOf 30 = .ok (.if_icmp .eq 7, 3) := by decide +kernel
theorem dX12_plainOf_33 : decode cX12_plainOf 33 = .ok (.iconst 1, 1) := by decide +kernel
theorem dX12_plainOf_34 : decode cX12_plainOf 34 = .ok (.goto 4, 3) := by decide +kernel
theorem dX12_plainOf_37 : decode cX12_plainOf 37 = .ok (.iconst 0, 1) := by decide +kernel
theorem dX12_plainOf_38 : decode cX12_plainOf 38 = .ok (.ireturn, 1) := by decide +kernel
abbrev YX12_plainOf : zY := (yX12_plainOf, cX12_plainOf, 3, (Option.some Jvm.ClassFile.FieldType.boolean), [])
theorem dX12_positiveOf_0 : decode cX12_positiveOf 0 = .ok (.aload_n 0, 1) := by decide +kernel
theorem dX12_positiveOf_1 : decode cX12_positiveOf 1 = .ok (.bipush 40, 2) := by decide +kernel
theorem dX12_positiveOf_3 : decode cX12_positiveOf 3 = .ok (.invokestatic 221, 3) := by decide +kernel
theorem dX12_positiveOf_6 : decode cX12_positiveOf 6 = .ok (.invokevirtual 271, 3) := by decide +kernel
theorem dX12_positiveOf_9 : decode cX12_positiveOf 9 = .ok (.ifCond .eq 21, 3) := by decide +kernel
theorem dX12_positiveOf_12 : decode cX12_positiveOf 12 = .ok (.aload_n 0, 1) := by decide +kernel
theorem dX12_positiveOf_13 : decode cX12_positiveOf 13 = .ok (.iload_n 1, 1) := by decide +kernel
theorem dX12_positiveOf_14 : decode cX12_positiveOf 14 = .ok (.invokevirtual 287, 3) := by decide +kernel
theorem dX12_positiveOf_17 : decode cX12_positiveOf 17 = .ok (.istore_n 2, 1) := by decide +kernel
theorem dX12_positiveOf_18 : decode cX12_positiveOf 18 = .ok (.aload_n 0, 1) := by decide +kernel
theorem dX12_positiveOf_19 : decode cX12_positiveOf 19 = .ok (.dup, 1) := by decide +kernel
theorem dX12_positiveOf_20 : decode cX12_positiveOf 20 = .ok (.getfield 246, 3) := by decide +kernel
theorem dX12_positiveOf_23 : decode cX12_positiveOf 23 = .ok (.iconst 1, 1) := by decide +kernel
theorem dX12_positiveOf_24 : decode cX12_positiveOf 24 = .ok (.iadd, 1) := by decide +kernel
theorem dX12_positiveOf_25 : decode cX12_positiveOf 25 = .ok (.putfield 246, 3) := by decide +kernel
theorem dX12_positiveOf_28 : decode cX12_positiveOf 28 = .ok (.iload_n 2, 1) := by decide +kernel
theorem dX12_positiveOf_29 : decode cX12_positiveOf 29 = .ok (.ireturn, 1) := by decide +kernel
theorem dX12_positiveOf_30 : decode cX12_positiveOf 30 = .ok (.aload_n 0, 1) := by decide +kernel
theorem dX12_positiveOf_31 : decode cX12_positiveOf 31 = .ok (.iload_n 1, 1) := by decide +kernel
theorem dX12_positiveOf_32 : decode cX12_positiveOf 32 = .ok (.invokevirtual 274, 3) := by decide +kernel
theorem dX12_positiveOf_35 : decode cX12_positiveOf 35 = .ok (.lstore_n 2, 1) := by decide +kernel
theorem dX12_positiveOf_36 : decode cX12_positiveOf 36 = .ok (.aload_n 0, 1) := by decide +kernel
theorem dX12_positiveOf_37 : decode cX12_positiveOf 37 = .ok (.aload_n 0, 1) := by decide +kernel
theorem dX12_positiveOf_38 : decode cX12_positiveOf 38 = .ok (.getfield 246, 3) := by decide +kernel
theorem dX12_positiveOf_41 : decode cX12_positiveOf 41 = .ok (.invokevirtual 249, 3) := by decide +kernel
theorem dX12_positiveOf_44 : decode cX12_positiveOf 44 = .ok (.istore 4, 2) := by decide +kernel
theorem dX12_positiveOf_46 : decode cX12_positiveOf 46 = .ok (.aload_n 0, 1) := by decide +kernel
theorem dX12_positiveOf_47 : decode cX12_positiveOf 47 = .ok (.dup, 1) := by decide +kernel
theorem dX12_positiveOf_48 : decode cX12_positiveOf 48 = .ok (.getfield 246, 3) := by decide +kernel
theorem dX12_positiveOf_51 : decode cX12_positiveOf 51 = .ok (.iconst 1, 1) := by decide +kernel
theorem dX12_positiveOf_52 : decode cX12_positiveOf 52 = .ok (.iadd, 1) := by decide +kernel
theorem dX12_positiveOf_53 : decode cX12_positiveOf 53 = .ok (.putfield 246, 3) := by decide +kernel
theorem dX12_positiveOf_56 : decode cX12_positiveOf 56 = .ok (.aload_n 0, 1) := by decide +kernel
theorem dX12_positiveOf_57 : decode cX12_positiveOf 57 = .ok (.iload_n 1, 1) := by decide +kernel
theorem dX12_positiveOf_58 : decode cX12_positiveOf 58 = .ok (.invokevirtual 274, 3) := by decide +kernel
theorem dX12_positiveOf_61 : decode cX12_positiveOf 61 = .ok (.lstore 5, 2) := by decide +kernel
theorem dX12_positiveOf_63 : decode cX12_positiveOf 63 = .ok (.iload_n 1, 1) := by decide +kernel
theorem dX12_positiveOf_64 : decode cX12_positiveOf 64 = .ok (.ifCond .eq 61, 3) := by decide +kernel
theorem dX12_positiveOf_67 : decode cX12_positiveOf 67 = .ok (.aload_n 0, 1) := by decide +kernel
theorem dX12_positiveOf_68 : decode cX12_positiveOf 68 = .ok (.getfield 256, 3) := by decide +kernel
theorem dX12_positiveOf_71 : decode cX12_positiveOf 71 = .ok (.ifCond .ne 54, 3) := by decide +kernel
theorem dX12_positiveOf_74 : decode cX12_positiveOf 74 = .ok (.iload 4, 2) := by decide +kernel
theorem dX12_positiveOf_76 : decode cX12_positiveOf 76 = .ok (.bipush 60, 2) := by decide +kernel
theorem dX12_positiveOf_78 : decode cX12_positiveOf 78 = .ok (.invokestatic 221, 3) := by decide +kernel
theorem dX12_positiveOf_81 : decode cX12_positiveOf 81 = .ok (.if_icmp .ne 13, 3) := by decide +kernel
theorem dX12_positiveOf_84 : decode cX12_positiveOf 84 = .ok (.lload_n 2, 1) := by decide +kernel
theorem dX12_positiveOf_85 : decode cX12_positiveOf 85 = .ok (.lload 5, 2) := by decide +kernel
theorem dX12_positiveOf_87 : decode cX12_positiveOf 87 = .ok (.lcmp, 1) := by decide +kernel
theorem dX12_positiveOf_88 : decode cX12_positiveOf 88 = .ok (.ifCond .ge 37, 3) := by decide +kernel
theorem dX12_positiveOf_91 : decode cX12_positiveOf 91 = .ok (.goto 30, 3) := by decide +kernel
theorem dX12_positiveOf_94 : decode cX12_positiveOf 94 = .ok (.iload 4, 2) := by decide +kernel
theorem dX12_positiveOf_96 : decode cX12_positiveOf 96 = .ok (.bipush 62, 2) := by decide +kernel
theorem dX12_positiveOf_98 : decode cX12_positiveOf 98 = .ok (.invokestatic 221, 3) := by decide +kernel
theorem dX12_positiveOf_101 : decode cX12_positiveOf 101 = .ok (.if_icmp .ne 13, 3) := by decide +kernel
theorem dX12_positiveOf_104 : decode cX12_positiveOf 104 = .ok (.lload_n 2, 1) := by decide +kernel
theorem dX12_positiveOf_105 : decode cX12_positiveOf 105 = .ok (.lload 5, 2) := by decide +kernel
theorem dX12_positiveOf_107 : decode cX12_positiveOf 107 = .ok (.lcmp, 1) := by decide +kernel
theorem dX12_positiveOf_108 : decode cX12_positiveOf 108 = .ok (.ifCond .le 17, 3) := by decide +kernel
theorem dX12_positiveOf_111 : decode cX12_positiveOf 111 = .ok (.goto 10, 3) := by decide +kernel
theorem dX12_positiveOf_114 : decode cX12_positiveOf 114 = .ok (.lload_n 2, 1) := by decide +kernel
theorem dX12_positiveOf_115 : decode cX12_positiveOf 115 = .ok (.lload 5, 2) := by decide +kernel
theorem dX12_positiveOf_117 : decode cX12_positiveOf 117 = .ok (.lcmp, 1) := by decide +kernel
theorem dX12_positiveOf_118 : decode cX12_positiveOf 118 = .ok (.ifCond .ne 7, 3) := by decide +kernel
theorem dX12_positiveOf_121 : decode cX12_positiveOf 121 = .ok (.iconst 1, 1) := by decide +kernel
theorem dX12_positiveOf_122 : decode cX12_positiveOf 122 = .ok (.goto 4, 3) := by decide +kernel
theorem dX12_positiveOf_125 : decode cX12_positiveOf 125 = .ok (.iconst 0, 1) := by decide +kernel
theorem dX12_positiveOf_126 : decode cX12_positiveOf 126 = .ok (.ireturn, 1) := by decide +kernel
abbrev YX12_positiveOf : zY := (yX12_positiveOf, cX12_positiveOf, 7, (Option.some Jvm.ClassFile.FieldType.boolean), [])
def fX12_testOf_45 (F : zFs) (rec : Nat → Int → Int → zDa → Option (Int × zDa)) (k_6 : Int → zDa → Option (Int × zDa)) (o1 : Int) (s0 : Int) (D : zDa) : Option (Int × zDa) :=
  k_6 s0 D
def fX12_testOf_40 (F : zFs) (rec : Nat → Int → Int → zDa → Option (Int × zDa)) (k_6 : Int → zDa → Option (Int × zDa)) (o1 : Int) (D : zDa) : Option (Int × zDa) :=
  fX12_testOf_45 F rec k_6 o1 1 D
def fX12_testOf_28 (F : zFs) (rec : Nat → Int → Int → zDa → Option (Int × zDa)) (k_6 : Int → zDa → Option (Int × zDa)) (o1 : Int) (v2 : Int) (s0 : Int) (D : zDa) : Option (Int × zDa) :=
  (rec 1 s0 0 D).bind (fun (r_5, D_6) =>
    if v2 = 0 then
      if r_5 = 0 then
        fX12_testOf_45 F rec k_6 o1 0 D_6
      else
        fX12_testOf_40 F rec k_6 o1 D_6
    else
      fX12_testOf_40 F rec k_6 o1 D_6)
def fX12_testOf_27 (F : zFs) (rec : Nat → Int → Int → zDa → Option (Int × zDa)) (k_6 : Int → zDa → Option (Int × zDa)) (o1 : Int) (v2 : Int) (D : zDa) : Option (Int × zDa) :=
  fX12_testOf_28 F rec k_6 o1 v2 0 D
def fX12_testOf_6 (F : zFs) (rec : Nat → Int → Int → zDa → Option (Int × zDa)) (o1 : Int)  (k_6 : Int → zDa → Option (Int × zDa)) (v2 : Int) (D : zDa) : Option (Int × zDa) :=
  (fX12_passes0 F 5 D).bind (fun (r_3, D_4) =>
    if r_3 = 0 then
      if (v2 = 0 ∨ v2 = 1) then
        some (v2, D_4)
      else none
    else
      if o1 = 0 then
        fX12_testOf_27 F rec k_6 o1 v2 D_4
      else
        if v2 = 0 then
          fX12_testOf_28 F rec k_6 o1 v2 1 D_4
        else
          fX12_testOf_27 F rec k_6 o1 v2 D_4)
def bX12_testOf (F : zFs) (rec : Nat → Int → Int → zDa → Option (Int × zDa)) (v1 : Int) (D : zDa) : Option (Int × zDa) :=
  (rec 1 v1 0 D).bind (fun (r_1, D_2) =>
    zfix (fun _ _ => none) (fX12_testOf_6 F rec v1) zfu r_1 D_2)
set_option maxHeartbeats 20000000 in
theorem sX12_testOf_45 {l : Launch} {E : zE} {d : Nat} {F : zFs} {n sl : Nat} (hG : zG F) (rec : Nat → Int → Int → zDa → Option (Int × zDa)) (hr0 : ∀ (a b : Int) (D : zDa) r, rec 0 a b D = some r → zMet l E (d + 44) YX12_testOf [zR 91, zI a] (F, D, n, sl) (zcI F n sl r)) (hr1 : ∀ (a b : Int) (D : zDa) r, rec 1 a b D = some r → zMet l E (d + 44) YX12_bothOf [zR 91, zI a] (F, D, n, sl) (zcI F n sl r)) (hr2 : ∀ (a b : Int) (D : zDa) r, rec 2 a b D = some r → zMet l E (d + 44) YX12_plainOf [zR 91, zI a] (F, D, n, sl) (zcI F n sl r)) (hr3 : ∀ (a b : Int) (D : zDa) r, rec 3 a b D = some r → zMet l E (d + 44) YX12_positiveOf [zR 91, zI a] (F, D, n, sl) (zcI F n sl r))  (o1 : Int) (s0 : Int) (k_6 : Int → zDa → Option (Int × zDa)) (hk_6 : ∀ (u2 : Int) (D : zDa), zO l E (d + 45) YX12_testOf 6 [(0, zR 91), (1, zI o1), (2, zI u2)] [] (F, D, n, sl) (zcI F n sl) (k_6 u2 D)) (D : zDa) : zO l E (d + 45) YX12_testOf 45 [(0, zR 91), (1, zI o1)] [zI s0] (F, D, n, sl) (zcI F n sl) (fX12_testOf_45 F rec k_6 o1 s0 D) := by
  unfold fX12_testOf_45
  refine zO_istore_n dX12_testOf_45 (by decide) ?_
  refine zO_ls (ls' := [(0, zR 91), (1, zI o1), (2, zI s0)]) rfl ?_
  refine zO_goto (tgt := 6) dX12_testOf_46 rfl ?_
  refine zO_live [0, 1, 2] ?_
  exact hk_6 s0 D
set_option maxHeartbeats 20000000 in
theorem sX12_testOf_40 {l : Launch} {E : zE} {d : Nat} {F : zFs} {n sl : Nat} (hG : zG F) (rec : Nat → Int → Int → zDa → Option (Int × zDa)) (hr0 : ∀ (a b : Int) (D : zDa) r, rec 0 a b D = some r → zMet l E (d + 44) YX12_testOf [zR 91, zI a] (F, D, n, sl) (zcI F n sl r)) (hr1 : ∀ (a b : Int) (D : zDa) r, rec 1 a b D = some r → zMet l E (d + 44) YX12_bothOf [zR 91, zI a] (F, D, n, sl) (zcI F n sl r)) (hr2 : ∀ (a b : Int) (D : zDa) r, rec 2 a b D = some r → zMet l E (d + 44) YX12_plainOf [zR 91, zI a] (F, D, n, sl) (zcI F n sl r)) (hr3 : ∀ (a b : Int) (D : zDa) r, rec 3 a b D = some r → zMet l E (d + 44) YX12_positiveOf [zR 91, zI a] (F, D, n, sl) (zcI F n sl r))  (o1 : Int) (k_6 : Int → zDa → Option (Int × zDa)) (hk_6 : ∀ (u2 : Int) (D : zDa), zO l E (d + 45) YX12_testOf 6 [(0, zR 91), (1, zI o1), (2, zI u2)] [] (F, D, n, sl) (zcI F n sl) (k_6 u2 D)) (D : zDa) : zO l E (d + 45) YX12_testOf 40 [(0, zR 91), (1, zI o1)] [] (F, D, n, sl) (zcI F n sl) (fX12_testOf_40 F rec k_6 o1 D) := by
  unfold fX12_testOf_40
  refine zO_iconst dX12_testOf_40 (by decide) ?_
  refine zO_goto (tgt := 45) dX12_testOf_41 rfl ?_
  refine zO_live [0, 1] ?_
  exact sX12_testOf_45 hG rec hr0 hr1 hr2 hr3 o1 1 _ hk_6 D
set_option maxHeartbeats 20000000 in
theorem sX12_testOf_28 {l : Launch} {E : zE} {d : Nat} {F : zFs} {n sl : Nat} (hG : zG F) (rec : Nat → Int → Int → zDa → Option (Int × zDa)) (hr0 : ∀ (a b : Int) (D : zDa) r, rec 0 a b D = some r → zMet l E (d + 44) YX12_testOf [zR 91, zI a] (F, D, n, sl) (zcI F n sl r)) (hr1 : ∀ (a b : Int) (D : zDa) r, rec 1 a b D = some r → zMet l E (d + 44) YX12_bothOf [zR 91, zI a] (F, D, n, sl) (zcI F n sl r)) (hr2 : ∀ (a b : Int) (D : zDa) r, rec 2 a b D = some r → zMet l E (d + 44) YX12_plainOf [zR 91, zI a] (F, D, n, sl) (zcI F n sl r)) (hr3 : ∀ (a b : Int) (D : zDa) r, rec 3 a b D = some r → zMet l E (d + 44) YX12_positiveOf [zR 91, zI a] (F, D, n, sl) (zcI F n sl r))  (o1 : Int) (v2 : Int) (s0 : Int) (k_6 : Int → zDa → Option (Int × zDa)) (hk_6 : ∀ (u2 : Int) (D : zDa), zO l E (d + 45) YX12_testOf 6 [(0, zR 91), (1, zI o1), (2, zI u2)] [] (F, D, n, sl) (zcI F n sl) (k_6 u2 D)) (D : zDa) : zO l E (d + 45) YX12_testOf 28 [(0, zR 91), (1, zI o1), (2, zI v2)] [zI s0, zR 91] (F, D, n, sl) (zcI F n sl) (fX12_testOf_28 F rec k_6 o1 v2 s0 D) := by
  unfold fX12_testOf_28
  refine zO_callV (Y' := YX12_bothOf) (cw := zcI F n sl) (as := [zI s0]) (rest := []) (na := 1) (ci := 12) rfl dX12_testOf_28 wC_X12_bothOf wN_X12 wM_X12_277 wI_X12_bothOf wV_X12_bothOf (by decide) (by decide) rfl rfl (Nat.le_of_ble_eq_true rfl) rfl (by decide) (gk_91 hG) (fun r hr => hr1 s0 0 _ r hr) ?_
  rintro ⟨r_5, D_6⟩ -
  show zO _ _ _ _ _ _ [zI r_5] (F, D_6, n, sl) _ _
  refine zO_istore_n dX12_testOf_31 (by decide) ?_
  refine zO_ls (ls' := [(0, zR 91), (1, zI o1), (2, zI v2), (3, zI r_5)]) rfl ?_
  refine zO_iload_n dX12_testOf_32 rfl ?_
  refine zO_if_ne (tgt := 40) dX12_testOf_33 rfl (fun c33 => ?_) (fun c33 => ?_)
  · refine zO_iload_n dX12_testOf_36 rfl ?_
    refine zO_if_eq (tgt := 44) dX12_testOf_37 rfl (fun c37 => ?_) (fun c37 => ?_)
    · refine zO_iconst dX12_testOf_44 (by decide) ?_
      refine zO_live [0, 1] ?_
      exact sX12_testOf_45 hG rec hr0 hr1 hr2 hr3 o1 0 _ hk_6 D_6
    · refine zO_live [0, 1] ?_
      exact sX12_testOf_40 hG rec hr0 hr1 hr2 hr3 o1 _ hk_6 D_6
  · refine zO_live [0, 1] ?_
    exact sX12_testOf_40 hG rec hr0 hr1 hr2 hr3 o1 _ hk_6 D_6
set_option maxHeartbeats 20000000 in
theorem sX12_testOf_27 {l : Launch} {E : zE} {d : Nat} {F : zFs} {n sl : Nat} (hG : zG F) (rec : Nat → Int → Int → zDa → Option (Int × zDa)) (hr0 : ∀ (a b : Int) (D : zDa) r, rec 0 a b D = some r → zMet l E (d + 44) YX12_testOf [zR 91, zI a] (F, D, n, sl) (zcI F n sl r)) (hr1 : ∀ (a b : Int) (D : zDa) r, rec 1 a b D = some r → zMet l E (d + 44) YX12_bothOf [zR 91, zI a] (F, D, n, sl) (zcI F n sl r)) (hr2 : ∀ (a b : Int) (D : zDa) r, rec 2 a b D = some r → zMet l E (d + 44) YX12_plainOf [zR 91, zI a] (F, D, n, sl) (zcI F n sl r)) (hr3 : ∀ (a b : Int) (D : zDa) r, rec 3 a b D = some r → zMet l E (d + 44) YX12_positiveOf [zR 91, zI a] (F, D, n, sl) (zcI F n sl r))  (o1 : Int) (v2 : Int) (k_6 : Int → zDa → Option (Int × zDa)) (hk_6 : ∀ (u2 : Int) (D : zDa), zO l E (d + 45) YX12_testOf 6 [(0, zR 91), (1, zI o1), (2, zI u2)] [] (F, D, n, sl) (zcI F n sl) (k_6 u2 D)) (D : zDa) : zO l E (d + 45) YX12_testOf 27 [(0, zR 91), (1, zI o1), (2, zI v2)] [zR 91] (F, D, n, sl) (zcI F n sl) (fX12_testOf_27 F rec k_6 o1 v2 D) := by
  unfold fX12_testOf_27
  refine zO_iconst dX12_testOf_27 (by decide) ?_
  refine zO_live [0, 1, 2] ?_
  exact sX12_testOf_28 hG rec hr0 hr1 hr2 hr3 o1 v2 0 _ hk_6 D
set_option maxHeartbeats 20000000 in
theorem sX12_testOf_6 {l : Launch} {E : zE} {d : Nat} {F : zFs} {n sl : Nat} (hG : zG F) (rec : Nat → Int → Int → zDa → Option (Int × zDa)) (hr0 : ∀ (a b : Int) (D : zDa) r, rec 0 a b D = some r → zMet l E (d + 44) YX12_testOf [zR 91, zI a] (F, D, n, sl) (zcI F n sl r)) (hr1 : ∀ (a b : Int) (D : zDa) r, rec 1 a b D = some r → zMet l E (d + 44) YX12_bothOf [zR 91, zI a] (F, D, n, sl) (zcI F n sl r)) (hr2 : ∀ (a b : Int) (D : zDa) r, rec 2 a b D = some r → zMet l E (d + 44) YX12_plainOf [zR 91, zI a] (F, D, n, sl) (zcI F n sl r)) (hr3 : ∀ (a b : Int) (D : zDa) r, rec 3 a b D = some r → zMet l E (d + 44) YX12_positiveOf [zR 91, zI a] (F, D, n, sl) (zcI F n sl r))  (o1 : Int)   : ∀ (N : Nat) (v2 : Int) (D : zDa), zO l E (d + 45) YX12_testOf 6 [(0, zR 91), (1, zI o1), (2, zI v2)] [] (F, D, n, sl) (zcI F n sl) (zfix (fun _ _ => none) (fX12_testOf_6 F rec o1) N v2 D) := by
  intro N
  induction N with
  | zero => intro v2 D; exact zO_none
  | succ N hk_6 =>
    intro v2 D
    show zO _ _ _ _ _ _ _ _ _ ((fX12_testOf_6 F rec o1) (zfix (fun _ _ => none) (fX12_testOf_6 F rec o1) N) v2 D)
    unfold fX12_testOf_6
    refine zO_aload_n dX12_testOf_6 rfl (zR_P _) ?_
    refine zO_iconst dX12_testOf_7 (by decide) ?_
    refine zO_callV (Y' := YX12_passes0) (cw := zcI F n sl) (as := [zI 5]) (rest := []) (na := 1) (ci := 12) rfl dX12_testOf_8 wC_X12_passes0 wN_X12 wM_X12_271 wI_X12_passes0 wV_X12_passes0 (by decide) (by decide) rfl rfl (Nat.le_of_ble_eq_true rfl) rfl (by decide) (gk_91 hG) (fun r hr => zMet_cast (Nat.add_assoc d 43 1) (mX12_passes0 (d := d + 43) hG 5 r hr)) ?_
    rintro ⟨r_3, D_4⟩ -
    show zO _ _ _ _ _ _ [zI r_3] (F, D_4, n, sl) _ _
    refine zO_if_eq (tgt := 49) dX12_testOf_11 rfl (fun c11 => ?_) (fun c11 => ?_)
    · refine zO_chk (fun h1 => ?_)
      refine zO_iload_n dX12_testOf_49 rfl ?_
      exact zO_ret (rv := some (zI v2)) dX12_testOf_50 rfl (zretok_z h1) rfl
    · refine zO_aload_n dX12_testOf_14 rfl (zR_P _) ?_
      refine zO_iload_n dX12_testOf_15 rfl ?_
      refine zO_if_eq (tgt := 27) dX12_testOf_16 rfl (fun c16 => ?_) (fun c16 => ?_)
      · refine zO_live [0, 1, 2] ?_
        exact sX12_testOf_27 hG rec hr0 hr1 hr2 hr3 o1 v2 _ hk_6 D_4
      · refine zO_iload_n dX12_testOf_19 rfl ?_
        refine zO_if_ne (tgt := 27) dX12_testOf_20 rfl (fun c20 => ?_) (fun c20 => ?_)
        · refine zO_iconst dX12_testOf_23 (by decide) ?_
          refine zO_goto (tgt := 28) dX12_testOf_24 rfl ?_
          refine zO_live [0, 1, 2] ?_
          exact sX12_testOf_28 hG rec hr0 hr1 hr2 hr3 o1 v2 1 _ hk_6 D_4
        · refine zO_live [0, 1, 2] ?_
          exact sX12_testOf_27 hG rec hr0 hr1 hr2 hr3 o1 v2 _ hk_6 D_4
set_option maxHeartbeats 20000000 in
theorem mbX12_testOf {l : Launch} {E : zE} {d : Nat} {F : zFs} {n sl : Nat} (hG : zG F) (rec : Nat → Int → Int → zDa → Option (Int × zDa)) (hr0 : ∀ (a b : Int) (D : zDa) r, rec 0 a b D = some r → zMet l E (d + 44) YX12_testOf [zR 91, zI a] (F, D, n, sl) (zcI F n sl r)) (hr1 : ∀ (a b : Int) (D : zDa) r, rec 1 a b D = some r → zMet l E (d + 44) YX12_bothOf [zR 91, zI a] (F, D, n, sl) (zcI F n sl r)) (hr2 : ∀ (a b : Int) (D : zDa) r, rec 2 a b D = some r → zMet l E (d + 44) YX12_plainOf [zR 91, zI a] (F, D, n, sl) (zcI F n sl r)) (hr3 : ∀ (a b : Int) (D : zDa) r, rec 3 a b D = some r → zMet l E (d + 44) YX12_positiveOf [zR 91, zI a] (F, D, n, sl) (zcI F n sl r)) (v1 : Int) {D : zDa} : ∀ r, bX12_testOf F rec v1 D = some r → zMet l E (d + 45) YX12_testOf [zR 91, zI v1] (F, D, n, sl) (zcI F n sl r) := by
  intro r hr
  refine zMet_of (plainFor_of_name (by decide)) (fun _ h => (nomatch h)) (Nat.le_of_ble_eq_true rfl) ?_
  have hz : zO l E (d + 45) YX12_testOf 0 [(0, zR 91), (1, zI v1)] [] (F, D, n, sl) (zcI F n sl) (bX12_testOf F rec v1 D) := by
    unfold bX12_testOf
    refine zO_aload_n dX12_testOf_0 rfl (zR_P _) ?_
    refine zO_iload_n dX12_testOf_1 rfl ?_
    refine zO_callV (Y' := YX12_bothOf) (cw := zcI F n sl) (as := [zI v1]) (rest := []) (na := 1) (ci := 12) rfl dX12_testOf_2 wC_X12_bothOf wN_X12 wM_X12_277 wI_X12_bothOf wV_X12_bothOf (by decide) (by decide) rfl rfl (Nat.le_of_ble_eq_true rfl) rfl (by decide) (gk_91 hG) (fun r hr => hr1 v1 0 _ r hr) ?_
    rintro ⟨r_1, D_2⟩ -
    show zO _ _ _ _ _ _ [zI r_1] (F, D_2, n, sl) _ _
    refine zO_istore_n dX12_testOf_5 (by decide) ?_
    refine zO_ls (ls' := [(0, zR 91), (1, zI v1), (2, zI r_1)]) rfl ?_
    refine zO_live [0, 1, 2] ?_
    exact sX12_testOf_6 hG rec hr0 hr1 hr2 hr3 v1 zfu r_1 D_2
  exact hz r hr
def fX12_bothOf_46 (F : zFs) (rec : Nat → Int → Int → zDa → Option (Int × zDa)) (k_6 : Int → zDa → Option (Int × zDa)) (o1 : Int) (s0 : Int) (D : zDa) : Option (Int × zDa) :=
  k_6 s0 D
def fX12_bothOf_45 (F : zFs) (rec : Nat → Int → Int → zDa → Option (Int × zDa)) (k_6 : Int → zDa → Option (Int × zDa)) (o1 : Int) (D : zDa) : Option (Int × zDa) :=
  fX12_bothOf_46 F rec k_6 o1 0 D
def fX12_bothOf_29 (F : zFs) (rec : Nat → Int → Int → zDa → Option (Int × zDa)) (k_6 : Int → zDa → Option (Int × zDa)) (o1 : Int) (v2 : Int) (s0 : Int) (D : zDa) : Option (Int × zDa) :=
  (rec 2 s0 0 D).bind (fun (r_5, D_6) =>
    if v2 = 0 then
      fX12_bothOf_45 F rec k_6 o1 D_6
    else
      if r_5 = 0 then
        fX12_bothOf_45 F rec k_6 o1 D_6
      else
        fX12_bothOf_46 F rec k_6 o1 1 D_6)
def fX12_bothOf_28 (F : zFs) (rec : Nat → Int → Int → zDa → Option (Int × zDa)) (k_6 : Int → zDa → Option (Int × zDa)) (o1 : Int) (v2 : Int) (D : zDa) : Option (Int × zDa) :=
  fX12_bothOf_29 F rec k_6 o1 v2 0 D
def fX12_bothOf_6 (F : zFs) (rec : Nat → Int → Int → zDa → Option (Int × zDa)) (o1 : Int)  (k_6 : Int → zDa → Option (Int × zDa)) (v2 : Int) (D : zDa) : Option (Int × zDa) :=
  (fX12_passes0 F 6 D).bind (fun (r_3, D_4) =>
    if r_3 = 0 then
      if (v2 = 0 ∨ v2 = 1) then
        some (v2, D_4)
      else none
    else
      if o1 = 0 then
        fX12_bothOf_28 F rec k_6 o1 v2 D_4
      else
        if v2 = 0 then
          fX12_bothOf_28 F rec k_6 o1 v2 D_4
        else
          fX12_bothOf_29 F rec k_6 o1 v2 1 D_4)
def bX12_bothOf (F : zFs) (rec : Nat → Int → Int → zDa → Option (Int × zDa)) (v1 : Int) (D : zDa) : Option (Int × zDa) :=
  (rec 2 v1 0 D).bind (fun (r_1, D_2) =>
    zfix (fun _ _ => none) (fX12_bothOf_6 F rec v1) zfu r_1 D_2)
set_option maxHeartbeats 20000000 in
theorem sX12_bothOf_46 {l : Launch} {E : zE} {d : Nat} {F : zFs} {n sl : Nat} (hG : zG F) (rec : Nat → Int → Int → zDa → Option (Int × zDa)) (hr0 : ∀ (a b : Int) (D : zDa) r, rec 0 a b D = some r → zMet l E (d + 44) YX12_testOf [zR 91, zI a] (F, D, n, sl) (zcI F n sl r)) (hr1 : ∀ (a b : Int) (D : zDa) r, rec 1 a b D = some r → zMet l E (d + 44) YX12_bothOf [zR 91, zI a] (F, D, n, sl) (zcI F n sl r)) (hr2 : ∀ (a b : Int) (D : zDa) r, rec 2 a b D = some r → zMet l E (d + 44) YX12_plainOf [zR 91, zI a] (F, D, n, sl) (zcI F n sl r)) (hr3 : ∀ (a b : Int) (D : zDa) r, rec 3 a b D = some r → zMet l E (d + 44) YX12_positiveOf [zR 91, zI a] (F, D, n, sl) (zcI F n sl r))  (o1 : Int) (s0 : Int) (k_6 : Int → zDa → Option (Int × zDa)) (hk_6 : ∀ (u2 : Int) (D : zDa), zO l E (d + 45) YX12_bothOf 6 [(0, zR 91), (1, zI o1), (2, zI u2)] [] (F, D, n, sl) (zcI F n sl) (k_6 u2 D)) (D : zDa) : zO l E (d + 45) YX12_bothOf 46 [(0, zR 91), (1, zI o1)] [zI s0] (F, D, n, sl) (zcI F n sl) (fX12_bothOf_46 F rec k_6 o1 s0 D) := by
  unfold fX12_bothOf_46
  refine zO_istore_n dX12_bothOf_46 (by decide) ?_
  refine zO_ls (ls' := [(0, zR 91), (1, zI o1), (2, zI s0)]) rfl ?_
  refine zO_goto (tgt := 6) dX12_bothOf_47 rfl ?_
  refine zO_live [0, 1, 2] ?_
  exact hk_6 s0 D
set_option maxHeartbeats 20000000 in
theorem sX12_bothOf_45 {l : Launch} {E : zE} {d : Nat} {F : zFs} {n sl : Nat} (hG : zG F) (rec : Nat → Int → Int → zDa → Option (Int × zDa)) (hr0 : ∀ (a b : Int) (D : zDa) r, rec 0 a b D = some r → zMet l E (d + 44) YX12_testOf [zR 91, zI a] (F, D, n, sl) (zcI F n sl r)) (hr1 : ∀ (a b : Int) (D : zDa) r, rec 1 a b D = some r → zMet l E (d + 44) YX12_bothOf [zR 91, zI a] (F, D, n, sl) (zcI F n sl r)) (hr2 : ∀ (a b : Int) (D : zDa) r, rec 2 a b D = some r → zMet l E (d + 44) YX12_plainOf [zR 91, zI a] (F, D, n, sl) (zcI F n sl r)) (hr3 : ∀ (a b : Int) (D : zDa) r, rec 3 a b D = some r → zMet l E (d + 44) YX12_positiveOf [zR 91, zI a] (F, D, n, sl) (zcI F n sl r))  (o1 : Int) (k_6 : Int → zDa → Option (Int × zDa)) (hk_6 : ∀ (u2 : Int) (D : zDa), zO l E (d + 45) YX12_bothOf 6 [(0, zR 91), (1, zI o1), (2, zI u2)] [] (F, D, n, sl) (zcI F n sl) (k_6 u2 D)) (D : zDa) : zO l E (d + 45) YX12_bothOf 45 [(0, zR 91), (1, zI o1)] [] (F, D, n, sl) (zcI F n sl) (fX12_bothOf_45 F rec k_6 o1 D) := by
  unfold fX12_bothOf_45
  refine zO_iconst dX12_bothOf_45 (by decide) ?_
  refine zO_live [0, 1] ?_
  exact sX12_bothOf_46 hG rec hr0 hr1 hr2 hr3 o1 0 _ hk_6 D
set_option maxHeartbeats 20000000 in
theorem sX12_bothOf_29 {l : Launch} {E : zE} {d : Nat} {F : zFs} {n sl : Nat} (hG : zG F) (rec : Nat → Int → Int → zDa → Option (Int × zDa)) (hr0 : ∀ (a b : Int) (D : zDa) r, rec 0 a b D = some r → zMet l E (d + 44) YX12_testOf [zR 91, zI a] (F, D, n, sl) (zcI F n sl r)) (hr1 : ∀ (a b : Int) (D : zDa) r, rec 1 a b D = some r → zMet l E (d + 44) YX12_bothOf [zR 91, zI a] (F, D, n, sl) (zcI F n sl r)) (hr2 : ∀ (a b : Int) (D : zDa) r, rec 2 a b D = some r → zMet l E (d + 44) YX12_plainOf [zR 91, zI a] (F, D, n, sl) (zcI F n sl r)) (hr3 : ∀ (a b : Int) (D : zDa) r, rec 3 a b D = some r → zMet l E (d + 44) YX12_positiveOf [zR 91, zI a] (F, D, n, sl) (zcI F n sl r))  (o1 : Int) (v2 : Int) (s0 : Int) (k_6 : Int → zDa → Option (Int × zDa)) (hk_6 : ∀ (u2 : Int) (D : zDa), zO l E (d + 45) YX12_bothOf 6 [(0, zR 91), (1, zI o1), (2, zI u2)] [] (F, D, n, sl) (zcI F n sl) (k_6 u2 D)) (D : zDa) : zO l E (d + 45) YX12_bothOf 29 [(0, zR 91), (1, zI o1), (2, zI v2)] [zI s0, zR 91] (F, D, n, sl) (zcI F n sl) (fX12_bothOf_29 F rec k_6 o1 v2 s0 D) := by
  unfold fX12_bothOf_29
  refine zO_callV (Y' := YX12_plainOf) (cw := zcI F n sl) (as := [zI s0]) (rest := []) (na := 1) (ci := 12) rfl dX12_bothOf_29 wC_X12_plainOf wN_X12 wM_X12_281 wI_X12_plainOf wV_X12_plainOf (by decide) (by decide) rfl rfl (Nat.le_of_ble_eq_true rfl) rfl (by decide) (gk_91 hG) (fun r hr => hr2 s0 0 _ r hr) ?_
  rintro ⟨r_5, D_6⟩ -
  show zO _ _ _ _ _ _ [zI r_5] (F, D_6, n, sl) _ _
  refine zO_istore_n dX12_bothOf_32 (by decide) ?_
  refine zO_ls (ls' := [(0, zR 91), (1, zI o1), (2, zI v2), (3, zI r_5)]) rfl ?_
  refine zO_iload_n dX12_bothOf_33 rfl ?_
  refine zO_if_eq (tgt := 45) dX12_bothOf_34 rfl (fun c34 => ?_) (fun c34 => ?_)
  · refine zO_live [0, 1] ?_
    exact sX12_bothOf_45 hG rec hr0 hr1 hr2 hr3 o1 _ hk_6 D_6
  · refine zO_iload_n dX12_bothOf_37 rfl ?_
    refine zO_if_eq (tgt := 45) dX12_bothOf_38 rfl (fun c38 => ?_) (fun c38 => ?_)
    · refine zO_live [0, 1] ?_
      exact sX12_bothOf_45 hG rec hr0 hr1 hr2 hr3 o1 _ hk_6 D_6
    · refine zO_iconst dX12_bothOf_41 (by decide) ?_
      refine zO_goto (tgt := 46) dX12_bothOf_42 rfl ?_
      refine zO_live [0, 1] ?_
      exact sX12_bothOf_46 hG rec hr0 hr1 hr2 hr3 o1 1 _ hk_6 D_6
set_option maxHeartbeats 20000000 in
theorem sX12_bothOf_28 {l : Launch} {E : zE} {d : Nat} {F : zFs} {n sl : Nat} (hG : zG F) (rec : Nat → Int → Int → zDa → Option (Int × zDa)) (hr0 : ∀ (a b : Int) (D : zDa) r, rec 0 a b D = some r → zMet l E (d + 44) YX12_testOf [zR 91, zI a] (F, D, n, sl) (zcI F n sl r)) (hr1 : ∀ (a b : Int) (D : zDa) r, rec 1 a b D = some r → zMet l E (d + 44) YX12_bothOf [zR 91, zI a] (F, D, n, sl) (zcI F n sl r)) (hr2 : ∀ (a b : Int) (D : zDa) r, rec 2 a b D = some r → zMet l E (d + 44) YX12_plainOf [zR 91, zI a] (F, D, n, sl) (zcI F n sl r)) (hr3 : ∀ (a b : Int) (D : zDa) r, rec 3 a b D = some r → zMet l E (d + 44) YX12_positiveOf [zR 91, zI a] (F, D, n, sl) (zcI F n sl r))  (o1 : Int) (v2 : Int) (k_6 : Int → zDa → Option (Int × zDa)) (hk_6 : ∀ (u2 : Int) (D : zDa), zO l E (d + 45) YX12_bothOf 6 [(0, zR 91), (1, zI o1), (2, zI u2)] [] (F, D, n, sl) (zcI F n sl) (k_6 u2 D)) (D : zDa) : zO l E (d + 45) YX12_bothOf 28 [(0, zR 91), (1, zI o1), (2, zI v2)] [zR 91] (F, D, n, sl) (zcI F n sl) (fX12_bothOf_28 F rec k_6 o1 v2 D) := by
  unfold fX12_bothOf_28
  refine zO_iconst dX12_bothOf_28 (by decide) ?_
  refine zO_live [0, 1, 2] ?_
  exact sX12_bothOf_29 hG rec hr0 hr1 hr2 hr3 o1 v2 0 _ hk_6 D
set_option maxHeartbeats 20000000 in
theorem sX12_bothOf_6 {l : Launch} {E : zE} {d : Nat} {F : zFs} {n sl : Nat} (hG : zG F) (rec : Nat → Int → Int → zDa → Option (Int × zDa)) (hr0 : ∀ (a b : Int) (D : zDa) r, rec 0 a b D = some r → zMet l E (d + 44) YX12_testOf [zR 91, zI a] (F, D, n, sl) (zcI F n sl r)) (hr1 : ∀ (a b : Int) (D : zDa) r, rec 1 a b D = some r → zMet l E (d + 44) YX12_bothOf [zR 91, zI a] (F, D, n, sl) (zcI F n sl r)) (hr2 : ∀ (a b : Int) (D : zDa) r, rec 2 a b D = some r → zMet l E (d + 44) YX12_plainOf [zR 91, zI a] (F, D, n, sl) (zcI F n sl r)) (hr3 : ∀ (a b : Int) (D : zDa) r, rec 3 a b D = some r → zMet l E (d + 44) YX12_positiveOf [zR 91, zI a] (F, D, n, sl) (zcI F n sl r))  (o1 : Int)   : ∀ (N : Nat) (v2 : Int) (D : zDa), zO l E (d + 45) YX12_bothOf 6 [(0, zR 91), (1, zI o1), (2, zI v2)] [] (F, D, n, sl) (zcI F n sl) (zfix (fun _ _ => none) (fX12_bothOf_6 F rec o1) N v2 D) := by
  intro N
  induction N with
  | zero => intro v2 D; exact zO_none
  | succ N hk_6 =>
    intro v2 D
    show zO _ _ _ _ _ _ _ _ _ ((fX12_bothOf_6 F rec o1) (zfix (fun _ _ => none) (fX12_bothOf_6 F rec o1) N) v2 D)
    unfold fX12_bothOf_6
    refine zO_aload_n dX12_bothOf_6 rfl (zR_P _) ?_
    refine zO_bipush dX12_bothOf_7 (by decide) ?_
    refine zO_callV (Y' := YX12_passes0) (cw := zcI F n sl) (as := [zI 6]) (rest := []) (na := 1) (ci := 12) rfl dX12_bothOf_9 wC_X12_passes0 wN_X12 wM_X12_271 wI_X12_passes0 wV_X12_passes0 (by decide) (by decide) rfl rfl (Nat.le_of_ble_eq_true rfl) rfl (by decide) (gk_91 hG) (fun r hr => zMet_cast (Nat.add_assoc d 43 1) (mX12_passes0 (d := d + 43) hG 6 r hr)) ?_
    rintro ⟨r_3, D_4⟩ -
    show zO _ _ _ _ _ _ [zI r_3] (F, D_4, n, sl) _ _
    refine zO_if_eq (tgt := 50) dX12_bothOf_12 rfl (fun c12 => ?_) (fun c12 => ?_)
    · refine zO_chk (fun h1 => ?_)
      refine zO_iload_n dX12_bothOf_50 rfl ?_
      exact zO_ret (rv := some (zI v2)) dX12_bothOf_51 rfl (zretok_z h1) rfl
    · refine zO_aload_n dX12_bothOf_15 rfl (zR_P _) ?_
      refine zO_iload_n dX12_bothOf_16 rfl ?_
      refine zO_if_eq (tgt := 28) dX12_bothOf_17 rfl (fun c17 => ?_) (fun c17 => ?_)
      · refine zO_live [0, 1, 2] ?_
        exact sX12_bothOf_28 hG rec hr0 hr1 hr2 hr3 o1 v2 _ hk_6 D_4
      · refine zO_iload_n dX12_bothOf_20 rfl ?_
        refine zO_if_eq (tgt := 28) dX12_bothOf_21 rfl (fun c21 => ?_) (fun c21 => ?_)
        · refine zO_live [0, 1, 2] ?_
          exact sX12_bothOf_28 hG rec hr0 hr1 hr2 hr3 o1 v2 _ hk_6 D_4
        · refine zO_iconst dX12_bothOf_24 (by decide) ?_
          refine zO_goto (tgt := 29) dX12_bothOf_25 rfl ?_
          refine zO_live [0, 1, 2] ?_
          exact sX12_bothOf_29 hG rec hr0 hr1 hr2 hr3 o1 v2 1 _ hk_6 D_4
set_option maxHeartbeats 20000000 in
theorem mbX12_bothOf {l : Launch} {E : zE} {d : Nat} {F : zFs} {n sl : Nat} (hG : zG F) (rec : Nat → Int → Int → zDa → Option (Int × zDa)) (hr0 : ∀ (a b : Int) (D : zDa) r, rec 0 a b D = some r → zMet l E (d + 44) YX12_testOf [zR 91, zI a] (F, D, n, sl) (zcI F n sl r)) (hr1 : ∀ (a b : Int) (D : zDa) r, rec 1 a b D = some r → zMet l E (d + 44) YX12_bothOf [zR 91, zI a] (F, D, n, sl) (zcI F n sl r)) (hr2 : ∀ (a b : Int) (D : zDa) r, rec 2 a b D = some r → zMet l E (d + 44) YX12_plainOf [zR 91, zI a] (F, D, n, sl) (zcI F n sl r)) (hr3 : ∀ (a b : Int) (D : zDa) r, rec 3 a b D = some r → zMet l E (d + 44) YX12_positiveOf [zR 91, zI a] (F, D, n, sl) (zcI F n sl r)) (v1 : Int) {D : zDa} : ∀ r, bX12_bothOf F rec v1 D = some r → zMet l E (d + 45) YX12_bothOf [zR 91, zI v1] (F, D, n, sl) (zcI F n sl r) := by
  intro r hr
  refine zMet_of (plainFor_of_name (by decide)) (fun _ h => (nomatch h)) (Nat.le_of_ble_eq_true rfl) ?_
  have hz : zO l E (d + 45) YX12_bothOf 0 [(0, zR 91), (1, zI v1)] [] (F, D, n, sl) (zcI F n sl) (bX12_bothOf F rec v1 D) := by
    unfold bX12_bothOf
    refine zO_aload_n dX12_bothOf_0 rfl (zR_P _) ?_
    refine zO_iload_n dX12_bothOf_1 rfl ?_
    refine zO_callV (Y' := YX12_plainOf) (cw := zcI F n sl) (as := [zI v1]) (rest := []) (na := 1) (ci := 12) rfl dX12_bothOf_2 wC_X12_plainOf wN_X12 wM_X12_281 wI_X12_plainOf wV_X12_plainOf (by decide) (by decide) rfl rfl (Nat.le_of_ble_eq_true rfl) rfl (by decide) (gk_91 hG) (fun r hr => hr2 v1 0 _ r hr) ?_
    rintro ⟨r_1, D_2⟩ -
    show zO _ _ _ _ _ _ [zI r_1] (F, D_2, n, sl) _ _
    refine zO_istore_n dX12_bothOf_5 (by decide) ?_
    refine zO_ls (ls' := [(0, zR 91), (1, zI v1), (2, zI r_1)]) rfl ?_
    refine zO_live [0, 1, 2] ?_
    exact sX12_bothOf_6 hG rec hr0 hr1 hr2 hr3 v1 zfu r_1 D_2
  exact hz r hr
def fX12_plainOf_20 (F : zFs) (rec : Nat → Int → Int → zDa → Option (Int × zDa)) (k_2 : Int → zDa → Option (Int × zDa)) (o1 : Int) (s0 : Int) (D : zDa) : Option (Int × zDa) :=
  k_2 s0 D
def fX12_plainOf_2 (F : zFs) (rec : Nat → Int → Int → zDa → Option (Int × zDa)) (o1 : Int)  (k_2 : Int → zDa → Option (Int × zDa)) (v2 : Int) (D : zDa) : Option (Int × zDa) :=
  (fX12_passes0 F 7 D).bind (fun (r_1, D_2) =>
    if r_1 = 0 then
      (rec 3 o1 0 D_2).bind (fun (r_3, D_4) =>
        if r_3 = v2 then
          some (0, D_4)
        else
          some (1, D_4))
    else
      if v2 = 0 then
        fX12_plainOf_20 F rec k_2 o1 1 D_2
      else
        fX12_plainOf_20 F rec k_2 o1 0 D_2)
def bX12_plainOf (F : zFs) (rec : Nat → Int → Int → zDa → Option (Int × zDa)) (v1 : Int) (D : zDa) : Option (Int × zDa) :=
  zfix (fun _ _ => none) (fX12_plainOf_2 F rec v1) zfu 0 D
set_option maxHeartbeats 20000000 in
theorem sX12_plainOf_20 {l : Launch} {E : zE} {d : Nat} {F : zFs} {n sl : Nat} (hG : zG F) (rec : Nat → Int → Int → zDa → Option (Int × zDa)) (hr0 : ∀ (a b : Int) (D : zDa) r, rec 0 a b D = some r → zMet l E (d + 44) YX12_testOf [zR 91, zI a] (F, D, n, sl) (zcI F n sl r)) (hr1 : ∀ (a b : Int) (D : zDa) r, rec 1 a b D = some r → zMet l E (d + 44) YX12_bothOf [zR 91, zI a] (F, D, n, sl) (zcI F n sl r)) (hr2 : ∀ (a b : Int) (D : zDa) r, rec 2 a b D = some r → zMet l E (d + 44) YX12_plainOf [zR 91, zI a] (F, D, n, sl) (zcI F n sl r)) (hr3 : ∀ (a b : Int) (D : zDa) r, rec 3 a b D = some r → zMet l E (d + 44) YX12_positiveOf [zR 91, zI a] (F, D, n, sl) (zcI F n sl r))  (o1 : Int) (s0 : Int) (k_2 : Int → zDa → Option (Int × zDa)) (hk_2 : ∀ (u2 : Int) (D : zDa), zO l E (d + 45) YX12_plainOf 2 [(0, zR 91), (1, zI o1), (2, zI u2)] [] (F, D, n, sl) (zcI F n sl) (k_2 u2 D)) (D : zDa) : zO l E (d + 45) YX12_plainOf 20 [(0, zR 91), (1, zI o1)] [zI s0] (F, D, n, sl) (zcI F n sl) (fX12_plainOf_20 F rec k_2 o1 s0 D) := by
  unfold fX12_plainOf_20
  refine zO_istore_n dX12_plainOf_20 (by decide) ?_
  refine zO_ls (ls' := [(0, zR 91), (1, zI o1), (2, zI s0)]) rfl ?_
  refine zO_goto (tgt := 2) dX12_plainOf_21 rfl ?_
  refine zO_live [0, 1, 2] ?_
  exact hk_2 s0 D
set_option maxHeartbeats 20000000 in
theorem sX12_plainOf_2 {l : Launch} {E : zE} {d : Nat} {F : zFs} {n sl : Nat} (hG : zG F) (rec : Nat → Int → Int → zDa → Option (Int × zDa)) (hr0 : ∀ (a b : Int) (D : zDa) r, rec 0 a b D = some r → zMet l E (d + 44) YX12_testOf [zR 91, zI a] (F, D, n, sl) (zcI F n sl r)) (hr1 : ∀ (a b : Int) (D : zDa) r, rec 1 a b D = some r → zMet l E (d + 44) YX12_bothOf [zR 91, zI a] (F, D, n, sl) (zcI F n sl r)) (hr2 : ∀ (a b : Int) (D : zDa) r, rec 2 a b D = some r → zMet l E (d + 44) YX12_plainOf [zR 91, zI a] (F, D, n, sl) (zcI F n sl r)) (hr3 : ∀ (a b : Int) (D : zDa) r, rec 3 a b D = some r → zMet l E (d + 44) YX12_positiveOf [zR 91, zI a] (F, D, n, sl) (zcI F n sl r))  (o1 : Int)   : ∀ (N : Nat) (v2 : Int) (D : zDa), zO l E (d + 45) YX12_plainOf 2 [(0, zR 91), (1, zI o1), (2, zI v2)] [] (F, D, n, sl) (zcI F n sl) (zfix (fun _ _ => none) (fX12_plainOf_2 F rec o1) N v2 D) := by
  intro N
  induction N with
  | zero => intro v2 D; exact zO_none
  | succ N hk_2 =>
    intro v2 D
    show zO _ _ _ _ _ _ _ _ _ ((fX12_plainOf_2 F rec o1) (zfix (fun _ _ => none) (fX12_plainOf_2 F rec o1) N) v2 D)
    unfold fX12_plainOf_2
    refine zO_aload_n dX12_plainOf_2 rfl (zR_P _) ?_
    refine zO_bipush dX12_plainOf_3 (by decide) ?_
    refine zO_callV (Y' := YX12_passes0) (cw := zcI F n sl) (as := [zI 7]) (rest := []) (na := 1) (ci := 12) rfl dX12_plainOf_5 wC_X12_passes0 wN_X12 wM_X12_271 wI_X12_passes0 wV_X12_passes0 (by decide) (by decide) rfl rfl (Nat.le_of_ble_eq_true rfl) rfl (by decide) (gk_91 hG) (fun r hr => zMet_cast (Nat.add_assoc d 43 1) (mX12_passes0 (d := d + 43) hG 7 r hr)) ?_
    rintro ⟨r_1, D_2⟩ -
    show zO _ _ _ _ _ _ [zI r_1] (F, D_2, n, sl) _ _
    refine zO_if_eq (tgt := 24) dX12_plainOf_8 rfl (fun c8 => ?_) (fun c8 => ?_)
    · refine zO_aload_n dX12_plainOf_24 rfl (zR_P _) ?_
      refine zO_iload_n dX12_plainOf_25 rfl ?_
      refine zO_callV (Y' := YX12_positiveOf) (cw := zcI F n sl) (as := [zI o1]) (rest := []) (na := 1) (ci := 12) rfl dX12_plainOf_26 wC_X12_positiveOf wN_X12 wM_X12_284 wI_X12_positiveOf wV_X12_positiveOf (by decide) (by decide) rfl rfl (Nat.le_of_ble_eq_true rfl) rfl (by decide) (gk_91 hG) (fun r hr => hr3 o1 0 _ r hr) ?_
      rintro ⟨r_3, D_4⟩ -
      show zO _ _ _ _ _ _ [zI r_3] (F, D_4, n, sl) _ _
      refine zO_iload_n dX12_plainOf_29 rfl ?_
      refine zO_icmp_eq (tgt := 37) dX12_plainOf_30 rfl (fun c30 => ?_) (fun c30 => ?_)
      · refine zO_iconst dX12_plainOf_37 (by decide) ?_
        exact zO_ret (rv := some (zI 0)) dX12_plainOf_38 rfl rfl rfl
      · refine zO_iconst dX12_plainOf_33 (by decide) ?_
        refine zO_goto (tgt := 38) dX12_plainOf_34 rfl ?_
        exact zO_ret (rv := some (zI 1)) dX12_plainOf_38 rfl rfl rfl
    · refine zO_iload_n dX12_plainOf_11 rfl ?_
      refine zO_if_ne (tgt := 19) dX12_plainOf_12 rfl (fun c12 => ?_) (fun c12 => ?_)
      · refine zO_iconst dX12_plainOf_15 (by decide) ?_
        refine zO_goto (tgt := 20) dX12_plainOf_16 rfl ?_
        refine zO_live [0, 1] ?_
        exact sX12_plainOf_20 hG rec hr0 hr1 hr2 hr3 o1 1 _ hk_2 D_2
      · refine zO_iconst dX12_plainOf_19 (by decide) ?_
        refine zO_live [0, 1] ?_
        exact sX12_plainOf_20 hG rec hr0 hr1 hr2 hr3 o1 0 _ hk_2 D_2
set_option maxHeartbeats 20000000 in
theorem mbX12_plainOf {l : Launch} {E : zE} {d : Nat} {F : zFs} {n sl : Nat} (hG : zG F) (rec : Nat → Int → Int → zDa → Option (Int × zDa)) (hr0 : ∀ (a b : Int) (D : zDa) r, rec 0 a b D = some r → zMet l E (d + 44) YX12_testOf [zR 91, zI a] (F, D, n, sl) (zcI F n sl r)) (hr1 : ∀ (a b : Int) (D : zDa) r, rec 1 a b D = some r → zMet l E (d + 44) YX12_bothOf [zR 91, zI a] (F, D, n, sl) (zcI F n sl r)) (hr2 : ∀ (a b : Int) (D : zDa) r, rec 2 a b D = some r → zMet l E (d + 44) YX12_plainOf [zR 91, zI a] (F, D, n, sl) (zcI F n sl r)) (hr3 : ∀ (a b : Int) (D : zDa) r, rec 3 a b D = some r → zMet l E (d + 44) YX12_positiveOf [zR 91, zI a] (F, D, n, sl) (zcI F n sl r)) (v1 : Int) {D : zDa} : ∀ r, bX12_plainOf F rec v1 D = some r → zMet l E (d + 45) YX12_plainOf [zR 91, zI v1] (F, D, n, sl) (zcI F n sl r) := by
  intro r hr
  refine zMet_of (plainFor_of_name (by decide)) (fun _ h => (nomatch h)) (Nat.le_of_ble_eq_true rfl) ?_
  have hz : zO l E (d + 45) YX12_plainOf 0 [(0, zR 91), (1, zI v1)] [] (F, D, n, sl) (zcI F n sl) (bX12_plainOf F rec v1 D) := by
    unfold bX12_plainOf
    refine zO_iconst dX12_plainOf_0 (by decide) ?_
    refine zO_istore_n dX12_plainOf_1 (by decide) ?_
    refine zO_ls (ls' := [(0, zR 91), (1, zI v1), (2, zI 0)]) rfl ?_
    refine zO_live [0, 1, 2] ?_
    exact sX12_plainOf_2 hG rec hr0 hr1 hr2 hr3 v1 zfu 0 D
  exact hz r hr
def bX12_positiveOf (F : zFs) (rec : Nat → Int → Int → zDa → Option (Int × zDa)) (v1 : Int) (D : zDa) : Option (Int × zDa) :=
  (fX12_sign F 40 D).bind (fun (r_1, D_2) =>
    (fX12_passes0 F r_1 D_2).bind (fun (r_3, D_4) =>
      if r_3 = 0 then
        (fX12_sumOf F v1 D_4).bind (fun (r_5, D_6) =>
          (fX12_codeAt F (D_6 91 18) D_6).bind (fun (r_7, D_8) =>
            if (-2147483648 ≤ (D_8 91 18) + 1 ∧ (D_8 91 18) + 1 ≤ 2147483647) then
              zlet (zwr D_8 91 18 ((D_8 91 18) + 1)) (fun D_9 =>
                (fX12_sumOf F v1 D_9).bind (fun (r_10, D_11) =>
                  if v1 = 0 then
                    some (0, D_11)
                  else
                    if (D_11 91 20) = 0 then
                      (fX12_sign F 60 D_11).bind (fun (r_12, D_13) =>
                        if r_7 = r_12 then
                          if r_5 < r_10 then
                            some (1, D_13)
                          else
                            some (0, D_13)
                        else
                          (fX12_sign F 62 D_13).bind (fun (r_14, D_15) =>
                            if r_7 = r_14 then
                              if r_10 < r_5 then
                                some (1, D_15)
                              else
                                some (0, D_15)
                            else
                              if r_5 = r_10 then
                                some (1, D_15)
                              else
                                some (0, D_15)))
                    else
                      some (0, D_11)))
            else none))
      else
        (rec 0 v1 0 D_4).bind (fun (r_16, D_17) =>
          if (-2147483648 ≤ (D_17 91 18) + 1 ∧ (D_17 91 18) + 1 ≤ 2147483647) then
            zlet (zwr D_17 91 18 ((D_17 91 18) + 1)) (fun D_18 =>
              if (r_16 = 0 ∨ r_16 = 1) then
                some (r_16, D_18)
              else none)
          else none)))
set_option maxHeartbeats 20000000 in
theorem mbX12_positiveOf {l : Launch} {E : zE} {d : Nat} {F : zFs} {n sl : Nat} (hG : zG F) (rec : Nat → Int → Int → zDa → Option (Int × zDa)) (hr0 : ∀ (a b : Int) (D : zDa) r, rec 0 a b D = some r → zMet l E (d + 44) YX12_testOf [zR 91, zI a] (F, D, n, sl) (zcI F n sl r)) (hr1 : ∀ (a b : Int) (D : zDa) r, rec 1 a b D = some r → zMet l E (d + 44) YX12_bothOf [zR 91, zI a] (F, D, n, sl) (zcI F n sl r)) (hr2 : ∀ (a b : Int) (D : zDa) r, rec 2 a b D = some r → zMet l E (d + 44) YX12_plainOf [zR 91, zI a] (F, D, n, sl) (zcI F n sl r)) (hr3 : ∀ (a b : Int) (D : zDa) r, rec 3 a b D = some r → zMet l E (d + 44) YX12_positiveOf [zR 91, zI a] (F, D, n, sl) (zcI F n sl r)) (v1 : Int) {D : zDa} : ∀ r, bX12_positiveOf F rec v1 D = some r → zMet l E (d + 45) YX12_positiveOf [zR 91, zI v1] (F, D, n, sl) (zcI F n sl r) := by
  intro r hr
  refine zMet_of (plainFor_of_name (by decide)) (fun _ h => (nomatch h)) (Nat.le_of_ble_eq_true rfl) ?_
  have hz : zO l E (d + 45) YX12_positiveOf 0 [(0, zR 91), (1, zI v1)] [] (F, D, n, sl) (zcI F n sl) (bX12_positiveOf F rec v1 D) := by
    unfold bX12_positiveOf
    refine zO_aload_n dX12_positiveOf_0 rfl (zR_P _) ?_
    refine zO_bipush dX12_positiveOf_1 (by decide) ?_
    refine zO_callS (Y' := YX12_sign) (cw := zcI F n sl) (as := [zI 40]) (rest := [zR 91]) (na := 1) dX12_positiveOf_3 wC_X12_sign wN_X12 wM_X12_221 wS_X12_sign (by decide) (by decide) rfl rfl (Nat.le_of_ble_eq_true rfl) (fun r hr => zMet_cast (Nat.add_assoc d 44 0) (mX12_sign (d := d + 44) hG 40 r hr)) ?_
    rintro ⟨r_1, D_2⟩ -
    show zO _ _ _ _ _ _ [zI r_1, zR 91] (F, D_2, n, sl) _ _
    refine zO_callV (Y' := YX12_passes0) (cw := zcI F n sl) (as := [zI r_1]) (rest := []) (na := 1) (ci := 12) rfl dX12_positiveOf_6 wC_X12_passes0 wN_X12 wM_X12_271 wI_X12_passes0 wV_X12_passes0 (by decide) (by decide) rfl rfl (Nat.le_of_ble_eq_true rfl) rfl (by decide) (gk_91 hG) (fun r hr => zMet_cast (Nat.add_assoc d 43 1) (mX12_passes0 (d := d + 43) hG r_1 r hr)) ?_
    rintro ⟨r_3, D_4⟩ -
    show zO _ _ _ _ _ _ [zI r_3] (F, D_4, n, sl) _ _
    refine zO_if_eq (tgt := 30) dX12_positiveOf_9 rfl (fun c9 => ?_) (fun c9 => ?_)
    · refine zO_aload_n dX12_positiveOf_30 rfl (zR_P _) ?_
      refine zO_iload_n dX12_positiveOf_31 rfl ?_
      refine zO_callV (Y' := YX12_sumOf) (cw := zcJ F n sl) (as := [zI v1]) (rest := []) (na := 1) (ci := 12) rfl dX12_positiveOf_32 wC_X12_sumOf wN_X12 wM_X12_274 wI_X12_sumOf wV_X12_sumOf (by decide) (by decide) rfl rfl (Nat.le_of_ble_eq_true rfl) rfl (by decide) (gk_91 hG) (fun r hr => zMet_cast (Nat.add_assoc d 1 43) (mX12_sumOf (d := d + 1) hG v1 r hr)) ?_
      rintro ⟨r_5, D_6⟩ -
      show zO _ _ _ _ _ _ [zL r_5] (F, D_6, n, sl) _ _
      refine zO_lstore_n dX12_positiveOf_35 (by decide) ?_
      refine zO_ls (ls' := [(0, zR 91), (1, zI v1), (2, zL r_5)]) rfl ?_
      refine zO_aload_n dX12_positiveOf_36 rfl (zR_P _) ?_
      refine zO_aload_n dX12_positiveOf_37 rfl (zR_P _) ?_
      refine gt12 (k := 18) (v := zI (D_6 91 18)) dX12_positiveOf_38 wF_X12_246 (by decide) (gk_91 hG) rfl ?_
      refine zO_callV (Y' := YX12_codeAt) (cw := zcI F n sl) (as := [zI (D_6 91 18)]) (rest := []) (na := 1) (ci := 12) rfl dX12_positiveOf_41 wC_X12_codeAt wN_X12 wM_X12_249 wI_X12_codeAt wV_X12_codeAt (by decide) (by decide) rfl rfl (Nat.le_of_ble_eq_true rfl) rfl (by decide) (gk_91 hG) (fun r hr => zMet_cast (Nat.add_assoc d 44 0) (mX12_codeAt (d := d + 44) hG (D_6 91 18) r hr)) ?_
      rintro ⟨r_7, D_8⟩ -
      show zO _ _ _ _ _ _ [zI r_7] (F, D_8, n, sl) _ _
      refine zO_chk (fun h1 => ?_)
      refine zO_istore dX12_positiveOf_44 (by decide) ?_
      refine zO_ls (ls' := [(0, zR 91), (1, zI v1), (2, zL r_5), (4, zI r_7)]) rfl ?_
      refine zO_aload_n dX12_positiveOf_46 rfl (zR_P _) ?_
      refine zO_dup dX12_positiveOf_47 (rfl) ?_
      refine gt12 (k := 18) (v := zI (D_8 91 18)) dX12_positiveOf_48 wF_X12_246 (by decide) (gk_91 hG) rfl ?_
      refine zO_iconst dX12_positiveOf_51 (by decide) ?_
      refine zO_iadd dX12_positiveOf_52 h1 ?_
      refine ptI12 (k := 18) (z := ((D_8 91 18) + 1)) dX12_positiveOf_53 wF_X12_246 (by decide) rfl (gk_91 hG) rfl ?_
      refine zO_letD (fun D_9 eD_9 => ?_)
      refine zO_aload_n dX12_positiveOf_56 rfl (zR_P _) ?_
      refine zO_iload_n dX12_positiveOf_57 rfl ?_
      refine zO_callV (Y' := YX12_sumOf) (cw := zcJ F n sl) (as := [zI v1]) (rest := []) (na := 1) (ci := 12) rfl dX12_positiveOf_58 wC_X12_sumOf wN_X12 wM_X12_274 wI_X12_sumOf wV_X12_sumOf (by decide) (by decide) rfl rfl (Nat.le_of_ble_eq_true rfl) rfl (by decide) (gk_91 hG) (fun r hr => zMet_cast (Nat.add_assoc d 1 43) (mX12_sumOf (d := d + 1) hG v1 r hr)) ?_
      rintro ⟨r_10, D_11⟩ -
      show zO _ _ _ _ _ _ [zL r_10] (F, D_11, n, sl) _ _
      refine zO_lstore dX12_positiveOf_61 (by decide) ?_
      refine zO_ls (ls' := [(0, zR 91), (1, zI v1), (2, zL r_5), (4, zI r_7), (5, zL r_10)]) rfl ?_
      refine zO_iload_n dX12_positiveOf_63 rfl ?_
      refine zO_if_eq (tgt := 125) dX12_positiveOf_64 rfl (fun c64 => ?_) (fun c64 => ?_)
      · refine zO_iconst dX12_positiveOf_125 (by decide) ?_
        exact zO_ret (rv := some (zI 0)) dX12_positiveOf_126 rfl rfl rfl
      · refine zO_aload_n dX12_positiveOf_67 rfl (zR_P _) ?_
        refine gt12 (k := 20) (v := zI (D_11 91 20)) dX12_positiveOf_68 wF_X12_256 (by decide) (gk_91 hG) rfl ?_
        refine zO_if_ne (tgt := 125) dX12_positiveOf_71 rfl (fun c71 => ?_) (fun c71 => ?_)
        · refine zO_iload dX12_positiveOf_74 rfl ?_
          refine zO_bipush dX12_positiveOf_76 (by decide) ?_
          refine zO_callS (Y' := YX12_sign) (cw := zcI F n sl) (as := [zI 60]) (rest := [zI r_7]) (na := 1) dX12_positiveOf_78 wC_X12_sign wN_X12 wM_X12_221 wS_X12_sign (by decide) (by decide) rfl rfl (Nat.le_of_ble_eq_true rfl) (fun r hr => zMet_cast (Nat.add_assoc d 44 0) (mX12_sign (d := d + 44) hG 60 r hr)) ?_
          rintro ⟨r_12, D_13⟩ -
          show zO _ _ _ _ _ _ [zI r_12, zI r_7] (F, D_13, n, sl) _ _
          refine zO_icmp_ne (tgt := 94) dX12_positiveOf_81 rfl (fun c81 => ?_) (fun c81 => ?_)
          · refine zO_lload_n dX12_positiveOf_84 rfl ?_
            refine zO_lload dX12_positiveOf_85 rfl ?_
            refine zO_lif_ge (tgt := 125) dX12_positiveOf_87 dX12_positiveOf_88 rfl (fun c87 => ?_) (fun c87 => ?_)
            · refine zO_goto (tgt := 121) dX12_positiveOf_91 rfl ?_
              refine zO_iconst dX12_positiveOf_121 (by decide) ?_
              refine zO_goto (tgt := 126) dX12_positiveOf_122 rfl ?_
              exact zO_ret (rv := some (zI 1)) dX12_positiveOf_126 rfl rfl rfl
            · refine zO_iconst dX12_positiveOf_125 (by decide) ?_
              exact zO_ret (rv := some (zI 0)) dX12_positiveOf_126 rfl rfl rfl
          · refine zO_iload dX12_positiveOf_94 rfl ?_
            refine zO_bipush dX12_positiveOf_96 (by decide) ?_
            refine zO_callS (Y' := YX12_sign) (cw := zcI F n sl) (as := [zI 62]) (rest := [zI r_7]) (na := 1) dX12_positiveOf_98 wC_X12_sign wN_X12 wM_X12_221 wS_X12_sign (by decide) (by decide) rfl rfl (Nat.le_of_ble_eq_true rfl) (fun r hr => zMet_cast (Nat.add_assoc d 44 0) (mX12_sign (d := d + 44) hG 62 r hr)) ?_
            rintro ⟨r_14, D_15⟩ -
            show zO _ _ _ _ _ _ [zI r_14, zI r_7] (F, D_15, n, sl) _ _
            refine zO_icmp_ne (tgt := 114) dX12_positiveOf_101 rfl (fun c101 => ?_) (fun c101 => ?_)
            · refine zO_lload_n dX12_positiveOf_104 rfl ?_
              refine zO_lload dX12_positiveOf_105 rfl ?_
              refine zO_lif_le (tgt := 125) dX12_positiveOf_107 dX12_positiveOf_108 rfl (fun c107 => ?_) (fun c107 => ?_)
              · refine zO_goto (tgt := 121) dX12_positiveOf_111 rfl ?_
                refine zO_iconst dX12_positiveOf_121 (by decide) ?_
                refine zO_goto (tgt := 126) dX12_positiveOf_122 rfl ?_
                exact zO_ret (rv := some (zI 1)) dX12_positiveOf_126 rfl rfl rfl
              · refine zO_iconst dX12_positiveOf_125 (by decide) ?_
                exact zO_ret (rv := some (zI 0)) dX12_positiveOf_126 rfl rfl rfl
            · refine zO_lload_n dX12_positiveOf_114 rfl ?_
              refine zO_lload dX12_positiveOf_115 rfl ?_
              refine zO_lif_ne (tgt := 125) dX12_positiveOf_117 dX12_positiveOf_118 rfl (fun c117 => ?_) (fun c117 => ?_)
              · refine zO_iconst dX12_positiveOf_121 (by decide) ?_
                refine zO_goto (tgt := 126) dX12_positiveOf_122 rfl ?_
                exact zO_ret (rv := some (zI 1)) dX12_positiveOf_126 rfl rfl rfl
              · refine zO_iconst dX12_positiveOf_125 (by decide) ?_
                exact zO_ret (rv := some (zI 0)) dX12_positiveOf_126 rfl rfl rfl
        · refine zO_iconst dX12_positiveOf_125 (by decide) ?_
          exact zO_ret (rv := some (zI 0)) dX12_positiveOf_126 rfl rfl rfl
    · refine zO_aload_n dX12_positiveOf_12 rfl (zR_P _) ?_
      refine zO_iload_n dX12_positiveOf_13 rfl ?_
      refine zO_callV (Y' := YX12_testOf) (cw := zcI F n sl) (as := [zI v1]) (rest := []) (na := 1) (ci := 12) rfl dX12_positiveOf_14 wC_X12_testOf wN_X12 wM_X12_287 wI_X12_testOf wV_X12_testOf (by decide) (by decide) rfl rfl (Nat.le_of_ble_eq_true rfl) rfl (by decide) (gk_91 hG) (fun r hr => hr0 v1 0 _ r hr) ?_
      rintro ⟨r_16, D_17⟩ -
      show zO _ _ _ _ _ _ [zI r_16] (F, D_17, n, sl) _ _
      refine zO_chk (fun h2 => ?_)
      refine zO_istore_n dX12_positiveOf_17 (by decide) ?_
      refine zO_ls (ls' := [(0, zR 91), (1, zI v1), (2, zI r_16)]) rfl ?_
      refine zO_aload_n dX12_positiveOf_18 rfl (zR_P _) ?_
      refine zO_dup dX12_positiveOf_19 (rfl) ?_
      refine gt12 (k := 18) (v := zI (D_17 91 18)) dX12_positiveOf_20 wF_X12_246 (by decide) (gk_91 hG) rfl ?_
      refine zO_iconst dX12_positiveOf_23 (by decide) ?_
      refine zO_iadd dX12_positiveOf_24 h2 ?_
      refine ptI12 (k := 18) (z := ((D_17 91 18) + 1)) dX12_positiveOf_25 wF_X12_246 (by decide) rfl (gk_91 hG) rfl ?_
      refine zO_letD (fun D_18 eD_18 => ?_)
      refine zO_chk (fun h3 => ?_)
      refine zO_iload_n dX12_positiveOf_28 rfl ?_
      exact zO_ret (rv := some (zI r_16)) dX12_positiveOf_29 rfl (zretok_z h3) rfl
  exact hz r hr
def R5 (F : zFs) (N : Nat) : Nat → Int → Int → zDa → Option (Int × zDa) := zfix (fun _ _ _ _ => none) (fun rec t a b D => if t = 0 then bX12_testOf F rec a D else if t = 1 then bX12_bothOf F rec a D else if t = 2 then bX12_plainOf F rec a D else bX12_positiveOf F rec a D) N
theorem R5_succ (F : zFs) (N t : Nat) (a b : Int) (D : zDa) : R5 F (N + 1) t a b D = (if t = 0 then bX12_testOf F (R5 F N) a D else if t = 1 then bX12_bothOf F (R5 F N) a D else if t = 2 then bX12_plainOf F (R5 F N) a D else bX12_positiveOf F (R5 F N) a D) := rfl
theorem mG5 {l : Launch} {E : zE} {F : zFs} {n sl : Nat} (hG : zG F) : ∀ (N d : Nat), (∀ (a b : Int) (D : zDa) r, R5 F N 0 a b D = some r → zMet l E (d + N + 44) YX12_testOf [zR 91, zI a] (F, D, n, sl) (zcI F n sl r)) ∧ (∀ (a b : Int) (D : zDa) r, R5 F N 1 a b D = some r → zMet l E (d + N + 44) YX12_bothOf [zR 91, zI a] (F, D, n, sl) (zcI F n sl r)) ∧ (∀ (a b : Int) (D : zDa) r, R5 F N 2 a b D = some r → zMet l E (d + N + 44) YX12_plainOf [zR 91, zI a] (F, D, n, sl) (zcI F n sl r)) ∧ (∀ (a b : Int) (D : zDa) r, R5 F N 3 a b D = some r → zMet l E (d + N + 44) YX12_positiveOf [zR 91, zI a] (F, D, n, sl) (zcI F n sl r)) := by
  intro N
  induction N with
  | zero => intro d; refine ⟨(fun a b D r h => nomatch (show (none : Option _) = some r from h)), (fun a b D r h => nomatch (show (none : Option _) = some r from h)), (fun a b D r h => nomatch (show (none : Option _) = some r from h)), (fun a b D r h => nomatch (show (none : Option _) = some r from h))⟩
  | succ N ih =>
    intro d
    have ih := ih d
    exact ⟨(fun a b D r h => zMet_cast (show d + N + 45 = d + (N + 1) + 44 by omega) (mbX12_testOf (d := d + N) hG (R5 F N) (fun a b D r h => ih.1 a b D r h) (fun a b D r h => ih.2.1 a b D r h) (fun a b D r h => ih.2.2.1 a b D r h) (fun a b D r h => ih.2.2.2 a b D r h) a r (by rw [R5_succ] at h; rw [if_pos rfl] at h; exact h))), (fun a b D r h => zMet_cast (show d + N + 45 = d + (N + 1) + 44 by omega) (mbX12_bothOf (d := d + N) hG (R5 F N) (fun a b D r h => ih.1 a b D r h) (fun a b D r h => ih.2.1 a b D r h) (fun a b D r h => ih.2.2.1 a b D r h) (fun a b D r h => ih.2.2.2 a b D r h) a r (by rw [R5_succ] at h; rw [if_neg (by decide), if_pos rfl] at h; exact h))), (fun a b D r h => zMet_cast (show d + N + 45 = d + (N + 1) + 44 by omega) (mbX12_plainOf (d := d + N) hG (R5 F N) (fun a b D r h => ih.1 a b D r h) (fun a b D r h => ih.2.1 a b D r h) (fun a b D r h => ih.2.2.1 a b D r h) (fun a b D r h => ih.2.2.2 a b D r h) a r (by rw [R5_succ] at h; rw [if_neg (by decide), if_neg (by decide), if_pos rfl] at h; exact h))), (fun a b D r h => zMet_cast (show d + N + 45 = d + (N + 1) + 44 by omega) (mbX12_positiveOf (d := d + N) hG (R5 F N) (fun a b D r h => ih.1 a b D r h) (fun a b D r h => ih.2.1 a b D r h) (fun a b D r h => ih.2.2.1 a b D r h) (fun a b D r h => ih.2.2.2 a b D r h) a r (by rw [R5_succ] at h; rw [if_neg (by decide), if_neg (by decide), if_neg (by decide)] at h; exact h)))⟩
def fX12_testOf (F : zFs) (v1 : Int) (D : zDa) : Option (Int × zDa) := R5 F 40 0 v1 0 D
theorem mX12_testOf {l : Launch} {E : zE} {d : Nat} {F : zFs} {n sl : Nat} (hG : zG F) (v1 : Int) {D : zDa} : ∀ r, fX12_testOf F v1 D = some r → zMet l E (d + 85) YX12_testOf [zR 91, zI v1] (F, D, n, sl) (zcI F n sl r) := fun r h => zMet_cast (show d + 1 + 40 + 44 = d + 85 by omega) ((mG5 hG 40 (d + 1)).1 v1 0 D r h)
def fX12_bothOf (F : zFs) (v1 : Int) (D : zDa) : Option (Int × zDa) := R5 F 40 1 v1 0 D
theorem mX12_bothOf {l : Launch} {E : zE} {d : Nat} {F : zFs} {n sl : Nat} (hG : zG F) (v1 : Int) {D : zDa} : ∀ r, fX12_bothOf F v1 D = some r → zMet l E (d + 85) YX12_bothOf [zR 91, zI v1] (F, D, n, sl) (zcI F n sl r) := fun r h => zMet_cast (show d + 1 + 40 + 44 = d + 85 by omega) ((mG5 hG 40 (d + 1)).2.1 v1 0 D r h)
def fX12_plainOf (F : zFs) (v1 : Int) (D : zDa) : Option (Int × zDa) := R5 F 40 2 v1 0 D
theorem mX12_plainOf {l : Launch} {E : zE} {d : Nat} {F : zFs} {n sl : Nat} (hG : zG F) (v1 : Int) {D : zDa} : ∀ r, fX12_plainOf F v1 D = some r → zMet l E (d + 85) YX12_plainOf [zR 91, zI v1] (F, D, n, sl) (zcI F n sl r) := fun r h => zMet_cast (show d + 1 + 40 + 44 = d + 85 by omega) ((mG5 hG 40 (d + 1)).2.2.1 v1 0 D r h)
def fX12_positiveOf (F : zFs) (v1 : Int) (D : zDa) : Option (Int × zDa) := R5 F 40 3 v1 0 D
theorem mX12_positiveOf {l : Launch} {E : zE} {d : Nat} {F : zFs} {n sl : Nat} (hG : zG F) (v1 : Int) {D : zDa} : ∀ r, fX12_positiveOf F v1 D = some r → zMet l E (d + 85) YX12_positiveOf [zR 91, zI v1] (F, D, n, sl) (zcI F n sl r) := fun r h => zMet_cast (show d + 1 + 40 + 44 = d + 85 by omega) ((mG5 hG 40 (d + 1)).2.2.2 v1 0 D r h)
theorem dX12_told_0 : decode cX12_told 0 = .ok (.aload_n 0, 1) := by decide +kernel
theorem dX12_told_1 : decode cX12_told 1 = .ok (.getfield 20, 3) := by decide +kernel
theorem dX12_told_4 : decode cX12_told 4 = .ok (.sipush 394, 3) := by decide +kernel
theorem dX12_told_7 : decode cX12_told 7 = .ok (.iaload, 1) := by decide +kernel
theorem dX12_told_8 : decode cX12_told 8 = .ok (.iconst (-1), 1) := by decide +kernel
theorem dX12_told_9 : decode cX12_told 9 = .ok (.if_icmp .ne 6, 3) := by decide +kernel
theorem dX12_told_12 : decode cX12_told 12 = .ok (.iload 4, 2) := by decide +kernel
theorem dX12_told_14 : decode cX12_told 14 = .ok (.ireturn, 1) := by decide +kernel
theorem dX12_told_15 : decode cX12_told 15 = .ok (.aload_n 0, 1) := by decide +kernel
theorem dX12_told_16 : decode cX12_told 16 = .ok (.sipush 400, 3) := by decide +kernel
theorem dX12_told_19 : decode cX12_told 19 = .ok (.aload_n 0, 1) := by decide +kernel
theorem dX12_told_20 : decode cX12_told 20 = .ok (.getfield 20, 3) := by decide +kernel
theorem dX12_told_23 : decode cX12_told 23 = .ok (.sipush 394, 3) := by decide +kernel
theorem dX12_told_26 : decode cX12_told 26 = .ok (.iaload, 1) := by decide +kernel
theorem dX12_told_27 : decode cX12_told 27 = .ok (.imul, 1) := by decide +kernel
theorem dX12_told_28 : decode cX12_told 28 = .ok (.putfield 246, 3) := by decide +kernel
theorem dX12_told_31 : decode cX12_told 31 = .ok (.aload_n 0, 1) := by decide +kernel
theorem dX12_told_32 : decode cX12_told 32 = .ok (.aload_n 0, 1) := by decide +kernel
theorem dX12_told_33 : decode cX12_told 33 = .ok (.getfield 246, 3) := by decide +kernel
theorem dX12_told_36 : decode cX12_told 36 = .ok (.aload_n 0, 1) := by decide +kernel
theorem dX12_told_37 : decode cX12_told 37 = .ok (.getfield 20, 3) := by decide +kernel
theorem dX12_told_40 : decode cX12_told 40 = .ok (.sipush 395, 3) := by decide +kernel
theorem dX12_told_43 : decode cX12_told 43 = .ok (.aload_n 0, 1) := by decide +kernel
theorem dX12_told_44 : decode cX12_told 44 = .ok (.getfield 20, 3) := by decide +kernel
theorem dX12_told_47 : decode cX12_told 47 = .ok (.sipush 394, 3) := by decide +kernel
theorem dX12_told_50 : decode cX12_told 50 = .ok (.iaload, 1) := by decide +kernel
theorem dX12_told_51 : decode cX12_told 51 = .ok (.iadd, 1) := by decide +kernel
theorem dX12_told_52 : decode cX12_told 52 = .ok (.iaload, 1) := by decide +kernel
theorem dX12_told_53 : decode cX12_told 53 = .ok (.iadd, 1) := by decide +kernel
theorem dX12_told_54 : decode cX12_told 54 = .ok (.putfield 243, 3) := by decide +kernel
theorem dX12_told_57 : decode cX12_told 57 = .ok (.iload 4, 2) := by decide +kernel
theorem dX12_told_59 : decode cX12_told 59 = .ok (.istore 5, 2) := by decide +kernel
theorem dX12_told_61 : decode cX12_told 61 = .ok (.aload_n 0, 1) := by decide +kernel
theorem dX12_told_62 : decode cX12_told 62 = .ok (.getfield 246, 3) := by decide +kernel
theorem dX12_told_65 : decode cX12_told 65 = .ok (.aload_n 0, 1) := by decide +kernel
theorem dX12_told_66 : decode cX12_told 66 = .ok (.getfield 243, 3) := by decide +kernel
theorem dX12_told_69 : decode cX12_told 69 = .ok (.if_icmp .ge 146, 3) := by decide +kernel
theorem dX12_told_72 : decode cX12_told 72 = .ok (.aload_n 0, 1) := by decide +kernel
theorem dX12_told_73 : decode cX12_told 73 = .ok (.iconst 0, 1) := by decide +kernel
theorem dX12_told_74 : decode cX12_told 74 = .ok (.putfield 256, 3) := by decide +kernel
theorem dX12_told_77 : decode cX12_told 77 = .ok (.aload_n 0, 1) := by decide +kernel
theorem dX12_told_78 : decode cX12_told 78 = .ok (.aload_n 0, 1) := by decide +kernel
theorem dX12_told_79 : decode cX12_told 79 = .ok (.getfield 246, 3) := by decide +kernel
theorem dX12_told_82 : decode cX12_told 82 = .ok (.invokevirtual 249, 3) := by decide +kernel
theorem dX12_told_85 : decode cX12_told 85 = .ok (.istore 6, 2) := by decide +kernel
theorem dX12_told_87 : decode cX12_told 87 = .ok (.aload_n 0, 1) := by decide +kernel
theorem dX12_told_88 : decode cX12_told 88 = .ok (.dup, 1) := by decide +kernel
theorem dX12_told_89 : decode cX12_told 89 = .ok (.getfield 246, 3) := by decide +kernel
theorem dX12_told_92 : decode cX12_told 92 = .ok (.iconst 1, 1) := by decide +kernel
theorem dX12_told_93 : decode cX12_told 93 = .ok (.iadd, 1) := by decide +kernel
theorem dX12_told_94 : decode cX12_told 94 = .ok (.putfield 246, 3) := by decide +kernel
theorem dX12_told_97 : decode cX12_told 97 = .ok (.aload_n 0, 1) := by decide +kernel
theorem dX12_told_98 : decode cX12_told 98 = .ok (.iconst 1, 1) := by decide +kernel
theorem dX12_told_99 : decode cX12_told 99 = .ok (.invokevirtual 274, 3) := by decide +kernel
theorem dX12_told_102 : decode cX12_told 102 = .ok (.lstore 7, 2) := by decide +kernel
theorem dX12_told_104 : decode cX12_told 104 = .ok (.aload_n 0, 1) := by decide +kernel
theorem dX12_told_105 : decode cX12_told 105 = .ok (.getfield 256, 3) := by decide +kernel
theorem dX12_told_108 : decode cX12_told 108 = .ok (.istore 9, 2) := by decide +kernel
theorem dX12_told_110 : decode cX12_told 110 = .ok (.aload_n 0, 1) := by decide +kernel
theorem dX12_told_111 : decode cX12_told 111 = .ok (.iconst 0, 1) := by decide +kernel
theorem dX12_told_112 : decode cX12_told 112 = .ok (.putfield 256, 3) := by decide +kernel
theorem dX12_told_115 : decode cX12_told 115 = .ok (.aload_n 0, 1) := by decide +kernel
theorem dX12_told_116 : decode cX12_told 116 = .ok (.iconst 4, 1) := by decide +kernel
theorem dX12_told_117 : decode cX12_told 117 = .ok (.invokevirtual 271, 3) := by decide +kernel
theorem dX12_told_120 : decode cX12_told 120 = .ok (.ifCond .eq 11, 3) := by decide +kernel
theorem dX12_told_123 : decode cX12_told 123 = .ok (.aload_n 0, 1) := by decide +kernel
theorem dX12_told_124 : decode cX12_told 124 = .ok (.iconst 1, 1) := by decide +kernel
theorem dX12_told_125 : decode cX12_told 125 = .ok (.invokevirtual 287, 3) := by decide +kernel
theorem dX12_told_128 : decode cX12_told 128 = .ok (.ifCond .eq 7, 3) := by decide +kernel
theorem dX12_told_131 : decode cX12_told 131 = .ok (.iconst 1, 1) := by decide +kernel
theorem dX12_told_132 : decode cX12_told 132 = .ok (.goto 4, 3) := by decide +kernel
theorem dX12_told_135 : decode cX12_told 135 = .ok (.iconst 0, 1) := by decide +kernel
theorem dX12_told_136 : decode cX12_told 136 = .ok (.istore 10, 2) := by decide +kernel
theorem dX12_told_138 : decode cX12_told 138 = .ok (.iload 10, 2) := by decide +kernel
theorem dX12_told_140 : decode cX12_told 140 = .ok (.ifCond .eq 25, 3) := by decide +kernel
theorem dX12_told_143 : decode cX12_told 143 = .ok (.aload_n 0, 1) := by decide +kernel
theorem dX12_told_144 : decode cX12_told 144 = .ok (.getfield 256, 3) := by decide +kernel
theorem dX12_told_147 : decode cX12_told 147 = .ok (.ifCond .ne 18, 3) := by decide +kernel
theorem dX12_told_150 : decode cX12_told 150 = .ok (.iload 9, 2) := by decide +kernel
theorem dX12_told_152 : decode cX12_told 152 = .ok (.ifCond .ne 13, 3) := by decide +kernel
theorem dX12_told_155 : decode cX12_told 155 = .ok (.iload 6, 2) := by decide +kernel
theorem dX12_told_157 : decode cX12_told 157 = .ok (.iload_n 1, 1) := by decide +kernel
theorem dX12_told_158 : decode cX12_told 158 = .ok (.if_icmp .ne 7, 3) := by decide +kernel
theorem dX12_told_161 : decode cX12_told 161 = .ok (.iconst 1, 1) := by decide +kernel
theorem dX12_told_162 : decode cX12_told 162 = .ok (.goto 4, 3) := by decide +kernel
theorem dX12_told_165 : decode cX12_told 165 = .ok (.iconst 0, 1) := by decide +kernel
theorem dX12_told_166 : decode cX12_told 166 = .ok (.istore 10, 2) := by decide +kernel
theorem dX12_told_168 : decode cX12_told 168 = .ok (.aload_n 0, 1) := by decide +kernel
theorem dX12_told_169 : decode cX12_told 169 = .ok (.dup, 1) := by decide +kernel
theorem dX12_told_170 : decode cX12_told 170 = .ok (.getfield 246, 3) := by decide +kernel
theorem dX12_told_173 : decode cX12_told 173 = .ok (.iconst 1, 1) := by decide +kernel
theorem dX12_told_174 : decode cX12_told 174 = .ok (.iadd, 1) := by decide +kernel
theorem dX12_told_175 : decode cX12_told 175 = .ok (.putfield 246, 3) := by decide +kernel
theorem dX12_told_178 : decode cX12_told 178 = .ok (.iload 10, 2) := by decide +kernel
theorem dX12_told_180 : decode cX12_told 180 = .ok (.ifCond .eq 32, 3) := by decide +kernel
theorem dX12_told_183 : decode cX12_told 183 = .ok (.lload 7, 2) := by decide +kernel
theorem dX12_told_185 : decode cX12_told 185 = .ok (.iload_n 2, 1) := by decide +kernel
theorem dX12_told_186 : decode cX12_told 186 = .ok (.i2l, 1) := by decide +kernel
theorem dX12_told_187 : decode cX12_told 187 = .ok (.lcmp, 1) := by decide +kernel
theorem dX12_told_188 : decode cX12_told 188 = .ok (.ifCond .ge 7, 3) := by decide +kernel
theorem dX12_told_191 : decode cX12_told 191 = .ok (.iload_n 2, 1) := by decide +kernel
theorem dX12_told_192 : decode cX12_told 192 = .ok (.goto 18, 3) := by decide +kernel
theorem dX12_told_195 : decode cX12_told 195 = .ok (.lload 7, 2) := by decide +kernel
theorem dX12_told_197 : decode cX12_told 197 = .ok (.iload_n 3, 1) := by decide +kernel
theorem dX12_told_198 : decode cX12_told 198 = .ok (.i2l, 1) := by decide +kernel
theorem dX12_told_199 : decode cX12_told 199 = .ok (.lcmp, 1) := by decide +kernel
theorem dX12_told_200 : decode cX12_told 200 = .ok (.ifCond .le 7, 3) := by decide +kernel
theorem dX12_told_203 : decode cX12_told 203 = .ok (.iload_n 3, 1) := by decide +kernel
theorem dX12_told_204 : decode cX12_told 204 = .ok (.goto 6, 3) := by decide +kernel
theorem dX12_told_207 : decode cX12_told 207 = .ok (.lload 7, 2) := by decide +kernel
theorem dX12_told_209 : decode cX12_told 209 = .ok (.l2i, 1) := by decide +kernel
theorem dX12_told_210 : decode cX12_told 210 = .ok (.istore 5, 2) := by decide +kernel
theorem dX12_told_212 : decode cX12_told 212 = .ok (.goto (-151), 3) := by decide +kernel
theorem dX12_told_215 : decode cX12_told 215 = .ok (.iload 5, 2) := by decide +kernel
theorem dX12_told_217 : decode cX12_told 217 = .ok (.ireturn, 1) := by decide +kernel
abbrev YX12_told : zY := (yX12_told, cX12_told, 11, (Option.some Jvm.ClassFile.FieldType.int), [])
def fX12_told_212 (F : zFs) (k_61 : Int → zDa → Option (Int × zDa)) (o1 : Int) (o2 : Int) (o3 : Int) (v5 : Int) (D : zDa) : Option (Int × zDa) :=
  k_61 v5 D
def fX12_told_210 (F : zFs) (k_61 : Int → zDa → Option (Int × zDa)) (o1 : Int) (o2 : Int) (o3 : Int) (s0 : Int) (D : zDa) : Option (Int × zDa) :=
  fX12_told_212 F k_61 o1 o2 o3 s0 D
def fX12_told_166 (F : zFs) (k_61 : Int → zDa → Option (Int × zDa)) (o1 : Int) (o2 : Int) (o3 : Int) (v5 : Int) (v7 : Int) (s0 : Int) (D : zDa) : Option (Int × zDa) :=
  if (-2147483648 ≤ (D 91 18) + 1 ∧ (D 91 18) + 1 ≤ 2147483647) then
    zlet (zwr D 91 18 ((D 91 18) + 1)) (fun D_13 =>
      if s0 = 0 then
        fX12_told_212 F k_61 o1 o2 o3 v5 D_13
      else
        if v7 < o2 then
          fX12_told_210 F k_61 o1 o2 o3 o2 D_13
        else
          if o3 < v7 then
            fX12_told_210 F k_61 o1 o2 o3 o3 D_13
          else
            fX12_told_210 F k_61 o1 o2 o3 (zl2i v7) D_13)
  else none
def fX12_told_165 (F : zFs) (k_61 : Int → zDa → Option (Int × zDa)) (o1 : Int) (o2 : Int) (o3 : Int) (v5 : Int) (v7 : Int) (D : zDa) : Option (Int × zDa) :=
  fX12_told_166 F k_61 o1 o2 o3 v5 v7 0 D
def fX12_told_136 (F : zFs) (k_61 : Int → zDa → Option (Int × zDa)) (o1 : Int) (o2 : Int) (o3 : Int) (v5 : Int) (v6 : Int) (v7 : Int) (v9 : Int) (s0 : Int) (D : zDa) : Option (Int × zDa) :=
  if s0 = 0 then
    fX12_told_165 F k_61 o1 o2 o3 v5 v7 D
  else
    if (D 91 20) = 0 then
      if v9 = 0 then
        if v6 = o1 then
          fX12_told_166 F k_61 o1 o2 o3 v5 v7 1 D
        else
          fX12_told_165 F k_61 o1 o2 o3 v5 v7 D
      else
        fX12_told_165 F k_61 o1 o2 o3 v5 v7 D
    else
      fX12_told_165 F k_61 o1 o2 o3 v5 v7 D
def fX12_told_131 (F : zFs) (k_61 : Int → zDa → Option (Int × zDa)) (o1 : Int) (o2 : Int) (o3 : Int) (v5 : Int) (v6 : Int) (v7 : Int) (v9 : Int) (D : zDa) : Option (Int × zDa) :=
  fX12_told_136 F k_61 o1 o2 o3 v5 v6 v7 v9 1 D
def fX12_told_61 (F : zFs) (o1 : Int) (o2 : Int) (o3 : Int)  (k_61 : Int → zDa → Option (Int × zDa)) (v5 : Int) (D : zDa) : Option (Int × zDa) :=
  if (D 91 18) < (D 91 19) then
    zlet (zwr D 91 20 0) (fun D_3 =>
      (fX12_codeAt F (D_3 91 18) D_3).bind (fun (r_4, D_5) =>
        if (-2147483648 ≤ (D_5 91 18) + 1 ∧ (D_5 91 18) + 1 ≤ 2147483647) then
          zlet (zwr D_5 91 18 ((D_5 91 18) + 1)) (fun D_6 =>
            (fX12_sumOf F 1 D_6).bind (fun (r_7, D_8) =>
              zlet ((D_8 91 20)) (fun x9_9 =>
                zlet (zwr D_8 91 20 0) (fun D_10 =>
                  (fX12_passes0 F 4 D_10).bind (fun (r_11, D_12) =>
                    if r_11 = 0 then
                      fX12_told_131 F k_61 o1 o2 o3 v5 r_4 r_7 x9_9 D_12
                    else
                      (fX12_testOf F 1 D_12).bind (fun (r_14, D_15) =>
                        if r_14 = 0 then
                          fX12_told_136 F k_61 o1 o2 o3 v5 r_4 r_7 x9_9 0 D_15
                        else
                          fX12_told_131 F k_61 o1 o2 o3 v5 r_4 r_7 x9_9 D_15))))))
        else none))
  else
    some (v5, D)
def fX12_told (F : zFs) (v1 : Int) (v2 : Int) (v3 : Int) (v4 : Int) (D : zDa) : Option (Int × zDa) :=
  if (D 93 394) = (-1) then
    some (v4, D)
  else
    if (-2147483648 ≤ 400 * (D 93 394) ∧ 400 * (D 93 394) ≤ 2147483647) then
      zlet (zwr D 91 18 (400 * (D 93 394))) (fun D_1 =>
        if (-2147483648 ≤ 395 + (D_1 93 394) ∧ 395 + (D_1 93 394) ≤ 2147483647) ∧ (0 ≤ (395 + (D_1 93 394)) ∧ (395 + (D_1 93 394)) < 5201) ∧ (-2147483648 ≤ (D_1 91 18) + (D_1 93 (395 + (D_1 93 394)).toNat) ∧ (D_1 91 18) + (D_1 93 (395 + (D_1 93 394)).toNat) ≤ 2147483647) then
          zlet (zwr D_1 91 19 ((D_1 91 18) + (D_1 93 (395 + (D_1 93 394)).toNat))) (fun D_2 =>
            zfix (fun _ _ => none) (fX12_told_61 F v1 v2 v3) zfu v4 D_2)
        else none)
    else none
set_option maxHeartbeats 20000000 in
theorem sX12_told_212 {l : Launch} {E : zE} {d : Nat} {F : zFs} {n sl : Nat} (hG : zG F)  (o1 : Int) (o2 : Int) (o3 : Int) (v5 : Int) (k_61 : Int → zDa → Option (Int × zDa)) (hk_61 : ∀ (u5 : Int) (D : zDa), zO l E (d + 86) YX12_told 61 [(0, zR 91), (1, zI o1), (2, zI o2), (3, zI o3), (5, zI u5)] [] (F, D, n, sl) (zcI F n sl) (k_61 u5 D)) (D : zDa) : zO l E (d + 86) YX12_told 212 [(0, zR 91), (1, zI o1), (2, zI o2), (3, zI o3), (5, zI v5)] [] (F, D, n, sl) (zcI F n sl) (fX12_told_212 F k_61 o1 o2 o3 v5 D) := by
  unfold fX12_told_212
  refine zO_goto (tgt := 61) dX12_told_212 rfl ?_
  refine zO_live [0, 1, 2, 3, 5] ?_
  exact hk_61 v5 D
set_option maxHeartbeats 20000000 in
theorem sX12_told_210 {l : Launch} {E : zE} {d : Nat} {F : zFs} {n sl : Nat} (hG : zG F)  (o1 : Int) (o2 : Int) (o3 : Int) (s0 : Int) (k_61 : Int → zDa → Option (Int × zDa)) (hk_61 : ∀ (u5 : Int) (D : zDa), zO l E (d + 86) YX12_told 61 [(0, zR 91), (1, zI o1), (2, zI o2), (3, zI o3), (5, zI u5)] [] (F, D, n, sl) (zcI F n sl) (k_61 u5 D)) (D : zDa) : zO l E (d + 86) YX12_told 210 [(0, zR 91), (1, zI o1), (2, zI o2), (3, zI o3)] [zI s0] (F, D, n, sl) (zcI F n sl) (fX12_told_210 F k_61 o1 o2 o3 s0 D) := by
  unfold fX12_told_210
  refine zO_istore dX12_told_210 (by decide) ?_
  refine zO_ls (ls' := [(0, zR 91), (1, zI o1), (2, zI o2), (3, zI o3), (5, zI s0)]) rfl ?_
  refine zO_live [0, 1, 2, 3, 5] ?_
  exact sX12_told_212 hG o1 o2 o3 s0 _ hk_61 D
set_option maxHeartbeats 20000000 in
theorem sX12_told_166 {l : Launch} {E : zE} {d : Nat} {F : zFs} {n sl : Nat} (hG : zG F)  (o1 : Int) (o2 : Int) (o3 : Int) (v5 : Int) (v7 : Int) (s0 : Int) (k_61 : Int → zDa → Option (Int × zDa)) (hk_61 : ∀ (u5 : Int) (D : zDa), zO l E (d + 86) YX12_told 61 [(0, zR 91), (1, zI o1), (2, zI o2), (3, zI o3), (5, zI u5)] [] (F, D, n, sl) (zcI F n sl) (k_61 u5 D)) (D : zDa) : zO l E (d + 86) YX12_told 166 [(0, zR 91), (1, zI o1), (2, zI o2), (3, zI o3), (5, zI v5), (7, zL v7)] [zI s0] (F, D, n, sl) (zcI F n sl) (fX12_told_166 F k_61 o1 o2 o3 v5 v7 s0 D) := by
  unfold fX12_told_166
  refine zO_chk (fun h4 => ?_)
  refine zO_istore dX12_told_166 (by decide) ?_
  refine zO_ls (ls' := [(0, zR 91), (1, zI o1), (2, zI o2), (3, zI o3), (5, zI v5), (7, zL v7), (10, zI s0)]) rfl ?_
  refine zO_aload_n dX12_told_168 rfl (zR_P _) ?_
  refine zO_dup dX12_told_169 (rfl) ?_
  refine gt12 (k := 18) (v := zI (D 91 18)) dX12_told_170 wF_X12_246 (by decide) (gk_91 hG) rfl ?_
  refine zO_iconst dX12_told_173 (by decide) ?_
  refine zO_iadd dX12_told_174 h4 ?_
  refine ptI12 (k := 18) (z := ((D 91 18) + 1)) dX12_told_175 wF_X12_246 (by decide) rfl (gk_91 hG) rfl ?_
  refine zO_letD (fun D_13 eD_13 => ?_)
  refine zO_iload dX12_told_178 rfl ?_
  refine zO_if_eq (tgt := 212) dX12_told_180 rfl (fun c180 => ?_) (fun c180 => ?_)
  · refine zO_live [0, 1, 2, 3, 5] ?_
    exact sX12_told_212 hG o1 o2 o3 v5 _ hk_61 D_13
  · refine zO_lload dX12_told_183 rfl ?_
    refine zO_iload_n dX12_told_185 rfl ?_
    refine zO_i2l dX12_told_186 ?_
    refine zO_lif_ge (tgt := 195) dX12_told_187 dX12_told_188 rfl (fun c187 => ?_) (fun c187 => ?_)
    · refine zO_iload_n dX12_told_191 rfl ?_
      refine zO_goto (tgt := 210) dX12_told_192 rfl ?_
      refine zO_live [0, 1, 2, 3] ?_
      exact sX12_told_210 hG o1 o2 o3 o2 _ hk_61 D_13
    · refine zO_lload dX12_told_195 rfl ?_
      refine zO_iload_n dX12_told_197 rfl ?_
      refine zO_i2l dX12_told_198 ?_
      refine zO_lif_le (tgt := 207) dX12_told_199 dX12_told_200 rfl (fun c199 => ?_) (fun c199 => ?_)
      · refine zO_iload_n dX12_told_203 rfl ?_
        refine zO_goto (tgt := 210) dX12_told_204 rfl ?_
        refine zO_live [0, 1, 2, 3] ?_
        exact sX12_told_210 hG o1 o2 o3 o3 _ hk_61 D_13
      · refine zO_lload dX12_told_207 rfl ?_
        refine zO_l2i dX12_told_209 ?_
        refine zO_live [0, 1, 2, 3] ?_
        exact sX12_told_210 hG o1 o2 o3 (zl2i v7) _ hk_61 D_13
set_option maxHeartbeats 20000000 in
theorem sX12_told_165 {l : Launch} {E : zE} {d : Nat} {F : zFs} {n sl : Nat} (hG : zG F)  (o1 : Int) (o2 : Int) (o3 : Int) (v5 : Int) (v7 : Int) (k_61 : Int → zDa → Option (Int × zDa)) (hk_61 : ∀ (u5 : Int) (D : zDa), zO l E (d + 86) YX12_told 61 [(0, zR 91), (1, zI o1), (2, zI o2), (3, zI o3), (5, zI u5)] [] (F, D, n, sl) (zcI F n sl) (k_61 u5 D)) (D : zDa) : zO l E (d + 86) YX12_told 165 [(0, zR 91), (1, zI o1), (2, zI o2), (3, zI o3), (5, zI v5), (7, zL v7)] [] (F, D, n, sl) (zcI F n sl) (fX12_told_165 F k_61 o1 o2 o3 v5 v7 D) := by
  unfold fX12_told_165
  refine zO_iconst dX12_told_165 (by decide) ?_
  refine zO_live [0, 1, 2, 3, 5, 7] ?_
  exact sX12_told_166 hG o1 o2 o3 v5 v7 0 _ hk_61 D
set_option maxHeartbeats 20000000 in
theorem sX12_told_136 {l : Launch} {E : zE} {d : Nat} {F : zFs} {n sl : Nat} (hG : zG F)  (o1 : Int) (o2 : Int) (o3 : Int) (v5 : Int) (v6 : Int) (v7 : Int) (v9 : Int) (s0 : Int) (k_61 : Int → zDa → Option (Int × zDa)) (hk_61 : ∀ (u5 : Int) (D : zDa), zO l E (d + 86) YX12_told 61 [(0, zR 91), (1, zI o1), (2, zI o2), (3, zI o3), (5, zI u5)] [] (F, D, n, sl) (zcI F n sl) (k_61 u5 D)) (D : zDa) : zO l E (d + 86) YX12_told 136 [(0, zR 91), (1, zI o1), (2, zI o2), (3, zI o3), (5, zI v5), (6, zI v6), (7, zL v7), (9, zI v9)] [zI s0] (F, D, n, sl) (zcI F n sl) (fX12_told_136 F k_61 o1 o2 o3 v5 v6 v7 v9 s0 D) := by
  unfold fX12_told_136
  refine zO_istore dX12_told_136 (by decide) ?_
  refine zO_ls (ls' := [(0, zR 91), (1, zI o1), (2, zI o2), (3, zI o3), (5, zI v5), (6, zI v6), (7, zL v7), (9, zI v9), (10, zI s0)]) rfl ?_
  refine zO_iload dX12_told_138 rfl ?_
  refine zO_if_eq (tgt := 165) dX12_told_140 rfl (fun c140 => ?_) (fun c140 => ?_)
  · refine zO_live [0, 1, 2, 3, 5, 7] ?_
    exact sX12_told_165 hG o1 o2 o3 v5 v7 _ hk_61 D
  · refine zO_aload_n dX12_told_143 rfl (zR_P _) ?_
    refine gt12 (k := 20) (v := zI (D 91 20)) dX12_told_144 wF_X12_256 (by decide) (gk_91 hG) rfl ?_
    refine zO_if_ne (tgt := 165) dX12_told_147 rfl (fun c147 => ?_) (fun c147 => ?_)
    · refine zO_iload dX12_told_150 rfl ?_
      refine zO_if_ne (tgt := 165) dX12_told_152 rfl (fun c152 => ?_) (fun c152 => ?_)
      · refine zO_iload dX12_told_155 rfl ?_
        refine zO_iload_n dX12_told_157 rfl ?_
        refine zO_icmp_ne (tgt := 165) dX12_told_158 rfl (fun c158 => ?_) (fun c158 => ?_)
        · refine zO_iconst dX12_told_161 (by decide) ?_
          refine zO_goto (tgt := 166) dX12_told_162 rfl ?_
          refine zO_live [0, 1, 2, 3, 5, 7] ?_
          exact sX12_told_166 hG o1 o2 o3 v5 v7 1 _ hk_61 D
        · refine zO_live [0, 1, 2, 3, 5, 7] ?_
          exact sX12_told_165 hG o1 o2 o3 v5 v7 _ hk_61 D
      · refine zO_live [0, 1, 2, 3, 5, 7] ?_
        exact sX12_told_165 hG o1 o2 o3 v5 v7 _ hk_61 D
    · refine zO_live [0, 1, 2, 3, 5, 7] ?_
      exact sX12_told_165 hG o1 o2 o3 v5 v7 _ hk_61 D
set_option maxHeartbeats 20000000 in
theorem sX12_told_131 {l : Launch} {E : zE} {d : Nat} {F : zFs} {n sl : Nat} (hG : zG F)  (o1 : Int) (o2 : Int) (o3 : Int) (v5 : Int) (v6 : Int) (v7 : Int) (v9 : Int) (k_61 : Int → zDa → Option (Int × zDa)) (hk_61 : ∀ (u5 : Int) (D : zDa), zO l E (d + 86) YX12_told 61 [(0, zR 91), (1, zI o1), (2, zI o2), (3, zI o3), (5, zI u5)] [] (F, D, n, sl) (zcI F n sl) (k_61 u5 D)) (D : zDa) : zO l E (d + 86) YX12_told 131 [(0, zR 91), (1, zI o1), (2, zI o2), (3, zI o3), (5, zI v5), (6, zI v6), (7, zL v7), (9, zI v9)] [] (F, D, n, sl) (zcI F n sl) (fX12_told_131 F k_61 o1 o2 o3 v5 v6 v7 v9 D) := by
  unfold fX12_told_131
  refine zO_iconst dX12_told_131 (by decide) ?_
  refine zO_goto (tgt := 136) dX12_told_132 rfl ?_
  refine zO_live [0, 1, 2, 3, 5, 6, 7, 9] ?_
  exact sX12_told_136 hG o1 o2 o3 v5 v6 v7 v9 1 _ hk_61 D
set_option maxHeartbeats 20000000 in
theorem sX12_told_61 {l : Launch} {E : zE} {d : Nat} {F : zFs} {n sl : Nat} (hG : zG F)  (o1 : Int) (o2 : Int) (o3 : Int)   : ∀ (N : Nat) (v5 : Int) (D : zDa), zO l E (d + 86) YX12_told 61 [(0, zR 91), (1, zI o1), (2, zI o2), (3, zI o3), (5, zI v5)] [] (F, D, n, sl) (zcI F n sl) (zfix (fun _ _ => none) (fX12_told_61 F o1 o2 o3) N v5 D) := by
  intro N
  induction N with
  | zero => intro v5 D; exact zO_none
  | succ N hk_61 =>
    intro v5 D
    show zO _ _ _ _ _ _ _ _ _ ((fX12_told_61 F o1 o2 o3) (zfix (fun _ _ => none) (fX12_told_61 F o1 o2 o3) N) v5 D)
    unfold fX12_told_61
    refine zO_aload_n dX12_told_61 rfl (zR_P _) ?_
    refine gt12 (k := 18) (v := zI (D 91 18)) dX12_told_62 wF_X12_246 (by decide) (gk_91 hG) rfl ?_
    refine zO_aload_n dX12_told_65 rfl (zR_P _) ?_
    refine gt12 (k := 19) (v := zI (D 91 19)) dX12_told_66 wF_X12_243 (by decide) (gk_91 hG) rfl ?_
    refine zO_icmp_ge (tgt := 215) dX12_told_69 rfl (fun c69 => ?_) (fun c69 => ?_)
    · refine zO_aload_n dX12_told_72 rfl (zR_P _) ?_
      refine zO_iconst dX12_told_73 (by decide) ?_
      refine pt12 (k := 20) (z := 0) dX12_told_74 wF_X12_256 (by decide) rfl (gk_91 hG) rfl (Or.inl rfl) ?_
      refine zO_letD (fun D_3 eD_3 => ?_)
      refine zO_aload_n dX12_told_77 rfl (zR_P _) ?_
      refine zO_aload_n dX12_told_78 rfl (zR_P _) ?_
      refine gt12 (k := 18) (v := zI (D_3 91 18)) dX12_told_79 wF_X12_246 (by decide) (gk_91 hG) rfl ?_
      refine zO_callV (Y' := YX12_codeAt) (cw := zcI F n sl) (as := [zI (D_3 91 18)]) (rest := []) (na := 1) (ci := 12) rfl dX12_told_82 wC_X12_codeAt wN_X12 wM_X12_249 wI_X12_codeAt wV_X12_codeAt (by decide) (by decide) rfl rfl (Nat.le_of_ble_eq_true rfl) rfl (by decide) (gk_91 hG) (fun r hr => zMet_cast (Nat.add_assoc d 85 0) (mX12_codeAt (d := d + 85) hG (D_3 91 18) r hr)) ?_
      rintro ⟨r_4, D_5⟩ -
      show zO _ _ _ _ _ _ [zI r_4] (F, D_5, n, sl) _ _
      refine zO_chk (fun h3 => ?_)
      refine zO_istore dX12_told_85 (by decide) ?_
      refine zO_ls (ls' := [(0, zR 91), (1, zI o1), (2, zI o2), (3, zI o3), (5, zI v5), (6, zI r_4)]) rfl ?_
      refine zO_aload_n dX12_told_87 rfl (zR_P _) ?_
      refine zO_dup dX12_told_88 (rfl) ?_
      refine gt12 (k := 18) (v := zI (D_5 91 18)) dX12_told_89 wF_X12_246 (by decide) (gk_91 hG) rfl ?_
      refine zO_iconst dX12_told_92 (by decide) ?_
      refine zO_iadd dX12_told_93 h3 ?_
      refine ptI12 (k := 18) (z := ((D_5 91 18) + 1)) dX12_told_94 wF_X12_246 (by decide) rfl (gk_91 hG) rfl ?_
      refine zO_letD (fun D_6 eD_6 => ?_)
      refine zO_aload_n dX12_told_97 rfl (zR_P _) ?_
      refine zO_iconst dX12_told_98 (by decide) ?_
      refine zO_callV (Y' := YX12_sumOf) (cw := zcJ F n sl) (as := [zI 1]) (rest := []) (na := 1) (ci := 12) rfl dX12_told_99 wC_X12_sumOf wN_X12 wM_X12_274 wI_X12_sumOf wV_X12_sumOf (by decide) (by decide) rfl rfl (Nat.le_of_ble_eq_true rfl) rfl (by decide) (gk_91 hG) (fun r hr => zMet_cast (Nat.add_assoc d 42 43) (mX12_sumOf (d := d + 42) hG 1 r hr)) ?_
      rintro ⟨r_7, D_8⟩ -
      show zO _ _ _ _ _ _ [zL r_7] (F, D_8, n, sl) _ _
      refine zO_lstore dX12_told_102 (by decide) ?_
      refine zO_ls (ls' := [(0, zR 91), (1, zI o1), (2, zI o2), (3, zI o3), (5, zI v5), (6, zI r_4), (7, zL r_7)]) rfl ?_
      refine zO_aload_n dX12_told_104 rfl (zR_P _) ?_
      refine gt12 (k := 20) (v := zI (D_8 91 20)) dX12_told_105 wF_X12_256 (by decide) (gk_91 hG) rfl ?_
      refine zO_letI (fun x9_9 ex9_9 => ?_)
      refine zO_istore dX12_told_108 (by decide) ?_
      refine zO_ls (ls' := [(0, zR 91), (1, zI o1), (2, zI o2), (3, zI o3), (5, zI v5), (6, zI r_4), (7, zL r_7), (9, zI x9_9)]) rfl ?_
      refine zO_aload_n dX12_told_110 rfl (zR_P _) ?_
      refine zO_iconst dX12_told_111 (by decide) ?_
      refine pt12 (k := 20) (z := 0) dX12_told_112 wF_X12_256 (by decide) rfl (gk_91 hG) rfl (Or.inl rfl) ?_
      refine zO_letD (fun D_10 eD_10 => ?_)
      refine zO_aload_n dX12_told_115 rfl (zR_P _) ?_
      refine zO_iconst dX12_told_116 (by decide) ?_
      refine zO_callV (Y' := YX12_passes0) (cw := zcI F n sl) (as := [zI 4]) (rest := []) (na := 1) (ci := 12) rfl dX12_told_117 wC_X12_passes0 wN_X12 wM_X12_271 wI_X12_passes0 wV_X12_passes0 (by decide) (by decide) rfl rfl (Nat.le_of_ble_eq_true rfl) rfl (by decide) (gk_91 hG) (fun r hr => zMet_cast (Nat.add_assoc d 84 1) (mX12_passes0 (d := d + 84) hG 4 r hr)) ?_
      rintro ⟨r_11, D_12⟩ -
      show zO _ _ _ _ _ _ [zI r_11] (F, D_12, n, sl) _ _
      refine zO_if_eq (tgt := 131) dX12_told_120 rfl (fun c120 => ?_) (fun c120 => ?_)
      · refine zO_live [0, 1, 2, 3, 5, 6, 7, 9] ?_
        exact sX12_told_131 hG o1 o2 o3 v5 r_4 r_7 x9_9 _ hk_61 D_12
      · refine zO_aload_n dX12_told_123 rfl (zR_P _) ?_
        refine zO_iconst dX12_told_124 (by decide) ?_
        refine zO_callV (Y' := YX12_testOf) (cw := zcI F n sl) (as := [zI 1]) (rest := []) (na := 1) (ci := 12) rfl dX12_told_125 wC_X12_testOf wN_X12 wM_X12_287 wI_X12_testOf wV_X12_testOf (by decide) (by decide) rfl rfl (Nat.le_of_ble_eq_true rfl) rfl (by decide) (gk_91 hG) (fun r hr => zMet_cast (Nat.add_assoc d 0 85) (mX12_testOf (d := d + 0) hG 1 r hr)) ?_
        rintro ⟨r_14, D_15⟩ -
        show zO _ _ _ _ _ _ [zI r_14] (F, D_15, n, sl) _ _
        refine zO_if_eq (tgt := 135) dX12_told_128 rfl (fun c128 => ?_) (fun c128 => ?_)
        · refine zO_iconst dX12_told_135 (by decide) ?_
          refine zO_live [0, 1, 2, 3, 5, 6, 7, 9] ?_
          exact sX12_told_136 hG o1 o2 o3 v5 r_4 r_7 x9_9 0 _ hk_61 D_15
        · refine zO_live [0, 1, 2, 3, 5, 6, 7, 9] ?_
          exact sX12_told_131 hG o1 o2 o3 v5 r_4 r_7 x9_9 _ hk_61 D_15
    · refine zO_iload dX12_told_215 rfl ?_
      exact zO_ret (rv := some (zI v5)) dX12_told_217 rfl rfl rfl
set_option maxHeartbeats 20000000 in
theorem mX12_told {l : Launch} {E : zE} {d : Nat} {F : zFs} {n sl : Nat} (hG : zG F) (v1 : Int) (v2 : Int) (v3 : Int) (v4 : Int) {D : zDa} : ∀ r, fX12_told F  v1 v2 v3 v4 D = some r → zMet l E (d + 86) YX12_told [zR 91, zI v1, zI v2, zI v3, zI v4] (F, D, n, sl) (zcI F n sl r) := by
  intro r hr
  refine zMet_of (plainFor_of_name (by decide)) (fun _ h => (nomatch h)) (Nat.le_of_ble_eq_true rfl) ?_
  have hz : zO l E (d + 86) YX12_told 0 [(0, zR 91), (1, zI v1), (2, zI v2), (3, zI v3), (4, zI v4)] [] (F, D, n, sl) (zcI F n sl) (fX12_told F  v1 v2 v3 v4 D) := by
    unfold fX12_told
    refine zO_aload_n dX12_told_0 rfl (zR_P _) ?_
    refine gt12 (k := 3) dX12_told_1 wF_X12_20 (by decide) (gk_91 hG) (zgv (c := 12) (k := 3) rfl (Or.inl ⟨_, rfl⟩) (gf_91_3 hG)) ?_
    refine zO_sipush dX12_told_4 (by decide) ?_
    refine zO_iald dX12_told_7 (gk_93 hG) (gl_in (gl_93 hG) (by decide)) ?_
    refine zO_iconst dX12_told_8 (by decide) ?_
    refine zO_icmp_ne (tgt := 15) dX12_told_9 rfl (fun c9 => ?_) (fun c9 => ?_)
    · refine zO_iload dX12_told_12 rfl ?_
      exact zO_ret (rv := some (zI v4)) dX12_told_14 rfl rfl rfl
    · refine zO_chk (fun h1 => ?_)
      refine zO_aload_n dX12_told_15 rfl (zR_P _) ?_
      refine zO_sipush dX12_told_16 (by decide) ?_
      refine zO_aload_n dX12_told_19 rfl (zR_P _) ?_
      refine gt12 (k := 3) dX12_told_20 wF_X12_20 (by decide) (gk_91 hG) (zgv (c := 12) (k := 3) rfl (Or.inl ⟨_, rfl⟩) (gf_91_3 hG)) ?_
      refine zO_sipush dX12_told_23 (by decide) ?_
      refine zO_iald dX12_told_26 (gk_93 hG) (gl_in (gl_93 hG) (by decide)) ?_
      refine zO_imul dX12_told_27 h1 ?_
      refine ptI12 (k := 18) (z := (400 * (D 93 394))) dX12_told_28 wF_X12_246 (by decide) rfl (gk_91 hG) rfl ?_
      refine zO_letD (fun D_1 eD_1 => ?_)
      refine zO_chk (fun h2 => ?_)
      refine zO_aload_n dX12_told_31 rfl (zR_P _) ?_
      refine zO_aload_n dX12_told_32 rfl (zR_P _) ?_
      refine gt12 (k := 18) (v := zI (D_1 91 18)) dX12_told_33 wF_X12_246 (by decide) (gk_91 hG) rfl ?_
      refine zO_aload_n dX12_told_36 rfl (zR_P _) ?_
      refine gt12 (k := 3) dX12_told_37 wF_X12_20 (by decide) (gk_91 hG) (zgv (c := 12) (k := 3) rfl (Or.inl ⟨_, rfl⟩) (gf_91_3 hG)) ?_
      refine zO_sipush dX12_told_40 (by decide) ?_
      refine zO_aload_n dX12_told_43 rfl (zR_P _) ?_
      refine gt12 (k := 3) dX12_told_44 wF_X12_20 (by decide) (gk_91 hG) (zgv (c := 12) (k := 3) rfl (Or.inl ⟨_, rfl⟩) (gf_91_3 hG)) ?_
      refine zO_sipush dX12_told_47 (by decide) ?_
      refine zO_iald dX12_told_50 (gk_93 hG) (gl_in (gl_93 hG) (by decide)) ?_
      refine zO_iadd dX12_told_51 h2.1 ?_
      refine zO_iald dX12_told_52 (gk_93 hG) (gl_in (gl_93 hG) h2.2.1) ?_
      refine zO_iadd dX12_told_53 h2.2.2 ?_
      refine ptI12 (k := 19) (z := ((D_1 91 18) + (D_1 93 (395 + (D_1 93 394)).toNat))) dX12_told_54 wF_X12_243 (by decide) rfl (gk_91 hG) rfl ?_
      refine zO_letD (fun D_2 eD_2 => ?_)
      refine zO_iload dX12_told_57 rfl ?_
      refine zO_istore dX12_told_59 (by decide) ?_
      refine zO_ls (ls' := [(0, zR 91), (1, zI v1), (2, zI v2), (3, zI v3), (4, zI v4), (5, zI v4)]) rfl ?_
      refine zO_live [0, 1, 2, 3, 5] ?_
      exact sX12_told_61 hG v1 v2 v3 zfu v4 D_2
  exact hz r hr
theorem dX12_asksOf_0 : decode cX12_asksOf 0 = .ok (.aload_n 0, 1) := by decide +kernel
theorem dX12_asksOf_1 : decode cX12_asksOf 1 = .ok (.getfield 52, 3) := by decide +kernel
theorem dX12_asksOf_4 : decode cX12_asksOf 4 = .ok (.iconst 0, 1) := by decide +kernel
theorem dX12_asksOf_5 : decode cX12_asksOf 5 = .ok (.aload_n 0, 1) := by decide +kernel
theorem dX12_asksOf_6 : decode cX12_asksOf 6 = .ok (.iload_n 1, 1) := by decide +kernel
theorem dX12_asksOf_7 : decode cX12_asksOf 7 = .ok (.iconst 0, 1) := by decide +kernel
theorem dX12_asksOf_8 : decode cX12_asksOf 8 = .ok (.invokevirtual 150, 3) := by decide +kernel
theorem dX12_asksOf_11 : decode cX12_asksOf 11 = .ok (.iastore, 1) := by decide +kernel
theorem dX12_asksOf_12 : decode cX12_asksOf 12 = .ok (.aload_n 0, 1) := by decide +kernel
theorem dX12_asksOf_13 : decode cX12_asksOf 13 = .ok (.getfield 52, 3) := by decide +kernel
theorem dX12_asksOf_16 : decode cX12_asksOf 16 = .ok (.iconst 1, 1) := by decide +kernel
theorem dX12_asksOf_17 : decode cX12_asksOf 17 = .ok (.aload_n 0, 1) := by decide +kernel
theorem dX12_asksOf_18 : decode cX12_asksOf 18 = .ok (.iload_n 1, 1) := by decide +kernel
theorem dX12_asksOf_19 : decode cX12_asksOf 19 = .ok (.iconst 1, 1) := by decide +kernel
theorem dX12_asksOf_20 : decode cX12_asksOf 20 = .ok (.invokevirtual 150, 3) := by decide +kernel
theorem dX12_asksOf_23 : decode cX12_asksOf 23 = .ok (.iastore, 1) := by decide +kernel
theorem dX12_asksOf_24 : decode cX12_asksOf 24 = .ok (.aload_n 0, 1) := by decide +kernel
theorem dX12_asksOf_25 : decode cX12_asksOf 25 = .ok (.getfield 52, 3) := by decide +kernel
theorem dX12_asksOf_28 : decode cX12_asksOf 28 = .ok (.iconst 2, 1) := by decide +kernel
theorem dX12_asksOf_29 : decode cX12_asksOf 29 = .ok (.iload_n 2, 1) := by decide +kernel
theorem dX12_asksOf_30 : decode cX12_asksOf 30 = .ok (.iastore, 1) := by decide +kernel
theorem dX12_asksOf_31 : decode cX12_asksOf 31 = .ok (.aload_n 0, 1) := by decide +kernel
theorem dX12_asksOf_32 : decode cX12_asksOf 32 = .ok (.getfield 52, 3) := by decide +kernel
theorem dX12_asksOf_35 : decode cX12_asksOf 35 = .ok (.iconst 3, 1) := by decide +kernel
theorem dX12_asksOf_36 : decode cX12_asksOf 36 = .ok (.iload_n 3, 1) := by decide +kernel
theorem dX12_asksOf_37 : decode cX12_asksOf 37 = .ok (.iastore, 1) := by decide +kernel
theorem dX12_asksOf_38 : decode cX12_asksOf 38 = .ok (.aload_n 0, 1) := by decide +kernel
theorem dX12_asksOf_39 : decode cX12_asksOf 39 = .ok (.getfield 52, 3) := by decide +kernel
theorem dX12_asksOf_42 : decode cX12_asksOf 42 = .ok (.iconst 4, 1) := by decide +kernel
theorem dX12_asksOf_43 : decode cX12_asksOf 43 = .ok (.aload_n 0, 1) := by decide +kernel
theorem dX12_asksOf_44 : decode cX12_asksOf 44 = .ok (.iload_n 1, 1) := by decide +kernel
theorem dX12_asksOf_45 : decode cX12_asksOf 45 = .ok (.iconst 3, 1) := by decide +kernel
theorem dX12_asksOf_46 : decode cX12_asksOf 46 = .ok (.invokevirtual 150, 3) := by decide +kernel
theorem dX12_asksOf_49 : decode cX12_asksOf 49 = .ok (.iastore, 1) := by decide +kernel
theorem dX12_asksOf_50 : decode cX12_asksOf 50 = .ok (.aload_n 0, 1) := by decide +kernel
theorem dX12_asksOf_51 : decode cX12_asksOf 51 = .ok (.getfield 52, 3) := by decide +kernel
theorem dX12_asksOf_54 : decode cX12_asksOf 54 = .ok (.iconst 5, 1) := by decide +kernel
theorem dX12_asksOf_55 : decode cX12_asksOf 55 = .ok (.iload 4, 2) := by decide +kernel
theorem dX12_asksOf_57 : decode cX12_asksOf 57 = .ok (.iastore, 1) := by decide +kernel
theorem dX12_asksOf_58 : decode cX12_asksOf 58 = .ok (.aload_n 0, 1) := by decide +kernel
theorem dX12_asksOf_59 : decode cX12_asksOf 59 = .ok (.getfield 52, 3) := by decide +kernel
theorem dX12_asksOf_62 : decode cX12_asksOf 62 = .ok (.bipush 6, 2) := by decide +kernel
theorem dX12_asksOf_64 : decode cX12_asksOf 64 = .ok (.iload_n 1, 1) := by decide +kernel
theorem dX12_asksOf_65 : decode cX12_asksOf 65 = .ok (.iastore, 1) := by decide +kernel
theorem dX12_asksOf_66 : decode cX12_asksOf 66 = .ok (.return_, 1) := by decide +kernel
abbrev YX12_asksOf : zY := (yX12_asksOf, cX12_asksOf, 5, none, [])
def fX12_asksOf (F : zFs) (v1 : Int) (v2 : Int) (v3 : Int) (v4 : Int) (D : zDa) : Option zDa :=
  (fX12_factOf F v1 0 D).bind (fun (r_1, D_2) =>
    zlet (zwr D_2 102 0 r_1) (fun D_3 =>
      (fX12_factOf F v1 1 D_3).bind (fun (r_4, D_5) =>
        zlet (zwr D_5 102 1 r_4) (fun D_6 =>
          zlet (zwr D_6 102 2 v2) (fun D_7 =>
            zlet (zwr D_7 102 3 v3) (fun D_8 =>
              (fX12_factOf F v1 3 D_8).bind (fun (r_9, D_10) =>
                zlet (zwr D_10 102 4 r_9) (fun D_11 =>
                  zlet (zwr D_11 102 5 v4) (fun D_12 =>
                    zlet (zwr D_12 102 6 v1) (fun D_13 =>
                      some D_13))))))))))
set_option maxHeartbeats 20000000 in
theorem mX12_asksOf {l : Launch} {E : zE} {d : Nat} {F : zFs} {n sl : Nat} (hG : zG F) (v1 : Int) (v2 : Int) (v3 : Int) (v4 : Int) {D : zDa} : ∀ r, fX12_asksOf F  v1 v2 v3 v4 D = some r → zMet l E (d + 1) YX12_asksOf [zR 91, zI v1, zI v2, zI v3, zI v4] (F, D, n, sl) (zcV F n sl r) := by
  intro r hr
  refine zMet_of (plainFor_of_name (by decide)) (fun _ h => (nomatch h)) (Nat.le_of_ble_eq_true rfl) ?_
  have hz : zO l E (d + 1) YX12_asksOf 0 [(0, zR 91), (1, zI v1), (2, zI v2), (3, zI v3), (4, zI v4)] [] (F, D, n, sl) (zcV F n sl) (fX12_asksOf F  v1 v2 v3 v4 D) := by
    unfold fX12_asksOf
    refine zO_aload_n dX12_asksOf_0 rfl (zR_P _) ?_
    refine gt12 (k := 21) dX12_asksOf_1 wF_X12_52 (by decide) (gk_91 hG) (zgv (c := 12) (k := 21) rfl (Or.inl ⟨_, rfl⟩) (gf_91_21 hG)) ?_
    refine zO_iconst dX12_asksOf_4 (by decide) ?_
    refine zO_aload_n dX12_asksOf_5 rfl (zR_P _) ?_
    refine zO_iload_n dX12_asksOf_6 rfl ?_
    refine zO_iconst dX12_asksOf_7 (by decide) ?_
    refine zO_callV (Y' := YX12_factOf) (cw := zcI F n sl) (as := [zI v1, zI 0]) (rest := [zI 0, zR 102]) (na := 2) (ci := 12) rfl dX12_asksOf_8 wC_X12_factOf wN_X12 wM_X12_150 wI_X12_factOf wV_X12_factOf (by decide) (by decide) rfl rfl (Nat.le_of_ble_eq_true rfl) rfl (by decide) (gk_91 hG) (fun r hr => zMet_cast (Nat.add_assoc d 0 0) (mX12_factOf (d := d + 0) hG v1 0 r hr)) ?_
    rintro ⟨r_1, D_2⟩ -
    show zO _ _ _ _ _ _ [zI r_1, zI 0, zR 102] (F, D_2, n, sl) _ _
    refine zO_iast dX12_asksOf_11 (gk_102 hG) (gl_in (gl_102 hG) (by decide)) ?_
    refine zO_letD (fun D_3 eD_3 => ?_)
    refine zO_aload_n dX12_asksOf_12 rfl (zR_P _) ?_
    refine gt12 (k := 21) dX12_asksOf_13 wF_X12_52 (by decide) (gk_91 hG) (zgv (c := 12) (k := 21) rfl (Or.inl ⟨_, rfl⟩) (gf_91_21 hG)) ?_
    refine zO_iconst dX12_asksOf_16 (by decide) ?_
    refine zO_aload_n dX12_asksOf_17 rfl (zR_P _) ?_
    refine zO_iload_n dX12_asksOf_18 rfl ?_
    refine zO_iconst dX12_asksOf_19 (by decide) ?_
    refine zO_callV (Y' := YX12_factOf) (cw := zcI F n sl) (as := [zI v1, zI 1]) (rest := [zI 1, zR 102]) (na := 2) (ci := 12) rfl dX12_asksOf_20 wC_X12_factOf wN_X12 wM_X12_150 wI_X12_factOf wV_X12_factOf (by decide) (by decide) rfl rfl (Nat.le_of_ble_eq_true rfl) rfl (by decide) (gk_91 hG) (fun r hr => zMet_cast (Nat.add_assoc d 0 0) (mX12_factOf (d := d + 0) hG v1 1 r hr)) ?_
    rintro ⟨r_4, D_5⟩ -
    show zO _ _ _ _ _ _ [zI r_4, zI 1, zR 102] (F, D_5, n, sl) _ _
    refine zO_iast dX12_asksOf_23 (gk_102 hG) (gl_in (gl_102 hG) (by decide)) ?_
    refine zO_letD (fun D_6 eD_6 => ?_)
    refine zO_aload_n dX12_asksOf_24 rfl (zR_P _) ?_
    refine gt12 (k := 21) dX12_asksOf_25 wF_X12_52 (by decide) (gk_91 hG) (zgv (c := 12) (k := 21) rfl (Or.inl ⟨_, rfl⟩) (gf_91_21 hG)) ?_
    refine zO_iconst dX12_asksOf_28 (by decide) ?_
    refine zO_iload_n dX12_asksOf_29 rfl ?_
    refine zO_iast dX12_asksOf_30 (gk_102 hG) (gl_in (gl_102 hG) (by decide)) ?_
    refine zO_letD (fun D_7 eD_7 => ?_)
    refine zO_aload_n dX12_asksOf_31 rfl (zR_P _) ?_
    refine gt12 (k := 21) dX12_asksOf_32 wF_X12_52 (by decide) (gk_91 hG) (zgv (c := 12) (k := 21) rfl (Or.inl ⟨_, rfl⟩) (gf_91_21 hG)) ?_
    refine zO_iconst dX12_asksOf_35 (by decide) ?_
    refine zO_iload_n dX12_asksOf_36 rfl ?_
    refine zO_iast dX12_asksOf_37 (gk_102 hG) (gl_in (gl_102 hG) (by decide)) ?_
    refine zO_letD (fun D_8 eD_8 => ?_)
    refine zO_aload_n dX12_asksOf_38 rfl (zR_P _) ?_
    refine gt12 (k := 21) dX12_asksOf_39 wF_X12_52 (by decide) (gk_91 hG) (zgv (c := 12) (k := 21) rfl (Or.inl ⟨_, rfl⟩) (gf_91_21 hG)) ?_
    refine zO_iconst dX12_asksOf_42 (by decide) ?_
    refine zO_aload_n dX12_asksOf_43 rfl (zR_P _) ?_
    refine zO_iload_n dX12_asksOf_44 rfl ?_
    refine zO_iconst dX12_asksOf_45 (by decide) ?_
    refine zO_callV (Y' := YX12_factOf) (cw := zcI F n sl) (as := [zI v1, zI 3]) (rest := [zI 4, zR 102]) (na := 2) (ci := 12) rfl dX12_asksOf_46 wC_X12_factOf wN_X12 wM_X12_150 wI_X12_factOf wV_X12_factOf (by decide) (by decide) rfl rfl (Nat.le_of_ble_eq_true rfl) rfl (by decide) (gk_91 hG) (fun r hr => zMet_cast (Nat.add_assoc d 0 0) (mX12_factOf (d := d + 0) hG v1 3 r hr)) ?_
    rintro ⟨r_9, D_10⟩ -
    show zO _ _ _ _ _ _ [zI r_9, zI 4, zR 102] (F, D_10, n, sl) _ _
    refine zO_iast dX12_asksOf_49 (gk_102 hG) (gl_in (gl_102 hG) (by decide)) ?_
    refine zO_letD (fun D_11 eD_11 => ?_)
    refine zO_aload_n dX12_asksOf_50 rfl (zR_P _) ?_
    refine gt12 (k := 21) dX12_asksOf_51 wF_X12_52 (by decide) (gk_91 hG) (zgv (c := 12) (k := 21) rfl (Or.inl ⟨_, rfl⟩) (gf_91_21 hG)) ?_
    refine zO_iconst dX12_asksOf_54 (by decide) ?_
    refine zO_iload dX12_asksOf_55 rfl ?_
    refine zO_iast dX12_asksOf_57 (gk_102 hG) (gl_in (gl_102 hG) (by decide)) ?_
    refine zO_letD (fun D_12 eD_12 => ?_)
    refine zO_aload_n dX12_asksOf_58 rfl (zR_P _) ?_
    refine gt12 (k := 21) dX12_asksOf_59 wF_X12_52 (by decide) (gk_91 hG) (zgv (c := 12) (k := 21) rfl (Or.inl ⟨_, rfl⟩) (gf_91_21 hG)) ?_
    refine zO_bipush dX12_asksOf_62 (by decide) ?_
    refine zO_iload_n dX12_asksOf_64 rfl ?_
    refine zO_iast dX12_asksOf_65 (gk_102 hG) (gl_in (gl_102 hG) (by decide)) ?_
    refine zO_letD (fun D_13 eD_13 => ?_)
    exact zO_ret (rv := none) dX12_asksOf_66 rfl trivial rfl
  exact hz r hr
theorem dX12_takesOf_0 : decode cX12_takesOf 0 = .ok (.aload_n 0, 1) := by decide +kernel
theorem dX12_takesOf_1 : decode cX12_takesOf 1 = .ok (.iload_n 1, 1) := by decide +kernel
theorem dX12_takesOf_2 : decode cX12_takesOf 2 = .ok (.iload_n 2, 1) := by decide +kernel
theorem dX12_takesOf_3 : decode cX12_takesOf 3 = .ok (.iload_n 3, 1) := by decide +kernel
theorem dX12_takesOf_4 : decode cX12_takesOf 4 = .ok (.ifCond .eq 7, 3) := by decide +kernel
theorem dX12_takesOf_7 : decode cX12_takesOf 7 = .ok (.iconst 1, 1) := by decide +kernel
theorem dX12_takesOf_8 : decode cX12_takesOf 8 = .ok (.goto 4, 3) := by decide +kernel
theorem dX12_takesOf_11 : decode cX12_takesOf 11 = .ok (.iconst 0, 1) := by decide +kernel
theorem dX12_takesOf_12 : decode cX12_takesOf 12 = .ok (.iload 4, 2) := by decide +kernel
theorem dX12_takesOf_14 : decode cX12_takesOf 14 = .ok (.invokevirtual 290, 3) := by decide +kernel
theorem dX12_takesOf_17 : decode cX12_takesOf 17 = .ok (.aload_n 0, 1) := by decide +kernel
theorem dX12_takesOf_18 : decode cX12_takesOf 18 = .ok (.iconst 1, 1) := by decide +kernel
theorem dX12_takesOf_19 : decode cX12_takesOf 19 = .ok (.iconst 1, 1) := by decide +kernel
theorem dX12_takesOf_20 : decode cX12_takesOf 20 = .ok (.bipush 20, 2) := by decide +kernel
theorem dX12_takesOf_22 : decode cX12_takesOf 22 = .ok (.iconst 4, 1) := by decide +kernel
theorem dX12_takesOf_23 : decode cX12_takesOf 23 = .ok (.invokevirtual 294, 3) := by decide +kernel
theorem dX12_takesOf_26 : decode cX12_takesOf 26 = .ok (.ireturn, 1) := by decide +kernel
abbrev YX12_takesOf : zY := (yX12_takesOf, cX12_takesOf, 5, (Option.some Jvm.ClassFile.FieldType.int), [])
def fX12_takesOf_12 (F : zFs)  (v4 : Int) (s0 : Int) (s1 : Int) (s2 : Int) (D : zDa) : Option (Int × zDa) :=
  (fX12_asksOf F s2 s1 s0 v4 D).bind (fun D_2 =>
    (fX12_told F 1 1 20 4 D_2).bind (fun (r_3, D_4) =>
      some (r_3, D_4)))
def fX12_takesOf (F : zFs) (v1 : Int) (v2 : Int) (v3 : Int) (v4 : Int) (D : zDa) : Option (Int × zDa) :=
  if v3 = 0 then
    fX12_takesOf_12 F v4 0 v2 v1 D
  else
    fX12_takesOf_12 F v4 1 v2 v1 D
set_option maxHeartbeats 20000000 in
theorem sX12_takesOf_12 {l : Launch} {E : zE} {d : Nat} {F : zFs} {n sl : Nat} (hG : zG F)  (v4 : Int) (s0 : Int) (s1 : Int) (s2 : Int)   (D : zDa) : zO l E (d + 87) YX12_takesOf 12 [(0, zR 91), (4, zI v4)] [zI s0, zI s1, zI s2, zR 91] (F, D, n, sl) (zcI F n sl) (fX12_takesOf_12 F v4 s0 s1 s2 D) := by
  unfold fX12_takesOf_12
  refine zO_iload dX12_takesOf_12 rfl ?_
  refine zO_callV (Y' := YX12_asksOf) (cw := zcV F n sl) (as := [zI s2, zI s1, zI s0, zI v4]) (rest := []) (na := 4) (ci := 12) rfl dX12_takesOf_14 wC_X12_asksOf wN_X12 wM_X12_290 wI_X12_asksOf wV_X12_asksOf (by decide) (by decide) rfl rfl (Nat.le_of_ble_eq_true rfl) rfl (by decide) (gk_91 hG) (fun r hr => zMet_cast (Nat.add_assoc d 85 1) (mX12_asksOf (d := d + 85) hG s2 s1 s0 v4 r hr)) ?_
  intro D_2 _
  show zO _ _ _ _ _ _ [] (F, D_2, n, sl) _ _
  refine zO_aload_n dX12_takesOf_17 rfl (zR_P _) ?_
  refine zO_iconst dX12_takesOf_18 (by decide) ?_
  refine zO_iconst dX12_takesOf_19 (by decide) ?_
  refine zO_bipush dX12_takesOf_20 (by decide) ?_
  refine zO_iconst dX12_takesOf_22 (by decide) ?_
  refine zO_callV (Y' := YX12_told) (cw := zcI F n sl) (as := [zI 1, zI 1, zI 20, zI 4]) (rest := []) (na := 4) (ci := 12) rfl dX12_takesOf_23 wC_X12_told wN_X12 wM_X12_294 wI_X12_told wV_X12_told (by decide) (by decide) rfl rfl (Nat.le_of_ble_eq_true rfl) rfl (by decide) (gk_91 hG) (fun r hr => zMet_cast (Nat.add_assoc d 0 86) (mX12_told (d := d + 0) hG 1 1 20 4 r hr)) ?_
  rintro ⟨r_3, D_4⟩ -
  show zO _ _ _ _ _ _ [zI r_3] (F, D_4, n, sl) _ _
  exact zO_ret (rv := some (zI r_3)) dX12_takesOf_26 rfl rfl rfl
set_option maxHeartbeats 20000000 in
theorem mX12_takesOf {l : Launch} {E : zE} {d : Nat} {F : zFs} {n sl : Nat} (hG : zG F) (v1 : Int) (v2 : Int) (v3 : Int) (v4 : Int) {D : zDa} : ∀ r, fX12_takesOf F  v1 v2 v3 v4 D = some r → zMet l E (d + 87) YX12_takesOf [zR 91, zI v1, zI v2, zI v3, zI v4] (F, D, n, sl) (zcI F n sl r) := by
  intro r hr
  refine zMet_of (plainFor_of_name (by decide)) (fun _ h => (nomatch h)) (Nat.le_of_ble_eq_true rfl) ?_
  have hz : zO l E (d + 87) YX12_takesOf 0 [(0, zR 91), (1, zI v1), (2, zI v2), (3, zI v3), (4, zI v4)] [] (F, D, n, sl) (zcI F n sl) (fX12_takesOf F  v1 v2 v3 v4 D) := by
    unfold fX12_takesOf
    refine zO_aload_n dX12_takesOf_0 rfl (zR_P _) ?_
    refine zO_iload_n dX12_takesOf_1 rfl ?_
    refine zO_iload_n dX12_takesOf_2 rfl ?_
    refine zO_iload_n dX12_takesOf_3 rfl ?_
    refine zO_if_eq (tgt := 11) dX12_takesOf_4 rfl (fun c4 => ?_) (fun c4 => ?_)
    · refine zO_iconst dX12_takesOf_11 (by decide) ?_
      refine zO_live [0, 4] ?_
      exact sX12_takesOf_12 hG v4 0 v2 v1 D
    · refine zO_iconst dX12_takesOf_7 (by decide) ?_
      refine zO_goto (tgt := 12) dX12_takesOf_8 rfl ?_
      refine zO_live [0, 4] ?_
      exact sX12_takesOf_12 hG v4 1 v2 v1 D
  exact hz r hr
theorem dX12_takes_0 : decode cX12_takes 0 = .ok (.aload_n 0, 1) := by decide +kernel
theorem dX12_takes_1 : decode cX12_takes 1 = .ok (.iload_n 1, 1) := by decide +kernel
theorem dX12_takes_2 : decode cX12_takes 2 = .ok (.invokevirtual 158, 3) := by decide +kernel
theorem dX12_takes_5 : decode cX12_takes 5 = .ok (.ifCond .eq 21, 3) := by decide +kernel
theorem dX12_takes_8 : decode cX12_takes 8 = .ok (.iload_n 2, 1) := by decide +kernel
theorem dX12_takes_9 : decode cX12_takes 9 = .ok (.iconst 1, 1) := by decide +kernel
theorem dX12_takes_10 : decode cX12_takes 10 = .ok (.iconst 3, 1) := by decide +kernel
theorem dX12_takes_11 : decode cX12_takes 11 = .ok (.invokestatic 135, 3) := by decide +kernel
theorem dX12_takes_14 : decode cX12_takes 14 = .ok (.ifCond .eq 12, 3) := by decide +kernel
theorem dX12_takes_17 : decode cX12_takes 17 = .ok (.iload_n 3, 1) := by decide +kernel
theorem dX12_takes_18 : decode cX12_takes 18 = .ok (.iconst 0, 1) := by decide +kernel
theorem dX12_takes_19 : decode cX12_takes 19 = .ok (.iconst 1, 1) := by decide +kernel
theorem dX12_takes_20 : decode cX12_takes 20 = .ok (.invokestatic 135, 3) := by decide +kernel
theorem dX12_takes_23 : decode cX12_takes 23 = .ok (.ifCond .ne 5, 3) := by decide +kernel
theorem dX12_takes_26 : decode cX12_takes 26 = .ok (.iconst (-1), 1) := by decide +kernel
theorem dX12_takes_27 : decode cX12_takes 27 = .ok (.ireturn, 1) := by decide +kernel
theorem dX12_takes_28 : decode cX12_takes 28 = .ok (.iload_n 2, 1) := by decide +kernel
theorem dX12_takes_29 : decode cX12_takes 29 = .ok (.iconst 3, 1) := by decide +kernel
theorem dX12_takes_30 : decode cX12_takes 30 = .ok (.if_icmp .ne 7, 3) := by decide +kernel
theorem dX12_takes_33 : decode cX12_takes 33 = .ok (.iconst 1, 1) := by decide +kernel
theorem dX12_takes_34 : decode cX12_takes 34 = .ok (.goto 20, 3) := by decide +kernel
theorem dX12_takes_37 : decode cX12_takes 37 = .ok (.aload_n 0, 1) := by decide +kernel
theorem dX12_takes_38 : decode cX12_takes 38 = .ok (.iload_n 1, 1) := by decide +kernel
theorem dX12_takes_39 : decode cX12_takes 39 = .ok (.iload_n 2, 1) := by decide +kernel
theorem dX12_takes_40 : decode cX12_takes 40 = .ok (.iload_n 3, 1) := by decide +kernel
theorem dX12_takes_41 : decode cX12_takes 41 = .ok (.iconst 1, 1) := by decide +kernel
theorem dX12_takes_42 : decode cX12_takes 42 = .ok (.if_icmp .ne 7, 3) := by decide +kernel
theorem dX12_takes_45 : decode cX12_takes 45 = .ok (.iconst 1, 1) := by decide +kernel
theorem dX12_takes_46 : decode cX12_takes 46 = .ok (.goto 4, 3) := by decide +kernel
theorem dX12_takes_49 : decode cX12_takes 49 = .ok (.iconst 0, 1) := by decide +kernel
theorem dX12_takes_50 : decode cX12_takes 50 = .ok (.iconst 0, 1) := by decide +kernel
theorem dX12_takes_51 : decode cX12_takes 51 = .ok (.invokevirtual 298, 3) := by decide +kernel
theorem dX12_takes_54 : decode cX12_takes 54 = .ok (.ireturn, 1) := by decide +kernel
abbrev YX12_takes : zY := (yX12_takes, cX12_takes, 4, (Option.some Jvm.ClassFile.FieldType.int), [])
def fX12_takes_50 (F : zFs)  (s0 : Int) (s1 : Int) (s2 : Int) (D : zDa) : Option (Int × zDa) :=
  (fX12_takesOf F s2 s1 s0 0 D).bind (fun (r_7, D_8) =>
    some (r_7, D_8))
def fX12_takes (F : zFs) (v1 : Int) (v2 : Int) (v3 : Int) (D : zDa) : Option (Int × zDa) :=
  (fX12_isQuestion F v1 D).bind (fun (r_1, D_2) =>
    if r_1 = 0 then
      some ((-1), D_2)
    else
      (fX12_lies F v2 1 3 D_2).bind (fun (r_3, D_4) =>
        if r_3 = 0 then
          some ((-1), D_4)
        else
          (fX12_lies F v3 0 1 D_4).bind (fun (r_5, D_6) =>
            if r_5 = 0 then
              some ((-1), D_6)
            else
              if v2 = 3 then
                some (1, D_6)
              else
                if v3 = 1 then
                  fX12_takes_50 F 1 v2 v1 D_6
                else
                  fX12_takes_50 F 0 v2 v1 D_6)))
set_option maxHeartbeats 20000000 in
theorem sX12_takes_50 {l : Launch} {E : zE} {d : Nat} {F : zFs} {n sl : Nat} (hG : zG F)  (s0 : Int) (s1 : Int) (s2 : Int)   (D : zDa) : zO l E (d + 88) YX12_takes 50 [] [zI s0, zI s1, zI s2, zR 91] (F, D, n, sl) (zcI F n sl) (fX12_takes_50 F s0 s1 s2 D) := by
  unfold fX12_takes_50
  refine zO_iconst dX12_takes_50 (by decide) ?_
  refine zO_callV (Y' := YX12_takesOf) (cw := zcI F n sl) (as := [zI s2, zI s1, zI s0, zI 0]) (rest := []) (na := 4) (ci := 12) rfl dX12_takes_51 wC_X12_takesOf wN_X12 wM_X12_298 wI_X12_takesOf wV_X12_takesOf (by decide) (by decide) rfl rfl (Nat.le_of_ble_eq_true rfl) rfl (by decide) (gk_91 hG) (fun r hr => zMet_cast (Nat.add_assoc d 0 87) (mX12_takesOf (d := d + 0) hG s2 s1 s0 0 r hr)) ?_
  rintro ⟨r_7, D_8⟩ -
  show zO _ _ _ _ _ _ [zI r_7] (F, D_8, n, sl) _ _
  exact zO_ret (rv := some (zI r_7)) dX12_takes_54 rfl rfl rfl
set_option maxHeartbeats 20000000 in
theorem mX12_takes {l : Launch} {E : zE} {d : Nat} {F : zFs} {n sl : Nat} (hG : zG F) (v1 : Int) (v2 : Int) (v3 : Int) {D : zDa} : ∀ r, fX12_takes F  v1 v2 v3 D = some r → zMet l E (d + 88) YX12_takes [zR 91, zI v1, zI v2, zI v3] (F, D, n, sl) (zcI F n sl r) := by
  intro r hr
  refine zMet_of (plainFor_of_name (by decide)) (fun _ h => (nomatch h)) (Nat.le_of_ble_eq_true rfl) ?_
  have hz : zO l E (d + 88) YX12_takes 0 [(0, zR 91), (1, zI v1), (2, zI v2), (3, zI v3)] [] (F, D, n, sl) (zcI F n sl) (fX12_takes F  v1 v2 v3 D) := by
    unfold fX12_takes
    refine zO_aload_n dX12_takes_0 rfl (zR_P _) ?_
    refine zO_iload_n dX12_takes_1 rfl ?_
    refine zO_callV (Y' := YX12_isQuestion) (cw := zcI F n sl) (as := [zI v1]) (rest := []) (na := 1) (ci := 12) rfl dX12_takes_2 wC_X12_isQuestion wN_X12 wM_X12_158 wI_X12_isQuestion wV_X12_isQuestion (by decide) (by decide) rfl rfl (Nat.le_of_ble_eq_true rfl) rfl (by decide) (gk_91 hG) (fun r hr => zMet_cast (Nat.add_assoc d 86 1) (mX12_isQuestion (d := d + 86) hG v1 r hr)) ?_
    rintro ⟨r_1, D_2⟩ -
    show zO _ _ _ _ _ _ [zI r_1] (F, D_2, n, sl) _ _
    refine zO_if_eq (tgt := 26) dX12_takes_5 rfl (fun c5 => ?_) (fun c5 => ?_)
    · refine zO_iconst dX12_takes_26 (by decide) ?_
      exact zO_ret (rv := some (zI (-1))) dX12_takes_27 rfl rfl rfl
    · refine zO_iload_n dX12_takes_8 rfl ?_
      refine zO_iconst dX12_takes_9 (by decide) ?_
      refine zO_iconst dX12_takes_10 (by decide) ?_
      refine zO_callS (Y' := YX12_lies) (cw := zcI F n sl) (as := [zI v2, zI 1, zI 3]) (rest := []) (na := 3) dX12_takes_11 wC_X12_lies wN_X12 wM_X12_135 wS_X12_lies (by decide) (by decide) rfl rfl (Nat.le_of_ble_eq_true rfl) (fun r hr => zMet_cast (Nat.add_assoc d 87 0) (mX12_lies (d := d + 87) hG v2 1 3 r hr)) ?_
      rintro ⟨r_3, D_4⟩ -
      show zO _ _ _ _ _ _ [zI r_3] (F, D_4, n, sl) _ _
      refine zO_if_eq (tgt := 26) dX12_takes_14 rfl (fun c14 => ?_) (fun c14 => ?_)
      · refine zO_iconst dX12_takes_26 (by decide) ?_
        exact zO_ret (rv := some (zI (-1))) dX12_takes_27 rfl rfl rfl
      · refine zO_iload_n dX12_takes_17 rfl ?_
        refine zO_iconst dX12_takes_18 (by decide) ?_
        refine zO_iconst dX12_takes_19 (by decide) ?_
        refine zO_callS (Y' := YX12_lies) (cw := zcI F n sl) (as := [zI v3, zI 0, zI 1]) (rest := []) (na := 3) dX12_takes_20 wC_X12_lies wN_X12 wM_X12_135 wS_X12_lies (by decide) (by decide) rfl rfl (Nat.le_of_ble_eq_true rfl) (fun r hr => zMet_cast (Nat.add_assoc d 87 0) (mX12_lies (d := d + 87) hG v3 0 1 r hr)) ?_
        rintro ⟨r_5, D_6⟩ -
        show zO _ _ _ _ _ _ [zI r_5] (F, D_6, n, sl) _ _
        refine zO_if_ne (tgt := 28) dX12_takes_23 rfl (fun c23 => ?_) (fun c23 => ?_)
        · refine zO_iconst dX12_takes_26 (by decide) ?_
          exact zO_ret (rv := some (zI (-1))) dX12_takes_27 rfl rfl rfl
        · refine zO_iload_n dX12_takes_28 rfl ?_
          refine zO_iconst dX12_takes_29 (by decide) ?_
          refine zO_icmp_ne (tgt := 37) dX12_takes_30 rfl (fun c30 => ?_) (fun c30 => ?_)
          · refine zO_iconst dX12_takes_33 (by decide) ?_
            refine zO_goto (tgt := 54) dX12_takes_34 rfl ?_
            exact zO_ret (rv := some (zI 1)) dX12_takes_54 rfl rfl rfl
          · refine zO_aload_n dX12_takes_37 rfl (zR_P _) ?_
            refine zO_iload_n dX12_takes_38 rfl ?_
            refine zO_iload_n dX12_takes_39 rfl ?_
            refine zO_iload_n dX12_takes_40 rfl ?_
            refine zO_iconst dX12_takes_41 (by decide) ?_
            refine zO_icmp_ne (tgt := 49) dX12_takes_42 rfl (fun c42 => ?_) (fun c42 => ?_)
            · refine zO_iconst dX12_takes_45 (by decide) ?_
              refine zO_goto (tgt := 50) dX12_takes_46 rfl ?_
              refine zO_live [] ?_
              exact sX12_takes_50 hG 1 v2 v1 D_6
            · refine zO_iconst dX12_takes_49 (by decide) ?_
              refine zO_live [] ?_
              exact sX12_takes_50 hG 0 v2 v1 D_6
  exact hz r hr
theorem dX12_keepsOf_0 : decode cX12_keepsOf 0 = .ok (.aload_n 0, 1) := by decide +kernel
theorem dX12_keepsOf_1 : decode cX12_keepsOf 1 = .ok (.iload_n 1, 1) := by decide +kernel
theorem dX12_keepsOf_2 : decode cX12_keepsOf 2 = .ok (.iload_n 2, 1) := by decide +kernel
theorem dX12_keepsOf_3 : decode cX12_keepsOf 3 = .ok (.iconst 0, 1) := by decide +kernel
theorem dX12_keepsOf_4 : decode cX12_keepsOf 4 = .ok (.iconst 0, 1) := by decide +kernel
theorem dX12_keepsOf_5 : decode cX12_keepsOf 5 = .ok (.invokevirtual 290, 3) := by decide +kernel
theorem dX12_keepsOf_8 : decode cX12_keepsOf 8 = .ok (.aload_n 0, 1) := by decide +kernel
theorem dX12_keepsOf_9 : decode cX12_keepsOf 9 = .ok (.iconst 2, 1) := by decide +kernel
theorem dX12_keepsOf_10 : decode cX12_keepsOf 10 = .ok (.iconst 1, 1) := by decide +kernel
theorem dX12_keepsOf_11 : decode cX12_keepsOf 11 = .ok (.bipush 30, 2) := by decide +kernel
theorem dX12_keepsOf_13 : decode cX12_keepsOf 13 = .ok (.bipush 10, 2) := by decide +kernel
theorem dX12_keepsOf_15 : decode cX12_keepsOf 15 = .ok (.invokevirtual 294, 3) := by decide +kernel
theorem dX12_keepsOf_18 : decode cX12_keepsOf 18 = .ok (.ireturn, 1) := by decide +kernel
abbrev YX12_keepsOf : zY := (yX12_keepsOf, cX12_keepsOf, 3, (Option.some Jvm.ClassFile.FieldType.int), [])
def fX12_keepsOf (F : zFs) (v1 : Int) (v2 : Int) (D : zDa) : Option (Int × zDa) :=
  (fX12_asksOf F v1 v2 0 0 D).bind (fun D_2 =>
    (fX12_told F 2 1 30 10 D_2).bind (fun (r_3, D_4) =>
      some (r_3, D_4)))
set_option maxHeartbeats 20000000 in
theorem mX12_keepsOf {l : Launch} {E : zE} {d : Nat} {F : zFs} {n sl : Nat} (hG : zG F) (v1 : Int) (v2 : Int) {D : zDa} : ∀ r, fX12_keepsOf F  v1 v2 D = some r → zMet l E (d + 87) YX12_keepsOf [zR 91, zI v1, zI v2] (F, D, n, sl) (zcI F n sl r) := by
  intro r hr
  refine zMet_of (plainFor_of_name (by decide)) (fun _ h => (nomatch h)) (Nat.le_of_ble_eq_true rfl) ?_
  have hz : zO l E (d + 87) YX12_keepsOf 0 [(0, zR 91), (1, zI v1), (2, zI v2)] [] (F, D, n, sl) (zcI F n sl) (fX12_keepsOf F  v1 v2 D) := by
    unfold fX12_keepsOf
    refine zO_aload_n dX12_keepsOf_0 rfl (zR_P _) ?_
    refine zO_iload_n dX12_keepsOf_1 rfl ?_
    refine zO_iload_n dX12_keepsOf_2 rfl ?_
    refine zO_iconst dX12_keepsOf_3 (by decide) ?_
    refine zO_iconst dX12_keepsOf_4 (by decide) ?_
    refine zO_callV (Y' := YX12_asksOf) (cw := zcV F n sl) (as := [zI v1, zI v2, zI 0, zI 0]) (rest := []) (na := 4) (ci := 12) rfl dX12_keepsOf_5 wC_X12_asksOf wN_X12 wM_X12_290 wI_X12_asksOf wV_X12_asksOf (by decide) (by decide) rfl rfl (Nat.le_of_ble_eq_true rfl) rfl (by decide) (gk_91 hG) (fun r hr => zMet_cast (Nat.add_assoc d 85 1) (mX12_asksOf (d := d + 85) hG v1 v2 0 0 r hr)) ?_
    intro D_2 _
    show zO _ _ _ _ _ _ [] (F, D_2, n, sl) _ _
    refine zO_aload_n dX12_keepsOf_8 rfl (zR_P _) ?_
    refine zO_iconst dX12_keepsOf_9 (by decide) ?_
    refine zO_iconst dX12_keepsOf_10 (by decide) ?_
    refine zO_bipush dX12_keepsOf_11 (by decide) ?_
    refine zO_bipush dX12_keepsOf_13 (by decide) ?_
    refine zO_callV (Y' := YX12_told) (cw := zcI F n sl) (as := [zI 2, zI 1, zI 30, zI 10]) (rest := []) (na := 4) (ci := 12) rfl dX12_keepsOf_15 wC_X12_told wN_X12 wM_X12_294 wI_X12_told wV_X12_told (by decide) (by decide) rfl rfl (Nat.le_of_ble_eq_true rfl) rfl (by decide) (gk_91 hG) (fun r hr => zMet_cast (Nat.add_assoc d 0 86) (mX12_told (d := d + 0) hG 2 1 30 10 r hr)) ?_
    rintro ⟨r_3, D_4⟩ -
    show zO _ _ _ _ _ _ [zI r_3] (F, D_4, n, sl) _ _
    exact zO_ret (rv := some (zI r_3)) dX12_keepsOf_18 rfl rfl rfl
  exact hz r hr
theorem dX12_keeps_0 : decode cX12_keeps 0 = .ok (.aload_n 0, 1) := by decide +kernel
theorem dX12_keeps_1 : decode cX12_keeps 1 = .ok (.iload_n 1, 1) := by decide +kernel
theorem dX12_keeps_2 : decode cX12_keeps 2 = .ok (.invokevirtual 158, 3) := by decide +kernel
theorem dX12_keeps_5 : decode cX12_keeps 5 = .ok (.ifCond .eq 21, 3) := by decide +kernel
theorem dX12_keeps_8 : decode cX12_keeps 8 = .ok (.iload_n 2, 1) := by decide +kernel
theorem dX12_keeps_9 : decode cX12_keeps 9 = .ok (.iconst 1, 1) := by decide +kernel
theorem dX12_keeps_10 : decode cX12_keeps 10 = .ok (.iconst 2, 1) := by decide +kernel
theorem dX12_keeps_11 : decode cX12_keeps 11 = .ok (.invokestatic 135, 3) := by decide +kernel
theorem dX12_keeps_14 : decode cX12_keeps 14 = .ok (.ifCond .eq 12, 3) := by decide +kernel
theorem dX12_keeps_17 : decode cX12_keeps 17 = .ok (.aload_n 0, 1) := by decide +kernel
theorem dX12_keeps_18 : decode cX12_keeps 18 = .ok (.iload_n 1, 1) := by decide +kernel
theorem dX12_keeps_19 : decode cX12_keeps 19 = .ok (.iload_n 2, 1) := by decide +kernel
theorem dX12_keeps_20 : decode cX12_keeps 20 = .ok (.invokevirtual 302, 3) := by decide +kernel
theorem dX12_keeps_23 : decode cX12_keeps 23 = .ok (.goto 4, 3) := by decide +kernel
theorem dX12_keeps_26 : decode cX12_keeps 26 = .ok (.iconst (-1), 1) := by decide +kernel
theorem dX12_keeps_27 : decode cX12_keeps 27 = .ok (.ireturn, 1) := by decide +kernel
abbrev YX12_keeps : zY := (yX12_keeps, cX12_keeps, 3, (Option.some Jvm.ClassFile.FieldType.int), [])
def fX12_keeps (F : zFs) (v1 : Int) (v2 : Int) (D : zDa) : Option (Int × zDa) :=
  (fX12_isQuestion F v1 D).bind (fun (r_1, D_2) =>
    if r_1 = 0 then
      some ((-1), D_2)
    else
      (fX12_lies F v2 1 2 D_2).bind (fun (r_3, D_4) =>
        if r_3 = 0 then
          some ((-1), D_4)
        else
          (fX12_keepsOf F v1 v2 D_4).bind (fun (r_5, D_6) =>
            some (r_5, D_6))))
set_option maxHeartbeats 20000000 in
theorem mX12_keeps {l : Launch} {E : zE} {d : Nat} {F : zFs} {n sl : Nat} (hG : zG F) (v1 : Int) (v2 : Int) {D : zDa} : ∀ r, fX12_keeps F  v1 v2 D = some r → zMet l E (d + 88) YX12_keeps [zR 91, zI v1, zI v2] (F, D, n, sl) (zcI F n sl r) := by
  intro r hr
  refine zMet_of (plainFor_of_name (by decide)) (fun _ h => (nomatch h)) (Nat.le_of_ble_eq_true rfl) ?_
  have hz : zO l E (d + 88) YX12_keeps 0 [(0, zR 91), (1, zI v1), (2, zI v2)] [] (F, D, n, sl) (zcI F n sl) (fX12_keeps F  v1 v2 D) := by
    unfold fX12_keeps
    refine zO_aload_n dX12_keeps_0 rfl (zR_P _) ?_
    refine zO_iload_n dX12_keeps_1 rfl ?_
    refine zO_callV (Y' := YX12_isQuestion) (cw := zcI F n sl) (as := [zI v1]) (rest := []) (na := 1) (ci := 12) rfl dX12_keeps_2 wC_X12_isQuestion wN_X12 wM_X12_158 wI_X12_isQuestion wV_X12_isQuestion (by decide) (by decide) rfl rfl (Nat.le_of_ble_eq_true rfl) rfl (by decide) (gk_91 hG) (fun r hr => zMet_cast (Nat.add_assoc d 86 1) (mX12_isQuestion (d := d + 86) hG v1 r hr)) ?_
    rintro ⟨r_1, D_2⟩ -
    show zO _ _ _ _ _ _ [zI r_1] (F, D_2, n, sl) _ _
    refine zO_if_eq (tgt := 26) dX12_keeps_5 rfl (fun c5 => ?_) (fun c5 => ?_)
    · refine zO_iconst dX12_keeps_26 (by decide) ?_
      exact zO_ret (rv := some (zI (-1))) dX12_keeps_27 rfl rfl rfl
    · refine zO_iload_n dX12_keeps_8 rfl ?_
      refine zO_iconst dX12_keeps_9 (by decide) ?_
      refine zO_iconst dX12_keeps_10 (by decide) ?_
      refine zO_callS (Y' := YX12_lies) (cw := zcI F n sl) (as := [zI v2, zI 1, zI 2]) (rest := []) (na := 3) dX12_keeps_11 wC_X12_lies wN_X12 wM_X12_135 wS_X12_lies (by decide) (by decide) rfl rfl (Nat.le_of_ble_eq_true rfl) (fun r hr => zMet_cast (Nat.add_assoc d 87 0) (mX12_lies (d := d + 87) hG v2 1 2 r hr)) ?_
      rintro ⟨r_3, D_4⟩ -
      show zO _ _ _ _ _ _ [zI r_3] (F, D_4, n, sl) _ _
      refine zO_if_eq (tgt := 26) dX12_keeps_14 rfl (fun c14 => ?_) (fun c14 => ?_)
      · refine zO_iconst dX12_keeps_26 (by decide) ?_
        exact zO_ret (rv := some (zI (-1))) dX12_keeps_27 rfl rfl rfl
      · refine zO_aload_n dX12_keeps_17 rfl (zR_P _) ?_
        refine zO_iload_n dX12_keeps_18 rfl ?_
        refine zO_iload_n dX12_keeps_19 rfl ?_
        refine zO_callV (Y' := YX12_keepsOf) (cw := zcI F n sl) (as := [zI v1, zI v2]) (rest := []) (na := 2) (ci := 12) rfl dX12_keeps_20 wC_X12_keepsOf wN_X12 wM_X12_302 wI_X12_keepsOf wV_X12_keepsOf (by decide) (by decide) rfl rfl (Nat.le_of_ble_eq_true rfl) rfl (by decide) (gk_91 hG) (fun r hr => zMet_cast (Nat.add_assoc d 0 87) (mX12_keepsOf (d := d + 0) hG v1 v2 r hr)) ?_
        rintro ⟨r_5, D_6⟩ -
        show zO _ _ _ _ _ _ [zI r_5] (F, D_6, n, sl) _ _
        refine zO_goto (tgt := 27) dX12_keeps_23 rfl ?_
        exact zO_ret (rv := some (zI r_5)) dX12_keeps_27 rfl rfl rfl
  exact hz r hr
theorem dX12_chanceOf_0 : decode cX12_chanceOf 0 = .ok (.iconst 0, 1) := by decide +kernel
theorem dX12_chanceOf_1 : decode cX12_chanceOf 1 = .ok (.istore_n 2, 1) := by decide +kernel
theorem dX12_chanceOf_2 : decode cX12_chanceOf 2 = .ok (.iload_n 2, 1) := by decide +kernel
theorem dX12_chanceOf_3 : decode cX12_chanceOf 3 = .ok (.bipush 7, 2) := by decide +kernel
theorem dX12_chanceOf_5 : decode cX12_chanceOf 5 = .ok (.if_icmp .ge 16, 3) := by decide +kernel
theorem dX12_chanceOf_8 : decode cX12_chanceOf 8 = .ok (.aload_n 0, 1) := by decide +kernel
theorem dX12_chanceOf_9 : decode cX12_chanceOf 9 = .ok (.getfield 52, 3) := by decide +kernel
theorem dX12_chanceOf_12 : decode cX12_chanceOf 12 = .ok (.iload_n 2, 1) := by decide +kernel
theorem dX12_chanceOf_13 : decode cX12_chanceOf 13 = .ok (.iconst 0, 1) := by decide +kernel
theorem dX12_chanceOf_14 : decode cX12_chanceOf 14 = .ok (.iastore, 1) := by decide +kernel
theorem dX12_chanceOf_15 : decode cX12_chanceOf 15 = .ok (.iinc 2 1, 3) := by decide +kernel
theorem dX12_chanceOf_18 : decode cX12_chanceOf 18 = .ok (.goto (-16), 3) := by decide +kernel
theorem dX12_chanceOf_21 : decode cX12_chanceOf 21 = .ok (.aload_n 0, 1) := by decide +kernel
theorem dX12_chanceOf_22 : decode cX12_chanceOf 22 = .ok (.getfield 52, 3) := by decide +kernel
theorem dX12_chanceOf_25 : decode cX12_chanceOf 25 = .ok (.iconst 2, 1) := by decide +kernel
theorem dX12_chanceOf_26 : decode cX12_chanceOf 26 = .ok (.iload_n 1, 1) := by decide +kernel
theorem dX12_chanceOf_27 : decode cX12_chanceOf 27 = .ok (.iastore, 1) := by decide +kernel
theorem dX12_chanceOf_28 : decode cX12_chanceOf 28 = .ok (.aload_n 0, 1) := by decide +kernel
theorem dX12_chanceOf_29 : decode cX12_chanceOf 29 = .ok (.iconst 3, 1) := by decide +kernel
theorem dX12_chanceOf_30 : decode cX12_chanceOf 30 = .ok (.iconst 0, 1) := by decide +kernel
theorem dX12_chanceOf_31 : decode cX12_chanceOf 31 = .ok (.bipush 100, 2) := by decide +kernel
theorem dX12_chanceOf_33 : decode cX12_chanceOf 33 = .ok (.bipush 50, 2) := by decide +kernel
theorem dX12_chanceOf_35 : decode cX12_chanceOf 35 = .ok (.iload_n 1, 1) := by decide +kernel
theorem dX12_chanceOf_36 : decode cX12_chanceOf 36 = .ok (.imul, 1) := by decide +kernel
theorem dX12_chanceOf_37 : decode cX12_chanceOf 37 = .ok (.invokevirtual 294, 3) := by decide +kernel
theorem dX12_chanceOf_40 : decode cX12_chanceOf 40 = .ok (.ireturn, 1) := by decide +kernel
abbrev YX12_chanceOf : zY := (yX12_chanceOf, cX12_chanceOf, 3, (Option.some Jvm.ClassFile.FieldType.int), [])
def fX12_chanceOf_2 (F : zFs) (o1 : Int)  (k_2 : Int → zDa → Option (Int × zDa)) (v2 : Int) (D : zDa) : Option (Int × zDa) :=
  if v2 < 7 then
    if (0 ≤ v2 ∧ v2 < 7) then
      zlet (zwr D 102 v2.toNat 0) (fun D_1 =>
        if (-2147483648 ≤ v2 + 1 ∧ v2 + 1 ≤ 2147483647) then
          k_2 (v2 + 1) D_1
        else none)
    else none
  else
    zlet (zwr D 102 2 o1) (fun D_2 =>
      if (-2147483648 ≤ 50 * o1 ∧ 50 * o1 ≤ 2147483647) then
        (fX12_told F 3 0 100 (50 * o1) D_2).bind (fun (r_3, D_4) =>
          some (r_3, D_4))
      else none)
def fX12_chanceOf (F : zFs) (v1 : Int) (D : zDa) : Option (Int × zDa) :=
  zfix (fun _ _ => none) (fX12_chanceOf_2 F v1) zfu 0 D
set_option maxHeartbeats 20000000 in
theorem sX12_chanceOf_2 {l : Launch} {E : zE} {d : Nat} {F : zFs} {n sl : Nat} (hG : zG F)  (o1 : Int)   : ∀ (N : Nat) (v2 : Int) (D : zDa), zO l E (d + 87) YX12_chanceOf 2 [(0, zR 91), (1, zI o1), (2, zI v2)] [] (F, D, n, sl) (zcI F n sl) (zfix (fun _ _ => none) (fX12_chanceOf_2 F o1) N v2 D) := by
  intro N
  induction N with
  | zero => intro v2 D; exact zO_none
  | succ N hk_2 =>
    intro v2 D
    show zO _ _ _ _ _ _ _ _ _ ((fX12_chanceOf_2 F o1) (zfix (fun _ _ => none) (fX12_chanceOf_2 F o1) N) v2 D)
    unfold fX12_chanceOf_2
    refine zO_iload_n dX12_chanceOf_2 rfl ?_
    refine zO_bipush dX12_chanceOf_3 (by decide) ?_
    refine zO_icmp_ge (tgt := 21) dX12_chanceOf_5 rfl (fun c5 => ?_) (fun c5 => ?_)
    · refine zO_chk (fun h1 => ?_)
      refine zO_aload_n dX12_chanceOf_8 rfl (zR_P _) ?_
      refine gt12 (k := 21) dX12_chanceOf_9 wF_X12_52 (by decide) (gk_91 hG) (zgv (c := 12) (k := 21) rfl (Or.inl ⟨_, rfl⟩) (gf_91_21 hG)) ?_
      refine zO_iload_n dX12_chanceOf_12 rfl ?_
      refine zO_iconst dX12_chanceOf_13 (by decide) ?_
      refine zO_iast dX12_chanceOf_14 (gk_102 hG) (gl_in (gl_102 hG) h1) ?_
      refine zO_letD (fun D_1 eD_1 => ?_)
      refine zO_chk (fun h2 => ?_)
      refine zO_iinc dX12_chanceOf_15 rfl h2 (by decide) ?_
      refine zO_ls (ls' := [(0, zR 91), (1, zI o1), (2, zI (v2 + 1))]) rfl ?_
      refine zO_goto (tgt := 2) dX12_chanceOf_18 rfl ?_
      refine zO_live [0, 1, 2] ?_
      exact hk_2 (v2 + 1) D_1
    · refine zO_aload_n dX12_chanceOf_21 rfl (zR_P _) ?_
      refine gt12 (k := 21) dX12_chanceOf_22 wF_X12_52 (by decide) (gk_91 hG) (zgv (c := 12) (k := 21) rfl (Or.inl ⟨_, rfl⟩) (gf_91_21 hG)) ?_
      refine zO_iconst dX12_chanceOf_25 (by decide) ?_
      refine zO_iload_n dX12_chanceOf_26 rfl ?_
      refine zO_iast dX12_chanceOf_27 (gk_102 hG) (gl_in (gl_102 hG) (by decide)) ?_
      refine zO_letD (fun D_2 eD_2 => ?_)
      refine zO_chk (fun h3 => ?_)
      refine zO_aload_n dX12_chanceOf_28 rfl (zR_P _) ?_
      refine zO_iconst dX12_chanceOf_29 (by decide) ?_
      refine zO_iconst dX12_chanceOf_30 (by decide) ?_
      refine zO_bipush dX12_chanceOf_31 (by decide) ?_
      refine zO_bipush dX12_chanceOf_33 (by decide) ?_
      refine zO_iload_n dX12_chanceOf_35 rfl ?_
      refine zO_imul dX12_chanceOf_36 h3 ?_
      refine zO_callV (Y' := YX12_told) (cw := zcI F n sl) (as := [zI 3, zI 0, zI 100, zI (50 * o1)]) (rest := []) (na := 4) (ci := 12) rfl dX12_chanceOf_37 wC_X12_told wN_X12 wM_X12_294 wI_X12_told wV_X12_told (by decide) (by decide) rfl rfl (Nat.le_of_ble_eq_true rfl) rfl (by decide) (gk_91 hG) (fun r hr => zMet_cast (Nat.add_assoc d 0 86) (mX12_told (d := d + 0) hG 3 0 100 (50 * o1) r hr)) ?_
      rintro ⟨r_3, D_4⟩ -
      show zO _ _ _ _ _ _ [zI r_3] (F, D_4, n, sl) _ _
      exact zO_ret (rv := some (zI r_3)) dX12_chanceOf_40 rfl rfl rfl
set_option maxHeartbeats 20000000 in
theorem mX12_chanceOf {l : Launch} {E : zE} {d : Nat} {F : zFs} {n sl : Nat} (hG : zG F) (v1 : Int) {D : zDa} : ∀ r, fX12_chanceOf F  v1 D = some r → zMet l E (d + 87) YX12_chanceOf [zR 91, zI v1] (F, D, n, sl) (zcI F n sl r) := by
  intro r hr
  refine zMet_of (plainFor_of_name (by decide)) (fun _ h => (nomatch h)) (Nat.le_of_ble_eq_true rfl) ?_
  have hz : zO l E (d + 87) YX12_chanceOf 0 [(0, zR 91), (1, zI v1)] [] (F, D, n, sl) (zcI F n sl) (fX12_chanceOf F  v1 D) := by
    unfold fX12_chanceOf
    refine zO_iconst dX12_chanceOf_0 (by decide) ?_
    refine zO_istore_n dX12_chanceOf_1 (by decide) ?_
    refine zO_ls (ls' := [(0, zR 91), (1, zI v1), (2, zI 0)]) rfl ?_
    refine zO_live [0, 1, 2] ?_
    exact sX12_chanceOf_2 hG v1 zfu 0 D
  exact hz r hr
theorem dX12_chance_0 : decode cX12_chance 0 = .ok (.iload_n 1, 1) := by decide +kernel
theorem dX12_chance_1 : decode cX12_chance 1 = .ok (.iconst 0, 1) := by decide +kernel
theorem dX12_chance_2 : decode cX12_chance 2 = .ok (.iconst 2, 1) := by decide +kernel
theorem dX12_chance_3 : decode cX12_chance 3 = .ok (.invokestatic 135, 3) := by decide +kernel
theorem dX12_chance_6 : decode cX12_chance 6 = .ok (.ifCond .eq 11, 3) := by decide +kernel
theorem dX12_chance_9 : decode cX12_chance 9 = .ok (.aload_n 0, 1) := by decide +kernel
theorem dX12_chance_10 : decode cX12_chance 10 = .ok (.iload_n 1, 1) := by decide +kernel
theorem dX12_chance_11 : decode cX12_chance 11 = .ok (.invokevirtual 305, 3) := by decide +kernel
theorem dX12_chance_14 : decode cX12_chance 14 = .ok (.goto 4, 3) := by decide +kernel
theorem dX12_chance_17 : decode cX12_chance 17 = .ok (.iconst (-1), 1) := by decide +kernel
theorem dX12_chance_18 : decode cX12_chance 18 = .ok (.ireturn, 1) := by decide +kernel
abbrev YX12_chance : zY := (yX12_chance, cX12_chance, 2, (Option.some Jvm.ClassFile.FieldType.int), [])
def fX12_chance (F : zFs) (v1 : Int) (D : zDa) : Option (Int × zDa) :=
  (fX12_lies F v1 0 2 D).bind (fun (r_1, D_2) =>
    if r_1 = 0 then
      some ((-1), D_2)
    else
      (fX12_chanceOf F v1 D_2).bind (fun (r_3, D_4) =>
        some (r_3, D_4)))
set_option maxHeartbeats 20000000 in
theorem mX12_chance {l : Launch} {E : zE} {d : Nat} {F : zFs} {n sl : Nat} (hG : zG F) (v1 : Int) {D : zDa} : ∀ r, fX12_chance F  v1 D = some r → zMet l E (d + 88) YX12_chance [zR 91, zI v1] (F, D, n, sl) (zcI F n sl r) := by
  intro r hr
  refine zMet_of (plainFor_of_name (by decide)) (fun _ h => (nomatch h)) (Nat.le_of_ble_eq_true rfl) ?_
  have hz : zO l E (d + 88) YX12_chance 0 [(0, zR 91), (1, zI v1)] [] (F, D, n, sl) (zcI F n sl) (fX12_chance F  v1 D) := by
    unfold fX12_chance
    refine zO_iload_n dX12_chance_0 rfl ?_
    refine zO_iconst dX12_chance_1 (by decide) ?_
    refine zO_iconst dX12_chance_2 (by decide) ?_
    refine zO_callS (Y' := YX12_lies) (cw := zcI F n sl) (as := [zI v1, zI 0, zI 2]) (rest := []) (na := 3) dX12_chance_3 wC_X12_lies wN_X12 wM_X12_135 wS_X12_lies (by decide) (by decide) rfl rfl (Nat.le_of_ble_eq_true rfl) (fun r hr => zMet_cast (Nat.add_assoc d 87 0) (mX12_lies (d := d + 87) hG v1 0 2 r hr)) ?_
    rintro ⟨r_1, D_2⟩ -
    show zO _ _ _ _ _ _ [zI r_1] (F, D_2, n, sl) _ _
    refine zO_if_eq (tgt := 17) dX12_chance_6 rfl (fun c6 => ?_) (fun c6 => ?_)
    · refine zO_iconst dX12_chance_17 (by decide) ?_
      exact zO_ret (rv := some (zI (-1))) dX12_chance_18 rfl rfl rfl
    · refine zO_aload_n dX12_chance_9 rfl (zR_P _) ?_
      refine zO_iload_n dX12_chance_10 rfl ?_
      refine zO_callV (Y' := YX12_chanceOf) (cw := zcI F n sl) (as := [zI v1]) (rest := []) (na := 1) (ci := 12) rfl dX12_chance_11 wC_X12_chanceOf wN_X12 wM_X12_305 wI_X12_chanceOf wV_X12_chanceOf (by decide) (by decide) rfl rfl (Nat.le_of_ble_eq_true rfl) rfl (by decide) (gk_91 hG) (fun r hr => zMet_cast (Nat.add_assoc d 0 87) (mX12_chanceOf (d := d + 0) hG v1 r hr)) ?_
      rintro ⟨r_3, D_4⟩ -
      show zO _ _ _ _ _ _ [zI r_3] (F, D_4, n, sl) _ _
      refine zO_goto (tgt := 18) dX12_chance_14 rfl ?_
      exact zO_ret (rv := some (zI r_3)) dX12_chance_18 rfl rfl rfl
  exact hz r hr
theorem dX12_choose_0 : decode cX12_choose 0 = .ok (.iload_n 1, 1) := by decide +kernel
theorem dX12_choose_1 : decode cX12_choose 1 = .ok (.ifCond .lt 8, 3) := by decide +kernel
theorem dX12_choose_4 : decode cX12_choose 4 = .ok (.iload_n 1, 1) := by decide +kernel
theorem dX12_choose_5 : decode cX12_choose 5 = .ok (.iload_n 0, 1) := by decide +kernel
theorem dX12_choose_6 : decode cX12_choose 6 = .ok (.if_icmp .le 5, 3) := by decide +kernel
theorem dX12_choose_9 : decode cX12_choose 9 = .ok (.lconst 0, 1) := by decide +kernel
theorem dX12_choose_10 : decode cX12_choose 10 = .ok (.lreturn, 1) := by decide +kernel
theorem dX12_choose_11 : decode cX12_choose 11 = .ok (.lconst 1, 1) := by decide +kernel
theorem dX12_choose_12 : decode cX12_choose 12 = .ok (.lstore_n 2, 1) := by decide +kernel
theorem dX12_choose_13 : decode cX12_choose 13 = .ok (.iconst 1, 1) := by decide +kernel
theorem dX12_choose_14 : decode cX12_choose 14 = .ok (.istore 4, 2) := by decide +kernel
theorem dX12_choose_16 : decode cX12_choose 16 = .ok (.iload 4, 2) := by decide +kernel
theorem dX12_choose_18 : decode cX12_choose 18 = .ok (.iload_n 1, 1) := by decide +kernel
theorem dX12_choose_19 : decode cX12_choose 19 = .ok (.if_icmp .gt 23, 3) := by decide +kernel
theorem dX12_choose_22 : decode cX12_choose 22 = .ok (.lload_n 2, 1) := by decide +kernel
theorem dX12_choose_23 : decode cX12_choose 23 = .ok (.iload_n 0, 1) := by decide +kernel
theorem dX12_choose_24 : decode cX12_choose 24 = .ok (.iload_n 1, 1) := by decide +kernel
theorem dX12_choose_25 : decode cX12_choose 25 = .ok (.isub, 1) := by decide +kernel
theorem dX12_choose_26 : decode cX12_choose 26 = .ok (.iload 4, 2) := by decide +kernel
theorem dX12_choose_28 : decode cX12_choose 28 = .ok (.iadd, 1) := by decide +kernel
theorem dX12_choose_29 : decode cX12_choose 29 = .ok (.i2l, 1) := by decide +kernel
theorem dX12_choose_30 : decode cX12_choose 30 = .ok (.lmul, 1) := by decide +kernel
theorem dX12_choose_31 : decode cX12_choose 31 = .ok (.iload 4, 2) := by decide +kernel
theorem dX12_choose_33 : decode cX12_choose 33 = .ok (.i2l, 1) := by decide +kernel
theorem dX12_choose_34 : decode cX12_choose 34 = .ok (.ldiv, 1) := by decide +kernel
theorem dX12_choose_35 : decode cX12_choose 35 = .ok (.lstore_n 2, 1) := by decide +kernel
theorem dX12_choose_36 : decode cX12_choose 36 = .ok (.iinc 4 1, 3) := by decide +kernel
theorem dX12_choose_39 : decode cX12_choose 39 = .ok (.goto (-23), 3) := by decide +kernel
theorem dX12_choose_42 : decode cX12_choose 42 = .ok (.lload_n 2, 1) := by decide +kernel
theorem dX12_choose_43 : decode cX12_choose 43 = .ok (.lreturn, 1) := by decide +kernel
abbrev YX12_choose : zY := (yX12_choose, cX12_choose, 5, (Option.some Jvm.ClassFile.FieldType.long), [])
def fX12_choose_16 (F : zFs) (o0 : Int) (o1 : Int)  (k_16 : Int → Int → zDa → Option (Int × zDa)) (v2 : Int) (v4 : Int) (D : zDa) : Option (Int × zDa) :=
  if o1 < v4 then
    some (v2, D)
  else
    if (-2147483648 ≤ o0 - o1 ∧ o0 - o1 ≤ 2147483647) ∧ (-2147483648 ≤ (o0 - o1) + v4 ∧ (o0 - o1) + v4 ≤ 2147483647) ∧ (-9223372036854775808 ≤ v2 * ((o0 - o1) + v4) ∧ v2 * ((o0 - o1) + v4) ≤ 9223372036854775807) ∧ (v4 ≠ 0) ∧ (¬ ((v2 * ((o0 - o1) + v4)) = -9223372036854775808 ∧ v4 = -1)) then
      zlet ((Int.tdiv (v2 * ((o0 - o1) + v4)) v4)) (fun x2_1 =>
        if (-2147483648 ≤ v4 + 1 ∧ v4 + 1 ≤ 2147483647) then
          k_16 x2_1 (v4 + 1) D
        else none)
    else none
def fX12_choose (F : zFs) (v0 : Int) (v1 : Int) (D : zDa) : Option (Int × zDa) :=
  if v1 < 0 then
    some (0, D)
  else
    if v0 < v1 then
      some (0, D)
    else
      zfix (fun _ _ _ => none) (fX12_choose_16 F v0 v1) zfu 1 1 D
set_option maxHeartbeats 20000000 in
theorem sX12_choose_16 {l : Launch} {E : zE} {d : Nat} {F : zFs} {n sl : Nat} (hG : zG F)  (o0 : Int) (o1 : Int)   : ∀ (N : Nat) (v2 : Int) (v4 : Int) (D : zDa), zO l E (d + 0) YX12_choose 16 [(0, zI o0), (1, zI o1), (2, zL v2), (4, zI v4)] [] (F, D, n, sl) (zcJ F n sl) (zfix (fun _ _ _ => none) (fX12_choose_16 F o0 o1) N v2 v4 D) := by
  intro N
  induction N with
  | zero => intro v2 v4 D; exact zO_none
  | succ N hk_16 =>
    intro v2 v4 D
    show zO _ _ _ _ _ _ _ _ _ ((fX12_choose_16 F o0 o1) (zfix (fun _ _ _ => none) (fX12_choose_16 F o0 o1) N) v2 v4 D)
    unfold fX12_choose_16
    refine zO_iload dX12_choose_16 rfl ?_
    refine zO_iload_n dX12_choose_18 rfl ?_
    refine zO_icmp_gt (tgt := 42) dX12_choose_19 rfl (fun c19 => ?_) (fun c19 => ?_)
    · refine zO_lload_n dX12_choose_42 rfl ?_
      exact zO_ret (rv := some (zL v2)) dX12_choose_43 rfl trivial rfl
    · refine zO_chk (fun h1 => ?_)
      refine zO_lload_n dX12_choose_22 rfl ?_
      refine zO_iload_n dX12_choose_23 rfl ?_
      refine zO_iload_n dX12_choose_24 rfl ?_
      refine zO_isub dX12_choose_25 h1.1 ?_
      refine zO_iload dX12_choose_26 rfl ?_
      refine zO_iadd dX12_choose_28 h1.2.1 ?_
      refine zO_i2l dX12_choose_29 ?_
      refine zO_lmul dX12_choose_30 h1.2.2.1 ?_
      refine zO_iload dX12_choose_31 rfl ?_
      refine zO_i2l dX12_choose_33 ?_
      refine zO_ldiv dX12_choose_34 h1.2.2.2.1 h1.2.2.2.2 ?_
      refine zO_letJ (fun x2_1 ex2_1 => ?_)
      refine zO_lstore_n dX12_choose_35 (by decide) ?_
      refine zO_ls (ls' := [(0, zI o0), (1, zI o1), (2, zL x2_1), (4, zI v4)]) rfl ?_
      refine zO_chk (fun h2 => ?_)
      refine zO_iinc dX12_choose_36 rfl h2 (by decide) ?_
      refine zO_ls (ls' := [(0, zI o0), (1, zI o1), (2, zL x2_1), (4, zI (v4 + 1))]) rfl ?_
      refine zO_goto (tgt := 16) dX12_choose_39 rfl ?_
      refine zO_live [0, 1, 2, 4] ?_
      exact hk_16 x2_1 (v4 + 1) D
set_option maxHeartbeats 20000000 in
theorem mX12_choose {l : Launch} {E : zE} {d : Nat} {F : zFs} {n sl : Nat} (hG : zG F) (v0 : Int) (v1 : Int) {D : zDa} : ∀ r, fX12_choose F  v0 v1 D = some r → zMet l E (d + 0) YX12_choose [zI v0, zI v1] (F, D, n, sl) (zcJ F n sl r) := by
  intro r hr
  refine zMet_of (plainFor_of_name (by decide)) (fun _ h => (nomatch h)) (Nat.le_of_ble_eq_true rfl) ?_
  have hz : zO l E (d + 0) YX12_choose 0 [(0, zI v0), (1, zI v1)] [] (F, D, n, sl) (zcJ F n sl) (fX12_choose F  v0 v1 D) := by
    unfold fX12_choose
    refine zO_iload_n dX12_choose_0 rfl ?_
    refine zO_if_lt (tgt := 9) dX12_choose_1 rfl (fun c1 => ?_) (fun c1 => ?_)
    · refine zO_lconst dX12_choose_9 ?_
      exact zO_ret (rv := some (zL 0)) dX12_choose_10 rfl trivial rfl
    · refine zO_iload_n dX12_choose_4 rfl ?_
      refine zO_iload_n dX12_choose_5 rfl ?_
      refine zO_icmp_le (tgt := 11) dX12_choose_6 rfl (fun c6 => ?_) (fun c6 => ?_)
      · refine zO_lconst dX12_choose_9 ?_
        exact zO_ret (rv := some (zL 0)) dX12_choose_10 rfl trivial rfl
      · refine zO_lconst dX12_choose_11 ?_
        refine zO_lstore_n dX12_choose_12 (by decide) ?_
        refine zO_ls (ls' := [(0, zI v0), (1, zI v1), (2, zL 1)]) rfl ?_
        refine zO_iconst dX12_choose_13 (by decide) ?_
        refine zO_istore dX12_choose_14 (by decide) ?_
        refine zO_ls (ls' := [(0, zI v0), (1, zI v1), (2, zL 1), (4, zI 1)]) rfl ?_
        refine zO_live [0, 1, 2, 4] ?_
        exact sX12_choose_16 hG v0 v1 zfu 1 1 D
  exact hz r hr
theorem dX12_laysChances_0 : decode cX12_laysChances 0 = .ok (.iconst 0, 1) := by decide +kernel
theorem dX12_laysChances_1 : decode cX12_laysChances 1 = .ok (.istore_n 1, 1) := by decide +kernel
theorem dX12_laysChances_2 : decode cX12_laysChances 2 = .ok (.iload_n 1, 1) := by decide +kernel
theorem dX12_laysChances_3 : decode cX12_laysChances 3 = .ok (.iconst 3, 1) := by decide +kernel
theorem dX12_laysChances_4 : decode cX12_laysChances 4 = .ok (.if_icmp .ge 20, 3) := by decide +kernel
theorem dX12_laysChances_7 : decode cX12_laysChances 7 = .ok (.aload_n 0, 1) := by decide +kernel
theorem dX12_laysChances_8 : decode cX12_laysChances 8 = .ok (.getfield 55, 3) := by decide +kernel
theorem dX12_laysChances_11 : decode cX12_laysChances 11 = .ok (.iload_n 1, 1) := by decide +kernel
theorem dX12_laysChances_12 : decode cX12_laysChances 12 = .ok (.aload_n 0, 1) := by decide +kernel
theorem dX12_laysChances_13 : decode cX12_laysChances 13 = .ok (.iload_n 1, 1) := by decide +kernel
theorem dX12_laysChances_14 : decode cX12_laysChances 14 = .ok (.invokevirtual 305, 3) := by decide +kernel
theorem dX12_laysChances_17 : decode cX12_laysChances 17 = .ok (.iastore, 1) := by decide +kernel
theorem dX12_laysChances_18 : decode cX12_laysChances 18 = .ok (.iinc 1 1, 3) := by decide +kernel
theorem dX12_laysChances_21 : decode cX12_laysChances 21 = .ok (.goto (-19), 3) := by decide +kernel
theorem dX12_laysChances_24 : decode cX12_laysChances 24 = .ok (.return_, 1) := by decide +kernel
abbrev YX12_laysChances : zY := (yX12_laysChances, cX12_laysChances, 2, none, [])
def fX12_laysChances_2 (F : zFs)   (k_2 : Int → zDa → Option zDa) (v1 : Int) (D : zDa) : Option zDa :=
  if v1 < 3 then
    (fX12_chanceOf F v1 D).bind (fun (r_1, D_2) =>
      if (0 ≤ v1 ∧ v1 < 3) then
        zlet (zwr D_2 103 v1.toNat r_1) (fun D_3 =>
          if (-2147483648 ≤ v1 + 1 ∧ v1 + 1 ≤ 2147483647) then
            k_2 (v1 + 1) D_3
          else none)
      else none)
  else
    some D
def fX12_laysChances (F : zFs)  (D : zDa) : Option zDa :=
  zfix (fun _ _ => none) (fX12_laysChances_2 F) zfu 0 D
set_option maxHeartbeats 20000000 in
theorem sX12_laysChances_2 {l : Launch} {E : zE} {d : Nat} {F : zFs} {n sl : Nat} (hG : zG F)     : ∀ (N : Nat) (v1 : Int) (D : zDa), zO l E (d + 88) YX12_laysChances 2 [(0, zR 91), (1, zI v1)] [] (F, D, n, sl) (zcV F n sl) (zfix (fun _ _ => none) (fX12_laysChances_2 F) N v1 D) := by
  intro N
  induction N with
  | zero => intro v1 D; exact zO_none
  | succ N hk_2 =>
    intro v1 D
    show zO _ _ _ _ _ _ _ _ _ ((fX12_laysChances_2 F) (zfix (fun _ _ => none) (fX12_laysChances_2 F) N) v1 D)
    unfold fX12_laysChances_2
    refine zO_iload_n dX12_laysChances_2 rfl ?_
    refine zO_iconst dX12_laysChances_3 (by decide) ?_
    refine zO_icmp_ge (tgt := 24) dX12_laysChances_4 rfl (fun c4 => ?_) (fun c4 => ?_)
    · refine zO_aload_n dX12_laysChances_7 rfl (zR_P _) ?_
      refine gt12 (k := 22) dX12_laysChances_8 wF_X12_55 (by decide) (gk_91 hG) (zgv (c := 12) (k := 22) rfl (Or.inl ⟨_, rfl⟩) (gf_91_22 hG)) ?_
      refine zO_iload_n dX12_laysChances_11 rfl ?_
      refine zO_aload_n dX12_laysChances_12 rfl (zR_P _) ?_
      refine zO_iload_n dX12_laysChances_13 rfl ?_
      refine zO_callV (Y' := YX12_chanceOf) (cw := zcI F n sl) (as := [zI v1]) (rest := [zI v1, zR 103]) (na := 1) (ci := 12) rfl dX12_laysChances_14 wC_X12_chanceOf wN_X12 wM_X12_305 wI_X12_chanceOf wV_X12_chanceOf (by decide) (by decide) rfl rfl (Nat.le_of_ble_eq_true rfl) rfl (by decide) (gk_91 hG) (fun r hr => zMet_cast (Nat.add_assoc d 0 87) (mX12_chanceOf (d := d + 0) hG v1 r hr)) ?_
      rintro ⟨r_1, D_2⟩ -
      show zO _ _ _ _ _ _ [zI r_1, zI v1, zR 103] (F, D_2, n, sl) _ _
      refine zO_chk (fun h1 => ?_)
      refine zO_iast dX12_laysChances_17 (gk_103 hG) (gl_in (gl_103 hG) h1) ?_
      refine zO_letD (fun D_3 eD_3 => ?_)
      refine zO_chk (fun h2 => ?_)
      refine zO_iinc dX12_laysChances_18 rfl h2 (by decide) ?_
      refine zO_ls (ls' := [(0, zR 91), (1, zI (v1 + 1))]) rfl ?_
      refine zO_goto (tgt := 2) dX12_laysChances_21 rfl ?_
      refine zO_live [0, 1] ?_
      exact hk_2 (v1 + 1) D_3
    · exact zO_ret (rv := none) dX12_laysChances_24 rfl trivial rfl
set_option maxHeartbeats 20000000 in
theorem mX12_laysChances {l : Launch} {E : zE} {d : Nat} {F : zFs} {n sl : Nat} (hG : zG F)  {D : zDa} : ∀ r, fX12_laysChances F   D = some r → zMet l E (d + 88) YX12_laysChances [zR 91] (F, D, n, sl) (zcV F n sl r) := by
  intro r hr
  refine zMet_of (plainFor_of_name (by decide)) (fun _ h => (nomatch h)) (Nat.le_of_ble_eq_true rfl) ?_
  have hz : zO l E (d + 88) YX12_laysChances 0 [(0, zR 91)] [] (F, D, n, sl) (zcV F n sl) (fX12_laysChances F   D) := by
    unfold fX12_laysChances
    refine zO_iconst dX12_laysChances_0 (by decide) ?_
    refine zO_istore_n dX12_laysChances_1 (by decide) ?_
    refine zO_ls (ls' := [(0, zR 91), (1, zI 0)]) rfl ?_
    refine zO_live [0, 1] ?_
    exact sX12_laysChances_2 hG zfu 0 D
  exact hz r hr
