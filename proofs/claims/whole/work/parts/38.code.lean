/-! printed by wip/gen/emit_all.py: X12_row X12_lost X12_drawnTimes X12_drawn X12_be X12_makes X12_adds X12_shares1 X12_order X12_seldomOf X12_seldom X12_draws X12_nth X12_ones -/
theorem dX12_row_0 : decode cX12_row 0 = .ok (.aload_n 0, 1) := by decide +kernel
theorem dX12_row_1 : decode cX12_row 1 = .ok (.getfield 170, 3) := by decide +kernel
theorem dX12_row_4 : decode cX12_row 4 = .ok (.istore_n 1, 1) := by decide +kernel
theorem dX12_row_5 : decode cX12_row 5 = .ok (.aload_n 0, 1) := by decide +kernel
theorem dX12_row_6 : decode cX12_row 6 = .ok (.iconst 0, 1) := by decide +kernel
theorem dX12_row_7 : decode cX12_row 7 = .ok (.putfield 170, 3) := by decide +kernel
theorem dX12_row_10 : decode cX12_row 10 = .ok (.iload_n 1, 1) := by decide +kernel
theorem dX12_row_11 : decode cX12_row 11 = .ok (.ifCond .ne 10, 3) := by decide +kernel
theorem dX12_row_14 : decode cX12_row 14 = .ok (.aload_n 0, 1) := by decide +kernel
theorem dX12_row_15 : decode cX12_row 15 = .ok (.bipush (-6), 2) := by decide +kernel
theorem dX12_row_17 : decode cX12_row 17 = .ok (.invokevirtual 139, 3) := by decide +kernel
theorem dX12_row_20 : decode cX12_row 20 = .ok (.ireturn, 1) := by decide +kernel
theorem dX12_row_21 : decode cX12_row 21 = .ok (.iconst 0, 1) := by decide +kernel
theorem dX12_row_22 : decode cX12_row 22 = .ok (.istore_n 2, 1) := by decide +kernel
theorem dX12_row_23 : decode cX12_row 23 = .ok (.aload_n 0, 1) := by decide +kernel
theorem dX12_row_24 : decode cX12_row 24 = .ok (.iload_n 1, 1) := by decide +kernel
theorem dX12_row_25 : decode cX12_row 25 = .ok (.iconst 4, 1) := by decide +kernel
theorem dX12_row_26 : decode cX12_row 26 = .ok (.irem, 1) := by decide +kernel
theorem dX12_row_27 : decode cX12_row 27 = .ok (.ifCond .ne 7, 3) := by decide +kernel
theorem dX12_row_30 : decode cX12_row 30 = .ok (.iconst 0, 1) := by decide +kernel
theorem dX12_row_31 : decode cX12_row 31 = .ok (.goto 4, 3) := by decide +kernel
theorem dX12_row_34 : decode cX12_row 34 = .ok (.iconst 1, 1) := by decide +kernel
theorem dX12_row_35 : decode cX12_row 35 = .ok (.putfield 462, 3) := by decide +kernel
theorem dX12_row_38 : decode cX12_row 38 = .ok (.iconst 0, 1) := by decide +kernel
theorem dX12_row_39 : decode cX12_row 39 = .ok (.istore_n 3, 1) := by decide +kernel
theorem dX12_row_40 : decode cX12_row 40 = .ok (.iload_n 3, 1) := by decide +kernel
theorem dX12_row_41 : decode cX12_row 41 = .ok (.iconst 4, 1) := by decide +kernel
theorem dX12_row_42 : decode cX12_row 42 = .ok (.iadd, 1) := by decide +kernel
theorem dX12_row_43 : decode cX12_row 43 = .ok (.iload_n 1, 1) := by decide +kernel
theorem dX12_row_44 : decode cX12_row 44 = .ok (.if_icmp .gt 142, 3) := by decide +kernel
theorem dX12_row_47 : decode cX12_row 47 = .ok (.iconst 0, 1) := by decide +kernel
theorem dX12_row_48 : decode cX12_row 48 = .ok (.istore 4, 2) := by decide +kernel
theorem dX12_row_50 : decode cX12_row 50 = .ok (.iconst 0, 1) := by decide +kernel
theorem dX12_row_51 : decode cX12_row 51 = .ok (.istore 5, 2) := by decide +kernel
theorem dX12_row_53 : decode cX12_row 53 = .ok (.iload 5, 2) := by decide +kernel
theorem dX12_row_55 : decode cX12_row 55 = .ok (.iconst 4, 1) := by decide +kernel
theorem dX12_row_56 : decode cX12_row 56 = .ok (.if_icmp .ge 30, 3) := by decide +kernel
theorem dX12_row_59 : decode cX12_row 59 = .ok (.iload 4, 2) := by decide +kernel
theorem dX12_row_61 : decode cX12_row 61 = .ok (.bipush 8, 2) := by decide +kernel
theorem dX12_row_63 : decode cX12_row 63 = .ok (.ishl, 1) := by decide +kernel
theorem dX12_row_64 : decode cX12_row 64 = .ok (.aload_n 0, 1) := by decide +kernel
theorem dX12_row_65 : decode cX12_row 65 = .ok (.getfield 34, 3) := by decide +kernel
theorem dX12_row_68 : decode cX12_row 68 = .ok (.iload_n 3, 1) := by decide +kernel
theorem dX12_row_69 : decode cX12_row 69 = .ok (.iload 5, 2) := by decide +kernel
theorem dX12_row_71 : decode cX12_row 71 = .ok (.iadd, 1) := by decide +kernel
theorem dX12_row_72 : decode cX12_row 72 = .ok (.baload, 1) := by decide +kernel
theorem dX12_row_73 : decode cX12_row 73 = .ok (.sipush 255, 3) := by decide +kernel
theorem dX12_row_76 : decode cX12_row 76 = .ok (.iand, 1) := by decide +kernel
theorem dX12_row_77 : decode cX12_row 77 = .ok (.ior, 1) := by decide +kernel
theorem dX12_row_78 : decode cX12_row 78 = .ok (.istore 4, 2) := by decide +kernel
theorem dX12_row_80 : decode cX12_row 80 = .ok (.iinc 5 1, 3) := by decide +kernel
theorem dX12_row_83 : decode cX12_row 83 = .ok (.goto (-30), 3) := by decide +kernel
theorem dX12_row_86 : decode cX12_row 86 = .ok (.iload 4, 2) := by decide +kernel
theorem dX12_row_88 : decode cX12_row 88 = .ok (.ifCond .lt 31, 3) := by decide +kernel
theorem dX12_row_91 : decode cX12_row 91 = .ok (.iload 4, 2) := by decide +kernel
theorem dX12_row_93 : decode cX12_row 93 = .ok (.iconst 1, 1) := by decide +kernel
theorem dX12_row_94 : decode cX12_row 94 = .ok (.aload_n 0, 1) := by decide +kernel
theorem dX12_row_95 : decode cX12_row 95 = .ok (.invokevirtual 146, 3) := by decide +kernel
theorem dX12_row_98 : decode cX12_row 98 = .ok (.ishl, 1) := by decide +kernel
theorem dX12_row_99 : decode cX12_row 99 = .ok (.if_icmp .ge 20, 3) := by decide +kernel
theorem dX12_row_102 : decode cX12_row 102 = .ok (.aload_n 0, 1) := by decide +kernel
theorem dX12_row_103 : decode cX12_row 103 = .ok (.getfield 20, 3) := by decide +kernel
theorem dX12_row_106 : decode cX12_row 106 = .ok (.sipush 392, 3) := by decide +kernel
theorem dX12_row_109 : decode cX12_row 109 = .ok (.iaload, 1) := by decide +kernel
theorem dX12_row_110 : decode cX12_row 110 = .ok (.bipush 40, 2) := by decide +kernel
theorem dX12_row_112 : decode cX12_row 112 = .ok (.if_icmp .ge 7, 3) := by decide +kernel
theorem dX12_row_115 : decode cX12_row 115 = .ok (.iconst 1, 1) := by decide +kernel
theorem dX12_row_116 : decode cX12_row 116 = .ok (.goto 4, 3) := by decide +kernel
theorem dX12_row_119 : decode cX12_row 119 = .ok (.iconst 0, 1) := by decide +kernel
theorem dX12_row_120 : decode cX12_row 120 = .ok (.istore 5, 2) := by decide +kernel
theorem dX12_row_122 : decode cX12_row 122 = .ok (.iload 5, 2) := by decide +kernel
theorem dX12_row_124 : decode cX12_row 124 = .ok (.ifCond .eq 37, 3) := by decide +kernel
theorem dX12_row_127 : decode cX12_row 127 = .ok (.aload_n 0, 1) := by decide +kernel
theorem dX12_row_128 : decode cX12_row 128 = .ok (.getfield 20, 3) := by decide +kernel
theorem dX12_row_131 : decode cX12_row 131 = .ok (.sipush 350, 3) := by decide +kernel
theorem dX12_row_134 : decode cX12_row 134 = .ok (.aload_n 0, 1) := by decide +kernel
theorem dX12_row_135 : decode cX12_row 135 = .ok (.getfield 20, 3) := by decide +kernel
theorem dX12_row_138 : decode cX12_row 138 = .ok (.sipush 392, 3) := by decide +kernel
theorem dX12_row_141 : decode cX12_row 141 = .ok (.iaload, 1) := by decide +kernel
theorem dX12_row_142 : decode cX12_row 142 = .ok (.iadd, 1) := by decide +kernel
theorem dX12_row_143 : decode cX12_row 143 = .ok (.iload 4, 2) := by decide +kernel
theorem dX12_row_145 : decode cX12_row 145 = .ok (.iastore, 1) := by decide +kernel
theorem dX12_row_146 : decode cX12_row 146 = .ok (.aload_n 0, 1) := by decide +kernel
theorem dX12_row_147 : decode cX12_row 147 = .ok (.getfield 20, 3) := by decide +kernel
theorem dX12_row_150 : decode cX12_row 150 = .ok (.sipush 392, 3) := by decide +kernel
theorem dX12_row_153 : decode cX12_row 153 = .ok (.dup2, 1) := by decide +kernel
theorem dX12_row_154 : decode cX12_row 154 = .ok (.iaload, 1) := by decide +kernel
theorem dX12_row_155 : decode cX12_row 155 = .ok (.iconst 1, 1) := by decide +kernel
theorem dX12_row_156 : decode cX12_row 156 = .ok (.iadd, 1) := by decide +kernel
theorem dX12_row_157 : decode cX12_row 157 = .ok (.iastore, 1) := by decide +kernel
theorem dX12_row_158 : decode cX12_row 158 = .ok (.iinc 2 1, 3) := by decide +kernel
theorem dX12_row_161 : decode cX12_row 161 = .ok (.aload_n 0, 1) := by decide +kernel
theorem dX12_row_162 : decode cX12_row 162 = .ok (.dup, 1) := by decide +kernel
theorem dX12_row_163 : decode cX12_row 163 = .ok (.getfield 462, 3) := by decide +kernel
theorem dX12_row_166 : decode cX12_row 166 = .ok (.iload 5, 2) := by decide +kernel
theorem dX12_row_168 : decode cX12_row 168 = .ok (.ifCond .eq 7, 3) := by decide +kernel
theorem dX12_row_171 : decode cX12_row 171 = .ok (.iconst 0, 1) := by decide +kernel
theorem dX12_row_172 : decode cX12_row 172 = .ok (.goto 4, 3) := by decide +kernel
theorem dX12_row_175 : decode cX12_row 175 = .ok (.iconst 1, 1) := by decide +kernel
theorem dX12_row_176 : decode cX12_row 176 = .ok (.iadd, 1) := by decide +kernel
theorem dX12_row_177 : decode cX12_row 177 = .ok (.putfield 462, 3) := by decide +kernel
theorem dX12_row_180 : decode cX12_row 180 = .ok (.iinc 3 4, 3) := by decide +kernel
theorem dX12_row_183 : decode cX12_row 183 = .ok (.goto (-143), 3) := by decide +kernel
theorem dX12_row_186 : decode cX12_row 186 = .ok (.aload_n 0, 1) := by decide +kernel
theorem dX12_row_187 : decode cX12_row 187 = .ok (.iload_n 2, 1) := by decide +kernel
theorem dX12_row_188 : decode cX12_row 188 = .ok (.invokevirtual 143, 3) := by decide +kernel
theorem dX12_row_191 : decode cX12_row 191 = .ok (.ireturn, 1) := by decide +kernel
abbrev YX12_row : zY := (yX12_row, cX12_row, 6, (Option.some Jvm.ClassFile.FieldType.int), [])
def fX12_row_176 (F : zFs) (k_40 : Int → Int → zDa → Option (Int × zDa)) (o1 : Int) (o2 : Int) (o3 : Int) (s0 : Int) (s1 : Int) (D : zDa) : Option (Int × zDa) :=
  if (-2147483648 ≤ s1 + s0 ∧ s1 + s0 ≤ 2147483647) then
    zlet (zwr D 91 59 (s1 + s0)) (fun D_9 =>
      if (-2147483648 ≤ o3 + 4 ∧ o3 + 4 ≤ 2147483647) then
        k_40 o2 (o3 + 4) D_9
      else none)
  else none
def fX12_row_161 (F : zFs) (k_40 : Int → Int → zDa → Option (Int × zDa)) (o1 : Int) (o2 : Int) (o3 : Int) (v5 : Int) (D : zDa) : Option (Int × zDa) :=
  if v5 = 0 then
    fX12_row_176 F k_40 o1 o2 o3 1 (D 91 59) D
  else
    fX12_row_176 F k_40 o1 o2 o3 0 (D 91 59) D
def fX12_row_120 (F : zFs) (k_40 : Int → Int → zDa → Option (Int × zDa)) (o1 : Int) (o2 : Int) (o3 : Int) (v4 : Int) (s0 : Int) (D : zDa) : Option (Int × zDa) :=
  if s0 = 0 then
    fX12_row_161 F k_40 o1 o2 o3 s0 D
  else
    if (-2147483648 ≤ 350 + (D 93 392) ∧ 350 + (D 93 392) ≤ 2147483647) ∧ (0 ≤ (350 + (D 93 392)) ∧ (350 + (D 93 392)) < 5201) then
      zlet (zwr D 93 (350 + (D 93 392)).toNat v4) (fun D_10 =>
        if (-2147483648 ≤ (D_10 93 392) + 1 ∧ (D_10 93 392) + 1 ≤ 2147483647) then
          zlet (zwr D_10 93 392 ((D_10 93 392) + 1)) (fun D_11 =>
            if (-2147483648 ≤ o2 + 1 ∧ o2 + 1 ≤ 2147483647) then
              fX12_row_161 F k_40 o1 (o2 + 1) o3 s0 D_11
            else none)
        else none)
    else none
def fX12_row_119 (F : zFs) (k_40 : Int → Int → zDa → Option (Int × zDa)) (o1 : Int) (o2 : Int) (o3 : Int) (v4 : Int) (D : zDa) : Option (Int × zDa) :=
  fX12_row_120 F k_40 o1 o2 o3 v4 0 D
def fX12_row_53 (F : zFs) (o1 : Int) (o2 : Int) (o3 : Int) (k_40 : Int → Int → zDa → Option (Int × zDa)) (k_53 : Int → Int → zDa → Option (Int × zDa)) (v4 : Int) (v5 : Int) (D : zDa) : Option (Int × zDa) :=
  if v5 < 4 then
    if (-2147483648 ≤ o3 + v5 ∧ o3 + v5 ≤ 2147483647) ∧ (0 ≤ (o3 + v5) ∧ (o3 + v5) < 400) then
      zlet ((zor (zshl v4 8) (zand (D 97 (o3 + v5).toNat) 255))) (fun x4_8 =>
        if (-2147483648 ≤ v5 + 1 ∧ v5 + 1 ≤ 2147483647) then
          k_53 x4_8 (v5 + 1) D
        else none)
    else none
  else
    if v4 < 0 then
      fX12_row_119 F k_40 o1 o2 o3 v4 D
    else
      (fX12_questions F D).bind (fun (r_12, D_13) =>
        if v4 < (zshl 1 r_12) then
          if (D_13 93 392) < 40 then
            fX12_row_120 F k_40 o1 o2 o3 v4 1 D_13
          else
            fX12_row_119 F k_40 o1 o2 o3 v4 D_13
        else
          fX12_row_119 F k_40 o1 o2 o3 v4 D_13)
def fX12_row_40 (F : zFs) (o1 : Int)  (k_40 : Int → Int → zDa → Option (Int × zDa)) (v2 : Int) (v3 : Int) (D : zDa) : Option (Int × zDa) :=
  if (-2147483648 ≤ v3 + 4 ∧ v3 + 4 ≤ 2147483647) then
    if o1 < (v3 + 4) then
      (fX12_good F v2 D).bind (fun (r_6, D_7) =>
        some (r_6, D_7))
    else
      zfix (fun _ _ _ => none) (fX12_row_53 F o1 v2 v3 k_40) zfu 0 0 D
  else none
def fX12_row_35 (F : zFs)  (v1 : Int) (v2 : Int) (s0 : Int) (D : zDa) : Option (Int × zDa) :=
  zlet (zwr D 91 59 s0) (fun D_5 =>
    zfix (fun _ _ _ => none) (fX12_row_40 F v1) zfu v2 0 D_5)
def fX12_row (F : zFs)  (D : zDa) : Option (Int × zDa) :=
  zlet ((D 91 9)) (fun x1_1 =>
    zlet (zwr D 91 9 0) (fun D_2 =>
      if x1_1 = 0 then
        (fX12_refuses F (-6) D_2).bind (fun (r_3, D_4) =>
          some (r_3, D_4))
      else
        if (Int.tmod x1_1 4) = 0 then
          fX12_row_35 F x1_1 0 0 D_2
        else
          fX12_row_35 F x1_1 0 1 D_2))
set_option maxHeartbeats 20000000 in
theorem sX12_row_176 {l : Launch} {E : zE} {d : Nat} {F : zFs} {n sl : Nat} (hG : zG F)  (o1 : Int) (o2 : Int) (o3 : Int) (s0 : Int) (s1 : Int) (k_40 : Int → Int → zDa → Option (Int × zDa)) (hk_40 : ∀ (u2 : Int) (u3 : Int) (D : zDa), zO l E (d + 1) YX12_row 40 [(0, zR 91), (1, zI o1), (2, zI u2), (3, zI u3)] [] (F, D, n, sl) (zcI F n sl) (k_40 u2 u3 D)) (D : zDa) : zO l E (d + 1) YX12_row 176 [(0, zR 91), (1, zI o1), (2, zI o2), (3, zI o3)] [zI s0, zI s1, zR 91] (F, D, n, sl) (zcI F n sl) (fX12_row_176 F k_40 o1 o2 o3 s0 s1 D) := by
  unfold fX12_row_176
  refine zO_chk (fun h4 => ?_)
  refine zO_iadd dX12_row_176 h4 ?_
  refine ptI12 (k := 59) (z := (s1 + s0)) dX12_row_177 wF_X12_462 (by decide) rfl (gk_91 hG) rfl ?_
  refine zO_letD (fun D_9 eD_9 => ?_)
  refine zO_chk (fun h5 => ?_)
  refine zO_iinc dX12_row_180 rfl h5 (by decide) ?_
  refine zO_ls (ls' := [(0, zR 91), (1, zI o1), (2, zI o2), (3, zI (o3 + 4))]) rfl ?_
  refine zO_goto (tgt := 40) dX12_row_183 rfl ?_
  refine zO_live [0, 1, 2, 3] ?_
  exact hk_40 o2 (o3 + 4) D_9
set_option maxHeartbeats 20000000 in
theorem sX12_row_161 {l : Launch} {E : zE} {d : Nat} {F : zFs} {n sl : Nat} (hG : zG F)  (o1 : Int) (o2 : Int) (o3 : Int) (v5 : Int) (k_40 : Int → Int → zDa → Option (Int × zDa)) (hk_40 : ∀ (u2 : Int) (u3 : Int) (D : zDa), zO l E (d + 1) YX12_row 40 [(0, zR 91), (1, zI o1), (2, zI u2), (3, zI u3)] [] (F, D, n, sl) (zcI F n sl) (k_40 u2 u3 D)) (D : zDa) : zO l E (d + 1) YX12_row 161 [(0, zR 91), (1, zI o1), (2, zI o2), (3, zI o3), (5, zI v5)] [] (F, D, n, sl) (zcI F n sl) (fX12_row_161 F k_40 o1 o2 o3 v5 D) := by
  unfold fX12_row_161
  refine zO_aload_n dX12_row_161 rfl (zR_P _) ?_
  refine zO_dup dX12_row_162 (rfl) ?_
  refine gt12 (k := 59) (v := zI (D 91 59)) dX12_row_163 wF_X12_462 (by decide) (gk_91 hG) rfl ?_
  refine zO_iload dX12_row_166 rfl ?_
  refine zO_if_eq (tgt := 175) dX12_row_168 rfl (fun c168 => ?_) (fun c168 => ?_)
  · refine zO_iconst dX12_row_175 (by decide) ?_
    refine zO_live [0, 1, 2, 3] ?_
    exact sX12_row_176 hG o1 o2 o3 1 (D 91 59) _ hk_40 D
  · refine zO_iconst dX12_row_171 (by decide) ?_
    refine zO_goto (tgt := 176) dX12_row_172 rfl ?_
    refine zO_live [0, 1, 2, 3] ?_
    exact sX12_row_176 hG o1 o2 o3 0 (D 91 59) _ hk_40 D
set_option maxHeartbeats 20000000 in
theorem sX12_row_120 {l : Launch} {E : zE} {d : Nat} {F : zFs} {n sl : Nat} (hG : zG F)  (o1 : Int) (o2 : Int) (o3 : Int) (v4 : Int) (s0 : Int) (k_40 : Int → Int → zDa → Option (Int × zDa)) (hk_40 : ∀ (u2 : Int) (u3 : Int) (D : zDa), zO l E (d + 1) YX12_row 40 [(0, zR 91), (1, zI o1), (2, zI u2), (3, zI u3)] [] (F, D, n, sl) (zcI F n sl) (k_40 u2 u3 D)) (D : zDa) : zO l E (d + 1) YX12_row 120 [(0, zR 91), (1, zI o1), (2, zI o2), (3, zI o3), (4, zI v4)] [zI s0] (F, D, n, sl) (zcI F n sl) (fX12_row_120 F k_40 o1 o2 o3 v4 s0 D) := by
  unfold fX12_row_120
  refine zO_istore dX12_row_120 (by decide) ?_
  refine zO_ls (ls' := [(0, zR 91), (1, zI o1), (2, zI o2), (3, zI o3), (4, zI v4), (5, zI s0)]) rfl ?_
  refine zO_iload dX12_row_122 rfl ?_
  refine zO_if_eq (tgt := 161) dX12_row_124 rfl (fun c124 => ?_) (fun c124 => ?_)
  · refine zO_live [0, 1, 2, 3, 5] ?_
    exact sX12_row_161 hG o1 o2 o3 s0 _ hk_40 D
  · refine zO_chk (fun h6 => ?_)
    refine zO_aload_n dX12_row_127 rfl (zR_P _) ?_
    refine gt12 (k := 3) dX12_row_128 wF_X12_20 (by decide) (gk_91 hG) (zgv (c := 12) (k := 3) rfl (Or.inl ⟨_, rfl⟩) (gf_91_3 hG)) ?_
    refine zO_sipush dX12_row_131 (by decide) ?_
    refine zO_aload_n dX12_row_134 rfl (zR_P _) ?_
    refine gt12 (k := 3) dX12_row_135 wF_X12_20 (by decide) (gk_91 hG) (zgv (c := 12) (k := 3) rfl (Or.inl ⟨_, rfl⟩) (gf_91_3 hG)) ?_
    refine zO_sipush dX12_row_138 (by decide) ?_
    refine zO_iald dX12_row_141 (gk_93 hG) (gl_in (gl_93 hG) (by decide)) ?_
    refine zO_iadd dX12_row_142 h6.1 ?_
    refine zO_iload dX12_row_143 rfl ?_
    refine zO_iast dX12_row_145 (gk_93 hG) (gl_in (gl_93 hG) h6.2) ?_
    refine zO_letD (fun D_10 eD_10 => ?_)
    refine zO_chk (fun h7 => ?_)
    refine zO_aload_n dX12_row_146 rfl (zR_P _) ?_
    refine gt12 (k := 3) dX12_row_147 wF_X12_20 (by decide) (gk_91 hG) (zgv (c := 12) (k := 3) rfl (Or.inl ⟨_, rfl⟩) (gf_91_3 hG)) ?_
    refine zO_sipush dX12_row_150 (by decide) ?_
    refine zO_dup2a dX12_row_153 (rfl) (rfl) ?_
    refine zO_iald dX12_row_154 (gk_93 hG) (gl_in (gl_93 hG) (by decide)) ?_
    refine zO_iconst dX12_row_155 (by decide) ?_
    refine zO_iadd dX12_row_156 h7 ?_
    refine zO_iast dX12_row_157 (gk_93 hG) (gl_in (gl_93 hG) (by decide)) ?_
    refine zO_letD (fun D_11 eD_11 => ?_)
    refine zO_chk (fun h8 => ?_)
    refine zO_iinc dX12_row_158 rfl h8 (by decide) ?_
    refine zO_ls (ls' := [(0, zR 91), (1, zI o1), (2, zI (o2 + 1)), (3, zI o3), (4, zI v4), (5, zI s0)]) rfl ?_
    refine zO_live [0, 1, 2, 3, 5] ?_
    exact sX12_row_161 hG o1 (o2 + 1) o3 s0 _ hk_40 D_11
set_option maxHeartbeats 20000000 in
theorem sX12_row_119 {l : Launch} {E : zE} {d : Nat} {F : zFs} {n sl : Nat} (hG : zG F)  (o1 : Int) (o2 : Int) (o3 : Int) (v4 : Int) (k_40 : Int → Int → zDa → Option (Int × zDa)) (hk_40 : ∀ (u2 : Int) (u3 : Int) (D : zDa), zO l E (d + 1) YX12_row 40 [(0, zR 91), (1, zI o1), (2, zI u2), (3, zI u3)] [] (F, D, n, sl) (zcI F n sl) (k_40 u2 u3 D)) (D : zDa) : zO l E (d + 1) YX12_row 119 [(0, zR 91), (1, zI o1), (2, zI o2), (3, zI o3), (4, zI v4)] [] (F, D, n, sl) (zcI F n sl) (fX12_row_119 F k_40 o1 o2 o3 v4 D) := by
  unfold fX12_row_119
  refine zO_iconst dX12_row_119 (by decide) ?_
  refine zO_live [0, 1, 2, 3, 4] ?_
  exact sX12_row_120 hG o1 o2 o3 v4 0 _ hk_40 D
set_option maxHeartbeats 20000000 in
theorem sX12_row_53 {l : Launch} {E : zE} {d : Nat} {F : zFs} {n sl : Nat} (hG : zG F)  (o1 : Int) (o2 : Int) (o3 : Int) (k_40 : Int → Int → zDa → Option (Int × zDa)) (hk_40 : ∀ (u2 : Int) (u3 : Int) (D : zDa), zO l E (d + 1) YX12_row 40 [(0, zR 91), (1, zI o1), (2, zI u2), (3, zI u3)] [] (F, D, n, sl) (zcI F n sl) (k_40 u2 u3 D)) : ∀ (N : Nat) (v4 : Int) (v5 : Int) (D : zDa), zO l E (d + 1) YX12_row 53 [(0, zR 91), (1, zI o1), (2, zI o2), (3, zI o3), (4, zI v4), (5, zI v5)] [] (F, D, n, sl) (zcI F n sl) (zfix (fun _ _ _ => none) (fX12_row_53 F o1 o2 o3 k_40) N v4 v5 D) := by
  intro N
  induction N with
  | zero => intro v4 v5 D; exact zO_none
  | succ N hk_53 =>
    intro v4 v5 D
    show zO _ _ _ _ _ _ _ _ _ ((fX12_row_53 F o1 o2 o3 k_40) (zfix (fun _ _ _ => none) (fX12_row_53 F o1 o2 o3 k_40) N) v4 v5 D)
    unfold fX12_row_53
    refine zO_iload dX12_row_53 rfl ?_
    refine zO_iconst dX12_row_55 (by decide) ?_
    refine zO_icmp_ge (tgt := 86) dX12_row_56 rfl (fun c56 => ?_) (fun c56 => ?_)
    · refine zO_chk (fun h2 => ?_)
      refine zO_iload dX12_row_59 rfl ?_
      refine zO_bipush dX12_row_61 (by decide) ?_
      refine zO_ishl dX12_row_63 ?_
      refine zO_aload_n dX12_row_64 rfl (zR_P _) ?_
      refine gt12 (k := 7) dX12_row_65 wF_X12_34 (by decide) (gk_91 hG) (zgv (c := 12) (k := 7) rfl (Or.inl ⟨_, rfl⟩) (gf_91_7 hG)) ?_
      refine zO_iload_n dX12_row_68 rfl ?_
      refine zO_iload dX12_row_69 rfl ?_
      refine zO_iadd dX12_row_71 h2.1 ?_
      refine zO_bald dX12_row_72 (gk_97 hG) (gl_in (gl_97 hG) h2.2) ?_
      refine zO_sipush dX12_row_73 (by decide) ?_
      refine zO_iand dX12_row_76 ?_
      refine zO_ior dX12_row_77 ?_
      refine zO_letI (fun x4_8 ex4_8 => ?_)
      refine zO_istore dX12_row_78 (by decide) ?_
      refine zO_ls (ls' := [(0, zR 91), (1, zI o1), (2, zI o2), (3, zI o3), (4, zI x4_8), (5, zI v5)]) rfl ?_
      refine zO_chk (fun h3 => ?_)
      refine zO_iinc dX12_row_80 rfl h3 (by decide) ?_
      refine zO_ls (ls' := [(0, zR 91), (1, zI o1), (2, zI o2), (3, zI o3), (4, zI x4_8), (5, zI (v5 + 1))]) rfl ?_
      refine zO_goto (tgt := 53) dX12_row_83 rfl ?_
      refine zO_live [0, 1, 2, 3, 4, 5] ?_
      exact hk_53 x4_8 (v5 + 1) D
    · refine zO_iload dX12_row_86 rfl ?_
      refine zO_if_lt (tgt := 119) dX12_row_88 rfl (fun c88 => ?_) (fun c88 => ?_)
      · refine zO_live [0, 1, 2, 3, 4] ?_
        exact sX12_row_119 hG o1 o2 o3 v4 _ hk_40 D
      · refine zO_iload dX12_row_91 rfl ?_
        refine zO_iconst dX12_row_93 (by decide) ?_
        refine zO_aload_n dX12_row_94 rfl (zR_P _) ?_
        refine zO_callV (Y' := YX12_questions) (cw := zcI F n sl) (as := []) (rest := [zI 1, zI v4]) (na := 0) (ci := 12) rfl dX12_row_95 wC_X12_questions wN_X12 wM_X12_146 wI_X12_questions wV_X12_questions (by decide) (by decide) rfl rfl (Nat.le_of_ble_eq_true rfl) rfl (by decide) (gk_91 hG) (fun r hr => zMet_cast (Nat.add_assoc d 0 0) (mX12_questions (d := d + 0) hG  r hr)) ?_
        rintro ⟨r_12, D_13⟩ -
        show zO _ _ _ _ _ _ [zI r_12, zI 1, zI v4] (F, D_13, n, sl) _ _
        refine zO_ishl dX12_row_98 ?_
        refine zO_icmp_ge (tgt := 119) dX12_row_99 rfl (fun c99 => ?_) (fun c99 => ?_)
        · refine zO_aload_n dX12_row_102 rfl (zR_P _) ?_
          refine gt12 (k := 3) dX12_row_103 wF_X12_20 (by decide) (gk_91 hG) (zgv (c := 12) (k := 3) rfl (Or.inl ⟨_, rfl⟩) (gf_91_3 hG)) ?_
          refine zO_sipush dX12_row_106 (by decide) ?_
          refine zO_iald dX12_row_109 (gk_93 hG) (gl_in (gl_93 hG) (by decide)) ?_
          refine zO_bipush dX12_row_110 (by decide) ?_
          refine zO_icmp_ge (tgt := 119) dX12_row_112 rfl (fun c112 => ?_) (fun c112 => ?_)
          · refine zO_iconst dX12_row_115 (by decide) ?_
            refine zO_goto (tgt := 120) dX12_row_116 rfl ?_
            refine zO_live [0, 1, 2, 3, 4] ?_
            exact sX12_row_120 hG o1 o2 o3 v4 1 _ hk_40 D_13
          · refine zO_live [0, 1, 2, 3, 4] ?_
            exact sX12_row_119 hG o1 o2 o3 v4 _ hk_40 D_13
        · refine zO_live [0, 1, 2, 3, 4] ?_
          exact sX12_row_119 hG o1 o2 o3 v4 _ hk_40 D_13
set_option maxHeartbeats 20000000 in
theorem sX12_row_40 {l : Launch} {E : zE} {d : Nat} {F : zFs} {n sl : Nat} (hG : zG F)  (o1 : Int)   : ∀ (N : Nat) (v2 : Int) (v3 : Int) (D : zDa), zO l E (d + 1) YX12_row 40 [(0, zR 91), (1, zI o1), (2, zI v2), (3, zI v3)] [] (F, D, n, sl) (zcI F n sl) (zfix (fun _ _ _ => none) (fX12_row_40 F o1) N v2 v3 D) := by
  intro N
  induction N with
  | zero => intro v2 v3 D; exact zO_none
  | succ N hk_40 =>
    intro v2 v3 D
    show zO _ _ _ _ _ _ _ _ _ ((fX12_row_40 F o1) (zfix (fun _ _ _ => none) (fX12_row_40 F o1) N) v2 v3 D)
    unfold fX12_row_40
    refine zO_chk (fun h1 => ?_)
    refine zO_iload_n dX12_row_40 rfl ?_
    refine zO_iconst dX12_row_41 (by decide) ?_
    refine zO_iadd dX12_row_42 h1 ?_
    refine zO_iload_n dX12_row_43 rfl ?_
    refine zO_icmp_gt (tgt := 186) dX12_row_44 rfl (fun c44 => ?_) (fun c44 => ?_)
    · refine zO_aload_n dX12_row_186 rfl (zR_P _) ?_
      refine zO_iload_n dX12_row_187 rfl ?_
      refine zO_callV (Y' := YX12_good) (cw := zcI F n sl) (as := [zI v2]) (rest := []) (na := 1) (ci := 12) rfl dX12_row_188 wC_X12_good wN_X12 wM_X12_143 wI_X12_good wV_X12_good (by decide) (by decide) rfl rfl (Nat.le_of_ble_eq_true rfl) rfl (by decide) (gk_91 hG) (fun r hr => zMet_cast (Nat.add_assoc d 0 0) (mX12_good (d := d + 0) hG v2 r hr)) ?_
      rintro ⟨r_6, D_7⟩ -
      show zO _ _ _ _ _ _ [zI r_6] (F, D_7, n, sl) _ _
      exact zO_ret (rv := some (zI r_6)) dX12_row_191 rfl rfl rfl
    · refine zO_iconst dX12_row_47 (by decide) ?_
      refine zO_istore dX12_row_48 (by decide) ?_
      refine zO_ls (ls' := [(0, zR 91), (1, zI o1), (2, zI v2), (3, zI v3), (4, zI 0)]) rfl ?_
      refine zO_iconst dX12_row_50 (by decide) ?_
      refine zO_istore dX12_row_51 (by decide) ?_
      refine zO_ls (ls' := [(0, zR 91), (1, zI o1), (2, zI v2), (3, zI v3), (4, zI 0), (5, zI 0)]) rfl ?_
      refine zO_live [0, 1, 2, 3, 4, 5] ?_
      exact sX12_row_53 hG o1 v2 v3 _ hk_40 zfu 0 0 D
set_option maxHeartbeats 20000000 in
theorem sX12_row_35 {l : Launch} {E : zE} {d : Nat} {F : zFs} {n sl : Nat} (hG : zG F)  (v1 : Int) (v2 : Int) (s0 : Int)   (D : zDa) : zO l E (d + 1) YX12_row 35 [(0, zR 91), (1, zI v1), (2, zI v2)] [zI s0, zR 91] (F, D, n, sl) (zcI F n sl) (fX12_row_35 F v1 v2 s0 D) := by
  unfold fX12_row_35
  refine ptI12 (k := 59) (z := s0) dX12_row_35 wF_X12_462 (by decide) rfl (gk_91 hG) rfl ?_
  refine zO_letD (fun D_5 eD_5 => ?_)
  refine zO_iconst dX12_row_38 (by decide) ?_
  refine zO_istore_n dX12_row_39 (by decide) ?_
  refine zO_ls (ls' := [(0, zR 91), (1, zI v1), (2, zI v2), (3, zI 0)]) rfl ?_
  refine zO_live [0, 1, 2, 3] ?_
  exact sX12_row_40 hG v1 zfu v2 0 D_5
set_option maxHeartbeats 20000000 in
theorem mX12_row {l : Launch} {E : zE} {d : Nat} {F : zFs} {n sl : Nat} (hG : zG F)  {D : zDa} : ∀ r, fX12_row F   D = some r → zMet l E (d + 1) YX12_row [zR 91] (F, D, n, sl) (zcI F n sl r) := by
  intro r hr
  refine zMet_of (plainFor_of_name (by decide)) (fun _ h => (nomatch h)) (Nat.le_of_ble_eq_true rfl) ?_
  have hz : zO l E (d + 1) YX12_row 0 [(0, zR 91)] [] (F, D, n, sl) (zcI F n sl) (fX12_row F   D) := by
    unfold fX12_row
    refine zO_aload_n dX12_row_0 rfl (zR_P _) ?_
    refine gt12 (k := 9) (v := zI (D 91 9)) dX12_row_1 wF_X12_170 (by decide) (gk_91 hG) rfl ?_
    refine zO_letI (fun x1_1 ex1_1 => ?_)
    refine zO_istore_n dX12_row_4 (by decide) ?_
    refine zO_ls (ls' := [(0, zR 91), (1, zI x1_1)]) rfl ?_
    refine zO_aload_n dX12_row_5 rfl (zR_P _) ?_
    refine zO_iconst dX12_row_6 (by decide) ?_
    refine ptI12 (k := 9) (z := 0) dX12_row_7 wF_X12_170 (by decide) rfl (gk_91 hG) rfl ?_
    refine zO_letD (fun D_2 eD_2 => ?_)
    refine zO_iload_n dX12_row_10 rfl ?_
    refine zO_if_ne (tgt := 21) dX12_row_11 rfl (fun c11 => ?_) (fun c11 => ?_)
    · refine zO_aload_n dX12_row_14 rfl (zR_P _) ?_
      refine zO_bipush dX12_row_15 (by decide) ?_
      refine zO_callV (Y' := YX12_refuses) (cw := zcI F n sl) (as := [zI (-6)]) (rest := []) (na := 1) (ci := 12) rfl dX12_row_17 wC_X12_refuses wN_X12 wM_X12_139 wI_X12_refuses wV_X12_refuses (by decide) (by decide) rfl rfl (Nat.le_of_ble_eq_true rfl) rfl (by decide) (gk_91 hG) (fun r hr => zMet_cast (Nat.add_assoc d 0 0) (mX12_refuses (d := d + 0) hG (-6) r hr)) ?_
      rintro ⟨r_3, D_4⟩ -
      show zO _ _ _ _ _ _ [zI r_3] (F, D_4, n, sl) _ _
      exact zO_ret (rv := some (zI r_3)) dX12_row_20 rfl rfl rfl
    · refine zO_iconst dX12_row_21 (by decide) ?_
      refine zO_istore_n dX12_row_22 (by decide) ?_
      refine zO_ls (ls' := [(0, zR 91), (1, zI x1_1), (2, zI 0)]) rfl ?_
      refine zO_aload_n dX12_row_23 rfl (zR_P _) ?_
      refine zO_iload_n dX12_row_24 rfl ?_
      refine zO_iconst dX12_row_25 (by decide) ?_
      refine zO_irem dX12_row_26 (by decide) ?_
      refine zO_if_ne (tgt := 34) dX12_row_27 rfl (fun c27 => ?_) (fun c27 => ?_)
      · refine zO_iconst dX12_row_30 (by decide) ?_
        refine zO_goto (tgt := 35) dX12_row_31 rfl ?_
        refine zO_live [0, 1, 2] ?_
        exact sX12_row_35 hG x1_1 0 0 D_2
      · refine zO_iconst dX12_row_34 (by decide) ?_
        refine zO_live [0, 1, 2] ?_
        exact sX12_row_35 hG x1_1 0 1 D_2
  exact hz r hr
theorem dX12_lost_0 : decode cX12_lost 0 = .ok (.aload_n 0, 1) := by decide +kernel
theorem dX12_lost_1 : decode cX12_lost 1 = .ok (.getfield 462, 3) := by decide +kernel
theorem dX12_lost_4 : decode cX12_lost 4 = .ok (.ireturn, 1) := by decide +kernel
abbrev YX12_lost : zY := (yX12_lost, cX12_lost, 1, (Option.some Jvm.ClassFile.FieldType.int), [])
def fX12_lost (F : zFs)  (D : zDa) : Option (Int × zDa) :=
  some ((D 91 59), D)
set_option maxHeartbeats 20000000 in
theorem mX12_lost {l : Launch} {E : zE} {d : Nat} {F : zFs} {n sl : Nat} (hG : zG F)  {D : zDa} : ∀ r, fX12_lost F   D = some r → zMet l E (d + 0) YX12_lost [zR 91] (F, D, n, sl) (zcI F n sl r) := by
  intro r hr
  refine zMet_of (plainFor_of_name (by decide)) (fun _ h => (nomatch h)) (Nat.le_of_ble_eq_true rfl) ?_
  have hz : zO l E (d + 0) YX12_lost 0 [(0, zR 91)] [] (F, D, n, sl) (zcI F n sl) (fX12_lost F   D) := by
    unfold fX12_lost
    refine zO_aload_n dX12_lost_0 rfl (zR_P _) ?_
    refine gt12 (k := 59) (v := zI (D 91 59)) dX12_lost_1 wF_X12_462 (by decide) (gk_91 hG) rfl ?_
    exact zO_ret (rv := some (zI (D 91 59))) dX12_lost_4 rfl rfl rfl
  exact hz r hr
theorem dX12_drawnTimes_0 : decode cX12_drawnTimes 0 = .ok (.iconst 0, 1) := by decide +kernel
theorem dX12_drawnTimes_1 : decode cX12_drawnTimes 1 = .ok (.istore_n 2, 1) := by decide +kernel
theorem dX12_drawnTimes_2 : decode cX12_drawnTimes 2 = .ok (.iconst 0, 1) := by decide +kernel
theorem dX12_drawnTimes_3 : decode cX12_drawnTimes 3 = .ok (.istore_n 3, 1) := by decide +kernel
theorem dX12_drawnTimes_4 : decode cX12_drawnTimes 4 = .ok (.iload_n 3, 1) := by decide +kernel
theorem dX12_drawnTimes_5 : decode cX12_drawnTimes 5 = .ok (.aload_n 0, 1) := by decide +kernel
theorem dX12_drawnTimes_6 : decode cX12_drawnTimes 6 = .ok (.getfield 20, 3) := by decide +kernel
theorem dX12_drawnTimes_9 : decode cX12_drawnTimes 9 = .ok (.sipush 392, 3) := by decide +kernel
theorem dX12_drawnTimes_12 : decode cX12_drawnTimes 12 = .ok (.iaload, 1) := by decide +kernel
theorem dX12_drawnTimes_13 : decode cX12_drawnTimes 13 = .ok (.if_icmp .ge 26, 3) := by decide +kernel
theorem dX12_drawnTimes_16 : decode cX12_drawnTimes 16 = .ok (.iload_n 2, 1) := by decide +kernel
theorem dX12_drawnTimes_17 : decode cX12_drawnTimes 17 = .ok (.aload_n 0, 1) := by decide +kernel
theorem dX12_drawnTimes_18 : decode cX12_drawnTimes 18 = .ok (.getfield 20, 3) := by decide +kernel
theorem dX12_drawnTimes_21 : decode cX12_drawnTimes 21 = .ok (.sipush 350, 3) := by decide +kernel
theorem dX12_drawnTimes_24 : decode cX12_drawnTimes 24 = .ok (.iload_n 3, 1) := by decide +kernel
theorem dX12_drawnTimes_25 : decode cX12_drawnTimes 25 = .ok (.iadd, 1) := by decide +kernel
theorem dX12_drawnTimes_26 : decode cX12_drawnTimes 26 = .ok (.iaload, 1) := by decide +kernel
theorem dX12_drawnTimes_27 : decode cX12_drawnTimes 27 = .ok (.iload_n 1, 1) := by decide +kernel
theorem dX12_drawnTimes_28 : decode cX12_drawnTimes 28 = .ok (.ishr, 1) := by decide +kernel
theorem dX12_drawnTimes_29 : decode cX12_drawnTimes 29 = .ok (.iconst 1, 1) := by decide +kernel
theorem dX12_drawnTimes_30 : decode cX12_drawnTimes 30 = .ok (.iand, 1) := by decide +kernel
theorem dX12_drawnTimes_31 : decode cX12_drawnTimes 31 = .ok (.iadd, 1) := by decide +kernel
theorem dX12_drawnTimes_32 : decode cX12_drawnTimes 32 = .ok (.istore_n 2, 1) := by decide +kernel
theorem dX12_drawnTimes_33 : decode cX12_drawnTimes 33 = .ok (.iinc 3 1, 3) := by decide +kernel
theorem dX12_drawnTimes_36 : decode cX12_drawnTimes 36 = .ok (.goto (-32), 3) := by decide +kernel
theorem dX12_drawnTimes_39 : decode cX12_drawnTimes 39 = .ok (.iload_n 2, 1) := by decide +kernel
theorem dX12_drawnTimes_40 : decode cX12_drawnTimes 40 = .ok (.ireturn, 1) := by decide +kernel
abbrev YX12_drawnTimes : zY := (yX12_drawnTimes, cX12_drawnTimes, 4, (Option.some Jvm.ClassFile.FieldType.int), [])
def fX12_drawnTimes_4 (F : zFs) (o1 : Int)  (k_4 : Int → Int → zDa → Option (Int × zDa)) (v2 : Int) (v3 : Int) (D : zDa) : Option (Int × zDa) :=
  if v3 < (D 93 392) then
    if (-2147483648 ≤ 350 + v3 ∧ 350 + v3 ≤ 2147483647) ∧ (0 ≤ (350 + v3) ∧ (350 + v3) < 5201) ∧ (-2147483648 ≤ v2 + (zand (zshr (D 93 (350 + v3).toNat) o1) 1) ∧ v2 + (zand (zshr (D 93 (350 + v3).toNat) o1) 1) ≤ 2147483647) then
      zlet ((v2 + (zand (zshr (D 93 (350 + v3).toNat) o1) 1))) (fun x2_1 =>
        if (-2147483648 ≤ v3 + 1 ∧ v3 + 1 ≤ 2147483647) then
          k_4 x2_1 (v3 + 1) D
        else none)
    else none
  else
    some (v2, D)
def fX12_drawnTimes (F : zFs) (v1 : Int) (D : zDa) : Option (Int × zDa) :=
  zfix (fun _ _ _ => none) (fX12_drawnTimes_4 F v1) zfu 0 0 D
set_option maxHeartbeats 20000000 in
theorem sX12_drawnTimes_4 {l : Launch} {E : zE} {d : Nat} {F : zFs} {n sl : Nat} (hG : zG F)  (o1 : Int)   : ∀ (N : Nat) (v2 : Int) (v3 : Int) (D : zDa), zO l E (d + 0) YX12_drawnTimes 4 [(0, zR 91), (1, zI o1), (2, zI v2), (3, zI v3)] [] (F, D, n, sl) (zcI F n sl) (zfix (fun _ _ _ => none) (fX12_drawnTimes_4 F o1) N v2 v3 D) := by
  intro N
  induction N with
  | zero => intro v2 v3 D; exact zO_none
  | succ N hk_4 =>
    intro v2 v3 D
    show zO _ _ _ _ _ _ _ _ _ ((fX12_drawnTimes_4 F o1) (zfix (fun _ _ _ => none) (fX12_drawnTimes_4 F o1) N) v2 v3 D)
    unfold fX12_drawnTimes_4
    refine zO_iload_n dX12_drawnTimes_4 rfl ?_
    refine zO_aload_n dX12_drawnTimes_5 rfl (zR_P _) ?_
    refine gt12 (k := 3) dX12_drawnTimes_6 wF_X12_20 (by decide) (gk_91 hG) (zgv (c := 12) (k := 3) rfl (Or.inl ⟨_, rfl⟩) (gf_91_3 hG)) ?_
    refine zO_sipush dX12_drawnTimes_9 (by decide) ?_
    refine zO_iald dX12_drawnTimes_12 (gk_93 hG) (gl_in (gl_93 hG) (by decide)) ?_
    refine zO_icmp_ge (tgt := 39) dX12_drawnTimes_13 rfl (fun c13 => ?_) (fun c13 => ?_)
    · refine zO_chk (fun h1 => ?_)
      refine zO_iload_n dX12_drawnTimes_16 rfl ?_
      refine zO_aload_n dX12_drawnTimes_17 rfl (zR_P _) ?_
      refine gt12 (k := 3) dX12_drawnTimes_18 wF_X12_20 (by decide) (gk_91 hG) (zgv (c := 12) (k := 3) rfl (Or.inl ⟨_, rfl⟩) (gf_91_3 hG)) ?_
      refine zO_sipush dX12_drawnTimes_21 (by decide) ?_
      refine zO_iload_n dX12_drawnTimes_24 rfl ?_
      refine zO_iadd dX12_drawnTimes_25 h1.1 ?_
      refine zO_iald dX12_drawnTimes_26 (gk_93 hG) (gl_in (gl_93 hG) h1.2.1) ?_
      refine zO_iload_n dX12_drawnTimes_27 rfl ?_
      refine zO_ishr dX12_drawnTimes_28 ?_
      refine zO_iconst dX12_drawnTimes_29 (by decide) ?_
      refine zO_iand dX12_drawnTimes_30 ?_
      refine zO_iadd dX12_drawnTimes_31 h1.2.2 ?_
      refine zO_letI (fun x2_1 ex2_1 => ?_)
      refine zO_istore_n dX12_drawnTimes_32 (by decide) ?_
      refine zO_ls (ls' := [(0, zR 91), (1, zI o1), (2, zI x2_1), (3, zI v3)]) rfl ?_
      refine zO_chk (fun h2 => ?_)
      refine zO_iinc dX12_drawnTimes_33 rfl h2 (by decide) ?_
      refine zO_ls (ls' := [(0, zR 91), (1, zI o1), (2, zI x2_1), (3, zI (v3 + 1))]) rfl ?_
      refine zO_goto (tgt := 4) dX12_drawnTimes_36 rfl ?_
      refine zO_live [0, 1, 2, 3] ?_
      exact hk_4 x2_1 (v3 + 1) D
    · refine zO_iload_n dX12_drawnTimes_39 rfl ?_
      exact zO_ret (rv := some (zI v2)) dX12_drawnTimes_40 rfl rfl rfl
set_option maxHeartbeats 20000000 in
theorem mX12_drawnTimes {l : Launch} {E : zE} {d : Nat} {F : zFs} {n sl : Nat} (hG : zG F) (v1 : Int) {D : zDa} : ∀ r, fX12_drawnTimes F  v1 D = some r → zMet l E (d + 0) YX12_drawnTimes [zR 91, zI v1] (F, D, n, sl) (zcI F n sl r) := by
  intro r hr
  refine zMet_of (plainFor_of_name (by decide)) (fun _ h => (nomatch h)) (Nat.le_of_ble_eq_true rfl) ?_
  have hz : zO l E (d + 0) YX12_drawnTimes 0 [(0, zR 91), (1, zI v1)] [] (F, D, n, sl) (zcI F n sl) (fX12_drawnTimes F  v1 D) := by
    unfold fX12_drawnTimes
    refine zO_iconst dX12_drawnTimes_0 (by decide) ?_
    refine zO_istore_n dX12_drawnTimes_1 (by decide) ?_
    refine zO_ls (ls' := [(0, zR 91), (1, zI v1), (2, zI 0)]) rfl ?_
    refine zO_iconst dX12_drawnTimes_2 (by decide) ?_
    refine zO_istore_n dX12_drawnTimes_3 (by decide) ?_
    refine zO_ls (ls' := [(0, zR 91), (1, zI v1), (2, zI 0), (3, zI 0)]) rfl ?_
    refine zO_live [0, 1, 2, 3] ?_
    exact sX12_drawnTimes_4 hG v1 zfu 0 0 D
  exact hz r hr
theorem dX12_drawn_0 : decode cX12_drawn 0 = .ok (.aload_n 0, 1) := by decide +kernel
theorem dX12_drawn_1 : decode cX12_drawn 1 = .ok (.iload_n 1, 1) := by decide +kernel
theorem dX12_drawn_2 : decode cX12_drawn 2 = .ok (.invokevirtual 158, 3) := by decide +kernel
theorem dX12_drawn_5 : decode cX12_drawn 5 = .ok (.ifCond .eq 12, 3) := by decide +kernel
theorem dX12_drawn_8 : decode cX12_drawn 8 = .ok (.iload_n 2, 1) := by decide +kernel
theorem dX12_drawn_9 : decode cX12_drawn 9 = .ok (.iconst 0, 1) := by decide +kernel
theorem dX12_drawn_10 : decode cX12_drawn 10 = .ok (.iconst 1, 1) := by decide +kernel
theorem dX12_drawn_11 : decode cX12_drawn 11 = .ok (.invokestatic 135, 3) := by decide +kernel
theorem dX12_drawn_14 : decode cX12_drawn 14 = .ok (.ifCond .ne 5, 3) := by decide +kernel
theorem dX12_drawn_17 : decode cX12_drawn 17 = .ok (.iconst (-1), 1) := by decide +kernel
theorem dX12_drawn_18 : decode cX12_drawn 18 = .ok (.ireturn, 1) := by decide +kernel
theorem dX12_drawn_19 : decode cX12_drawn 19 = .ok (.iload_n 2, 1) := by decide +kernel
theorem dX12_drawn_20 : decode cX12_drawn 20 = .ok (.ifCond .ne 9, 3) := by decide +kernel
theorem dX12_drawn_23 : decode cX12_drawn 23 = .ok (.aload_n 0, 1) := by decide +kernel
theorem dX12_drawn_24 : decode cX12_drawn 24 = .ok (.iload_n 1, 1) := by decide +kernel
theorem dX12_drawn_25 : decode cX12_drawn 25 = .ok (.invokevirtual 465, 3) := by decide +kernel
theorem dX12_drawn_28 : decode cX12_drawn 28 = .ok (.ireturn, 1) := by decide +kernel
theorem dX12_drawn_29 : decode cX12_drawn 29 = .ok (.iconst 0, 1) := by decide +kernel
theorem dX12_drawn_30 : decode cX12_drawn 30 = .ok (.istore_n 3, 1) := by decide +kernel
theorem dX12_drawn_31 : decode cX12_drawn 31 = .ok (.iload_n 3, 1) := by decide +kernel
theorem dX12_drawn_32 : decode cX12_drawn 32 = .ok (.aload_n 0, 1) := by decide +kernel
theorem dX12_drawn_33 : decode cX12_drawn 33 = .ok (.getfield 20, 3) := by decide +kernel
theorem dX12_drawn_36 : decode cX12_drawn 36 = .ok (.sipush 392, 3) := by decide +kernel
theorem dX12_drawn_39 : decode cX12_drawn 39 = .ok (.iaload, 1) := by decide +kernel
theorem dX12_drawn_40 : decode cX12_drawn 40 = .ok (.if_icmp .ge 40, 3) := by decide +kernel
theorem dX12_drawn_43 : decode cX12_drawn 43 = .ok (.aload_n 0, 1) := by decide +kernel
theorem dX12_drawn_44 : decode cX12_drawn 44 = .ok (.getfield 20, 3) := by decide +kernel
theorem dX12_drawn_47 : decode cX12_drawn 47 = .ok (.sipush 350, 3) := by decide +kernel
theorem dX12_drawn_50 : decode cX12_drawn 50 = .ok (.aload_n 0, 1) := by decide +kernel
theorem dX12_drawn_51 : decode cX12_drawn 51 = .ok (.getfield 20, 3) := by decide +kernel
theorem dX12_drawn_54 : decode cX12_drawn 54 = .ok (.sipush 392, 3) := by decide +kernel
theorem dX12_drawn_57 : decode cX12_drawn 57 = .ok (.iaload, 1) := by decide +kernel
theorem dX12_drawn_58 : decode cX12_drawn 58 = .ok (.iadd, 1) := by decide +kernel
theorem dX12_drawn_59 : decode cX12_drawn 59 = .ok (.iconst 1, 1) := by decide +kernel
theorem dX12_drawn_60 : decode cX12_drawn 60 = .ok (.isub, 1) := by decide +kernel
theorem dX12_drawn_61 : decode cX12_drawn 61 = .ok (.iload_n 3, 1) := by decide +kernel
theorem dX12_drawn_62 : decode cX12_drawn 62 = .ok (.isub, 1) := by decide +kernel
theorem dX12_drawn_63 : decode cX12_drawn 63 = .ok (.iaload, 1) := by decide +kernel
theorem dX12_drawn_64 : decode cX12_drawn 64 = .ok (.iload_n 1, 1) := by decide +kernel
theorem dX12_drawn_65 : decode cX12_drawn 65 = .ok (.ishr, 1) := by decide +kernel
theorem dX12_drawn_66 : decode cX12_drawn 66 = .ok (.iconst 1, 1) := by decide +kernel
theorem dX12_drawn_67 : decode cX12_drawn 67 = .ok (.iand, 1) := by decide +kernel
theorem dX12_drawn_68 : decode cX12_drawn 68 = .ok (.iconst 1, 1) := by decide +kernel
theorem dX12_drawn_69 : decode cX12_drawn 69 = .ok (.if_icmp .ne 5, 3) := by decide +kernel
theorem dX12_drawn_72 : decode cX12_drawn 72 = .ok (.iload_n 3, 1) := by decide +kernel
theorem dX12_drawn_73 : decode cX12_drawn 73 = .ok (.ireturn, 1) := by decide +kernel
theorem dX12_drawn_74 : decode cX12_drawn 74 = .ok (.iinc 3 1, 3) := by decide +kernel
theorem dX12_drawn_77 : decode cX12_drawn 77 = .ok (.goto (-46), 3) := by decide +kernel
theorem dX12_drawn_80 : decode cX12_drawn 80 = .ok (.iconst (-1), 1) := by decide +kernel
theorem dX12_drawn_81 : decode cX12_drawn 81 = .ok (.ireturn, 1) := by decide +kernel
abbrev YX12_drawn : zY := (yX12_drawn, cX12_drawn, 4, (Option.some Jvm.ClassFile.FieldType.int), [])
def fX12_drawn_31 (F : zFs) (o1 : Int)  (k_31 : Int → zDa → Option (Int × zDa)) (v3 : Int) (D : zDa) : Option (Int × zDa) :=
  if v3 < (D 93 392) then
    if (-2147483648 ≤ 350 + (D 93 392) ∧ 350 + (D 93 392) ≤ 2147483647) ∧ (-2147483648 ≤ (350 + (D 93 392)) - 1 ∧ (350 + (D 93 392)) - 1 ≤ 2147483647) ∧ (-2147483648 ≤ ((350 + (D 93 392)) - 1) - v3 ∧ ((350 + (D 93 392)) - 1) - v3 ≤ 2147483647) ∧ (0 ≤ (((350 + (D 93 392)) - 1) - v3) ∧ (((350 + (D 93 392)) - 1) - v3) < 5201) then
      if (zand (zshr (D 93 (((350 + (D 93 392)) - 1) - v3).toNat) o1) 1) = 1 then
        some (v3, D)
      else
        if (-2147483648 ≤ v3 + 1 ∧ v3 + 1 ≤ 2147483647) then
          k_31 (v3 + 1) D
        else none
    else none
  else
    some ((-1), D)
def fX12_drawn (F : zFs) (v1 : Int) (v2 : Int) (D : zDa) : Option (Int × zDa) :=
  (fX12_isQuestion F v1 D).bind (fun (r_1, D_2) =>
    if r_1 = 0 then
      some ((-1), D_2)
    else
      (fX12_lies F v2 0 1 D_2).bind (fun (r_3, D_4) =>
        if r_3 = 0 then
          some ((-1), D_4)
        else
          if v2 = 0 then
            (fX12_drawnTimes F v1 D_4).bind (fun (r_5, D_6) =>
              some (r_5, D_6))
          else
            zfix (fun _ _ => none) (fX12_drawn_31 F v1) zfu 0 D_4))
set_option maxHeartbeats 20000000 in
theorem sX12_drawn_31 {l : Launch} {E : zE} {d : Nat} {F : zFs} {n sl : Nat} (hG : zG F)  (o1 : Int)   : ∀ (N : Nat) (v3 : Int) (D : zDa), zO l E (d + 2) YX12_drawn 31 [(0, zR 91), (1, zI o1), (3, zI v3)] [] (F, D, n, sl) (zcI F n sl) (zfix (fun _ _ => none) (fX12_drawn_31 F o1) N v3 D) := by
  intro N
  induction N with
  | zero => intro v3 D; exact zO_none
  | succ N hk_31 =>
    intro v3 D
    show zO _ _ _ _ _ _ _ _ _ ((fX12_drawn_31 F o1) (zfix (fun _ _ => none) (fX12_drawn_31 F o1) N) v3 D)
    unfold fX12_drawn_31
    refine zO_iload_n dX12_drawn_31 rfl ?_
    refine zO_aload_n dX12_drawn_32 rfl (zR_P _) ?_
    refine gt12 (k := 3) dX12_drawn_33 wF_X12_20 (by decide) (gk_91 hG) (zgv (c := 12) (k := 3) rfl (Or.inl ⟨_, rfl⟩) (gf_91_3 hG)) ?_
    refine zO_sipush dX12_drawn_36 (by decide) ?_
    refine zO_iald dX12_drawn_39 (gk_93 hG) (gl_in (gl_93 hG) (by decide)) ?_
    refine zO_icmp_ge (tgt := 80) dX12_drawn_40 rfl (fun c40 => ?_) (fun c40 => ?_)
    · refine zO_chk (fun h1 => ?_)
      refine zO_aload_n dX12_drawn_43 rfl (zR_P _) ?_
      refine gt12 (k := 3) dX12_drawn_44 wF_X12_20 (by decide) (gk_91 hG) (zgv (c := 12) (k := 3) rfl (Or.inl ⟨_, rfl⟩) (gf_91_3 hG)) ?_
      refine zO_sipush dX12_drawn_47 (by decide) ?_
      refine zO_aload_n dX12_drawn_50 rfl (zR_P _) ?_
      refine gt12 (k := 3) dX12_drawn_51 wF_X12_20 (by decide) (gk_91 hG) (zgv (c := 12) (k := 3) rfl (Or.inl ⟨_, rfl⟩) (gf_91_3 hG)) ?_
      refine zO_sipush dX12_drawn_54 (by decide) ?_
      refine zO_iald dX12_drawn_57 (gk_93 hG) (gl_in (gl_93 hG) (by decide)) ?_
      refine zO_iadd dX12_drawn_58 h1.1 ?_
      refine zO_iconst dX12_drawn_59 (by decide) ?_
      refine zO_isub dX12_drawn_60 h1.2.1 ?_
      refine zO_iload_n dX12_drawn_61 rfl ?_
      refine zO_isub dX12_drawn_62 h1.2.2.1 ?_
      refine zO_iald dX12_drawn_63 (gk_93 hG) (gl_in (gl_93 hG) h1.2.2.2) ?_
      refine zO_iload_n dX12_drawn_64 rfl ?_
      refine zO_ishr dX12_drawn_65 ?_
      refine zO_iconst dX12_drawn_66 (by decide) ?_
      refine zO_iand dX12_drawn_67 ?_
      refine zO_iconst dX12_drawn_68 (by decide) ?_
      refine zO_icmp_ne (tgt := 74) dX12_drawn_69 rfl (fun c69 => ?_) (fun c69 => ?_)
      · refine zO_iload_n dX12_drawn_72 rfl ?_
        exact zO_ret (rv := some (zI v3)) dX12_drawn_73 rfl rfl rfl
      · refine zO_chk (fun h2 => ?_)
        refine zO_iinc dX12_drawn_74 rfl h2 (by decide) ?_
        refine zO_ls (ls' := [(0, zR 91), (1, zI o1), (3, zI (v3 + 1))]) rfl ?_
        refine zO_goto (tgt := 31) dX12_drawn_77 rfl ?_
        refine zO_live [0, 1, 3] ?_
        exact hk_31 (v3 + 1) D
    · refine zO_iconst dX12_drawn_80 (by decide) ?_
      exact zO_ret (rv := some (zI (-1))) dX12_drawn_81 rfl rfl rfl
set_option maxHeartbeats 20000000 in
theorem mX12_drawn {l : Launch} {E : zE} {d : Nat} {F : zFs} {n sl : Nat} (hG : zG F) (v1 : Int) (v2 : Int) {D : zDa} : ∀ r, fX12_drawn F  v1 v2 D = some r → zMet l E (d + 2) YX12_drawn [zR 91, zI v1, zI v2] (F, D, n, sl) (zcI F n sl r) := by
  intro r hr
  refine zMet_of (plainFor_of_name (by decide)) (fun _ h => (nomatch h)) (Nat.le_of_ble_eq_true rfl) ?_
  have hz : zO l E (d + 2) YX12_drawn 0 [(0, zR 91), (1, zI v1), (2, zI v2)] [] (F, D, n, sl) (zcI F n sl) (fX12_drawn F  v1 v2 D) := by
    unfold fX12_drawn
    refine zO_aload_n dX12_drawn_0 rfl (zR_P _) ?_
    refine zO_iload_n dX12_drawn_1 rfl ?_
    refine zO_callV (Y' := YX12_isQuestion) (cw := zcI F n sl) (as := [zI v1]) (rest := []) (na := 1) (ci := 12) rfl dX12_drawn_2 wC_X12_isQuestion wN_X12 wM_X12_158 wI_X12_isQuestion wV_X12_isQuestion (by decide) (by decide) rfl rfl (Nat.le_of_ble_eq_true rfl) rfl (by decide) (gk_91 hG) (fun r hr => zMet_cast (Nat.add_assoc d 0 1) (mX12_isQuestion (d := d + 0) hG v1 r hr)) ?_
    rintro ⟨r_1, D_2⟩ -
    show zO _ _ _ _ _ _ [zI r_1] (F, D_2, n, sl) _ _
    refine zO_if_eq (tgt := 17) dX12_drawn_5 rfl (fun c5 => ?_) (fun c5 => ?_)
    · refine zO_iconst dX12_drawn_17 (by decide) ?_
      exact zO_ret (rv := some (zI (-1))) dX12_drawn_18 rfl rfl rfl
    · refine zO_iload_n dX12_drawn_8 rfl ?_
      refine zO_iconst dX12_drawn_9 (by decide) ?_
      refine zO_iconst dX12_drawn_10 (by decide) ?_
      refine zO_callS (Y' := YX12_lies) (cw := zcI F n sl) (as := [zI v2, zI 0, zI 1]) (rest := []) (na := 3) dX12_drawn_11 wC_X12_lies wN_X12 wM_X12_135 wS_X12_lies (by decide) (by decide) rfl rfl (Nat.le_of_ble_eq_true rfl) (fun r hr => zMet_cast (Nat.add_assoc d 1 0) (mX12_lies (d := d + 1) hG v2 0 1 r hr)) ?_
      rintro ⟨r_3, D_4⟩ -
      show zO _ _ _ _ _ _ [zI r_3] (F, D_4, n, sl) _ _
      refine zO_if_ne (tgt := 19) dX12_drawn_14 rfl (fun c14 => ?_) (fun c14 => ?_)
      · refine zO_iconst dX12_drawn_17 (by decide) ?_
        exact zO_ret (rv := some (zI (-1))) dX12_drawn_18 rfl rfl rfl
      · refine zO_iload_n dX12_drawn_19 rfl ?_
        refine zO_if_ne (tgt := 29) dX12_drawn_20 rfl (fun c20 => ?_) (fun c20 => ?_)
        · refine zO_aload_n dX12_drawn_23 rfl (zR_P _) ?_
          refine zO_iload_n dX12_drawn_24 rfl ?_
          refine zO_callV (Y' := YX12_drawnTimes) (cw := zcI F n sl) (as := [zI v1]) (rest := []) (na := 1) (ci := 12) rfl dX12_drawn_25 wC_X12_drawnTimes wN_X12 wM_X12_465 wI_X12_drawnTimes wV_X12_drawnTimes (by decide) (by decide) rfl rfl (Nat.le_of_ble_eq_true rfl) rfl (by decide) (gk_91 hG) (fun r hr => zMet_cast (Nat.add_assoc d 1 0) (mX12_drawnTimes (d := d + 1) hG v1 r hr)) ?_
          rintro ⟨r_5, D_6⟩ -
          show zO _ _ _ _ _ _ [zI r_5] (F, D_6, n, sl) _ _
          exact zO_ret (rv := some (zI r_5)) dX12_drawn_28 rfl rfl rfl
        · refine zO_iconst dX12_drawn_29 (by decide) ?_
          refine zO_istore_n dX12_drawn_30 (by decide) ?_
          refine zO_ls (ls' := [(0, zR 91), (1, zI v1), (2, zI v2), (3, zI 0)]) rfl ?_
          refine zO_live [0, 1, 3] ?_
          exact sX12_drawn_31 hG v1 zfu 0 D_4
  exact hz r hr
theorem dX12_be_0 : decode cX12_be 0 = .ok (.iconst 0, 1) := by decide +kernel
theorem dX12_be_1 : decode cX12_be 1 = .ok (.istore_n 3, 1) := by decide +kernel
theorem dX12_be_2 : decode cX12_be 2 = .ok (.iload_n 3, 1) := by decide +kernel
theorem dX12_be_3 : decode cX12_be 3 = .ok (.bipush 12, 2) := by decide +kernel
theorem dX12_be_5 : decode cX12_be 5 = .ok (.if_icmp .ge 21, 3) := by decide +kernel
theorem dX12_be_8 : decode cX12_be 8 = .ok (.aload_n 0, 1) := by decide +kernel
theorem dX12_be_9 : decode cX12_be 9 = .ok (.iload_n 3, 1) := by decide +kernel
theorem dX12_be_10 : decode cX12_be 10 = .ok (.iload_n 3, 1) := by decide +kernel
theorem dX12_be_11 : decode cX12_be 11 = .ok (.ifCond .ne 7, 3) := by decide +kernel
theorem dX12_be_14 : decode cX12_be 14 = .ok (.lload_n 1, 1) := by decide +kernel
theorem dX12_be_15 : decode cX12_be 15 = .ok (.goto 4, 3) := by decide +kernel
theorem dX12_be_18 : decode cX12_be 18 = .ok (.lconst 0, 1) := by decide +kernel
theorem dX12_be_19 : decode cX12_be 19 = .ok (.lastore, 1) := by decide +kernel
theorem dX12_be_20 : decode cX12_be 20 = .ok (.iinc 3 1, 3) := by decide +kernel
theorem dX12_be_23 : decode cX12_be 23 = .ok (.goto (-21), 3) := by decide +kernel
theorem dX12_be_26 : decode cX12_be 26 = .ok (.return_, 1) := by decide +kernel
abbrev YX12_be : zY := (yX12_be, cX12_be, 4, none, [])
def fX12_be_19 (F : zFs) (k_2 : Int → zDa → Option zDa) (o0 : Nat) (o1 : Int) (v3 : Int) (s0 : Int) (s1 : Int) (s2 : Nat) (D : zDa) : Option zDa :=
  if ((F s2).1 = 21) ∧ ((0 : Int) ≤ s1 ∧ (s1 : Int) < ((F s2).2.1 : Int)) then
    zlet (zwr D s2 s1.toNat s0) (fun D_1 =>
      if (-2147483648 ≤ v3 + 1 ∧ v3 + 1 ≤ 2147483647) then
        k_2 (v3 + 1) D_1
      else none)
  else none
def fX12_be_2 (F : zFs) (o0 : Nat) (o1 : Int)  (k_2 : Int → zDa → Option zDa) (v3 : Int) (D : zDa) : Option zDa :=
  if v3 < 12 then
    if v3 = 0 then
      fX12_be_19 F k_2 o0 o1 v3 o1 v3 o0 D
    else
      fX12_be_19 F k_2 o0 o1 v3 0 v3 o0 D
  else
    some D
def fX12_be (F : zFs) (a0 : Nat) (v1 : Int) (D : zDa) : Option zDa :=
  zfix (fun _ _ => none) (fX12_be_2 F a0 v1) zfu 0 D
set_option maxHeartbeats 20000000 in
theorem sX12_be_19 {l : Launch} {E : zE} {d : Nat} {F : zFs} {n sl : Nat} (hG : zG F)  (o0 : Nat) (o1 : Int) (v3 : Int) (s0 : Int) (s1 : Int) (s2 : Nat) (k_2 : Int → zDa → Option zDa) (hk_2 : ∀ (u3 : Int) (D : zDa), zO l E (d + 0) YX12_be 2 [(0, zR o0), (1, zL o1), (3, zI u3)] [] (F, D, n, sl) (zcV F n sl) (k_2 u3 D)) (D : zDa) : zO l E (d + 0) YX12_be 19 [(0, zR o0), (1, zL o1), (3, zI v3)] [zL s0, zI s1, zR s2] (F, D, n, sl) (zcV F n sl) (fX12_be_19 F k_2 o0 o1 v3 s0 s1 s2 D) := by
  unfold fX12_be_19
  refine zO_chk (fun h1 => ?_)
  refine zO_last dX12_be_19 h1.1 h1.2 ?_
  refine zO_letD (fun D_1 eD_1 => ?_)
  refine zO_chk (fun h2 => ?_)
  refine zO_iinc dX12_be_20 rfl h2 (by decide) ?_
  refine zO_ls (ls' := [(0, zR o0), (1, zL o1), (3, zI (v3 + 1))]) rfl ?_
  refine zO_goto (tgt := 2) dX12_be_23 rfl ?_
  refine zO_live [0, 1, 3] ?_
  exact hk_2 (v3 + 1) D_1
set_option maxHeartbeats 20000000 in
theorem sX12_be_2 {l : Launch} {E : zE} {d : Nat} {F : zFs} {n sl : Nat} (hG : zG F)  (o0 : Nat) (o1 : Int)   : ∀ (N : Nat) (v3 : Int) (D : zDa), zO l E (d + 0) YX12_be 2 [(0, zR o0), (1, zL o1), (3, zI v3)] [] (F, D, n, sl) (zcV F n sl) (zfix (fun _ _ => none) (fX12_be_2 F o0 o1) N v3 D) := by
  intro N
  induction N with
  | zero => intro v3 D; exact zO_none
  | succ N hk_2 =>
    intro v3 D
    show zO _ _ _ _ _ _ _ _ _ ((fX12_be_2 F o0 o1) (zfix (fun _ _ => none) (fX12_be_2 F o0 o1) N) v3 D)
    unfold fX12_be_2
    refine zO_iload_n dX12_be_2 rfl ?_
    refine zO_bipush dX12_be_3 (by decide) ?_
    refine zO_icmp_ge (tgt := 26) dX12_be_5 rfl (fun c5 => ?_) (fun c5 => ?_)
    · refine zO_aload_n dX12_be_8 rfl (zR_P _) ?_
      refine zO_iload_n dX12_be_9 rfl ?_
      refine zO_iload_n dX12_be_10 rfl ?_
      refine zO_if_ne (tgt := 18) dX12_be_11 rfl (fun c11 => ?_) (fun c11 => ?_)
      · refine zO_lload_n dX12_be_14 rfl ?_
        refine zO_goto (tgt := 19) dX12_be_15 rfl ?_
        refine zO_live [0, 1, 3] ?_
        exact sX12_be_19 hG o0 o1 v3 o1 v3 o0 _ hk_2 D
      · refine zO_lconst dX12_be_18 ?_
        refine zO_live [0, 1, 3] ?_
        exact sX12_be_19 hG o0 o1 v3 0 v3 o0 _ hk_2 D
    · exact zO_ret (rv := none) dX12_be_26 rfl trivial rfl
set_option maxHeartbeats 20000000 in
theorem mX12_be {l : Launch} {E : zE} {d : Nat} {F : zFs} {n sl : Nat} (hG : zG F) (a0 : Nat) (v1 : Int) {D : zDa} : ∀ r, fX12_be F  a0 v1 D = some r → zMet l E (d + 0) YX12_be [zR a0, zL v1] (F, D, n, sl) (zcV F n sl r) := by
  intro r hr
  refine zMet_of (plainFor_of_name (by decide)) (fun _ h => (nomatch h)) (Nat.le_of_ble_eq_true rfl) ?_
  have hz : zO l E (d + 0) YX12_be 0 [(0, zR a0), (1, zL v1)] [] (F, D, n, sl) (zcV F n sl) (fX12_be F  a0 v1 D) := by
    unfold fX12_be
    refine zO_iconst dX12_be_0 (by decide) ?_
    refine zO_istore_n dX12_be_1 (by decide) ?_
    refine zO_ls (ls' := [(0, zR a0), (1, zL v1), (3, zI 0)]) rfl ?_
    refine zO_live [0, 1, 3] ?_
    exact sX12_be_2 hG a0 v1 zfu 0 D
  exact hz r hr
theorem dX12_makes_0 : decode cX12_makes 0 = .ok (.iconst 0, 1) := by decide +kernel
theorem dX12_makes_1 : decode cX12_makes 1 = .ok (.istore_n 3, 1) := by decide +kernel
theorem dX12_makes_2 : decode cX12_makes 2 = .ok (.iload_n 3, 1) := by decide +kernel
theorem dX12_makes_3 : decode cX12_makes 3 = .ok (.iload_n 2, 1) := by decide +kernel
theorem dX12_makes_4 : decode cX12_makes 4 = .ok (.if_icmp .ge 58, 3) := by decide +kernel
theorem dX12_makes_7 : decode cX12_makes 7 = .ok (.lconst 0, 1) := by decide +kernel
theorem dX12_makes_8 : decode cX12_makes 8 = .ok (.lstore 4, 2) := by decide +kernel
theorem dX12_makes_10 : decode cX12_makes 10 = .ok (.iconst 0, 1) := by decide +kernel
theorem dX12_makes_11 : decode cX12_makes 11 = .ok (.istore 6, 2) := by decide +kernel
theorem dX12_makes_13 : decode cX12_makes 13 = .ok (.iload 6, 2) := by decide +kernel
theorem dX12_makes_15 : decode cX12_makes 15 = .ok (.bipush 12, 2) := by decide +kernel
theorem dX12_makes_17 : decode cX12_makes 17 = .ok (.if_icmp .ge 39, 3) := by decide +kernel
theorem dX12_makes_20 : decode cX12_makes 20 = .ok (.aload_n 0, 1) := by decide +kernel
theorem dX12_makes_21 : decode cX12_makes 21 = .ok (.iload 6, 2) := by decide +kernel
theorem dX12_makes_23 : decode cX12_makes 23 = .ok (.laload, 1) := by decide +kernel
theorem dX12_makes_24 : decode cX12_makes 24 = .ok (.iload_n 1, 1) := by decide +kernel
theorem dX12_makes_25 : decode cX12_makes 25 = .ok (.i2l, 1) := by decide +kernel
theorem dX12_makes_26 : decode cX12_makes 26 = .ok (.lmul, 1) := by decide +kernel
theorem dX12_makes_27 : decode cX12_makes 27 = .ok (.lload 4, 2) := by decide +kernel
theorem dX12_makes_29 : decode cX12_makes 29 = .ok (.ladd, 1) := by decide +kernel
theorem dX12_makes_30 : decode cX12_makes 30 = .ok (.lstore 7, 2) := by decide +kernel
theorem dX12_makes_32 : decode cX12_makes 32 = .ok (.aload_n 0, 1) := by decide +kernel
theorem dX12_makes_33 : decode cX12_makes 33 = .ok (.iload 6, 2) := by decide +kernel
theorem dX12_makes_35 : decode cX12_makes 35 = .ok (.lload 7, 2) := by decide +kernel
theorem dX12_makes_37 : decode cX12_makes 37 = .ok (.ldc2_w 468, 3) := by decide +kernel
theorem dX12_makes_40 : decode cX12_makes 40 = .ok (.lrem, 1) := by decide +kernel
theorem dX12_makes_41 : decode cX12_makes 41 = .ok (.lastore, 1) := by decide +kernel
theorem dX12_makes_42 : decode cX12_makes 42 = .ok (.lload 7, 2) := by decide +kernel
theorem dX12_makes_44 : decode cX12_makes 44 = .ok (.ldc2_w 468, 3) := by decide +kernel
theorem dX12_makes_47 : decode cX12_makes 47 = .ok (.ldiv, 1) := by decide +kernel
theorem dX12_makes_48 : decode cX12_makes 48 = .ok (.lstore 4, 2) := by decide +kernel
theorem dX12_makes_50 : decode cX12_makes 50 = .ok (.iinc 6 1, 3) := by decide +kernel
theorem dX12_makes_53 : decode cX12_makes 53 = .ok (.goto (-40), 3) := by decide +kernel
theorem dX12_makes_56 : decode cX12_makes 56 = .ok (.iinc 3 1, 3) := by decide +kernel
theorem dX12_makes_59 : decode cX12_makes 59 = .ok (.goto (-57), 3) := by decide +kernel
theorem dX12_makes_62 : decode cX12_makes 62 = .ok (.return_, 1) := by decide +kernel
abbrev YX12_makes : zY := (yX12_makes, cX12_makes, 9, none, [])
def fX12_makes_13 (F : zFs) (o0 : Nat) (o1 : Int) (o2 : Int) (o3 : Int) (k_2 : Int → zDa → Option zDa) (k_13 : Int → Int → zDa → Option zDa) (v4 : Int) (v6 : Int) (D : zDa) : Option zDa :=
  if v6 < 12 then
    if ((F o0).1 = 21) ∧ ((0 : Int) ≤ v6 ∧ (v6 : Int) < ((F o0).2.1 : Int)) ∧ (-9223372036854775808 ≤ (D o0 v6.toNat) * o1 ∧ (D o0 v6.toNat) * o1 ≤ 9223372036854775807) ∧ (-9223372036854775808 ≤ ((D o0 v6.toNat) * o1) + v4 ∧ ((D o0 v6.toNat) * o1) + v4 ≤ 9223372036854775807) then
      zlet ((((D o0 v6.toNat) * o1) + v4)) (fun x7_1 =>
        zlet (zwr D o0 v6.toNat (Int.tmod x7_1 100000000)) (fun D_2 =>
          zlet ((Int.tdiv x7_1 100000000)) (fun x4_3 =>
            if (-2147483648 ≤ v6 + 1 ∧ v6 + 1 ≤ 2147483647) then
              k_13 x4_3 (v6 + 1) D_2
            else none)))
    else none
  else
    if (-2147483648 ≤ o3 + 1 ∧ o3 + 1 ≤ 2147483647) then
      k_2 (o3 + 1) D
    else none
def fX12_makes_2 (F : zFs) (o0 : Nat) (o1 : Int) (o2 : Int)  (k_2 : Int → zDa → Option zDa) (v3 : Int) (D : zDa) : Option zDa :=
  if v3 < o2 then
    zfix (fun _ _ _ => none) (fX12_makes_13 F o0 o1 o2 v3 k_2) zfu 0 0 D
  else
    some D
def fX12_makes (F : zFs) (a0 : Nat) (v1 : Int) (v2 : Int) (D : zDa) : Option zDa :=
  zfix (fun _ _ => none) (fX12_makes_2 F a0 v1 v2) zfu 0 D
set_option maxHeartbeats 20000000 in
theorem sX12_makes_13 {l : Launch} {E : zE} {d : Nat} {F : zFs} {n sl : Nat} (hG : zG F)  (o0 : Nat) (o1 : Int) (o2 : Int) (o3 : Int) (k_2 : Int → zDa → Option zDa) (hk_2 : ∀ (u3 : Int) (D : zDa), zO l E (d + 0) YX12_makes 2 [(0, zR o0), (1, zI o1), (2, zI o2), (3, zI u3)] [] (F, D, n, sl) (zcV F n sl) (k_2 u3 D)) : ∀ (N : Nat) (v4 : Int) (v6 : Int) (D : zDa), zO l E (d + 0) YX12_makes 13 [(0, zR o0), (1, zI o1), (2, zI o2), (3, zI o3), (4, zL v4), (6, zI v6)] [] (F, D, n, sl) (zcV F n sl) (zfix (fun _ _ _ => none) (fX12_makes_13 F o0 o1 o2 o3 k_2) N v4 v6 D) := by
  intro N
  induction N with
  | zero => intro v4 v6 D; exact zO_none
  | succ N hk_13 =>
    intro v4 v6 D
    show zO _ _ _ _ _ _ _ _ _ ((fX12_makes_13 F o0 o1 o2 o3 k_2) (zfix (fun _ _ _ => none) (fX12_makes_13 F o0 o1 o2 o3 k_2) N) v4 v6 D)
    unfold fX12_makes_13
    refine zO_iload dX12_makes_13 rfl ?_
    refine zO_bipush dX12_makes_15 (by decide) ?_
    refine zO_icmp_ge (tgt := 56) dX12_makes_17 rfl (fun c17 => ?_) (fun c17 => ?_)
    · refine zO_chk (fun h1 => ?_)
      refine zO_aload_n dX12_makes_20 rfl (zR_P _) ?_
      refine zO_iload dX12_makes_21 rfl ?_
      refine zO_lald dX12_makes_23 h1.1 h1.2.1 ?_
      refine zO_iload_n dX12_makes_24 rfl ?_
      refine zO_i2l dX12_makes_25 ?_
      refine zO_lmul dX12_makes_26 h1.2.2.1 ?_
      refine zO_lload dX12_makes_27 rfl ?_
      refine zO_ladd dX12_makes_29 h1.2.2.2 ?_
      refine zO_letJ (fun x7_1 ex7_1 => ?_)
      refine zO_lstore dX12_makes_30 (by decide) ?_
      refine zO_ls (ls' := [(0, zR o0), (1, zI o1), (2, zI o2), (3, zI o3), (4, zL v4), (6, zI v6), (7, zL x7_1)]) rfl ?_
      refine zO_aload_n dX12_makes_32 rfl (zR_P _) ?_
      refine zO_iload dX12_makes_33 rfl ?_
      refine zO_lload dX12_makes_35 rfl ?_
      refine zO_ldc2 (n := 100000000) dX12_makes_37 wK_X12_468 (by decide) ?_
      refine zO_lrem dX12_makes_40 (by decide) ?_
      refine zO_last dX12_makes_41 h1.1 h1.2.1 ?_
      refine zO_letD (fun D_2 eD_2 => ?_)
      refine zO_lload dX12_makes_42 rfl ?_
      refine zO_ldc2 (n := 100000000) dX12_makes_44 wK_X12_468 (by decide) ?_
      refine zO_ldiv dX12_makes_47 (by decide) (fun q => absurd q.2 (by decide)) ?_
      refine zO_letJ (fun x4_3 ex4_3 => ?_)
      refine zO_lstore dX12_makes_48 (by decide) ?_
      refine zO_ls (ls' := [(0, zR o0), (1, zI o1), (2, zI o2), (3, zI o3), (4, zL x4_3), (6, zI v6), (7, zL x7_1)]) rfl ?_
      refine zO_chk (fun h2 => ?_)
      refine zO_iinc dX12_makes_50 rfl h2 (by decide) ?_
      refine zO_ls (ls' := [(0, zR o0), (1, zI o1), (2, zI o2), (3, zI o3), (4, zL x4_3), (6, zI (v6 + 1)), (7, zL x7_1)]) rfl ?_
      refine zO_goto (tgt := 13) dX12_makes_53 rfl ?_
      refine zO_live [0, 1, 2, 3, 4, 6] ?_
      exact hk_13 x4_3 (v6 + 1) D_2
    · refine zO_chk (fun h3 => ?_)
      refine zO_iinc dX12_makes_56 rfl h3 (by decide) ?_
      refine zO_ls (ls' := [(0, zR o0), (1, zI o1), (2, zI o2), (3, zI (o3 + 1)), (4, zL v4), (6, zI v6)]) rfl ?_
      refine zO_goto (tgt := 2) dX12_makes_59 rfl ?_
      refine zO_live [0, 1, 2, 3] ?_
      exact hk_2 (o3 + 1) D
set_option maxHeartbeats 20000000 in
theorem sX12_makes_2 {l : Launch} {E : zE} {d : Nat} {F : zFs} {n sl : Nat} (hG : zG F)  (o0 : Nat) (o1 : Int) (o2 : Int)   : ∀ (N : Nat) (v3 : Int) (D : zDa), zO l E (d + 0) YX12_makes 2 [(0, zR o0), (1, zI o1), (2, zI o2), (3, zI v3)] [] (F, D, n, sl) (zcV F n sl) (zfix (fun _ _ => none) (fX12_makes_2 F o0 o1 o2) N v3 D) := by
  intro N
  induction N with
  | zero => intro v3 D; exact zO_none
  | succ N hk_2 =>
    intro v3 D
    show zO _ _ _ _ _ _ _ _ _ ((fX12_makes_2 F o0 o1 o2) (zfix (fun _ _ => none) (fX12_makes_2 F o0 o1 o2) N) v3 D)
    unfold fX12_makes_2
    refine zO_iload_n dX12_makes_2 rfl ?_
    refine zO_iload_n dX12_makes_3 rfl ?_
    refine zO_icmp_ge (tgt := 62) dX12_makes_4 rfl (fun c4 => ?_) (fun c4 => ?_)
    · refine zO_lconst dX12_makes_7 ?_
      refine zO_lstore dX12_makes_8 (by decide) ?_
      refine zO_ls (ls' := [(0, zR o0), (1, zI o1), (2, zI o2), (3, zI v3), (4, zL 0)]) rfl ?_
      refine zO_iconst dX12_makes_10 (by decide) ?_
      refine zO_istore dX12_makes_11 (by decide) ?_
      refine zO_ls (ls' := [(0, zR o0), (1, zI o1), (2, zI o2), (3, zI v3), (4, zL 0), (6, zI 0)]) rfl ?_
      refine zO_live [0, 1, 2, 3, 4, 6] ?_
      exact sX12_makes_13 hG o0 o1 o2 v3 _ hk_2 zfu 0 0 D
    · exact zO_ret (rv := none) dX12_makes_62 rfl trivial rfl
set_option maxHeartbeats 20000000 in
theorem mX12_makes {l : Launch} {E : zE} {d : Nat} {F : zFs} {n sl : Nat} (hG : zG F) (a0 : Nat) (v1 : Int) (v2 : Int) {D : zDa} : ∀ r, fX12_makes F  a0 v1 v2 D = some r → zMet l E (d + 0) YX12_makes [zR a0, zI v1, zI v2] (F, D, n, sl) (zcV F n sl r) := by
  intro r hr
  refine zMet_of (plainFor_of_name (by decide)) (fun _ h => (nomatch h)) (Nat.le_of_ble_eq_true rfl) ?_
  have hz : zO l E (d + 0) YX12_makes 0 [(0, zR a0), (1, zI v1), (2, zI v2)] [] (F, D, n, sl) (zcV F n sl) (fX12_makes F  a0 v1 v2 D) := by
    unfold fX12_makes
    refine zO_iconst dX12_makes_0 (by decide) ?_
    refine zO_istore_n dX12_makes_1 (by decide) ?_
    refine zO_ls (ls' := [(0, zR a0), (1, zI v1), (2, zI v2), (3, zI 0)]) rfl ?_
    refine zO_live [0, 1, 2, 3] ?_
    exact sX12_makes_2 hG a0 v1 v2 zfu 0 D
  exact hz r hr
theorem dX12_adds_0 : decode cX12_adds 0 = .ok (.lconst 0, 1) := by decide +kernel
theorem dX12_adds_1 : decode cX12_adds 1 = .ok (.lstore_n 2, 1) := by decide +kernel
theorem dX12_adds_2 : decode cX12_adds 2 = .ok (.iconst 0, 1) := by decide +kernel
theorem dX12_adds_3 : decode cX12_adds 3 = .ok (.istore 4, 2) := by decide +kernel
theorem dX12_adds_5 : decode cX12_adds 5 = .ok (.iload 4, 2) := by decide +kernel
theorem dX12_adds_7 : decode cX12_adds 7 = .ok (.bipush 12, 2) := by decide +kernel
theorem dX12_adds_9 : decode cX12_adds 9 = .ok (.if_icmp .ge 39, 3) := by decide +kernel
theorem dX12_adds_12 : decode cX12_adds 12 = .ok (.aload_n 0, 1) := by decide +kernel
theorem dX12_adds_13 : decode cX12_adds 13 = .ok (.iload 4, 2) := by decide +kernel
theorem dX12_adds_15 : decode cX12_adds 15 = .ok (.laload, 1) := by decide +kernel
theorem dX12_adds_16 : decode cX12_adds 16 = .ok (.aload_n 1, 1) := by decide +kernel
theorem dX12_adds_17 : decode cX12_adds 17 = .ok (.iload 4, 2) := by decide +kernel
theorem dX12_adds_19 : decode cX12_adds 19 = .ok (.laload, 1) := by decide +kernel
theorem dX12_adds_20 : decode cX12_adds 20 = .ok (.ladd, 1) := by decide +kernel
theorem dX12_adds_21 : decode cX12_adds 21 = .ok (.lload_n 2, 1) := by decide +kernel
theorem dX12_adds_22 : decode cX12_adds 22 = .ok (.ladd, 1) := by decide +kernel
theorem dX12_adds_23 : decode cX12_adds 23 = .ok (.lstore 5, 2) := by decide +kernel
theorem dX12_adds_25 : decode cX12_adds 25 = .ok (.aload_n 0, 1) := by decide +kernel
theorem dX12_adds_26 : decode cX12_adds 26 = .ok (.iload 4, 2) := by decide +kernel
theorem dX12_adds_28 : decode cX12_adds 28 = .ok (.lload 5, 2) := by decide +kernel
theorem dX12_adds_30 : decode cX12_adds 30 = .ok (.ldc2_w 468, 3) := by decide +kernel
theorem dX12_adds_33 : decode cX12_adds 33 = .ok (.lrem, 1) := by decide +kernel
theorem dX12_adds_34 : decode cX12_adds 34 = .ok (.lastore, 1) := by decide +kernel
theorem dX12_adds_35 : decode cX12_adds 35 = .ok (.lload 5, 2) := by decide +kernel
theorem dX12_adds_37 : decode cX12_adds 37 = .ok (.ldc2_w 468, 3) := by decide +kernel
theorem dX12_adds_40 : decode cX12_adds 40 = .ok (.ldiv, 1) := by decide +kernel
theorem dX12_adds_41 : decode cX12_adds 41 = .ok (.lstore_n 2, 1) := by decide +kernel
theorem dX12_adds_42 : decode cX12_adds 42 = .ok (.iinc 4 1, 3) := by decide +kernel
theorem dX12_adds_45 : decode cX12_adds 45 = .ok (.goto (-40), 3) := by decide +kernel
theorem dX12_adds_48 : decode cX12_adds 48 = .ok (.return_, 1) := by decide +kernel
abbrev YX12_adds : zY := (yX12_adds, cX12_adds, 7, none, [])
def fX12_adds_5 (F : zFs) (o0 : Nat) (o1 : Nat)  (k_5 : Int → Int → zDa → Option zDa) (v2 : Int) (v4 : Int) (D : zDa) : Option zDa :=
  if v4 < 12 then
    if ((F o0).1 = 21) ∧ ((0 : Int) ≤ v4 ∧ (v4 : Int) < ((F o0).2.1 : Int)) ∧ ((F o1).1 = 21) ∧ ((0 : Int) ≤ v4 ∧ (v4 : Int) < ((F o1).2.1 : Int)) ∧ (-9223372036854775808 ≤ (D o0 v4.toNat) + (D o1 v4.toNat) ∧ (D o0 v4.toNat) + (D o1 v4.toNat) ≤ 9223372036854775807) ∧ (-9223372036854775808 ≤ ((D o0 v4.toNat) + (D o1 v4.toNat)) + v2 ∧ ((D o0 v4.toNat) + (D o1 v4.toNat)) + v2 ≤ 9223372036854775807) then
      zlet ((((D o0 v4.toNat) + (D o1 v4.toNat)) + v2)) (fun x5_1 =>
        zlet (zwr D o0 v4.toNat (Int.tmod x5_1 100000000)) (fun D_2 =>
          zlet ((Int.tdiv x5_1 100000000)) (fun x2_3 =>
            if (-2147483648 ≤ v4 + 1 ∧ v4 + 1 ≤ 2147483647) then
              k_5 x2_3 (v4 + 1) D_2
            else none)))
    else none
  else
    some D
def fX12_adds (F : zFs) (a0 : Nat) (a1 : Nat) (D : zDa) : Option zDa :=
  zfix (fun _ _ _ => none) (fX12_adds_5 F a0 a1) zfu 0 0 D
set_option maxHeartbeats 20000000 in
theorem sX12_adds_5 {l : Launch} {E : zE} {d : Nat} {F : zFs} {n sl : Nat} (hG : zG F)  (o0 : Nat) (o1 : Nat)   : ∀ (N : Nat) (v2 : Int) (v4 : Int) (D : zDa), zO l E (d + 0) YX12_adds 5 [(0, zR o0), (1, zR o1), (2, zL v2), (4, zI v4)] [] (F, D, n, sl) (zcV F n sl) (zfix (fun _ _ _ => none) (fX12_adds_5 F o0 o1) N v2 v4 D) := by
  intro N
  induction N with
  | zero => intro v2 v4 D; exact zO_none
  | succ N hk_5 =>
    intro v2 v4 D
    show zO _ _ _ _ _ _ _ _ _ ((fX12_adds_5 F o0 o1) (zfix (fun _ _ _ => none) (fX12_adds_5 F o0 o1) N) v2 v4 D)
    unfold fX12_adds_5
    refine zO_iload dX12_adds_5 rfl ?_
    refine zO_bipush dX12_adds_7 (by decide) ?_
    refine zO_icmp_ge (tgt := 48) dX12_adds_9 rfl (fun c9 => ?_) (fun c9 => ?_)
    · refine zO_chk (fun h1 => ?_)
      refine zO_aload_n dX12_adds_12 rfl (zR_P _) ?_
      refine zO_iload dX12_adds_13 rfl ?_
      refine zO_lald dX12_adds_15 h1.1 h1.2.1 ?_
      refine zO_aload_n dX12_adds_16 rfl (zR_P _) ?_
      refine zO_iload dX12_adds_17 rfl ?_
      refine zO_lald dX12_adds_19 h1.2.2.1 h1.2.2.2.1 ?_
      refine zO_ladd dX12_adds_20 h1.2.2.2.2.1 ?_
      refine zO_lload_n dX12_adds_21 rfl ?_
      refine zO_ladd dX12_adds_22 h1.2.2.2.2.2 ?_
      refine zO_letJ (fun x5_1 ex5_1 => ?_)
      refine zO_lstore dX12_adds_23 (by decide) ?_
      refine zO_ls (ls' := [(0, zR o0), (1, zR o1), (2, zL v2), (4, zI v4), (5, zL x5_1)]) rfl ?_
      refine zO_aload_n dX12_adds_25 rfl (zR_P _) ?_
      refine zO_iload dX12_adds_26 rfl ?_
      refine zO_lload dX12_adds_28 rfl ?_
      refine zO_ldc2 (n := 100000000) dX12_adds_30 wK_X12_468 (by decide) ?_
      refine zO_lrem dX12_adds_33 (by decide) ?_
      refine zO_last dX12_adds_34 h1.1 h1.2.1 ?_
      refine zO_letD (fun D_2 eD_2 => ?_)
      refine zO_lload dX12_adds_35 rfl ?_
      refine zO_ldc2 (n := 100000000) dX12_adds_37 wK_X12_468 (by decide) ?_
      refine zO_ldiv dX12_adds_40 (by decide) (fun q => absurd q.2 (by decide)) ?_
      refine zO_letJ (fun x2_3 ex2_3 => ?_)
      refine zO_lstore_n dX12_adds_41 (by decide) ?_
      refine zO_ls (ls' := [(0, zR o0), (1, zR o1), (2, zL x2_3), (4, zI v4), (5, zL x5_1)]) rfl ?_
      refine zO_chk (fun h2 => ?_)
      refine zO_iinc dX12_adds_42 rfl h2 (by decide) ?_
      refine zO_ls (ls' := [(0, zR o0), (1, zR o1), (2, zL x2_3), (4, zI (v4 + 1)), (5, zL x5_1)]) rfl ?_
      refine zO_goto (tgt := 5) dX12_adds_45 rfl ?_
      refine zO_live [0, 1, 2, 4] ?_
      exact hk_5 x2_3 (v4 + 1) D_2
    · exact zO_ret (rv := none) dX12_adds_48 rfl trivial rfl
set_option maxHeartbeats 20000000 in
theorem mX12_adds {l : Launch} {E : zE} {d : Nat} {F : zFs} {n sl : Nat} (hG : zG F) (a0 : Nat) (a1 : Nat) {D : zDa} : ∀ r, fX12_adds F  a0 a1 D = some r → zMet l E (d + 0) YX12_adds [zR a0, zR a1] (F, D, n, sl) (zcV F n sl r) := by
  intro r hr
  refine zMet_of (plainFor_of_name (by decide)) (fun _ h => (nomatch h)) (Nat.le_of_ble_eq_true rfl) ?_
  have hz : zO l E (d + 0) YX12_adds 0 [(0, zR a0), (1, zR a1)] [] (F, D, n, sl) (zcV F n sl) (fX12_adds F  a0 a1 D) := by
    unfold fX12_adds
    refine zO_lconst dX12_adds_0 ?_
    refine zO_lstore_n dX12_adds_1 (by decide) ?_
    refine zO_ls (ls' := [(0, zR a0), (1, zR a1), (2, zL 0)]) rfl ?_
    refine zO_iconst dX12_adds_2 (by decide) ?_
    refine zO_istore dX12_adds_3 (by decide) ?_
    refine zO_ls (ls' := [(0, zR a0), (1, zR a1), (2, zL 0), (4, zI 0)]) rfl ?_
    refine zO_live [0, 1, 2, 4] ?_
    exact sX12_adds_5 hG a0 a1 zfu 0 0 D
  exact hz r hr
theorem dX12_shares1_0 : decode cX12_shares1 0 = .ok (.lconst 0, 1) := by decide +kernel
theorem dX12_shares1_1 : decode cX12_shares1 1 = .ok (.lstore_n 2, 1) := by decide +kernel
theorem dX12_shares1_2 : decode cX12_shares1 2 = .ok (.bipush 11, 2) := by decide +kernel
theorem dX12_shares1_4 : decode cX12_shares1 4 = .ok (.istore 4, 2) := by decide +kernel
theorem dX12_shares1_6 : decode cX12_shares1 6 = .ok (.iload 4, 2) := by decide +kernel
theorem dX12_shares1_8 : decode cX12_shares1 8 = .ok (.ifCond .lt 36, 3) := by decide +kernel
theorem dX12_shares1_11 : decode cX12_shares1 11 = .ok (.lload_n 2, 1) := by decide +kernel
theorem dX12_shares1_12 : decode cX12_shares1 12 = .ok (.ldc2_w 468, 3) := by decide +kernel
theorem dX12_shares1_15 : decode cX12_shares1 15 = .ok (.lmul, 1) := by decide +kernel
theorem dX12_shares1_16 : decode cX12_shares1 16 = .ok (.aload_n 0, 1) := by decide +kernel
theorem dX12_shares1_17 : decode cX12_shares1 17 = .ok (.iload 4, 2) := by decide +kernel
theorem dX12_shares1_19 : decode cX12_shares1 19 = .ok (.laload, 1) := by decide +kernel
theorem dX12_shares1_20 : decode cX12_shares1 20 = .ok (.ladd, 1) := by decide +kernel
theorem dX12_shares1_21 : decode cX12_shares1 21 = .ok (.lstore 5, 2) := by decide +kernel
theorem dX12_shares1_23 : decode cX12_shares1 23 = .ok (.aload_n 0, 1) := by decide +kernel
theorem dX12_shares1_24 : decode cX12_shares1 24 = .ok (.iload 4, 2) := by decide +kernel
theorem dX12_shares1_26 : decode cX12_shares1 26 = .ok (.lload 5, 2) := by decide +kernel
theorem dX12_shares1_28 : decode cX12_shares1 28 = .ok (.iload_n 1, 1) := by decide +kernel
theorem dX12_shares1_29 : decode cX12_shares1 29 = .ok (.i2l, 1) := by decide +kernel
theorem dX12_shares1_30 : decode cX12_shares1 30 = .ok (.ldiv, 1) := by decide +kernel
theorem dX12_shares1_31 : decode cX12_shares1 31 = .ok (.lastore, 1) := by decide +kernel
theorem dX12_shares1_32 : decode cX12_shares1 32 = .ok (.lload 5, 2) := by decide +kernel
theorem dX12_shares1_34 : decode cX12_shares1 34 = .ok (.iload_n 1, 1) := by decide +kernel
theorem dX12_shares1_35 : decode cX12_shares1 35 = .ok (.i2l, 1) := by decide +kernel
theorem dX12_shares1_36 : decode cX12_shares1 36 = .ok (.lrem, 1) := by decide +kernel
theorem dX12_shares1_37 : decode cX12_shares1 37 = .ok (.lstore_n 2, 1) := by decide +kernel
theorem dX12_shares1_38 : decode cX12_shares1 38 = .ok (.iinc 4 (-1), 3) := by decide +kernel
theorem dX12_shares1_41 : decode cX12_shares1 41 = .ok (.goto (-35), 3) := by decide +kernel
theorem dX12_shares1_44 : decode cX12_shares1 44 = .ok (.return_, 1) := by decide +kernel
abbrev YX12_shares1 : zY := (yX12_shares1, cX12_shares1, 7, none, [])
def fX12_shares1_6 (F : zFs) (o0 : Nat) (o1 : Int)  (k_6 : Int → Int → zDa → Option zDa) (v2 : Int) (v4 : Int) (D : zDa) : Option zDa :=
  if v4 < 0 then
    some D
  else
    if (-9223372036854775808 ≤ v2 * 100000000 ∧ v2 * 100000000 ≤ 9223372036854775807) ∧ ((F o0).1 = 21) ∧ ((0 : Int) ≤ v4 ∧ (v4 : Int) < ((F o0).2.1 : Int)) ∧ (-9223372036854775808 ≤ (v2 * 100000000) + (D o0 v4.toNat) ∧ (v2 * 100000000) + (D o0 v4.toNat) ≤ 9223372036854775807) then
      zlet (((v2 * 100000000) + (D o0 v4.toNat))) (fun x5_1 =>
        if (o1 ≠ 0) ∧ (¬ (x5_1 = -9223372036854775808 ∧ o1 = -1)) then
          zlet (zwr D o0 v4.toNat (Int.tdiv x5_1 o1)) (fun D_2 =>
            zlet ((Int.tmod x5_1 o1)) (fun x2_3 =>
              if (-2147483648 ≤ v4 + (-1) ∧ v4 + (-1) ≤ 2147483647) then
                k_6 x2_3 (v4 + (-1)) D_2
              else none))
        else none)
    else none
def fX12_shares1 (F : zFs) (a0 : Nat) (v1 : Int) (D : zDa) : Option zDa :=
  zfix (fun _ _ _ => none) (fX12_shares1_6 F a0 v1) zfu 0 11 D
set_option maxHeartbeats 20000000 in
theorem sX12_shares1_6 {l : Launch} {E : zE} {d : Nat} {F : zFs} {n sl : Nat} (hG : zG F)  (o0 : Nat) (o1 : Int)   : ∀ (N : Nat) (v2 : Int) (v4 : Int) (D : zDa), zO l E (d + 0) YX12_shares1 6 [(0, zR o0), (1, zI o1), (2, zL v2), (4, zI v4)] [] (F, D, n, sl) (zcV F n sl) (zfix (fun _ _ _ => none) (fX12_shares1_6 F o0 o1) N v2 v4 D) := by
  intro N
  induction N with
  | zero => intro v2 v4 D; exact zO_none
  | succ N hk_6 =>
    intro v2 v4 D
    show zO _ _ _ _ _ _ _ _ _ ((fX12_shares1_6 F o0 o1) (zfix (fun _ _ _ => none) (fX12_shares1_6 F o0 o1) N) v2 v4 D)
    unfold fX12_shares1_6
    refine zO_iload dX12_shares1_6 rfl ?_
    refine zO_if_lt (tgt := 44) dX12_shares1_8 rfl (fun c8 => ?_) (fun c8 => ?_)
    · exact zO_ret (rv := none) dX12_shares1_44 rfl trivial rfl
    · refine zO_chk (fun h1 => ?_)
      refine zO_lload_n dX12_shares1_11 rfl ?_
      refine zO_ldc2 (n := 100000000) dX12_shares1_12 wK_X12_468 (by decide) ?_
      refine zO_lmul dX12_shares1_15 h1.1 ?_
      refine zO_aload_n dX12_shares1_16 rfl (zR_P _) ?_
      refine zO_iload dX12_shares1_17 rfl ?_
      refine zO_lald dX12_shares1_19 h1.2.1 h1.2.2.1 ?_
      refine zO_ladd dX12_shares1_20 h1.2.2.2 ?_
      refine zO_letJ (fun x5_1 ex5_1 => ?_)
      refine zO_lstore dX12_shares1_21 (by decide) ?_
      refine zO_ls (ls' := [(0, zR o0), (1, zI o1), (2, zL v2), (4, zI v4), (5, zL x5_1)]) rfl ?_
      refine zO_chk (fun h2 => ?_)
      refine zO_aload_n dX12_shares1_23 rfl (zR_P _) ?_
      refine zO_iload dX12_shares1_24 rfl ?_
      refine zO_lload dX12_shares1_26 rfl ?_
      refine zO_iload_n dX12_shares1_28 rfl ?_
      refine zO_i2l dX12_shares1_29 ?_
      refine zO_ldiv dX12_shares1_30 h2.1 h2.2 ?_
      refine zO_last dX12_shares1_31 h1.2.1 h1.2.2.1 ?_
      refine zO_letD (fun D_2 eD_2 => ?_)
      refine zO_lload dX12_shares1_32 rfl ?_
      refine zO_iload_n dX12_shares1_34 rfl ?_
      refine zO_i2l dX12_shares1_35 ?_
      refine zO_lrem dX12_shares1_36 h2.1 ?_
      refine zO_letJ (fun x2_3 ex2_3 => ?_)
      refine zO_lstore_n dX12_shares1_37 (by decide) ?_
      refine zO_ls (ls' := [(0, zR o0), (1, zI o1), (2, zL x2_3), (4, zI v4), (5, zL x5_1)]) rfl ?_
      refine zO_chk (fun h3 => ?_)
      refine zO_iinc dX12_shares1_38 rfl h3 (by decide) ?_
      refine zO_ls (ls' := [(0, zR o0), (1, zI o1), (2, zL x2_3), (4, zI (v4 + (-1))), (5, zL x5_1)]) rfl ?_
      refine zO_goto (tgt := 6) dX12_shares1_41 rfl ?_
      refine zO_live [0, 1, 2, 4] ?_
      exact hk_6 x2_3 (v4 + (-1)) D_2
set_option maxHeartbeats 20000000 in
theorem mX12_shares1 {l : Launch} {E : zE} {d : Nat} {F : zFs} {n sl : Nat} (hG : zG F) (a0 : Nat) (v1 : Int) {D : zDa} : ∀ r, fX12_shares1 F  a0 v1 D = some r → zMet l E (d + 0) YX12_shares1 [zR a0, zI v1] (F, D, n, sl) (zcV F n sl r) := by
  intro r hr
  refine zMet_of (plainFor_of_name (by decide)) (fun _ h => (nomatch h)) (Nat.le_of_ble_eq_true rfl) ?_
  have hz : zO l E (d + 0) YX12_shares1 0 [(0, zR a0), (1, zI v1)] [] (F, D, n, sl) (zcV F n sl) (fX12_shares1 F  a0 v1 D) := by
    unfold fX12_shares1
    refine zO_lconst dX12_shares1_0 ?_
    refine zO_lstore_n dX12_shares1_1 (by decide) ?_
    refine zO_ls (ls' := [(0, zR a0), (1, zI v1), (2, zL 0)]) rfl ?_
    refine zO_bipush dX12_shares1_2 (by decide) ?_
    refine zO_istore dX12_shares1_4 (by decide) ?_
    refine zO_ls (ls' := [(0, zR a0), (1, zI v1), (2, zL 0), (4, zI 11)]) rfl ?_
    refine zO_live [0, 1, 2, 4] ?_
    exact sX12_shares1_6 hG a0 v1 zfu 0 11 D
  exact hz r hr
theorem dX12_order_0 : decode cX12_order 0 = .ok (.bipush 11, 2) := by decide +kernel
theorem dX12_order_2 : decode cX12_order 2 = .ok (.istore_n 2, 1) := by decide +kernel
theorem dX12_order_3 : decode cX12_order 3 = .ok (.iload_n 2, 1) := by decide +kernel
theorem dX12_order_4 : decode cX12_order 4 = .ok (.ifCond .lt 35, 3) := by decide +kernel
theorem dX12_order_7 : decode cX12_order 7 = .ok (.aload_n 0, 1) := by decide +kernel
theorem dX12_order_8 : decode cX12_order 8 = .ok (.iload_n 2, 1) := by decide +kernel
theorem dX12_order_9 : decode cX12_order 9 = .ok (.laload, 1) := by decide +kernel
theorem dX12_order_10 : decode cX12_order 10 = .ok (.aload_n 1, 1) := by decide +kernel
theorem dX12_order_11 : decode cX12_order 11 = .ok (.iload_n 2, 1) := by decide +kernel
theorem dX12_order_12 : decode cX12_order 12 = .ok (.laload, 1) := by decide +kernel
theorem dX12_order_13 : decode cX12_order 13 = .ok (.lcmp, 1) := by decide +kernel
theorem dX12_order_14 : decode cX12_order 14 = .ok (.ifCond .eq 19, 3) := by decide +kernel
theorem dX12_order_17 : decode cX12_order 17 = .ok (.aload_n 0, 1) := by decide +kernel
theorem dX12_order_18 : decode cX12_order 18 = .ok (.iload_n 2, 1) := by decide +kernel
theorem dX12_order_19 : decode cX12_order 19 = .ok (.laload, 1) := by decide +kernel
theorem dX12_order_20 : decode cX12_order 20 = .ok (.aload_n 1, 1) := by decide +kernel
theorem dX12_order_21 : decode cX12_order 21 = .ok (.iload_n 2, 1) := by decide +kernel
theorem dX12_order_22 : decode cX12_order 22 = .ok (.laload, 1) := by decide +kernel
theorem dX12_order_23 : decode cX12_order 23 = .ok (.lcmp, 1) := by decide +kernel
theorem dX12_order_24 : decode cX12_order 24 = .ok (.ifCond .ge 7, 3) := by decide +kernel
theorem dX12_order_27 : decode cX12_order 27 = .ok (.iconst (-1), 1) := by decide +kernel
theorem dX12_order_28 : decode cX12_order 28 = .ok (.goto 4, 3) := by decide +kernel
theorem dX12_order_31 : decode cX12_order 31 = .ok (.iconst 1, 1) := by decide +kernel
theorem dX12_order_32 : decode cX12_order 32 = .ok (.ireturn, 1) := by decide +kernel
theorem dX12_order_33 : decode cX12_order 33 = .ok (.iinc 2 (-1), 3) := by decide +kernel
theorem dX12_order_36 : decode cX12_order 36 = .ok (.goto (-33), 3) := by decide +kernel
theorem dX12_order_39 : decode cX12_order 39 = .ok (.iconst 0, 1) := by decide +kernel
theorem dX12_order_40 : decode cX12_order 40 = .ok (.ireturn, 1) := by decide +kernel
abbrev YX12_order : zY := (yX12_order, cX12_order, 3, (Option.some Jvm.ClassFile.FieldType.int), [])
def fX12_order_3 (F : zFs) (o0 : Nat) (o1 : Nat)  (k_3 : Int → zDa → Option (Int × zDa)) (v2 : Int) (D : zDa) : Option (Int × zDa) :=
  if v2 < 0 then
    some (0, D)
  else
    if ((F o0).1 = 21) ∧ ((0 : Int) ≤ v2 ∧ (v2 : Int) < ((F o0).2.1 : Int)) ∧ ((F o1).1 = 21) ∧ ((0 : Int) ≤ v2 ∧ (v2 : Int) < ((F o1).2.1 : Int)) then
      if (D o0 v2.toNat) = (D o1 v2.toNat) then
        if (-2147483648 ≤ v2 + (-1) ∧ v2 + (-1) ≤ 2147483647) then
          k_3 (v2 + (-1)) D
        else none
      else
        if (D o0 v2.toNat) < (D o1 v2.toNat) then
          some ((-1), D)
        else
          some (1, D)
    else none
def fX12_order (F : zFs) (a0 : Nat) (a1 : Nat) (D : zDa) : Option (Int × zDa) :=
  zfix (fun _ _ => none) (fX12_order_3 F a0 a1) zfu 11 D
set_option maxHeartbeats 20000000 in
theorem sX12_order_3 {l : Launch} {E : zE} {d : Nat} {F : zFs} {n sl : Nat} (hG : zG F)  (o0 : Nat) (o1 : Nat)   : ∀ (N : Nat) (v2 : Int) (D : zDa), zO l E (d + 0) YX12_order 3 [(0, zR o0), (1, zR o1), (2, zI v2)] [] (F, D, n, sl) (zcI F n sl) (zfix (fun _ _ => none) (fX12_order_3 F o0 o1) N v2 D) := by
  intro N
  induction N with
  | zero => intro v2 D; exact zO_none
  | succ N hk_3 =>
    intro v2 D
    show zO _ _ _ _ _ _ _ _ _ ((fX12_order_3 F o0 o1) (zfix (fun _ _ => none) (fX12_order_3 F o0 o1) N) v2 D)
    unfold fX12_order_3
    refine zO_iload_n dX12_order_3 rfl ?_
    refine zO_if_lt (tgt := 39) dX12_order_4 rfl (fun c4 => ?_) (fun c4 => ?_)
    · refine zO_iconst dX12_order_39 (by decide) ?_
      exact zO_ret (rv := some (zI 0)) dX12_order_40 rfl rfl rfl
    · refine zO_chk (fun h1 => ?_)
      refine zO_aload_n dX12_order_7 rfl (zR_P _) ?_
      refine zO_iload_n dX12_order_8 rfl ?_
      refine zO_lald dX12_order_9 h1.1 h1.2.1 ?_
      refine zO_aload_n dX12_order_10 rfl (zR_P _) ?_
      refine zO_iload_n dX12_order_11 rfl ?_
      refine zO_lald dX12_order_12 h1.2.2.1 h1.2.2.2 ?_
      refine zO_lif_eq (tgt := 33) dX12_order_13 dX12_order_14 rfl (fun c13 => ?_) (fun c13 => ?_)
      · refine zO_chk (fun h2 => ?_)
        refine zO_iinc dX12_order_33 rfl h2 (by decide) ?_
        refine zO_ls (ls' := [(0, zR o0), (1, zR o1), (2, zI (v2 + (-1)))]) rfl ?_
        refine zO_goto (tgt := 3) dX12_order_36 rfl ?_
        refine zO_live [0, 1, 2] ?_
        exact hk_3 (v2 + (-1)) D
      · refine zO_aload_n dX12_order_17 rfl (zR_P _) ?_
        refine zO_iload_n dX12_order_18 rfl ?_
        refine zO_lald dX12_order_19 h1.1 h1.2.1 ?_
        refine zO_aload_n dX12_order_20 rfl (zR_P _) ?_
        refine zO_iload_n dX12_order_21 rfl ?_
        refine zO_lald dX12_order_22 h1.2.2.1 h1.2.2.2 ?_
        refine zO_lif_ge (tgt := 31) dX12_order_23 dX12_order_24 rfl (fun c23 => ?_) (fun c23 => ?_)
        · refine zO_iconst dX12_order_27 (by decide) ?_
          refine zO_goto (tgt := 32) dX12_order_28 rfl ?_
          exact zO_ret (rv := some (zI (-1))) dX12_order_32 rfl rfl rfl
        · refine zO_iconst dX12_order_31 (by decide) ?_
          exact zO_ret (rv := some (zI 1)) dX12_order_32 rfl rfl rfl
set_option maxHeartbeats 20000000 in
theorem mX12_order {l : Launch} {E : zE} {d : Nat} {F : zFs} {n sl : Nat} (hG : zG F) (a0 : Nat) (a1 : Nat) {D : zDa} : ∀ r, fX12_order F  a0 a1 D = some r → zMet l E (d + 0) YX12_order [zR a0, zR a1] (F, D, n, sl) (zcI F n sl r) := by
  intro r hr
  refine zMet_of (plainFor_of_name (by decide)) (fun _ h => (nomatch h)) (Nat.le_of_ble_eq_true rfl) ?_
  have hz : zO l E (d + 0) YX12_order 0 [(0, zR a0), (1, zR a1)] [] (F, D, n, sl) (zcI F n sl) (fX12_order F  a0 a1 D) := by
    unfold fX12_order
    refine zO_bipush dX12_order_0 (by decide) ?_
    refine zO_istore_n dX12_order_2 (by decide) ?_
    refine zO_ls (ls' := [(0, zR a0), (1, zR a1), (2, zI 11)]) rfl ?_
    refine zO_live [0, 1, 2] ?_
    exact sX12_order_3 hG a0 a1 zfu 11 D
  exact hz r hr
theorem dX12_seldomOf_0 : decode cX12_seldomOf 0 = .ok (.aload_n 0, 1) := by decide +kernel
theorem dX12_seldomOf_1 : decode cX12_seldomOf 1 = .ok (.invokevirtual 146, 3) := by decide +kernel
theorem dX12_seldomOf_4 : decode cX12_seldomOf 4 = .ok (.istore_n 2, 1) := by decide +kernel
theorem dX12_seldomOf_5 : decode cX12_seldomOf 5 = .ok (.aload_n 0, 1) := by decide +kernel
theorem dX12_seldomOf_6 : decode cX12_seldomOf 6 = .ok (.getfield 20, 3) := by decide +kernel
theorem dX12_seldomOf_9 : decode cX12_seldomOf 9 = .ok (.sipush 392, 3) := by decide +kernel
theorem dX12_seldomOf_12 : decode cX12_seldomOf 12 = .ok (.iaload, 1) := by decide +kernel
theorem dX12_seldomOf_13 : decode cX12_seldomOf 13 = .ok (.istore_n 3, 1) := by decide +kernel
theorem dX12_seldomOf_14 : decode cX12_seldomOf 14 = .ok (.aload_n 0, 1) := by decide +kernel
theorem dX12_seldomOf_15 : decode cX12_seldomOf 15 = .ok (.iconst 0, 1) := by decide +kernel
theorem dX12_seldomOf_16 : decode cX12_seldomOf 16 = .ok (.invokevirtual 318, 3) := by decide +kernel
theorem dX12_seldomOf_19 : decode cX12_seldomOf 19 = .ok (.iload_n 2, 1) := by decide +kernel
theorem dX12_seldomOf_20 : decode cX12_seldomOf 20 = .ok (.if_icmp .lt 6, 3) := by decide +kernel
theorem dX12_seldomOf_23 : decode cX12_seldomOf 23 = .ok (.ldc 185, 2) := by decide +kernel
theorem dX12_seldomOf_25 : decode cX12_seldomOf 25 = .ok (.ireturn, 1) := by decide +kernel
theorem dX12_seldomOf_26 : decode cX12_seldomOf 26 = .ok (.aload_n 0, 1) := by decide +kernel
theorem dX12_seldomOf_27 : decode cX12_seldomOf 27 = .ok (.getfield 123, 3) := by decide +kernel
theorem dX12_seldomOf_30 : decode cX12_seldomOf 30 = .ok (.lconst 0, 1) := by decide +kernel
theorem dX12_seldomOf_31 : decode cX12_seldomOf 31 = .ok (.invokestatic 470, 3) := by decide +kernel
theorem dX12_seldomOf_34 : decode cX12_seldomOf 34 = .ok (.iconst 0, 1) := by decide +kernel
theorem dX12_seldomOf_35 : decode cX12_seldomOf 35 = .ok (.istore 4, 2) := by decide +kernel
theorem dX12_seldomOf_37 : decode cX12_seldomOf 37 = .ok (.iload 4, 2) := by decide +kernel
theorem dX12_seldomOf_39 : decode cX12_seldomOf 39 = .ok (.aload_n 0, 1) := by decide +kernel
theorem dX12_seldomOf_40 : decode cX12_seldomOf 40 = .ok (.iload_n 1, 1) := by decide +kernel
theorem dX12_seldomOf_41 : decode cX12_seldomOf 41 = .ok (.invokevirtual 465, 3) := by decide +kernel
theorem dX12_seldomOf_44 : decode cX12_seldomOf 44 = .ok (.if_icmp .gt 100, 3) := by decide +kernel
theorem dX12_seldomOf_47 : decode cX12_seldomOf 47 = .ok (.aload_n 0, 1) := by decide +kernel
theorem dX12_seldomOf_48 : decode cX12_seldomOf 48 = .ok (.getfield 129, 3) := by decide +kernel
theorem dX12_seldomOf_51 : decode cX12_seldomOf 51 = .ok (.lconst 1, 1) := by decide +kernel
theorem dX12_seldomOf_52 : decode cX12_seldomOf 52 = .ok (.invokestatic 470, 3) := by decide +kernel
theorem dX12_seldomOf_55 : decode cX12_seldomOf 55 = .ok (.iconst 1, 1) := by decide +kernel
theorem dX12_seldomOf_56 : decode cX12_seldomOf 56 = .ok (.istore 5, 2) := by decide +kernel
theorem dX12_seldomOf_58 : decode cX12_seldomOf 58 = .ok (.iload 5, 2) := by decide +kernel
theorem dX12_seldomOf_60 : decode cX12_seldomOf 60 = .ok (.iload 4, 2) := by decide +kernel
theorem dX12_seldomOf_62 : decode cX12_seldomOf 62 = .ok (.if_icmp .gt 33, 3) := by decide +kernel
theorem dX12_seldomOf_65 : decode cX12_seldomOf 65 = .ok (.aload_n 0, 1) := by decide +kernel
theorem dX12_seldomOf_66 : decode cX12_seldomOf 66 = .ok (.getfield 129, 3) := by decide +kernel
theorem dX12_seldomOf_69 : decode cX12_seldomOf 69 = .ok (.iload_n 3, 1) := by decide +kernel
theorem dX12_seldomOf_70 : decode cX12_seldomOf 70 = .ok (.iload 4, 2) := by decide +kernel
theorem dX12_seldomOf_72 : decode cX12_seldomOf 72 = .ok (.isub, 1) := by decide +kernel
theorem dX12_seldomOf_73 : decode cX12_seldomOf 73 = .ok (.iload 5, 2) := by decide +kernel
theorem dX12_seldomOf_75 : decode cX12_seldomOf 75 = .ok (.iadd, 1) := by decide +kernel
theorem dX12_seldomOf_76 : decode cX12_seldomOf 76 = .ok (.iconst 1, 1) := by decide +kernel
theorem dX12_seldomOf_77 : decode cX12_seldomOf 77 = .ok (.invokestatic 474, 3) := by decide +kernel
theorem dX12_seldomOf_80 : decode cX12_seldomOf 80 = .ok (.aload_n 0, 1) := by decide +kernel
theorem dX12_seldomOf_81 : decode cX12_seldomOf 81 = .ok (.getfield 129, 3) := by decide +kernel
theorem dX12_seldomOf_84 : decode cX12_seldomOf 84 = .ok (.iload 5, 2) := by decide +kernel
theorem dX12_seldomOf_86 : decode cX12_seldomOf 86 = .ok (.invokestatic 478, 3) := by decide +kernel
theorem dX12_seldomOf_89 : decode cX12_seldomOf 89 = .ok (.iinc 5 1, 3) := by decide +kernel
theorem dX12_seldomOf_92 : decode cX12_seldomOf 92 = .ok (.goto (-34), 3) := by decide +kernel
theorem dX12_seldomOf_95 : decode cX12_seldomOf 95 = .ok (.aload_n 0, 1) := by decide +kernel
theorem dX12_seldomOf_96 : decode cX12_seldomOf 96 = .ok (.getfield 129, 3) := by decide +kernel
theorem dX12_seldomOf_99 : decode cX12_seldomOf 99 = .ok (.aload_n 0, 1) := by decide +kernel
theorem dX12_seldomOf_100 : decode cX12_seldomOf 100 = .ok (.iconst 0, 1) := by decide +kernel
theorem dX12_seldomOf_101 : decode cX12_seldomOf 101 = .ok (.invokevirtual 318, 3) := by decide +kernel
theorem dX12_seldomOf_104 : decode cX12_seldomOf 104 = .ok (.iload 4, 2) := by decide +kernel
theorem dX12_seldomOf_106 : decode cX12_seldomOf 106 = .ok (.invokestatic 474, 3) := by decide +kernel
theorem dX12_seldomOf_109 : decode cX12_seldomOf 109 = .ok (.aload_n 0, 1) := by decide +kernel
theorem dX12_seldomOf_110 : decode cX12_seldomOf 110 = .ok (.getfield 129, 3) := by decide +kernel
theorem dX12_seldomOf_113 : decode cX12_seldomOf 113 = .ok (.iload_n 2, 1) := by decide +kernel
theorem dX12_seldomOf_114 : decode cX12_seldomOf 114 = .ok (.aload_n 0, 1) := by decide +kernel
theorem dX12_seldomOf_115 : decode cX12_seldomOf 115 = .ok (.iconst 0, 1) := by decide +kernel
theorem dX12_seldomOf_116 : decode cX12_seldomOf 116 = .ok (.invokevirtual 318, 3) := by decide +kernel
theorem dX12_seldomOf_119 : decode cX12_seldomOf 119 = .ok (.isub, 1) := by decide +kernel
theorem dX12_seldomOf_120 : decode cX12_seldomOf 120 = .ok (.iload_n 3, 1) := by decide +kernel
theorem dX12_seldomOf_121 : decode cX12_seldomOf 121 = .ok (.iload 4, 2) := by decide +kernel
theorem dX12_seldomOf_123 : decode cX12_seldomOf 123 = .ok (.isub, 1) := by decide +kernel
theorem dX12_seldomOf_124 : decode cX12_seldomOf 124 = .ok (.invokestatic 474, 3) := by decide +kernel
theorem dX12_seldomOf_127 : decode cX12_seldomOf 127 = .ok (.aload_n 0, 1) := by decide +kernel
theorem dX12_seldomOf_128 : decode cX12_seldomOf 128 = .ok (.getfield 123, 3) := by decide +kernel
theorem dX12_seldomOf_131 : decode cX12_seldomOf 131 = .ok (.aload_n 0, 1) := by decide +kernel
theorem dX12_seldomOf_132 : decode cX12_seldomOf 132 = .ok (.getfield 129, 3) := by decide +kernel
theorem dX12_seldomOf_135 : decode cX12_seldomOf 135 = .ok (.invokestatic 482, 3) := by decide +kernel
theorem dX12_seldomOf_138 : decode cX12_seldomOf 138 = .ok (.iinc 4 1, 3) := by decide +kernel
theorem dX12_seldomOf_141 : decode cX12_seldomOf 141 = .ok (.goto (-104), 3) := by decide +kernel
theorem dX12_seldomOf_144 : decode cX12_seldomOf 144 = .ok (.aload_n 0, 1) := by decide +kernel
theorem dX12_seldomOf_145 : decode cX12_seldomOf 145 = .ok (.getfield 126, 3) := by decide +kernel
theorem dX12_seldomOf_148 : decode cX12_seldomOf 148 = .ok (.lconst 1, 1) := by decide +kernel
theorem dX12_seldomOf_149 : decode cX12_seldomOf 149 = .ok (.invokestatic 470, 3) := by decide +kernel
theorem dX12_seldomOf_152 : decode cX12_seldomOf 152 = .ok (.aload_n 0, 1) := by decide +kernel
theorem dX12_seldomOf_153 : decode cX12_seldomOf 153 = .ok (.getfield 126, 3) := by decide +kernel
theorem dX12_seldomOf_156 : decode cX12_seldomOf 156 = .ok (.iload_n 2, 1) := by decide +kernel
theorem dX12_seldomOf_157 : decode cX12_seldomOf 157 = .ok (.iload_n 3, 1) := by decide +kernel
theorem dX12_seldomOf_158 : decode cX12_seldomOf 158 = .ok (.invokestatic 474, 3) := by decide +kernel
theorem dX12_seldomOf_161 : decode cX12_seldomOf 161 = .ok (.aload_n 0, 1) := by decide +kernel
theorem dX12_seldomOf_162 : decode cX12_seldomOf 162 = .ok (.getfield 123, 3) := by decide +kernel
theorem dX12_seldomOf_165 : decode cX12_seldomOf 165 = .ok (.ldc 185, 2) := by decide +kernel
theorem dX12_seldomOf_167 : decode cX12_seldomOf 167 = .ok (.iconst 1, 1) := by decide +kernel
theorem dX12_seldomOf_168 : decode cX12_seldomOf 168 = .ok (.invokestatic 474, 3) := by decide +kernel
theorem dX12_seldomOf_171 : decode cX12_seldomOf 171 = .ok (.iconst 0, 1) := by decide +kernel
theorem dX12_seldomOf_172 : decode cX12_seldomOf 172 = .ok (.istore 4, 2) := by decide +kernel
theorem dX12_seldomOf_174 : decode cX12_seldomOf 174 = .ok (.ldc 185, 2) := by decide +kernel
theorem dX12_seldomOf_176 : decode cX12_seldomOf 176 = .ok (.istore 5, 2) := by decide +kernel
theorem dX12_seldomOf_178 : decode cX12_seldomOf 178 = .ok (.iload 4, 2) := by decide +kernel
theorem dX12_seldomOf_180 : decode cX12_seldomOf 180 = .ok (.iload 5, 2) := by decide +kernel
theorem dX12_seldomOf_182 : decode cX12_seldomOf 182 = .ok (.if_icmp .ge 84, 3) := by decide +kernel
theorem dX12_seldomOf_185 : decode cX12_seldomOf 185 = .ok (.iload 4, 2) := by decide +kernel
theorem dX12_seldomOf_187 : decode cX12_seldomOf 187 = .ok (.iload 5, 2) := by decide +kernel
theorem dX12_seldomOf_189 : decode cX12_seldomOf 189 = .ok (.iadd, 1) := by decide +kernel
theorem dX12_seldomOf_190 : decode cX12_seldomOf 190 = .ok (.iconst 1, 1) := by decide +kernel
theorem dX12_seldomOf_191 : decode cX12_seldomOf 191 = .ok (.iadd, 1) := by decide +kernel
theorem dX12_seldomOf_192 : decode cX12_seldomOf 192 = .ok (.iconst 2, 1) := by decide +kernel
theorem dX12_seldomOf_193 : decode cX12_seldomOf 193 = .ok (.idiv, 1) := by decide +kernel
theorem dX12_seldomOf_194 : decode cX12_seldomOf 194 = .ok (.istore 6, 2) := by decide +kernel
theorem dX12_seldomOf_196 : decode cX12_seldomOf 196 = .ok (.iconst 0, 1) := by decide +kernel
theorem dX12_seldomOf_197 : decode cX12_seldomOf 197 = .ok (.istore 7, 2) := by decide +kernel
theorem dX12_seldomOf_199 : decode cX12_seldomOf 199 = .ok (.iload 7, 2) := by decide +kernel
theorem dX12_seldomOf_201 : decode cX12_seldomOf 201 = .ok (.bipush 12, 2) := by decide +kernel
theorem dX12_seldomOf_203 : decode cX12_seldomOf 203 = .ok (.if_icmp .ge 23, 3) := by decide +kernel
theorem dX12_seldomOf_206 : decode cX12_seldomOf 206 = .ok (.aload_n 0, 1) := by decide +kernel
theorem dX12_seldomOf_207 : decode cX12_seldomOf 207 = .ok (.getfield 129, 3) := by decide +kernel
theorem dX12_seldomOf_210 : decode cX12_seldomOf 210 = .ok (.iload 7, 2) := by decide +kernel
theorem dX12_seldomOf_212 : decode cX12_seldomOf 212 = .ok (.aload_n 0, 1) := by decide +kernel
theorem dX12_seldomOf_213 : decode cX12_seldomOf 213 = .ok (.getfield 126, 3) := by decide +kernel
theorem dX12_seldomOf_216 : decode cX12_seldomOf 216 = .ok (.iload 7, 2) := by decide +kernel
theorem dX12_seldomOf_218 : decode cX12_seldomOf 218 = .ok (.laload, 1) := by decide +kernel
theorem dX12_seldomOf_219 : decode cX12_seldomOf 219 = .ok (.lastore, 1) := by decide +kernel
theorem dX12_seldomOf_220 : decode cX12_seldomOf 220 = .ok (.iinc 7 1, 3) := by decide +kernel
theorem dX12_seldomOf_223 : decode cX12_seldomOf 223 = .ok (.goto (-24), 3) := by decide +kernel
theorem dX12_seldomOf_226 : decode cX12_seldomOf 226 = .ok (.aload_n 0, 1) := by decide +kernel
theorem dX12_seldomOf_227 : decode cX12_seldomOf 227 = .ok (.getfield 129, 3) := by decide +kernel
theorem dX12_seldomOf_230 : decode cX12_seldomOf 230 = .ok (.iload 6, 2) := by decide +kernel
theorem dX12_seldomOf_232 : decode cX12_seldomOf 232 = .ok (.iconst 1, 1) := by decide +kernel
theorem dX12_seldomOf_233 : decode cX12_seldomOf 233 = .ok (.invokestatic 474, 3) := by decide +kernel
theorem dX12_seldomOf_236 : decode cX12_seldomOf 236 = .ok (.aload_n 0, 1) := by decide +kernel
theorem dX12_seldomOf_237 : decode cX12_seldomOf 237 = .ok (.getfield 129, 3) := by decide +kernel
theorem dX12_seldomOf_240 : decode cX12_seldomOf 240 = .ok (.aload_n 0, 1) := by decide +kernel
theorem dX12_seldomOf_241 : decode cX12_seldomOf 241 = .ok (.getfield 123, 3) := by decide +kernel
theorem dX12_seldomOf_244 : decode cX12_seldomOf 244 = .ok (.invokestatic 486, 3) := by decide +kernel
theorem dX12_seldomOf_247 : decode cX12_seldomOf 247 = .ok (.ifCond .gt 10, 3) := by decide +kernel
theorem dX12_seldomOf_250 : decode cX12_seldomOf 250 = .ok (.iload 6, 2) := by decide +kernel
theorem dX12_seldomOf_252 : decode cX12_seldomOf 252 = .ok (.istore 4, 2) := by decide +kernel
theorem dX12_seldomOf_254 : decode cX12_seldomOf 254 = .ok (.goto 9, 3) := by decide +kernel
theorem dX12_seldomOf_257 : decode cX12_seldomOf 257 = .ok (.iload 6, 2) := by decide +kernel
theorem dX12_seldomOf_259 : decode cX12_seldomOf 259 = .ok (.iconst 1, 1) := by decide +kernel
theorem dX12_seldomOf_260 : decode cX12_seldomOf 260 = .ok (.isub, 1) := by decide +kernel
theorem dX12_seldomOf_261 : decode cX12_seldomOf 261 = .ok (.istore 5, 2) := by decide +kernel
theorem dX12_seldomOf_263 : decode cX12_seldomOf 263 = .ok (.goto (-85), 3) := by decide +kernel
theorem dX12_seldomOf_266 : decode cX12_seldomOf 266 = .ok (.iload 4, 2) := by decide +kernel
theorem dX12_seldomOf_268 : decode cX12_seldomOf 268 = .ok (.ireturn, 1) := by decide +kernel
abbrev YX12_seldomOf : zY := (yX12_seldomOf, cX12_seldomOf, 8, (Option.some Jvm.ClassFile.FieldType.int), [])
def fX12_seldomOf_263 (F : zFs) (k_178 : Int → Int → zDa → Option (Int × zDa)) (o4 : Int) (v5 : Int) (D : zDa) : Option (Int × zDa) :=
  k_178 o4 v5 D
def fX12_seldomOf_199 (F : zFs) (o4 : Int) (o5 : Int) (o6 : Int) (k_178 : Int → Int → zDa → Option (Int × zDa)) (k_199 : Int → zDa → Option (Int × zDa)) (v7 : Int) (D : zDa) : Option (Int × zDa) :=
  if v7 < 12 then
    if (0 ≤ v7 ∧ v7 < 12) then
      zlet (zwr D 125 v7.toNat (D 124 v7.toNat)) (fun D_17 =>
        if (-2147483648 ≤ v7 + 1 ∧ v7 + 1 ≤ 2147483647) then
          k_199 (v7 + 1) D_17
        else none)
    else none
  else
    (fX12_makes F 125 o6 1 D).bind (fun D_19 =>
      (fX12_order F 125 123 D_19).bind (fun (r_20, D_21) =>
        if 0 < r_20 then
          if (-2147483648 ≤ o6 - 1 ∧ o6 - 1 ≤ 2147483647) then
            zlet ((o6 - 1)) (fun x5_22 =>
              fX12_seldomOf_263 F k_178 o4 x5_22 D_21)
          else none
        else
          fX12_seldomOf_263 F k_178 o6 o5 D_21))
def fX12_seldomOf_178 (F : zFs)   (k_178 : Int → Int → zDa → Option (Int × zDa)) (v4 : Int) (v5 : Int) (D : zDa) : Option (Int × zDa) :=
  if v4 < v5 then
    if (-2147483648 ≤ v4 + v5 ∧ v4 + v5 ≤ 2147483647) ∧ (-2147483648 ≤ (v4 + v5) + 1 ∧ (v4 + v5) + 1 ≤ 2147483647) then
      zlet ((Int.tdiv ((v4 + v5) + 1) 2)) (fun x6_16 =>
        zfix (fun _ _ => none) (fX12_seldomOf_199 F v4 v5 x6_16 k_178) zfu 0 D)
    else none
  else
    some (v4, D)
def fX12_seldomOf_58 (F : zFs) (o1 : Int) (o2 : Int) (o3 : Int) (o4 : Int) (k_37 : Int → zDa → Option (Int × zDa)) (k_58 : Int → zDa → Option (Int × zDa)) (v5 : Int) (D : zDa) : Option (Int × zDa) :=
  if o4 < v5 then
    (fX12_term F 0 D).bind (fun (r_25, D_26) =>
      (fX12_makes F 125 r_25 o4 D_26).bind (fun D_28 =>
        (fX12_term F 0 D_28).bind (fun (r_29, D_30) =>
          if (-2147483648 ≤ o2 - r_29 ∧ o2 - r_29 ≤ 2147483647) ∧ (-2147483648 ≤ o3 - o4 ∧ o3 - o4 ≤ 2147483647) then
            (fX12_makes F 125 (o2 - r_29) (o3 - o4) D_30).bind (fun D_32 =>
              (fX12_adds F 123 125 D_32).bind (fun D_34 =>
                if (-2147483648 ≤ o4 + 1 ∧ o4 + 1 ≤ 2147483647) then
                  k_37 (o4 + 1) D_34
                else none))
          else none)))
  else
    if (-2147483648 ≤ o3 - o4 ∧ o3 - o4 ≤ 2147483647) ∧ (-2147483648 ≤ (o3 - o4) + v5 ∧ (o3 - o4) + v5 ≤ 2147483647) then
      (fX12_makes F 125 ((o3 - o4) + v5) 1 D).bind (fun D_36 =>
        (fX12_shares1 F 125 v5 D_36).bind (fun D_38 =>
          if (-2147483648 ≤ v5 + 1 ∧ v5 + 1 ≤ 2147483647) then
            k_58 (v5 + 1) D_38
          else none))
    else none
def fX12_seldomOf_37 (F : zFs) (o1 : Int) (o2 : Int) (o3 : Int)  (k_37 : Int → zDa → Option (Int × zDa)) (v4 : Int) (D : zDa) : Option (Int × zDa) :=
  (fX12_drawnTimes F o1 D).bind (fun (r_8, D_9) =>
    if r_8 < v4 then
      (fX12_be F 124 1 D_9).bind (fun D_11 =>
        (fX12_makes F 124 o2 o3 D_11).bind (fun D_13 =>
          (fX12_makes F 123 1000000 1 D_13).bind (fun D_15 =>
            zfix (fun _ _ _ => none) (fX12_seldomOf_178 F) zfu 0 1000000 D_15)))
    else
      (fX12_be F 125 1 D_9).bind (fun D_24 =>
        zfix (fun _ _ => none) (fX12_seldomOf_58 F o1 o2 o3 v4 k_37) zfu 1 D_24))
def fX12_seldomOf (F : zFs) (v1 : Int) (D : zDa) : Option (Int × zDa) :=
  (fX12_questions F D).bind (fun (r_1, D_2) =>
    zlet ((D_2 93 392)) (fun x3_3 =>
      (fX12_term F 0 D_2).bind (fun (r_4, D_5) =>
        if r_4 < r_1 then
          (fX12_be F 123 0 D_5).bind (fun D_7 =>
            zfix (fun _ _ => none) (fX12_seldomOf_37 F v1 r_1 x3_3) zfu 0 D_7)
        else
          some (1000000, D_5))))
set_option maxHeartbeats 20000000 in
theorem sX12_seldomOf_263 {l : Launch} {E : zE} {d : Nat} {F : zFs} {n sl : Nat} (hG : zG F)  (o4 : Int) (v5 : Int) (k_178 : Int → Int → zDa → Option (Int × zDa)) (hk_178 : ∀ (u4 : Int) (u5 : Int) (D : zDa), zO l E (d + 1) YX12_seldomOf 178 [(0, zR 91), (4, zI u4), (5, zI u5)] [] (F, D, n, sl) (zcI F n sl) (k_178 u4 u5 D)) (D : zDa) : zO l E (d + 1) YX12_seldomOf 263 [(0, zR 91), (4, zI o4), (5, zI v5)] [] (F, D, n, sl) (zcI F n sl) (fX12_seldomOf_263 F k_178 o4 v5 D) := by
  unfold fX12_seldomOf_263
  refine zO_goto (tgt := 178) dX12_seldomOf_263 rfl ?_
  refine zO_live [0, 4, 5] ?_
  exact hk_178 o4 v5 D
set_option maxHeartbeats 20000000 in
theorem sX12_seldomOf_199 {l : Launch} {E : zE} {d : Nat} {F : zFs} {n sl : Nat} (hG : zG F)  (o4 : Int) (o5 : Int) (o6 : Int) (k_178 : Int → Int → zDa → Option (Int × zDa)) (hk_178 : ∀ (u4 : Int) (u5 : Int) (D : zDa), zO l E (d + 1) YX12_seldomOf 178 [(0, zR 91), (4, zI u4), (5, zI u5)] [] (F, D, n, sl) (zcI F n sl) (k_178 u4 u5 D)) : ∀ (N : Nat) (v7 : Int) (D : zDa), zO l E (d + 1) YX12_seldomOf 199 [(0, zR 91), (4, zI o4), (5, zI o5), (6, zI o6), (7, zI v7)] [] (F, D, n, sl) (zcI F n sl) (zfix (fun _ _ => none) (fX12_seldomOf_199 F o4 o5 o6 k_178) N v7 D) := by
  intro N
  induction N with
  | zero => intro v7 D; exact zO_none
  | succ N hk_199 =>
    intro v7 D
    show zO _ _ _ _ _ _ _ _ _ ((fX12_seldomOf_199 F o4 o5 o6 k_178) (zfix (fun _ _ => none) (fX12_seldomOf_199 F o4 o5 o6 k_178) N) v7 D)
    unfold fX12_seldomOf_199
    refine zO_iload dX12_seldomOf_199 rfl ?_
    refine zO_bipush dX12_seldomOf_201 (by decide) ?_
    refine zO_icmp_ge (tgt := 226) dX12_seldomOf_203 rfl (fun c203 => ?_) (fun c203 => ?_)
    · refine zO_chk (fun h2 => ?_)
      refine zO_aload_n dX12_seldomOf_206 rfl (zR_P _) ?_
      refine gt12 (k := 62) dX12_seldomOf_207 wF_X12_129 (by decide) (gk_91 hG) (zgv (c := 12) (k := 62) rfl (Or.inl ⟨_, rfl⟩) (gf_91_62 hG)) ?_
      refine zO_iload dX12_seldomOf_210 rfl ?_
      refine zO_aload_n dX12_seldomOf_212 rfl (zR_P _) ?_
      refine gt12 (k := 61) dX12_seldomOf_213 wF_X12_126 (by decide) (gk_91 hG) (zgv (c := 12) (k := 61) rfl (Or.inl ⟨_, rfl⟩) (gf_91_61 hG)) ?_
      refine zO_iload dX12_seldomOf_216 rfl ?_
      refine zO_lald dX12_seldomOf_218 (gk_124 hG) (gl_in (gl_124 hG) h2) ?_
      refine zO_last dX12_seldomOf_219 (gk_125 hG) (gl_in (gl_125 hG) h2) ?_
      refine zO_letD (fun D_17 eD_17 => ?_)
      refine zO_chk (fun h3 => ?_)
      refine zO_iinc dX12_seldomOf_220 rfl h3 (by decide) ?_
      refine zO_ls (ls' := [(0, zR 91), (4, zI o4), (5, zI o5), (6, zI o6), (7, zI (v7 + 1))]) rfl ?_
      refine zO_goto (tgt := 199) dX12_seldomOf_223 rfl ?_
      refine zO_live [0, 4, 5, 6, 7] ?_
      exact hk_199 (v7 + 1) D_17
    · refine zO_aload_n dX12_seldomOf_226 rfl (zR_P _) ?_
      refine gt12 (k := 62) dX12_seldomOf_227 wF_X12_129 (by decide) (gk_91 hG) (zgv (c := 12) (k := 62) rfl (Or.inl ⟨_, rfl⟩) (gf_91_62 hG)) ?_
      refine zO_iload dX12_seldomOf_230 rfl ?_
      refine zO_iconst dX12_seldomOf_232 (by decide) ?_
      refine zO_callS (Y' := YX12_makes) (cw := zcV F n sl) (as := [zR 125, zI o6, zI 1]) (rest := []) (na := 3) dX12_seldomOf_233 wC_X12_makes wN_X12 wM_X12_474 wS_X12_makes (by decide) (by decide) rfl rfl (Nat.le_of_ble_eq_true rfl) (fun r hr => zMet_cast (Nat.add_assoc d 0 0) (mX12_makes (d := d + 0) hG 125 o6 1 r hr)) ?_
      intro D_19 _
      show zO _ _ _ _ _ _ [] (F, D_19, n, sl) _ _
      refine zO_aload_n dX12_seldomOf_236 rfl (zR_P _) ?_
      refine gt12 (k := 62) dX12_seldomOf_237 wF_X12_129 (by decide) (gk_91 hG) (zgv (c := 12) (k := 62) rfl (Or.inl ⟨_, rfl⟩) (gf_91_62 hG)) ?_
      refine zO_aload_n dX12_seldomOf_240 rfl (zR_P _) ?_
      refine gt12 (k := 60) dX12_seldomOf_241 wF_X12_123 (by decide) (gk_91 hG) (zgv (c := 12) (k := 60) rfl (Or.inl ⟨_, rfl⟩) (gf_91_60 hG)) ?_
      refine zO_callS (Y' := YX12_order) (cw := zcI F n sl) (as := [zR 125, zR 123]) (rest := []) (na := 2) dX12_seldomOf_244 wC_X12_order wN_X12 wM_X12_486 wS_X12_order (by decide) (by decide) rfl rfl (Nat.le_of_ble_eq_true rfl) (fun r hr => zMet_cast (Nat.add_assoc d 0 0) (mX12_order (d := d + 0) hG 125 123 r hr)) ?_
      rintro ⟨r_20, D_21⟩ -
      show zO _ _ _ _ _ _ [zI r_20] (F, D_21, n, sl) _ _
      refine zO_if_gt (tgt := 257) dX12_seldomOf_247 rfl (fun c247 => ?_) (fun c247 => ?_)
      · refine zO_chk (fun h4 => ?_)
        refine zO_iload dX12_seldomOf_257 rfl ?_
        refine zO_iconst dX12_seldomOf_259 (by decide) ?_
        refine zO_isub dX12_seldomOf_260 h4 ?_
        refine zO_letI (fun x5_22 ex5_22 => ?_)
        refine zO_istore dX12_seldomOf_261 (by decide) ?_
        refine zO_ls (ls' := [(0, zR 91), (4, zI o4), (5, zI x5_22), (6, zI o6), (7, zI v7)]) rfl ?_
        refine zO_live [0, 4, 5] ?_
        exact sX12_seldomOf_263 hG o4 x5_22 _ hk_178 D_21
      · refine zO_iload dX12_seldomOf_250 rfl ?_
        refine zO_istore dX12_seldomOf_252 (by decide) ?_
        refine zO_ls (ls' := [(0, zR 91), (4, zI o6), (5, zI o5), (6, zI o6), (7, zI v7)]) rfl ?_
        refine zO_goto (tgt := 263) dX12_seldomOf_254 rfl ?_
        refine zO_live [0, 4, 5] ?_
        exact sX12_seldomOf_263 hG o6 o5 _ hk_178 D_21
set_option maxHeartbeats 20000000 in
theorem sX12_seldomOf_178 {l : Launch} {E : zE} {d : Nat} {F : zFs} {n sl : Nat} (hG : zG F)     : ∀ (N : Nat) (v4 : Int) (v5 : Int) (D : zDa), zO l E (d + 1) YX12_seldomOf 178 [(0, zR 91), (4, zI v4), (5, zI v5)] [] (F, D, n, sl) (zcI F n sl) (zfix (fun _ _ _ => none) (fX12_seldomOf_178 F) N v4 v5 D) := by
  intro N
  induction N with
  | zero => intro v4 v5 D; exact zO_none
  | succ N hk_178 =>
    intro v4 v5 D
    show zO _ _ _ _ _ _ _ _ _ ((fX12_seldomOf_178 F) (zfix (fun _ _ _ => none) (fX12_seldomOf_178 F) N) v4 v5 D)
    unfold fX12_seldomOf_178
    refine zO_iload dX12_seldomOf_178 rfl ?_
    refine zO_iload dX12_seldomOf_180 rfl ?_
    refine zO_icmp_ge (tgt := 266) dX12_seldomOf_182 rfl (fun c182 => ?_) (fun c182 => ?_)
    · refine zO_chk (fun h1 => ?_)
      refine zO_iload dX12_seldomOf_185 rfl ?_
      refine zO_iload dX12_seldomOf_187 rfl ?_
      refine zO_iadd dX12_seldomOf_189 h1.1 ?_
      refine zO_iconst dX12_seldomOf_190 (by decide) ?_
      refine zO_iadd dX12_seldomOf_191 h1.2 ?_
      refine zO_iconst dX12_seldomOf_192 (by decide) ?_
      refine zO_idiv dX12_seldomOf_193 (by decide) (fun q => absurd q.2 (by decide)) ?_
      refine zO_letI (fun x6_16 ex6_16 => ?_)
      refine zO_istore dX12_seldomOf_194 (by decide) ?_
      refine zO_ls (ls' := [(0, zR 91), (4, zI v4), (5, zI v5), (6, zI x6_16)]) rfl ?_
      refine zO_iconst dX12_seldomOf_196 (by decide) ?_
      refine zO_istore dX12_seldomOf_197 (by decide) ?_
      refine zO_ls (ls' := [(0, zR 91), (4, zI v4), (5, zI v5), (6, zI x6_16), (7, zI 0)]) rfl ?_
      refine zO_live [0, 4, 5, 6, 7] ?_
      exact sX12_seldomOf_199 hG v4 v5 x6_16 _ hk_178 zfu 0 D
    · refine zO_iload dX12_seldomOf_266 rfl ?_
      exact zO_ret (rv := some (zI v4)) dX12_seldomOf_268 rfl rfl rfl
set_option maxHeartbeats 20000000 in
theorem sX12_seldomOf_58 {l : Launch} {E : zE} {d : Nat} {F : zFs} {n sl : Nat} (hG : zG F)  (o1 : Int) (o2 : Int) (o3 : Int) (o4 : Int) (k_37 : Int → zDa → Option (Int × zDa)) (hk_37 : ∀ (u4 : Int) (D : zDa), zO l E (d + 1) YX12_seldomOf 37 [(0, zR 91), (1, zI o1), (2, zI o2), (3, zI o3), (4, zI u4)] [] (F, D, n, sl) (zcI F n sl) (k_37 u4 D)) : ∀ (N : Nat) (v5 : Int) (D : zDa), zO l E (d + 1) YX12_seldomOf 58 [(0, zR 91), (1, zI o1), (2, zI o2), (3, zI o3), (4, zI o4), (5, zI v5)] [] (F, D, n, sl) (zcI F n sl) (zfix (fun _ _ => none) (fX12_seldomOf_58 F o1 o2 o3 o4 k_37) N v5 D) := by
  intro N
  induction N with
  | zero => intro v5 D; exact zO_none
  | succ N hk_58 =>
    intro v5 D
    show zO _ _ _ _ _ _ _ _ _ ((fX12_seldomOf_58 F o1 o2 o3 o4 k_37) (zfix (fun _ _ => none) (fX12_seldomOf_58 F o1 o2 o3 o4 k_37) N) v5 D)
    unfold fX12_seldomOf_58
    refine zO_iload dX12_seldomOf_58 rfl ?_
    refine zO_iload dX12_seldomOf_60 rfl ?_
    refine zO_icmp_gt (tgt := 95) dX12_seldomOf_62 rfl (fun c62 => ?_) (fun c62 => ?_)
    · refine zO_aload_n dX12_seldomOf_95 rfl (zR_P _) ?_
      refine gt12 (k := 62) dX12_seldomOf_96 wF_X12_129 (by decide) (gk_91 hG) (zgv (c := 12) (k := 62) rfl (Or.inl ⟨_, rfl⟩) (gf_91_62 hG)) ?_
      refine zO_aload_n dX12_seldomOf_99 rfl (zR_P _) ?_
      refine zO_iconst dX12_seldomOf_100 (by decide) ?_
      refine zO_callV (Y' := YX12_term) (cw := zcI F n sl) (as := [zI 0]) (rest := [zR 125]) (na := 1) (ci := 12) rfl dX12_seldomOf_101 wC_X12_term wN_X12 wM_X12_318 wI_X12_term wV_X12_term (by decide) (by decide) rfl rfl (Nat.le_of_ble_eq_true rfl) rfl (by decide) (gk_91 hG) (fun r hr => zMet_cast (Nat.add_assoc d 0 0) (mX12_term (d := d + 0) hG 0 r hr)) ?_
      rintro ⟨r_25, D_26⟩ -
      show zO _ _ _ _ _ _ [zI r_25, zR 125] (F, D_26, n, sl) _ _
      refine zO_iload dX12_seldomOf_104 rfl ?_
      refine zO_callS (Y' := YX12_makes) (cw := zcV F n sl) (as := [zR 125, zI r_25, zI o4]) (rest := []) (na := 3) dX12_seldomOf_106 wC_X12_makes wN_X12 wM_X12_474 wS_X12_makes (by decide) (by decide) rfl rfl (Nat.le_of_ble_eq_true rfl) (fun r hr => zMet_cast (Nat.add_assoc d 0 0) (mX12_makes (d := d + 0) hG 125 r_25 o4 r hr)) ?_
      intro D_28 _
      show zO _ _ _ _ _ _ [] (F, D_28, n, sl) _ _
      refine zO_aload_n dX12_seldomOf_109 rfl (zR_P _) ?_
      refine gt12 (k := 62) dX12_seldomOf_110 wF_X12_129 (by decide) (gk_91 hG) (zgv (c := 12) (k := 62) rfl (Or.inl ⟨_, rfl⟩) (gf_91_62 hG)) ?_
      refine zO_iload_n dX12_seldomOf_113 rfl ?_
      refine zO_aload_n dX12_seldomOf_114 rfl (zR_P _) ?_
      refine zO_iconst dX12_seldomOf_115 (by decide) ?_
      refine zO_callV (Y' := YX12_term) (cw := zcI F n sl) (as := [zI 0]) (rest := [zI o2, zR 125]) (na := 1) (ci := 12) rfl dX12_seldomOf_116 wC_X12_term wN_X12 wM_X12_318 wI_X12_term wV_X12_term (by decide) (by decide) rfl rfl (Nat.le_of_ble_eq_true rfl) rfl (by decide) (gk_91 hG) (fun r hr => zMet_cast (Nat.add_assoc d 0 0) (mX12_term (d := d + 0) hG 0 r hr)) ?_
      rintro ⟨r_29, D_30⟩ -
      show zO _ _ _ _ _ _ [zI r_29, zI o2, zR 125] (F, D_30, n, sl) _ _
      refine zO_chk (fun h5 => ?_)
      refine zO_isub dX12_seldomOf_119 h5.1 ?_
      refine zO_iload_n dX12_seldomOf_120 rfl ?_
      refine zO_iload dX12_seldomOf_121 rfl ?_
      refine zO_isub dX12_seldomOf_123 h5.2 ?_
      refine zO_callS (Y' := YX12_makes) (cw := zcV F n sl) (as := [zR 125, zI (o2 - r_29), zI (o3 - o4)]) (rest := []) (na := 3) dX12_seldomOf_124 wC_X12_makes wN_X12 wM_X12_474 wS_X12_makes (by decide) (by decide) rfl rfl (Nat.le_of_ble_eq_true rfl) (fun r hr => zMet_cast (Nat.add_assoc d 0 0) (mX12_makes (d := d + 0) hG 125 (o2 - r_29) (o3 - o4) r hr)) ?_
      intro D_32 _
      show zO _ _ _ _ _ _ [] (F, D_32, n, sl) _ _
      refine zO_aload_n dX12_seldomOf_127 rfl (zR_P _) ?_
      refine gt12 (k := 60) dX12_seldomOf_128 wF_X12_123 (by decide) (gk_91 hG) (zgv (c := 12) (k := 60) rfl (Or.inl ⟨_, rfl⟩) (gf_91_60 hG)) ?_
      refine zO_aload_n dX12_seldomOf_131 rfl (zR_P _) ?_
      refine gt12 (k := 62) dX12_seldomOf_132 wF_X12_129 (by decide) (gk_91 hG) (zgv (c := 12) (k := 62) rfl (Or.inl ⟨_, rfl⟩) (gf_91_62 hG)) ?_
      refine zO_callS (Y' := YX12_adds) (cw := zcV F n sl) (as := [zR 123, zR 125]) (rest := []) (na := 2) dX12_seldomOf_135 wC_X12_adds wN_X12 wM_X12_482 wS_X12_adds (by decide) (by decide) rfl rfl (Nat.le_of_ble_eq_true rfl) (fun r hr => zMet_cast (Nat.add_assoc d 0 0) (mX12_adds (d := d + 0) hG 123 125 r hr)) ?_
      intro D_34 _
      show zO _ _ _ _ _ _ [] (F, D_34, n, sl) _ _
      refine zO_chk (fun h6 => ?_)
      refine zO_iinc dX12_seldomOf_138 rfl h6 (by decide) ?_
      refine zO_ls (ls' := [(0, zR 91), (1, zI o1), (2, zI o2), (3, zI o3), (4, zI (o4 + 1)), (5, zI v5)]) rfl ?_
      refine zO_goto (tgt := 37) dX12_seldomOf_141 rfl ?_
      refine zO_live [0, 1, 2, 3, 4] ?_
      exact hk_37 (o4 + 1) D_34
    · refine zO_chk (fun h7 => ?_)
      refine zO_aload_n dX12_seldomOf_65 rfl (zR_P _) ?_
      refine gt12 (k := 62) dX12_seldomOf_66 wF_X12_129 (by decide) (gk_91 hG) (zgv (c := 12) (k := 62) rfl (Or.inl ⟨_, rfl⟩) (gf_91_62 hG)) ?_
      refine zO_iload_n dX12_seldomOf_69 rfl ?_
      refine zO_iload dX12_seldomOf_70 rfl ?_
      refine zO_isub dX12_seldomOf_72 h7.1 ?_
      refine zO_iload dX12_seldomOf_73 rfl ?_
      refine zO_iadd dX12_seldomOf_75 h7.2 ?_
      refine zO_iconst dX12_seldomOf_76 (by decide) ?_
      refine zO_callS (Y' := YX12_makes) (cw := zcV F n sl) (as := [zR 125, zI ((o3 - o4) + v5), zI 1]) (rest := []) (na := 3) dX12_seldomOf_77 wC_X12_makes wN_X12 wM_X12_474 wS_X12_makes (by decide) (by decide) rfl rfl (Nat.le_of_ble_eq_true rfl) (fun r hr => zMet_cast (Nat.add_assoc d 0 0) (mX12_makes (d := d + 0) hG 125 ((o3 - o4) + v5) 1 r hr)) ?_
      intro D_36 _
      show zO _ _ _ _ _ _ [] (F, D_36, n, sl) _ _
      refine zO_aload_n dX12_seldomOf_80 rfl (zR_P _) ?_
      refine gt12 (k := 62) dX12_seldomOf_81 wF_X12_129 (by decide) (gk_91 hG) (zgv (c := 12) (k := 62) rfl (Or.inl ⟨_, rfl⟩) (gf_91_62 hG)) ?_
      refine zO_iload dX12_seldomOf_84 rfl ?_
      refine zO_callS (Y' := YX12_shares1) (cw := zcV F n sl) (as := [zR 125, zI v5]) (rest := []) (na := 2) dX12_seldomOf_86 wC_X12_shares1 wN_X12 wM_X12_478 wS_X12_shares1 (by decide) (by decide) rfl rfl (Nat.le_of_ble_eq_true rfl) (fun r hr => zMet_cast (Nat.add_assoc d 0 0) (mX12_shares1 (d := d + 0) hG 125 v5 r hr)) ?_
      intro D_38 _
      show zO _ _ _ _ _ _ [] (F, D_38, n, sl) _ _
      refine zO_chk (fun h8 => ?_)
      refine zO_iinc dX12_seldomOf_89 rfl h8 (by decide) ?_
      refine zO_ls (ls' := [(0, zR 91), (1, zI o1), (2, zI o2), (3, zI o3), (4, zI o4), (5, zI (v5 + 1))]) rfl ?_
      refine zO_goto (tgt := 58) dX12_seldomOf_92 rfl ?_
      refine zO_live [0, 1, 2, 3, 4, 5] ?_
      exact hk_58 (v5 + 1) D_38
set_option maxHeartbeats 20000000 in
theorem sX12_seldomOf_37 {l : Launch} {E : zE} {d : Nat} {F : zFs} {n sl : Nat} (hG : zG F)  (o1 : Int) (o2 : Int) (o3 : Int)   : ∀ (N : Nat) (v4 : Int) (D : zDa), zO l E (d + 1) YX12_seldomOf 37 [(0, zR 91), (1, zI o1), (2, zI o2), (3, zI o3), (4, zI v4)] [] (F, D, n, sl) (zcI F n sl) (zfix (fun _ _ => none) (fX12_seldomOf_37 F o1 o2 o3) N v4 D) := by
  intro N
  induction N with
  | zero => intro v4 D; exact zO_none
  | succ N hk_37 =>
    intro v4 D
    show zO _ _ _ _ _ _ _ _ _ ((fX12_seldomOf_37 F o1 o2 o3) (zfix (fun _ _ => none) (fX12_seldomOf_37 F o1 o2 o3) N) v4 D)
    unfold fX12_seldomOf_37
    refine zO_iload dX12_seldomOf_37 rfl ?_
    refine zO_aload_n dX12_seldomOf_39 rfl (zR_P _) ?_
    refine zO_iload_n dX12_seldomOf_40 rfl ?_
    refine zO_callV (Y' := YX12_drawnTimes) (cw := zcI F n sl) (as := [zI o1]) (rest := [zI v4]) (na := 1) (ci := 12) rfl dX12_seldomOf_41 wC_X12_drawnTimes wN_X12 wM_X12_465 wI_X12_drawnTimes wV_X12_drawnTimes (by decide) (by decide) rfl rfl (Nat.le_of_ble_eq_true rfl) rfl (by decide) (gk_91 hG) (fun r hr => zMet_cast (Nat.add_assoc d 0 0) (mX12_drawnTimes (d := d + 0) hG o1 r hr)) ?_
    rintro ⟨r_8, D_9⟩ -
    show zO _ _ _ _ _ _ [zI r_8, zI v4] (F, D_9, n, sl) _ _
    refine zO_icmp_gt (tgt := 144) dX12_seldomOf_44 rfl (fun c44 => ?_) (fun c44 => ?_)
    · refine zO_aload_n dX12_seldomOf_144 rfl (zR_P _) ?_
      refine gt12 (k := 61) dX12_seldomOf_145 wF_X12_126 (by decide) (gk_91 hG) (zgv (c := 12) (k := 61) rfl (Or.inl ⟨_, rfl⟩) (gf_91_61 hG)) ?_
      refine zO_lconst dX12_seldomOf_148 ?_
      refine zO_callS (Y' := YX12_be) (cw := zcV F n sl) (as := [zR 124, zL 1]) (rest := []) (na := 2) dX12_seldomOf_149 wC_X12_be wN_X12 wM_X12_470 wS_X12_be (by decide) (by decide) rfl rfl (Nat.le_of_ble_eq_true rfl) (fun r hr => zMet_cast (Nat.add_assoc d 0 0) (mX12_be (d := d + 0) hG 124 1 r hr)) ?_
      intro D_11 _
      show zO _ _ _ _ _ _ [] (F, D_11, n, sl) _ _
      refine zO_aload_n dX12_seldomOf_152 rfl (zR_P _) ?_
      refine gt12 (k := 61) dX12_seldomOf_153 wF_X12_126 (by decide) (gk_91 hG) (zgv (c := 12) (k := 61) rfl (Or.inl ⟨_, rfl⟩) (gf_91_61 hG)) ?_
      refine zO_iload_n dX12_seldomOf_156 rfl ?_
      refine zO_iload_n dX12_seldomOf_157 rfl ?_
      refine zO_callS (Y' := YX12_makes) (cw := zcV F n sl) (as := [zR 124, zI o2, zI o3]) (rest := []) (na := 3) dX12_seldomOf_158 wC_X12_makes wN_X12 wM_X12_474 wS_X12_makes (by decide) (by decide) rfl rfl (Nat.le_of_ble_eq_true rfl) (fun r hr => zMet_cast (Nat.add_assoc d 0 0) (mX12_makes (d := d + 0) hG 124 o2 o3 r hr)) ?_
      intro D_13 _
      show zO _ _ _ _ _ _ [] (F, D_13, n, sl) _ _
      refine zO_aload_n dX12_seldomOf_161 rfl (zR_P _) ?_
      refine gt12 (k := 60) dX12_seldomOf_162 wF_X12_123 (by decide) (gk_91 hG) (zgv (c := 12) (k := 60) rfl (Or.inl ⟨_, rfl⟩) (gf_91_60 hG)) ?_
      refine zO_ldc (n := 1000000) dX12_seldomOf_165 wK_X12_185 (by decide) ?_
      refine zO_iconst dX12_seldomOf_167 (by decide) ?_
      refine zO_callS (Y' := YX12_makes) (cw := zcV F n sl) (as := [zR 123, zI 1000000, zI 1]) (rest := []) (na := 3) dX12_seldomOf_168 wC_X12_makes wN_X12 wM_X12_474 wS_X12_makes (by decide) (by decide) rfl rfl (Nat.le_of_ble_eq_true rfl) (fun r hr => zMet_cast (Nat.add_assoc d 0 0) (mX12_makes (d := d + 0) hG 123 1000000 1 r hr)) ?_
      intro D_15 _
      show zO _ _ _ _ _ _ [] (F, D_15, n, sl) _ _
      refine zO_iconst dX12_seldomOf_171 (by decide) ?_
      refine zO_istore dX12_seldomOf_172 (by decide) ?_
      refine zO_ls (ls' := [(0, zR 91), (1, zI o1), (2, zI o2), (3, zI o3), (4, zI 0)]) rfl ?_
      refine zO_ldc (n := 1000000) dX12_seldomOf_174 wK_X12_185 (by decide) ?_
      refine zO_istore dX12_seldomOf_176 (by decide) ?_
      refine zO_ls (ls' := [(0, zR 91), (1, zI o1), (2, zI o2), (3, zI o3), (4, zI 0), (5, zI 1000000)]) rfl ?_
      refine zO_live [0, 4, 5] ?_
      exact sX12_seldomOf_178 hG zfu 0 1000000 D_15
    · refine zO_aload_n dX12_seldomOf_47 rfl (zR_P _) ?_
      refine gt12 (k := 62) dX12_seldomOf_48 wF_X12_129 (by decide) (gk_91 hG) (zgv (c := 12) (k := 62) rfl (Or.inl ⟨_, rfl⟩) (gf_91_62 hG)) ?_
      refine zO_lconst dX12_seldomOf_51 ?_
      refine zO_callS (Y' := YX12_be) (cw := zcV F n sl) (as := [zR 125, zL 1]) (rest := []) (na := 2) dX12_seldomOf_52 wC_X12_be wN_X12 wM_X12_470 wS_X12_be (by decide) (by decide) rfl rfl (Nat.le_of_ble_eq_true rfl) (fun r hr => zMet_cast (Nat.add_assoc d 0 0) (mX12_be (d := d + 0) hG 125 1 r hr)) ?_
      intro D_24 _
      show zO _ _ _ _ _ _ [] (F, D_24, n, sl) _ _
      refine zO_iconst dX12_seldomOf_55 (by decide) ?_
      refine zO_istore dX12_seldomOf_56 (by decide) ?_
      refine zO_ls (ls' := [(0, zR 91), (1, zI o1), (2, zI o2), (3, zI o3), (4, zI v4), (5, zI 1)]) rfl ?_
      refine zO_live [0, 1, 2, 3, 4, 5] ?_
      exact sX12_seldomOf_58 hG o1 o2 o3 v4 _ hk_37 zfu 1 D_24
set_option maxHeartbeats 20000000 in
theorem mX12_seldomOf {l : Launch} {E : zE} {d : Nat} {F : zFs} {n sl : Nat} (hG : zG F) (v1 : Int) {D : zDa} : ∀ r, fX12_seldomOf F  v1 D = some r → zMet l E (d + 1) YX12_seldomOf [zR 91, zI v1] (F, D, n, sl) (zcI F n sl r) := by
  intro r hr
  refine zMet_of (plainFor_of_name (by decide)) (fun _ h => (nomatch h)) (Nat.le_of_ble_eq_true rfl) ?_
  have hz : zO l E (d + 1) YX12_seldomOf 0 [(0, zR 91), (1, zI v1)] [] (F, D, n, sl) (zcI F n sl) (fX12_seldomOf F  v1 D) := by
    unfold fX12_seldomOf
    refine zO_aload_n dX12_seldomOf_0 rfl (zR_P _) ?_
    refine zO_callV (Y' := YX12_questions) (cw := zcI F n sl) (as := []) (rest := []) (na := 0) (ci := 12) rfl dX12_seldomOf_1 wC_X12_questions wN_X12 wM_X12_146 wI_X12_questions wV_X12_questions (by decide) (by decide) rfl rfl (Nat.le_of_ble_eq_true rfl) rfl (by decide) (gk_91 hG) (fun r hr => zMet_cast (Nat.add_assoc d 0 0) (mX12_questions (d := d + 0) hG  r hr)) ?_
    rintro ⟨r_1, D_2⟩ -
    show zO _ _ _ _ _ _ [zI r_1] (F, D_2, n, sl) _ _
    refine zO_istore_n dX12_seldomOf_4 (by decide) ?_
    refine zO_ls (ls' := [(0, zR 91), (1, zI v1), (2, zI r_1)]) rfl ?_
    refine zO_aload_n dX12_seldomOf_5 rfl (zR_P _) ?_
    refine gt12 (k := 3) dX12_seldomOf_6 wF_X12_20 (by decide) (gk_91 hG) (zgv (c := 12) (k := 3) rfl (Or.inl ⟨_, rfl⟩) (gf_91_3 hG)) ?_
    refine zO_sipush dX12_seldomOf_9 (by decide) ?_
    refine zO_iald dX12_seldomOf_12 (gk_93 hG) (gl_in (gl_93 hG) (by decide)) ?_
    refine zO_letI (fun x3_3 ex3_3 => ?_)
    refine zO_istore_n dX12_seldomOf_13 (by decide) ?_
    refine zO_ls (ls' := [(0, zR 91), (1, zI v1), (2, zI r_1), (3, zI x3_3)]) rfl ?_
    refine zO_aload_n dX12_seldomOf_14 rfl (zR_P _) ?_
    refine zO_iconst dX12_seldomOf_15 (by decide) ?_
    refine zO_callV (Y' := YX12_term) (cw := zcI F n sl) (as := [zI 0]) (rest := []) (na := 1) (ci := 12) rfl dX12_seldomOf_16 wC_X12_term wN_X12 wM_X12_318 wI_X12_term wV_X12_term (by decide) (by decide) rfl rfl (Nat.le_of_ble_eq_true rfl) rfl (by decide) (gk_91 hG) (fun r hr => zMet_cast (Nat.add_assoc d 0 0) (mX12_term (d := d + 0) hG 0 r hr)) ?_
    rintro ⟨r_4, D_5⟩ -
    show zO _ _ _ _ _ _ [zI r_4] (F, D_5, n, sl) _ _
    refine zO_iload_n dX12_seldomOf_19 rfl ?_
    refine zO_icmp_lt (tgt := 26) dX12_seldomOf_20 rfl (fun c20 => ?_) (fun c20 => ?_)
    · refine zO_aload_n dX12_seldomOf_26 rfl (zR_P _) ?_
      refine gt12 (k := 60) dX12_seldomOf_27 wF_X12_123 (by decide) (gk_91 hG) (zgv (c := 12) (k := 60) rfl (Or.inl ⟨_, rfl⟩) (gf_91_60 hG)) ?_
      refine zO_lconst dX12_seldomOf_30 ?_
      refine zO_callS (Y' := YX12_be) (cw := zcV F n sl) (as := [zR 123, zL 0]) (rest := []) (na := 2) dX12_seldomOf_31 wC_X12_be wN_X12 wM_X12_470 wS_X12_be (by decide) (by decide) rfl rfl (Nat.le_of_ble_eq_true rfl) (fun r hr => zMet_cast (Nat.add_assoc d 0 0) (mX12_be (d := d + 0) hG 123 0 r hr)) ?_
      intro D_7 _
      show zO _ _ _ _ _ _ [] (F, D_7, n, sl) _ _
      refine zO_iconst dX12_seldomOf_34 (by decide) ?_
      refine zO_istore dX12_seldomOf_35 (by decide) ?_
      refine zO_ls (ls' := [(0, zR 91), (1, zI v1), (2, zI r_1), (3, zI x3_3), (4, zI 0)]) rfl ?_
      refine zO_live [0, 1, 2, 3, 4] ?_
      exact sX12_seldomOf_37 hG v1 r_1 x3_3 zfu 0 D_7
    · refine zO_ldc (n := 1000000) dX12_seldomOf_23 wK_X12_185 (by decide) ?_
      exact zO_ret (rv := some (zI 1000000)) dX12_seldomOf_25 rfl rfl rfl
  exact hz r hr
theorem dX12_seldom_0 : decode cX12_seldom 0 = .ok (.iload_n 1, 1) := by decide +kernel
theorem dX12_seldom_1 : decode cX12_seldom 1 = .ok (.iconst (-1), 1) := by decide +kernel
theorem dX12_seldom_2 : decode cX12_seldom 2 = .ok (.if_icmp .eq 21, 3) := by decide +kernel
theorem dX12_seldom_5 : decode cX12_seldom 5 = .ok (.aload_n 0, 1) := by decide +kernel
theorem dX12_seldom_6 : decode cX12_seldom 6 = .ok (.iload_n 1, 1) := by decide +kernel
theorem dX12_seldom_7 : decode cX12_seldom 7 = .ok (.invokevirtual 158, 3) := by decide +kernel
theorem dX12_seldom_10 : decode cX12_seldom 10 = .ok (.ifCond .eq 11, 3) := by decide +kernel
theorem dX12_seldom_13 : decode cX12_seldom 13 = .ok (.aload_n 0, 1) := by decide +kernel
theorem dX12_seldom_14 : decode cX12_seldom 14 = .ok (.iload_n 1, 1) := by decide +kernel
theorem dX12_seldom_15 : decode cX12_seldom 15 = .ok (.invokevirtual 490, 3) := by decide +kernel
theorem dX12_seldom_18 : decode cX12_seldom 18 = .ok (.goto 4, 3) := by decide +kernel
theorem dX12_seldom_21 : decode cX12_seldom 21 = .ok (.iconst (-1), 1) := by decide +kernel
theorem dX12_seldom_22 : decode cX12_seldom 22 = .ok (.ireturn, 1) := by decide +kernel
theorem dX12_seldom_23 : decode cX12_seldom 23 = .ok (.aload_n 0, 1) := by decide +kernel
theorem dX12_seldom_24 : decode cX12_seldom 24 = .ok (.invokevirtual 146, 3) := by decide +kernel
theorem dX12_seldom_27 : decode cX12_seldom 27 = .ok (.ifCond .ne 5, 3) := by decide +kernel
theorem dX12_seldom_30 : decode cX12_seldom 30 = .ok (.iconst (-1), 1) := by decide +kernel
theorem dX12_seldom_31 : decode cX12_seldom 31 = .ok (.ireturn, 1) := by decide +kernel
theorem dX12_seldom_32 : decode cX12_seldom 32 = .ok (.ldc 185, 2) := by decide +kernel
theorem dX12_seldom_34 : decode cX12_seldom 34 = .ok (.istore_n 2, 1) := by decide +kernel
theorem dX12_seldom_35 : decode cX12_seldom 35 = .ok (.iconst 0, 1) := by decide +kernel
theorem dX12_seldom_36 : decode cX12_seldom 36 = .ok (.istore_n 3, 1) := by decide +kernel
theorem dX12_seldom_37 : decode cX12_seldom 37 = .ok (.iload_n 3, 1) := by decide +kernel
theorem dX12_seldom_38 : decode cX12_seldom 38 = .ok (.aload_n 0, 1) := by decide +kernel
theorem dX12_seldom_39 : decode cX12_seldom 39 = .ok (.invokevirtual 146, 3) := by decide +kernel
theorem dX12_seldom_42 : decode cX12_seldom 42 = .ok (.if_icmp .ge 19, 3) := by decide +kernel
theorem dX12_seldom_45 : decode cX12_seldom 45 = .ok (.iload_n 2, 1) := by decide +kernel
theorem dX12_seldom_46 : decode cX12_seldom 46 = .ok (.aload_n 0, 1) := by decide +kernel
theorem dX12_seldom_47 : decode cX12_seldom 47 = .ok (.iload_n 3, 1) := by decide +kernel
theorem dX12_seldom_48 : decode cX12_seldom 48 = .ok (.invokevirtual 490, 3) := by decide +kernel
theorem dX12_seldom_51 : decode cX12_seldom 51 = .ok (.invokestatic 394, 3) := by decide +kernel
theorem dX12_seldom_54 : decode cX12_seldom 54 = .ok (.istore_n 2, 1) := by decide +kernel
theorem dX12_seldom_55 : decode cX12_seldom 55 = .ok (.iinc 3 1, 3) := by decide +kernel
theorem dX12_seldom_58 : decode cX12_seldom 58 = .ok (.goto (-21), 3) := by decide +kernel
theorem dX12_seldom_61 : decode cX12_seldom 61 = .ok (.ldc 185, 2) := by decide +kernel
theorem dX12_seldom_63 : decode cX12_seldom 63 = .ok (.iload_n 2, 1) := by decide +kernel
theorem dX12_seldom_64 : decode cX12_seldom 64 = .ok (.aload_n 0, 1) := by decide +kernel
theorem dX12_seldom_65 : decode cX12_seldom 65 = .ok (.invokevirtual 146, 3) := by decide +kernel
theorem dX12_seldom_68 : decode cX12_seldom 68 = .ok (.imul, 1) := by decide +kernel
theorem dX12_seldom_69 : decode cX12_seldom 69 = .ok (.invokestatic 394, 3) := by decide +kernel
theorem dX12_seldom_72 : decode cX12_seldom 72 = .ok (.ireturn, 1) := by decide +kernel
abbrev YX12_seldom : zY := (yX12_seldom, cX12_seldom, 4, (Option.some Jvm.ClassFile.FieldType.int), [])
def fX12_seldom_37 (F : zFs)   (k_37 : Int → Int → zDa → Option (Int × zDa)) (v2 : Int) (v3 : Int) (D : zDa) : Option (Int × zDa) :=
  (fX12_questions F D).bind (fun (r_3, D_4) =>
    if v3 < r_3 then
      (fX12_seldomOf F v3 D_4).bind (fun (r_5, D_6) =>
        (fX12_lesser F v2 r_5 D_6).bind (fun (r_7, D_8) =>
          if (-2147483648 ≤ v3 + 1 ∧ v3 + 1 ≤ 2147483647) then
            k_37 r_7 (v3 + 1) D_8
          else none))
    else
      (fX12_questions F D_4).bind (fun (r_9, D_10) =>
        if (-2147483648 ≤ v2 * r_9 ∧ v2 * r_9 ≤ 2147483647) then
          (fX12_lesser F 1000000 (v2 * r_9) D_10).bind (fun (r_11, D_12) =>
            some (r_11, D_12))
        else none))
def fX12_seldom (F : zFs) (v1 : Int) (D : zDa) : Option (Int × zDa) :=
  if v1 = (-1) then
    (fX12_questions F D).bind (fun (r_1, D_2) =>
      if r_1 = 0 then
        some ((-1), D_2)
      else
        zfix (fun _ _ _ => none) (fX12_seldom_37 F) zfu 1000000 0 D_2)
  else
    (fX12_isQuestion F v1 D).bind (fun (r_13, D_14) =>
      if r_13 = 0 then
        some ((-1), D_14)
      else
        (fX12_seldomOf F v1 D_14).bind (fun (r_15, D_16) =>
          some (r_15, D_16)))
set_option maxHeartbeats 20000000 in
theorem sX12_seldom_37 {l : Launch} {E : zE} {d : Nat} {F : zFs} {n sl : Nat} (hG : zG F)     : ∀ (N : Nat) (v2 : Int) (v3 : Int) (D : zDa), zO l E (d + 2) YX12_seldom 37 [(0, zR 91), (2, zI v2), (3, zI v3)] [] (F, D, n, sl) (zcI F n sl) (zfix (fun _ _ _ => none) (fX12_seldom_37 F) N v2 v3 D) := by
  intro N
  induction N with
  | zero => intro v2 v3 D; exact zO_none
  | succ N hk_37 =>
    intro v2 v3 D
    show zO _ _ _ _ _ _ _ _ _ ((fX12_seldom_37 F) (zfix (fun _ _ _ => none) (fX12_seldom_37 F) N) v2 v3 D)
    unfold fX12_seldom_37
    refine zO_iload_n dX12_seldom_37 rfl ?_
    refine zO_aload_n dX12_seldom_38 rfl (zR_P _) ?_
    refine zO_callV (Y' := YX12_questions) (cw := zcI F n sl) (as := []) (rest := [zI v3]) (na := 0) (ci := 12) rfl dX12_seldom_39 wC_X12_questions wN_X12 wM_X12_146 wI_X12_questions wV_X12_questions (by decide) (by decide) rfl rfl (Nat.le_of_ble_eq_true rfl) rfl (by decide) (gk_91 hG) (fun r hr => zMet_cast (Nat.add_assoc d 1 0) (mX12_questions (d := d + 1) hG  r hr)) ?_
    rintro ⟨r_3, D_4⟩ -
    show zO _ _ _ _ _ _ [zI r_3, zI v3] (F, D_4, n, sl) _ _
    refine zO_icmp_ge (tgt := 61) dX12_seldom_42 rfl (fun c42 => ?_) (fun c42 => ?_)
    · refine zO_iload_n dX12_seldom_45 rfl ?_
      refine zO_aload_n dX12_seldom_46 rfl (zR_P _) ?_
      refine zO_iload_n dX12_seldom_47 rfl ?_
      refine zO_callV (Y' := YX12_seldomOf) (cw := zcI F n sl) (as := [zI v3]) (rest := [zI v2]) (na := 1) (ci := 12) rfl dX12_seldom_48 wC_X12_seldomOf wN_X12 wM_X12_490 wI_X12_seldomOf wV_X12_seldomOf (by decide) (by decide) rfl rfl (Nat.le_of_ble_eq_true rfl) rfl (by decide) (gk_91 hG) (fun r hr => zMet_cast (Nat.add_assoc d 0 1) (mX12_seldomOf (d := d + 0) hG v3 r hr)) ?_
      rintro ⟨r_5, D_6⟩ -
      show zO _ _ _ _ _ _ [zI r_5, zI v2] (F, D_6, n, sl) _ _
      refine zO_callS (Y' := YX12_lesser) (cw := zcI F n sl) (as := [zI v2, zI r_5]) (rest := []) (na := 2) dX12_seldom_51 wC_X12_lesser wN_X12 wM_X12_394 wS_X12_lesser (by decide) (by decide) rfl rfl (Nat.le_of_ble_eq_true rfl) (fun r hr => zMet_cast (Nat.add_assoc d 1 0) (mX12_lesser (d := d + 1) hG v2 r_5 r hr)) ?_
      rintro ⟨r_7, D_8⟩ -
      show zO _ _ _ _ _ _ [zI r_7] (F, D_8, n, sl) _ _
      refine zO_chk (fun h1 => ?_)
      refine zO_istore_n dX12_seldom_54 (by decide) ?_
      refine zO_ls (ls' := [(0, zR 91), (2, zI r_7), (3, zI v3)]) rfl ?_
      refine zO_iinc dX12_seldom_55 rfl h1 (by decide) ?_
      refine zO_ls (ls' := [(0, zR 91), (2, zI r_7), (3, zI (v3 + 1))]) rfl ?_
      refine zO_goto (tgt := 37) dX12_seldom_58 rfl ?_
      refine zO_live [0, 2, 3] ?_
      exact hk_37 r_7 (v3 + 1) D_8
    · refine zO_ldc (n := 1000000) dX12_seldom_61 wK_X12_185 (by decide) ?_
      refine zO_iload_n dX12_seldom_63 rfl ?_
      refine zO_aload_n dX12_seldom_64 rfl (zR_P _) ?_
      refine zO_callV (Y' := YX12_questions) (cw := zcI F n sl) (as := []) (rest := [zI v2, zI 1000000]) (na := 0) (ci := 12) rfl dX12_seldom_65 wC_X12_questions wN_X12 wM_X12_146 wI_X12_questions wV_X12_questions (by decide) (by decide) rfl rfl (Nat.le_of_ble_eq_true rfl) rfl (by decide) (gk_91 hG) (fun r hr => zMet_cast (Nat.add_assoc d 1 0) (mX12_questions (d := d + 1) hG  r hr)) ?_
      rintro ⟨r_9, D_10⟩ -
      show zO _ _ _ _ _ _ [zI r_9, zI v2, zI 1000000] (F, D_10, n, sl) _ _
      refine zO_chk (fun h2 => ?_)
      refine zO_imul dX12_seldom_68 h2 ?_
      refine zO_callS (Y' := YX12_lesser) (cw := zcI F n sl) (as := [zI 1000000, zI (v2 * r_9)]) (rest := []) (na := 2) dX12_seldom_69 wC_X12_lesser wN_X12 wM_X12_394 wS_X12_lesser (by decide) (by decide) rfl rfl (Nat.le_of_ble_eq_true rfl) (fun r hr => zMet_cast (Nat.add_assoc d 1 0) (mX12_lesser (d := d + 1) hG 1000000 (v2 * r_9) r hr)) ?_
      rintro ⟨r_11, D_12⟩ -
      show zO _ _ _ _ _ _ [zI r_11] (F, D_12, n, sl) _ _
      exact zO_ret (rv := some (zI r_11)) dX12_seldom_72 rfl rfl rfl
set_option maxHeartbeats 20000000 in
theorem mX12_seldom {l : Launch} {E : zE} {d : Nat} {F : zFs} {n sl : Nat} (hG : zG F) (v1 : Int) {D : zDa} : ∀ r, fX12_seldom F  v1 D = some r → zMet l E (d + 2) YX12_seldom [zR 91, zI v1] (F, D, n, sl) (zcI F n sl r) := by
  intro r hr
  refine zMet_of (plainFor_of_name (by decide)) (fun _ h => (nomatch h)) (Nat.le_of_ble_eq_true rfl) ?_
  have hz : zO l E (d + 2) YX12_seldom 0 [(0, zR 91), (1, zI v1)] [] (F, D, n, sl) (zcI F n sl) (fX12_seldom F  v1 D) := by
    unfold fX12_seldom
    refine zO_iload_n dX12_seldom_0 rfl ?_
    refine zO_iconst dX12_seldom_1 (by decide) ?_
    refine zO_icmp_eq (tgt := 23) dX12_seldom_2 rfl (fun c2 => ?_) (fun c2 => ?_)
    · refine zO_aload_n dX12_seldom_23 rfl (zR_P _) ?_
      refine zO_callV (Y' := YX12_questions) (cw := zcI F n sl) (as := []) (rest := []) (na := 0) (ci := 12) rfl dX12_seldom_24 wC_X12_questions wN_X12 wM_X12_146 wI_X12_questions wV_X12_questions (by decide) (by decide) rfl rfl (Nat.le_of_ble_eq_true rfl) rfl (by decide) (gk_91 hG) (fun r hr => zMet_cast (Nat.add_assoc d 1 0) (mX12_questions (d := d + 1) hG  r hr)) ?_
      rintro ⟨r_1, D_2⟩ -
      show zO _ _ _ _ _ _ [zI r_1] (F, D_2, n, sl) _ _
      refine zO_if_ne (tgt := 32) dX12_seldom_27 rfl (fun c27 => ?_) (fun c27 => ?_)
      · refine zO_iconst dX12_seldom_30 (by decide) ?_
        exact zO_ret (rv := some (zI (-1))) dX12_seldom_31 rfl rfl rfl
      · refine zO_ldc (n := 1000000) dX12_seldom_32 wK_X12_185 (by decide) ?_
        refine zO_istore_n dX12_seldom_34 (by decide) ?_
        refine zO_ls (ls' := [(0, zR 91), (1, zI v1), (2, zI 1000000)]) rfl ?_
        refine zO_iconst dX12_seldom_35 (by decide) ?_
        refine zO_istore_n dX12_seldom_36 (by decide) ?_
        refine zO_ls (ls' := [(0, zR 91), (1, zI v1), (2, zI 1000000), (3, zI 0)]) rfl ?_
        refine zO_live [0, 2, 3] ?_
        exact sX12_seldom_37 hG zfu 1000000 0 D_2
    · refine zO_aload_n dX12_seldom_5 rfl (zR_P _) ?_
      refine zO_iload_n dX12_seldom_6 rfl ?_
      refine zO_callV (Y' := YX12_isQuestion) (cw := zcI F n sl) (as := [zI v1]) (rest := []) (na := 1) (ci := 12) rfl dX12_seldom_7 wC_X12_isQuestion wN_X12 wM_X12_158 wI_X12_isQuestion wV_X12_isQuestion (by decide) (by decide) rfl rfl (Nat.le_of_ble_eq_true rfl) rfl (by decide) (gk_91 hG) (fun r hr => zMet_cast (Nat.add_assoc d 0 1) (mX12_isQuestion (d := d + 0) hG v1 r hr)) ?_
      rintro ⟨r_13, D_14⟩ -
      show zO _ _ _ _ _ _ [zI r_13] (F, D_14, n, sl) _ _
      refine zO_if_eq (tgt := 21) dX12_seldom_10 rfl (fun c10 => ?_) (fun c10 => ?_)
      · refine zO_iconst dX12_seldom_21 (by decide) ?_
        exact zO_ret (rv := some (zI (-1))) dX12_seldom_22 rfl rfl rfl
      · refine zO_aload_n dX12_seldom_13 rfl (zR_P _) ?_
        refine zO_iload_n dX12_seldom_14 rfl ?_
        refine zO_callV (Y' := YX12_seldomOf) (cw := zcI F n sl) (as := [zI v1]) (rest := []) (na := 1) (ci := 12) rfl dX12_seldom_15 wC_X12_seldomOf wN_X12 wM_X12_490 wI_X12_seldomOf wV_X12_seldomOf (by decide) (by decide) rfl rfl (Nat.le_of_ble_eq_true rfl) rfl (by decide) (gk_91 hG) (fun r hr => zMet_cast (Nat.add_assoc d 0 1) (mX12_seldomOf (d := d + 0) hG v1 r hr)) ?_
        rintro ⟨r_15, D_16⟩ -
        show zO _ _ _ _ _ _ [zI r_15] (F, D_16, n, sl) _ _
        refine zO_goto (tgt := 22) dX12_seldom_18 rfl ?_
        exact zO_ret (rv := some (zI r_15)) dX12_seldom_22 rfl rfl rfl
  exact hz r hr
theorem dX12_draws_0 : decode cX12_draws 0 = .ok (.aload_n 0, 1) := by decide +kernel
theorem dX12_draws_1 : decode cX12_draws 1 = .ok (.ldc2_w 493, 3) := by decide +kernel
theorem dX12_draws_4 : decode cX12_draws 4 = .ok (.aload_n 0, 1) := by decide +kernel
theorem dX12_draws_5 : decode cX12_draws 5 = .ok (.getfield 495, 3) := by decide +kernel
theorem dX12_draws_8 : decode cX12_draws 8 = .ok (.i2l, 1) := by decide +kernel
theorem dX12_draws_9 : decode cX12_draws 9 = .ok (.lmul, 1) := by decide +kernel
theorem dX12_draws_10 : decode cX12_draws 10 = .ok (.ldc2_w 498, 3) := by decide +kernel
theorem dX12_draws_13 : decode cX12_draws 13 = .ok (.ladd, 1) := by decide +kernel
theorem dX12_draws_14 : decode cX12_draws 14 = .ok (.ldc2_w 500, 3) := by decide +kernel
theorem dX12_draws_17 : decode cX12_draws 17 = .ok (.lrem, 1) := by decide +kernel
theorem dX12_draws_18 : decode cX12_draws 18 = .ok (.l2i, 1) := by decide +kernel
theorem dX12_draws_19 : decode cX12_draws 19 = .ok (.putfield 495, 3) := by decide +kernel
theorem dX12_draws_22 : decode cX12_draws 22 = .ok (.aload_n 0, 1) := by decide +kernel
theorem dX12_draws_23 : decode cX12_draws 23 = .ok (.getfield 495, 3) := by decide +kernel
theorem dX12_draws_26 : decode cX12_draws 26 = .ok (.iload_n 1, 1) := by decide +kernel
theorem dX12_draws_27 : decode cX12_draws 27 = .ok (.irem, 1) := by decide +kernel
theorem dX12_draws_28 : decode cX12_draws 28 = .ok (.ireturn, 1) := by decide +kernel
abbrev YX12_draws : zY := (yX12_draws, cX12_draws, 2, (Option.some Jvm.ClassFile.FieldType.int), [])
def fX12_draws (F : zFs) (v1 : Int) (D : zDa) : Option (Int × zDa) :=
  if (-9223372036854775808 ≤ 1103 * (D 91 63) ∧ 1103 * (D 91 63) ≤ 9223372036854775807) ∧ (-9223372036854775808 ≤ (1103 * (D 91 63)) + 12345 ∧ (1103 * (D 91 63)) + 12345 ≤ 9223372036854775807) then
    zlet (zwr D 91 63 (zl2i (Int.tmod ((1103 * (D 91 63)) + 12345) 1000003))) (fun D_1 =>
      if (v1 ≠ 0) then
        some ((Int.tmod (D_1 91 63) v1), D_1)
      else none)
  else none
set_option maxHeartbeats 20000000 in
theorem mX12_draws {l : Launch} {E : zE} {d : Nat} {F : zFs} {n sl : Nat} (hG : zG F) (v1 : Int) {D : zDa} : ∀ r, fX12_draws F  v1 D = some r → zMet l E (d + 0) YX12_draws [zR 91, zI v1] (F, D, n, sl) (zcI F n sl r) := by
  intro r hr
  refine zMet_of (plainFor_of_name (by decide)) (fun _ h => (nomatch h)) (Nat.le_of_ble_eq_true rfl) ?_
  have hz : zO l E (d + 0) YX12_draws 0 [(0, zR 91), (1, zI v1)] [] (F, D, n, sl) (zcI F n sl) (fX12_draws F  v1 D) := by
    unfold fX12_draws
    refine zO_chk (fun h1 => ?_)
    refine zO_aload_n dX12_draws_0 rfl (zR_P _) ?_
    refine zO_ldc2 (n := 1103) dX12_draws_1 wK_X12_493 (by decide) ?_
    refine zO_aload_n dX12_draws_4 rfl (zR_P _) ?_
    refine gt12 (k := 63) (v := zI (D 91 63)) dX12_draws_5 wF_X12_495 (by decide) (gk_91 hG) rfl ?_
    refine zO_i2l dX12_draws_8 ?_
    refine zO_lmul dX12_draws_9 h1.1 ?_
    refine zO_ldc2 (n := 12345) dX12_draws_10 wK_X12_498 (by decide) ?_
    refine zO_ladd dX12_draws_13 h1.2 ?_
    refine zO_ldc2 (n := 1000003) dX12_draws_14 wK_X12_500 (by decide) ?_
    refine zO_lrem dX12_draws_17 (by decide) ?_
    refine zO_l2i dX12_draws_18 ?_
    refine ptI12 (k := 63) (z := (zl2i (Int.tmod ((1103 * (D 91 63)) + 12345) 1000003))) dX12_draws_19 wF_X12_495 (by decide) rfl (gk_91 hG) rfl ?_
    refine zO_letD (fun D_1 eD_1 => ?_)
    refine zO_chk (fun h2 => ?_)
    refine zO_aload_n dX12_draws_22 rfl (zR_P _) ?_
    refine gt12 (k := 63) (v := zI (D_1 91 63)) dX12_draws_23 wF_X12_495 (by decide) (gk_91 hG) rfl ?_
    refine zO_iload_n dX12_draws_26 rfl ?_
    refine zO_irem dX12_draws_27 h2 ?_
    exact zO_ret (rv := some (zI (Int.tmod (D_1 91 63) v1))) dX12_draws_28 rfl rfl rfl
  exact hz r hr
theorem dX12_nth_0 : decode cX12_nth 0 = .ok (.iconst 0, 1) := by decide +kernel
theorem dX12_nth_1 : decode cX12_nth 1 = .ok (.istore_n 2, 1) := by decide +kernel
theorem dX12_nth_2 : decode cX12_nth 2 = .ok (.iconst 0, 1) := by decide +kernel
theorem dX12_nth_3 : decode cX12_nth 3 = .ok (.istore_n 3, 1) := by decide +kernel
theorem dX12_nth_4 : decode cX12_nth 4 = .ok (.iload_n 3, 1) := by decide +kernel
theorem dX12_nth_5 : decode cX12_nth 5 = .ok (.bipush 20, 2) := by decide +kernel
theorem dX12_nth_7 : decode cX12_nth 7 = .ok (.if_icmp .ge 30, 3) := by decide +kernel
theorem dX12_nth_10 : decode cX12_nth 10 = .ok (.iload_n 0, 1) := by decide +kernel
theorem dX12_nth_11 : decode cX12_nth 11 = .ok (.iload_n 3, 1) := by decide +kernel
theorem dX12_nth_12 : decode cX12_nth 12 = .ok (.ishr, 1) := by decide +kernel
theorem dX12_nth_13 : decode cX12_nth 13 = .ok (.iconst 1, 1) := by decide +kernel
theorem dX12_nth_14 : decode cX12_nth 14 = .ok (.iand, 1) := by decide +kernel
theorem dX12_nth_15 : decode cX12_nth 15 = .ok (.ifCond .ne 6, 3) := by decide +kernel
theorem dX12_nth_18 : decode cX12_nth 18 = .ok (.goto 13, 3) := by decide +kernel
theorem dX12_nth_21 : decode cX12_nth 21 = .ok (.iload_n 2, 1) := by decide +kernel
theorem dX12_nth_22 : decode cX12_nth 22 = .ok (.iload_n 1, 1) := by decide +kernel
theorem dX12_nth_23 : decode cX12_nth 23 = .ok (.if_icmp .ne 5, 3) := by decide +kernel
theorem dX12_nth_26 : decode cX12_nth 26 = .ok (.iload_n 3, 1) := by decide +kernel
theorem dX12_nth_27 : decode cX12_nth 27 = .ok (.ireturn, 1) := by decide +kernel
theorem dX12_nth_28 : decode cX12_nth 28 = .ok (.iinc 2 1, 3) := by decide +kernel
theorem dX12_nth_31 : decode cX12_nth 31 = .ok (.iinc 3 1, 3) := by decide +kernel
theorem dX12_nth_34 : decode cX12_nth 34 = .ok (.goto (-30), 3) := by decide +kernel
theorem dX12_nth_37 : decode cX12_nth 37 = .ok (.iconst (-1), 1) := by decide +kernel
theorem dX12_nth_38 : decode cX12_nth 38 = .ok (.ireturn, 1) := by decide +kernel
abbrev YX12_nth : zY := (yX12_nth, cX12_nth, 4, (Option.some Jvm.ClassFile.FieldType.int), [])
def fX12_nth_31 (F : zFs) (k_4 : Int → Int → zDa → Option (Int × zDa)) (o0 : Int) (o1 : Int) (v2 : Int) (v3 : Int) (D : zDa) : Option (Int × zDa) :=
  if (-2147483648 ≤ v3 + 1 ∧ v3 + 1 ≤ 2147483647) then
    k_4 v2 (v3 + 1) D
  else none
def fX12_nth_4 (F : zFs) (o0 : Int) (o1 : Int)  (k_4 : Int → Int → zDa → Option (Int × zDa)) (v2 : Int) (v3 : Int) (D : zDa) : Option (Int × zDa) :=
  if v3 < 20 then
    if (zand (zshr o0 v3) 1) = 0 then
      fX12_nth_31 F k_4 o0 o1 v2 v3 D
    else
      if v2 = o1 then
        some (v3, D)
      else
        if (-2147483648 ≤ v2 + 1 ∧ v2 + 1 ≤ 2147483647) then
          fX12_nth_31 F k_4 o0 o1 (v2 + 1) v3 D
        else none
  else
    some ((-1), D)
def fX12_nth (F : zFs) (v0 : Int) (v1 : Int) (D : zDa) : Option (Int × zDa) :=
  zfix (fun _ _ _ => none) (fX12_nth_4 F v0 v1) zfu 0 0 D
set_option maxHeartbeats 20000000 in
theorem sX12_nth_31 {l : Launch} {E : zE} {d : Nat} {F : zFs} {n sl : Nat} (hG : zG F)  (o0 : Int) (o1 : Int) (v2 : Int) (v3 : Int) (k_4 : Int → Int → zDa → Option (Int × zDa)) (hk_4 : ∀ (u2 : Int) (u3 : Int) (D : zDa), zO l E (d + 0) YX12_nth 4 [(0, zI o0), (1, zI o1), (2, zI u2), (3, zI u3)] [] (F, D, n, sl) (zcI F n sl) (k_4 u2 u3 D)) (D : zDa) : zO l E (d + 0) YX12_nth 31 [(0, zI o0), (1, zI o1), (2, zI v2), (3, zI v3)] [] (F, D, n, sl) (zcI F n sl) (fX12_nth_31 F k_4 o0 o1 v2 v3 D) := by
  unfold fX12_nth_31
  refine zO_chk (fun h1 => ?_)
  refine zO_iinc dX12_nth_31 rfl h1 (by decide) ?_
  refine zO_ls (ls' := [(0, zI o0), (1, zI o1), (2, zI v2), (3, zI (v3 + 1))]) rfl ?_
  refine zO_goto (tgt := 4) dX12_nth_34 rfl ?_
  refine zO_live [0, 1, 2, 3] ?_
  exact hk_4 v2 (v3 + 1) D
set_option maxHeartbeats 20000000 in
theorem sX12_nth_4 {l : Launch} {E : zE} {d : Nat} {F : zFs} {n sl : Nat} (hG : zG F)  (o0 : Int) (o1 : Int)   : ∀ (N : Nat) (v2 : Int) (v3 : Int) (D : zDa), zO l E (d + 0) YX12_nth 4 [(0, zI o0), (1, zI o1), (2, zI v2), (3, zI v3)] [] (F, D, n, sl) (zcI F n sl) (zfix (fun _ _ _ => none) (fX12_nth_4 F o0 o1) N v2 v3 D) := by
  intro N
  induction N with
  | zero => intro v2 v3 D; exact zO_none
  | succ N hk_4 =>
    intro v2 v3 D
    show zO _ _ _ _ _ _ _ _ _ ((fX12_nth_4 F o0 o1) (zfix (fun _ _ _ => none) (fX12_nth_4 F o0 o1) N) v2 v3 D)
    unfold fX12_nth_4
    refine zO_iload_n dX12_nth_4 rfl ?_
    refine zO_bipush dX12_nth_5 (by decide) ?_
    refine zO_icmp_ge (tgt := 37) dX12_nth_7 rfl (fun c7 => ?_) (fun c7 => ?_)
    · refine zO_iload_n dX12_nth_10 rfl ?_
      refine zO_iload_n dX12_nth_11 rfl ?_
      refine zO_ishr dX12_nth_12 ?_
      refine zO_iconst dX12_nth_13 (by decide) ?_
      refine zO_iand dX12_nth_14 ?_
      refine zO_if_ne (tgt := 21) dX12_nth_15 rfl (fun c15 => ?_) (fun c15 => ?_)
      · refine zO_goto (tgt := 31) dX12_nth_18 rfl ?_
        refine zO_live [0, 1, 2, 3] ?_
        exact sX12_nth_31 hG o0 o1 v2 v3 _ hk_4 D
      · refine zO_iload_n dX12_nth_21 rfl ?_
        refine zO_iload_n dX12_nth_22 rfl ?_
        refine zO_icmp_ne (tgt := 28) dX12_nth_23 rfl (fun c23 => ?_) (fun c23 => ?_)
        · refine zO_iload_n dX12_nth_26 rfl ?_
          exact zO_ret (rv := some (zI v3)) dX12_nth_27 rfl rfl rfl
        · refine zO_chk (fun h2 => ?_)
          refine zO_iinc dX12_nth_28 rfl h2 (by decide) ?_
          refine zO_ls (ls' := [(0, zI o0), (1, zI o1), (2, zI (v2 + 1)), (3, zI v3)]) rfl ?_
          refine zO_live [0, 1, 2, 3] ?_
          exact sX12_nth_31 hG o0 o1 (v2 + 1) v3 _ hk_4 D
    · refine zO_iconst dX12_nth_37 (by decide) ?_
      exact zO_ret (rv := some (zI (-1))) dX12_nth_38 rfl rfl rfl
set_option maxHeartbeats 20000000 in
theorem mX12_nth {l : Launch} {E : zE} {d : Nat} {F : zFs} {n sl : Nat} (hG : zG F) (v0 : Int) (v1 : Int) {D : zDa} : ∀ r, fX12_nth F  v0 v1 D = some r → zMet l E (d + 0) YX12_nth [zI v0, zI v1] (F, D, n, sl) (zcI F n sl r) := by
  intro r hr
  refine zMet_of (plainFor_of_name (by decide)) (fun _ h => (nomatch h)) (Nat.le_of_ble_eq_true rfl) ?_
  have hz : zO l E (d + 0) YX12_nth 0 [(0, zI v0), (1, zI v1)] [] (F, D, n, sl) (zcI F n sl) (fX12_nth F  v0 v1 D) := by
    unfold fX12_nth
    refine zO_iconst dX12_nth_0 (by decide) ?_
    refine zO_istore_n dX12_nth_1 (by decide) ?_
    refine zO_ls (ls' := [(0, zI v0), (1, zI v1), (2, zI 0)]) rfl ?_
    refine zO_iconst dX12_nth_2 (by decide) ?_
    refine zO_istore_n dX12_nth_3 (by decide) ?_
    refine zO_ls (ls' := [(0, zI v0), (1, zI v1), (2, zI 0), (3, zI 0)]) rfl ?_
    refine zO_live [0, 1, 2, 3] ?_
    exact sX12_nth_4 hG v0 v1 zfu 0 0 D
  exact hz r hr
theorem dX12_ones_0 : decode cX12_ones 0 = .ok (.iconst 0, 1) := by decide +kernel
theorem dX12_ones_1 : decode cX12_ones 1 = .ok (.istore_n 1, 1) := by decide +kernel
theorem dX12_ones_2 : decode cX12_ones 2 = .ok (.iconst 0, 1) := by decide +kernel
theorem dX12_ones_3 : decode cX12_ones 3 = .ok (.istore_n 2, 1) := by decide +kernel
theorem dX12_ones_4 : decode cX12_ones 4 = .ok (.iload_n 2, 1) := by decide +kernel
theorem dX12_ones_5 : decode cX12_ones 5 = .ok (.bipush 20, 2) := by decide +kernel
theorem dX12_ones_7 : decode cX12_ones 7 = .ok (.if_icmp .ge 17, 3) := by decide +kernel
theorem dX12_ones_10 : decode cX12_ones 10 = .ok (.iload_n 1, 1) := by decide +kernel
theorem dX12_ones_11 : decode cX12_ones 11 = .ok (.iload_n 0, 1) := by decide +kernel
theorem dX12_ones_12 : decode cX12_ones 12 = .ok (.iload_n 2, 1) := by decide +kernel
theorem dX12_ones_13 : decode cX12_ones 13 = .ok (.ishr, 1) := by decide +kernel
theorem dX12_ones_14 : decode cX12_ones 14 = .ok (.iconst 1, 1) := by decide +kernel
theorem dX12_ones_15 : decode cX12_ones 15 = .ok (.iand, 1) := by decide +kernel
theorem dX12_ones_16 : decode cX12_ones 16 = .ok (.iadd, 1) := by decide +kernel
theorem dX12_ones_17 : decode cX12_ones 17 = .ok (.istore_n 1, 1) := by decide +kernel
theorem dX12_ones_18 : decode cX12_ones 18 = .ok (.iinc 2 1, 3) := by decide +kernel
theorem dX12_ones_21 : decode cX12_ones 21 = .ok (.goto (-17), 3) := by decide +kernel
theorem dX12_ones_24 : decode cX12_ones 24 = .ok (.iload_n 1, 1) := by decide +kernel
theorem dX12_ones_25 : decode cX12_ones 25 = .ok (.ireturn, 1) := by decide +kernel
abbrev YX12_ones : zY := (yX12_ones, cX12_ones, 3, (Option.some Jvm.ClassFile.FieldType.int), [])
def fX12_ones_4 (F : zFs) (o0 : Int)  (k_4 : Int → Int → zDa → Option (Int × zDa)) (v1 : Int) (v2 : Int) (D : zDa) : Option (Int × zDa) :=
  if v2 < 20 then
    if (-2147483648 ≤ v1 + (zand (zshr o0 v2) 1) ∧ v1 + (zand (zshr o0 v2) 1) ≤ 2147483647) then
      zlet ((v1 + (zand (zshr o0 v2) 1))) (fun x1_1 =>
        if (-2147483648 ≤ v2 + 1 ∧ v2 + 1 ≤ 2147483647) then
          k_4 x1_1 (v2 + 1) D
        else none)
    else none
  else
    some (v1, D)
def fX12_ones (F : zFs) (v0 : Int) (D : zDa) : Option (Int × zDa) :=
  zfix (fun _ _ _ => none) (fX12_ones_4 F v0) zfu 0 0 D
set_option maxHeartbeats 20000000 in
theorem sX12_ones_4 {l : Launch} {E : zE} {d : Nat} {F : zFs} {n sl : Nat} (hG : zG F)  (o0 : Int)   : ∀ (N : Nat) (v1 : Int) (v2 : Int) (D : zDa), zO l E (d + 0) YX12_ones 4 [(0, zI o0), (1, zI v1), (2, zI v2)] [] (F, D, n, sl) (zcI F n sl) (zfix (fun _ _ _ => none) (fX12_ones_4 F o0) N v1 v2 D) := by
  intro N
  induction N with
  | zero => intro v1 v2 D; exact zO_none
  | succ N hk_4 =>
    intro v1 v2 D
    show zO _ _ _ _ _ _ _ _ _ ((fX12_ones_4 F o0) (zfix (fun _ _ _ => none) (fX12_ones_4 F o0) N) v1 v2 D)
    unfold fX12_ones_4
    refine zO_iload_n dX12_ones_4 rfl ?_
    refine zO_bipush dX12_ones_5 (by decide) ?_
    refine zO_icmp_ge (tgt := 24) dX12_ones_7 rfl (fun c7 => ?_) (fun c7 => ?_)
    · refine zO_chk (fun h1 => ?_)
      refine zO_iload_n dX12_ones_10 rfl ?_
      refine zO_iload_n dX12_ones_11 rfl ?_
      refine zO_iload_n dX12_ones_12 rfl ?_
      refine zO_ishr dX12_ones_13 ?_
      refine zO_iconst dX12_ones_14 (by decide) ?_
      refine zO_iand dX12_ones_15 ?_
      refine zO_iadd dX12_ones_16 h1 ?_
      refine zO_letI (fun x1_1 ex1_1 => ?_)
      refine zO_istore_n dX12_ones_17 (by decide) ?_
      refine zO_ls (ls' := [(0, zI o0), (1, zI x1_1), (2, zI v2)]) rfl ?_
      refine zO_chk (fun h2 => ?_)
      refine zO_iinc dX12_ones_18 rfl h2 (by decide) ?_
      refine zO_ls (ls' := [(0, zI o0), (1, zI x1_1), (2, zI (v2 + 1))]) rfl ?_
      refine zO_goto (tgt := 4) dX12_ones_21 rfl ?_
      refine zO_live [0, 1, 2] ?_
      exact hk_4 x1_1 (v2 + 1) D
    · refine zO_iload_n dX12_ones_24 rfl ?_
      exact zO_ret (rv := some (zI v1)) dX12_ones_25 rfl rfl rfl
set_option maxHeartbeats 20000000 in
theorem mX12_ones {l : Launch} {E : zE} {d : Nat} {F : zFs} {n sl : Nat} (hG : zG F) (v0 : Int) {D : zDa} : ∀ r, fX12_ones F  v0 D = some r → zMet l E (d + 0) YX12_ones [zI v0] (F, D, n, sl) (zcI F n sl r) := by
  intro r hr
  refine zMet_of (plainFor_of_name (by decide)) (fun _ h => (nomatch h)) (Nat.le_of_ble_eq_true rfl) ?_
  have hz : zO l E (d + 0) YX12_ones 0 [(0, zI v0)] [] (F, D, n, sl) (zcI F n sl) (fX12_ones F  v0 D) := by
    unfold fX12_ones
    refine zO_iconst dX12_ones_0 (by decide) ?_
    refine zO_istore_n dX12_ones_1 (by decide) ?_
    refine zO_ls (ls' := [(0, zI v0), (1, zI 0)]) rfl ?_
    refine zO_iconst dX12_ones_2 (by decide) ?_
    refine zO_istore_n dX12_ones_3 (by decide) ?_
    refine zO_ls (ls' := [(0, zI v0), (1, zI 0), (2, zI 0)]) rfl ?_
    refine zO_live [0, 1, 2] ?_
    exact sX12_ones_4 hG v0 zfu 0 0 D
  exact hz r hr
