/-! printed by wip/gen/emit_all.py: X10_holds J9_min_f86c9 J9_max_f86c9 X10_told X10_hoursOf X4_firstTakes X0_layAll X0_lay X0_dayOf X1_levelBehind X1_isHelped X1_hoursFor X1_drop J9_min_7cf53 X1_holdLessons X10_daysKept X1_forget X1_refresh -/
theorem dX10_holds_0 : decode cX10_holds 0 = .ok (.iload_n 2, 1) := by decide +kernel
theorem dX10_holds_1 : decode cX10_holds 1 = .ok (.istore 4, 2) := by decide +kernel
theorem dX10_holds_3 : decode cX10_holds 3 = .ok (.aload_n 0, 1) := by decide +kernel
theorem dX10_holds_4 : decode cX10_holds 4 = .ok (.iconst 0, 1) := by decide +kernel
theorem dX10_holds_5 : decode cX10_holds 5 = .ok (.putfield 81, 3) := by decide +kernel
theorem dX10_holds_8 : decode cX10_holds 8 = .ok (.iconst 0, 1) := by decide +kernel
theorem dX10_holds_9 : decode cX10_holds 9 = .ok (.istore 5, 2) := by decide +kernel
theorem dX10_holds_11 : decode cX10_holds 11 = .ok (.iload 5, 2) := by decide +kernel
theorem dX10_holds_13 : decode cX10_holds 13 = .ok (.sipush 412, 3) := by decide +kernel
theorem dX10_holds_16 : decode cX10_holds 16 = .ok (.if_icmp .ge 172, 3) := by decide +kernel
theorem dX10_holds_19 : decode cX10_holds 19 = .ok (.iload 4, 2) := by decide +kernel
theorem dX10_holds_21 : decode cX10_holds 21 = .ok (.ifCond .lt 167, 3) := by decide +kernel
theorem dX10_holds_24 : decode cX10_holds 24 = .ok (.iload 4, 2) := by decide +kernel
theorem dX10_holds_26 : decode cX10_holds 26 = .ok (.iload_n 3, 1) := by decide +kernel
theorem dX10_holds_27 : decode cX10_holds 27 = .ok (.if_icmp .ge 161, 3) := by decide +kernel
theorem dX10_holds_30 : decode cX10_holds 30 = .ok (.aload_n 1, 1) := by decide +kernel
theorem dX10_holds_31 : decode cX10_holds 31 = .ok (.getfield 84, 3) := by decide +kernel
theorem dX10_holds_34 : decode cX10_holds 34 = .ok (.iload 4, 2) := by decide +kernel
theorem dX10_holds_36 : decode cX10_holds 36 = .ok (.iaload, 1) := by decide +kernel
theorem dX10_holds_37 : decode cX10_holds 37 = .ok (.bipush 15, 2) := by decide +kernel
theorem dX10_holds_39 : decode cX10_holds 39 = .ok (.iand, 1) := by decide +kernel
theorem dX10_holds_40 : decode cX10_holds 40 = .ok (.istore 6, 2) := by decide +kernel
theorem dX10_holds_42 : decode cX10_holds 42 = .ok (.aload_n 1, 1) := by decide +kernel
theorem dX10_holds_43 : decode cX10_holds 43 = .ok (.getfield 84, 3) := by decide +kernel
theorem dX10_holds_46 : decode cX10_holds 46 = .ok (.iload 4, 2) := by decide +kernel
theorem dX10_holds_48 : decode cX10_holds 48 = .ok (.iaload, 1) := by decide +kernel
theorem dX10_holds_49 : decode cX10_holds 49 = .ok (.iconst 4, 1) := by decide +kernel
theorem dX10_holds_50 : decode cX10_holds 50 = .ok (.ishr, 1) := by decide +kernel
theorem dX10_holds_51 : decode cX10_holds 51 = .ok (.istore 7, 2) := by decide +kernel
theorem dX10_holds_53 : decode cX10_holds 53 = .ok (.iinc 4 1, 3) := by decide +kernel
theorem dX10_holds_56 : decode cX10_holds 56 = .ok (.iload 6, 2) := by decide +kernel
theorem dX10_holds_58 : decode cX10_holds 58 = .ok (.ifCond .ne 12, 3) := by decide +kernel
theorem dX10_holds_61 : decode cX10_holds 61 = .ok (.aload_n 0, 1) := by decide +kernel
theorem dX10_holds_62 : decode cX10_holds 62 = .ok (.iload 7, 2) := by decide +kernel
theorem dX10_holds_64 : decode cX10_holds 64 = .ok (.invokevirtual 87, 3) := by decide +kernel
theorem dX10_holds_67 : decode cX10_holds 67 = .ok (.goto 115, 3) := by decide +kernel
theorem dX10_holds_70 : decode cX10_holds 70 = .ok (.iload 6, 2) := by decide +kernel
theorem dX10_holds_72 : decode cX10_holds 72 = .ok (.iconst 1, 1) := by decide +kernel
theorem dX10_holds_73 : decode cX10_holds 73 = .ok (.if_icmp .ne 17, 3) := by decide +kernel
theorem dX10_holds_76 : decode cX10_holds 76 = .ok (.aload_n 0, 1) := by decide +kernel
theorem dX10_holds_77 : decode cX10_holds 77 = .ok (.aload_n 0, 1) := by decide +kernel
theorem dX10_holds_78 : decode cX10_holds 78 = .ok (.getfield 11, 3) := by decide +kernel
theorem dX10_holds_81 : decode cX10_holds 81 = .ok (.iload 7, 2) := by decide +kernel
theorem dX10_holds_83 : decode cX10_holds 83 = .ok (.iaload, 1) := by decide +kernel
theorem dX10_holds_84 : decode cX10_holds 84 = .ok (.invokevirtual 87, 3) := by decide +kernel
theorem dX10_holds_87 : decode cX10_holds 87 = .ok (.goto 95, 3) := by decide +kernel
theorem dX10_holds_90 : decode cX10_holds 90 = .ok (.iload 6, 2) := by decide +kernel
theorem dX10_holds_92 : decode cX10_holds 92 = .ok (.bipush 10, 2) := by decide +kernel
theorem dX10_holds_94 : decode cX10_holds 94 = .ok (.if_icmp .eq 10, 3) := by decide +kernel
theorem dX10_holds_97 : decode cX10_holds 97 = .ok (.iload 6, 2) := by decide +kernel
theorem dX10_holds_99 : decode cX10_holds 99 = .ok (.bipush 11, 2) := by decide +kernel
theorem dX10_holds_101 : decode cX10_holds 101 = .ok (.if_icmp .ne 70, 3) := by decide +kernel
theorem dX10_holds_104 : decode cX10_holds 104 = .ok (.aload_n 0, 1) := by decide +kernel
theorem dX10_holds_105 : decode cX10_holds 105 = .ok (.getfield 81, 3) := by decide +kernel
theorem dX10_holds_108 : decode cX10_holds 108 = .ok (.ifCond .le 35, 3) := by decide +kernel
theorem dX10_holds_111 : decode cX10_holds 111 = .ok (.aload_n 0, 1) := by decide +kernel
theorem dX10_holds_112 : decode cX10_holds 112 = .ok (.getfield 17, 3) := by decide +kernel
theorem dX10_holds_115 : decode cX10_holds 115 = .ok (.aload_n 0, 1) := by decide +kernel
theorem dX10_holds_116 : decode cX10_holds 116 = .ok (.getfield 81, 3) := by decide +kernel
theorem dX10_holds_119 : decode cX10_holds 119 = .ok (.iconst 1, 1) := by decide +kernel
theorem dX10_holds_120 : decode cX10_holds 120 = .ok (.isub, 1) := by decide +kernel
theorem dX10_holds_121 : decode cX10_holds 121 = .ok (.laload, 1) := by decide +kernel
theorem dX10_holds_122 : decode cX10_holds 122 = .ok (.iload 6, 2) := by decide +kernel
theorem dX10_holds_124 : decode cX10_holds 124 = .ok (.bipush 11, 2) := by decide +kernel
theorem dX10_holds_126 : decode cX10_holds 126 = .ok (.if_icmp .ne 7, 3) := by decide +kernel
theorem dX10_holds_129 : decode cX10_holds 129 = .ok (.iconst 1, 1) := by decide +kernel
theorem dX10_holds_130 : decode cX10_holds 130 = .ok (.goto 4, 3) := by decide +kernel
theorem dX10_holds_133 : decode cX10_holds 133 = .ok (.iconst 0, 1) := by decide +kernel
theorem dX10_holds_134 : decode cX10_holds 134 = .ok (.i2l, 1) := by decide +kernel
theorem dX10_holds_135 : decode cX10_holds 135 = .ok (.lcmp, 1) := by decide +kernel
theorem dX10_holds_136 : decode cX10_holds 136 = .ok (.ifCond .ne 7, 3) := by decide +kernel
theorem dX10_holds_139 : decode cX10_holds 139 = .ok (.iconst 1, 1) := by decide +kernel
theorem dX10_holds_140 : decode cX10_holds 140 = .ok (.goto 4, 3) := by decide +kernel
theorem dX10_holds_143 : decode cX10_holds 143 = .ok (.iconst 0, 1) := by decide +kernel
theorem dX10_holds_144 : decode cX10_holds 144 = .ok (.istore 8, 2) := by decide +kernel
theorem dX10_holds_146 : decode cX10_holds 146 = .ok (.iload 8, 2) := by decide +kernel
theorem dX10_holds_148 : decode cX10_holds 148 = .ok (.ifCond .eq 10, 3) := by decide +kernel
theorem dX10_holds_151 : decode cX10_holds 151 = .ok (.iload 7, 2) := by decide +kernel
theorem dX10_holds_153 : decode cX10_holds 153 = .ok (.istore 4, 2) := by decide +kernel
theorem dX10_holds_155 : decode cX10_holds 155 = .ok (.goto 13, 3) := by decide +kernel
theorem dX10_holds_158 : decode cX10_holds 158 = .ok (.aload_n 0, 1) := by decide +kernel
theorem dX10_holds_159 : decode cX10_holds 159 = .ok (.dup, 1) := by decide +kernel
theorem dX10_holds_160 : decode cX10_holds 160 = .ok (.getfield 81, 3) := by decide +kernel
theorem dX10_holds_163 : decode cX10_holds 163 = .ok (.iconst 1, 1) := by decide +kernel
theorem dX10_holds_164 : decode cX10_holds 164 = .ok (.isub, 1) := by decide +kernel
theorem dX10_holds_165 : decode cX10_holds 165 = .ok (.putfield 81, 3) := by decide +kernel
theorem dX10_holds_168 : decode cX10_holds 168 = .ok (.goto 14, 3) := by decide +kernel
theorem dX10_holds_171 : decode cX10_holds 171 = .ok (.aload_n 0, 1) := by decide +kernel
theorem dX10_holds_172 : decode cX10_holds 172 = .ok (.iload 6, 2) := by decide +kernel
theorem dX10_holds_174 : decode cX10_holds 174 = .ok (.invokevirtual 91, 3) := by decide +kernel
theorem dX10_holds_177 : decode cX10_holds 177 = .ok (.ifCond .ne 5, 3) := by decide +kernel
theorem dX10_holds_180 : decode cX10_holds 180 = .ok (.iconst 0, 1) := by decide +kernel
theorem dX10_holds_181 : decode cX10_holds 181 = .ok (.ireturn, 1) := by decide +kernel
theorem dX10_holds_182 : decode cX10_holds 182 = .ok (.iinc 5 1, 3) := by decide +kernel
theorem dX10_holds_185 : decode cX10_holds 185 = .ok (.goto (-174), 3) := by decide +kernel
theorem dX10_holds_188 : decode cX10_holds 188 = .ok (.aload_n 0, 1) := by decide +kernel
theorem dX10_holds_189 : decode cX10_holds 189 = .ok (.getfield 81, 3) := by decide +kernel
theorem dX10_holds_192 : decode cX10_holds 192 = .ok (.iconst 2, 1) := by decide +kernel
theorem dX10_holds_193 : decode cX10_holds 193 = .ok (.if_icmp .ne 18, 3) := by decide +kernel
theorem dX10_holds_196 : decode cX10_holds 196 = .ok (.aload_n 0, 1) := by decide +kernel
theorem dX10_holds_197 : decode cX10_holds 197 = .ok (.getfield 17, 3) := by decide +kernel
theorem dX10_holds_200 : decode cX10_holds 200 = .ok (.iconst 1, 1) := by decide +kernel
theorem dX10_holds_201 : decode cX10_holds 201 = .ok (.laload, 1) := by decide +kernel
theorem dX10_holds_202 : decode cX10_holds 202 = .ok (.lconst 1, 1) := by decide +kernel
theorem dX10_holds_203 : decode cX10_holds 203 = .ok (.lcmp, 1) := by decide +kernel
theorem dX10_holds_204 : decode cX10_holds 204 = .ok (.ifCond .ne 7, 3) := by decide +kernel
theorem dX10_holds_207 : decode cX10_holds 207 = .ok (.iconst 1, 1) := by decide +kernel
theorem dX10_holds_208 : decode cX10_holds 208 = .ok (.goto 4, 3) := by decide +kernel
theorem dX10_holds_211 : decode cX10_holds 211 = .ok (.iconst 0, 1) := by decide +kernel
theorem dX10_holds_212 : decode cX10_holds 212 = .ok (.ireturn, 1) := by decide +kernel
abbrev YX10_holds : zY := (yX10_holds, cX10_holds, 9, (Option.some Jvm.ClassFile.FieldType.boolean), [])
def fX10_holds_188 (F : zFs)   (D : zDa) : Option (Int × zDa) :=
  if (D 49 3) = 2 then
    if (D 51 1) = 1 then
      some (1, D)
    else
      some (0, D)
  else
    some (0, D)
def fX10_holds_182 (F : zFs) (k_11 : Int → Int → zDa → Option (Int × zDa)) (o1 : Nat) (o3 : Int) (v4 : Int) (v5 : Int) (D : zDa) : Option (Int × zDa) :=
  if (-2147483648 ≤ v5 + 1 ∧ v5 + 1 ≤ 2147483647) then
    k_11 v4 (v5 + 1) D
  else none
def fX10_holds_168 (F : zFs) (k_11 : Int → Int → zDa → Option (Int × zDa)) (o1 : Nat) (o3 : Int) (v4 : Int) (v5 : Int) (D : zDa) : Option (Int × zDa) :=
  fX10_holds_182 F k_11 o1 o3 v4 v5 D
def fX10_holds_144 (F : zFs) (k_11 : Int → Int → zDa → Option (Int × zDa)) (o1 : Nat) (o3 : Int) (v4 : Int) (v5 : Int) (v7 : Int) (s0 : Int) (D : zDa) : Option (Int × zDa) :=
  if s0 = 0 then
    if (-2147483648 ≤ (D 49 3) - 1 ∧ (D 49 3) - 1 ≤ 2147483647) then
      zlet (zwr D 49 3 ((D 49 3) - 1)) (fun D_8 =>
        fX10_holds_168 F k_11 o1 o3 v4 v5 D_8)
    else none
  else
    fX10_holds_168 F k_11 o1 o3 v7 v5 D
def fX10_holds_143 (F : zFs) (k_11 : Int → Int → zDa → Option (Int × zDa)) (o1 : Nat) (o3 : Int) (v4 : Int) (v5 : Int) (v7 : Int) (D : zDa) : Option (Int × zDa) :=
  fX10_holds_144 F k_11 o1 o3 v4 v5 v7 0 D
def fX10_holds_134 (F : zFs) (k_11 : Int → Int → zDa → Option (Int × zDa)) (o1 : Nat) (o3 : Int) (v4 : Int) (v5 : Int) (v7 : Int) (s0 : Int) (s1 : Int) (D : zDa) : Option (Int × zDa) :=
  if s1 = s0 then
    fX10_holds_144 F k_11 o1 o3 v4 v5 v7 1 D
  else
    fX10_holds_143 F k_11 o1 o3 v4 v5 v7 D
def fX10_holds_104 (F : zFs) (k_11 : Int → Int → zDa → Option (Int × zDa)) (o1 : Nat) (o3 : Int) (v4 : Int) (v5 : Int) (v6 : Int) (v7 : Int) (D : zDa) : Option (Int × zDa) :=
  if 0 < (D 49 3) then
    if (-2147483648 ≤ (D 49 3) - 1 ∧ (D 49 3) - 1 ≤ 2147483647) ∧ (0 ≤ ((D 49 3) - 1) ∧ ((D 49 3) - 1) < 52) then
      if v6 = 11 then
        fX10_holds_134 F k_11 o1 o3 v4 v5 v7 1 (D 51 ((D 49 3) - 1).toNat) D
      else
        fX10_holds_134 F k_11 o1 o3 v4 v5 v7 0 (D 51 ((D 49 3) - 1).toNat) D
    else none
  else
    fX10_holds_143 F k_11 o1 o3 v4 v5 v7 D
def fX10_holds_11 (F : zFs) (o1 : Nat) (o3 : Int)  (k_11 : Int → Int → zDa → Option (Int × zDa)) (v4 : Int) (v5 : Int) (D : zDa) : Option (Int × zDa) :=
  if v5 < 412 then
    if v4 < 0 then
      fX10_holds_188 F D
    else
      if v4 < o3 then
        if ((F o1).1 = 4) ∧ (0 ≤ ((F o1).2.2 3)) ∧ ((F (((F o1).2.2 3).toNat)).1 = 20) ∧ ((0 : Int) ≤ v4 ∧ (v4 : Int) < ((F (((F o1).2.2 3).toNat)).2.1 : Int)) then
          zlet ((zand (D (((F o1).2.2 3).toNat) v4.toNat) 15)) (fun x6_2 =>
            zlet ((zshr (D (((F o1).2.2 3).toNat) v4.toNat) 4)) (fun x7_3 =>
              if (-2147483648 ≤ v4 + 1 ∧ v4 + 1 ≤ 2147483647) then
                if x6_2 = 0 then
                  (fX10_push F x7_3 D).bind (fun D_5 =>
                    fX10_holds_182 F k_11 o1 o3 (v4 + 1) v5 D_5)
                else
                  if x6_2 = 1 then
                    if (0 ≤ x7_3 ∧ x7_3 < 7) then
                      (fX10_push F (D 50 x7_3.toNat) D).bind (fun D_7 =>
                        fX10_holds_182 F k_11 o1 o3 (v4 + 1) v5 D_7)
                    else none
                  else
                    if x6_2 = 10 then
                      fX10_holds_104 F k_11 o1 o3 (v4 + 1) v5 x6_2 x7_3 D
                    else
                      if x6_2 = 11 then
                        fX10_holds_104 F k_11 o1 o3 (v4 + 1) v5 x6_2 x7_3 D
                      else
                        (fX10_operate F x6_2 D).bind (fun (r_9, D_10) =>
                          if r_9 = 0 then
                            some (0, D_10)
                          else
                            fX10_holds_182 F k_11 o1 o3 (v4 + 1) v5 D_10)
              else none))
        else none
      else
        fX10_holds_188 F D
  else
    fX10_holds_188 F D
def fX10_holds (F : zFs) (a1 : Nat) (v2 : Int) (v3 : Int) (D : zDa) : Option (Int × zDa) :=
  zlet (zwr D 49 3 0) (fun D_1 =>
    zfix (fun _ _ _ => none) (fX10_holds_11 F a1 v3) zfu v2 0 D_1)
set_option maxHeartbeats 20000000 in
theorem sX10_holds_188 {l : Launch} {E : zE} {d : Nat} {F : zFs} {n sl : Nat} (hG : zG F)     (D : zDa) : zO l E (d + 1) YX10_holds 188 [(0, zR 49)] [] (F, D, n, sl) (zcI F n sl) (fX10_holds_188 F D) := by
  unfold fX10_holds_188
  refine zO_aload_n dX10_holds_188 rfl (zR_P _) ?_
  refine gt10 (k := 3) (v := zI (D 49 3)) dX10_holds_189 wF_X10_81 (by decide) (gk_49 hG) rfl ?_
  refine zO_iconst dX10_holds_192 (by decide) ?_
  refine zO_icmp_ne (tgt := 211) dX10_holds_193 rfl (fun c193 => ?_) (fun c193 => ?_)
  · refine zO_aload_n dX10_holds_196 rfl (zR_P _) ?_
    refine gt10 (k := 2) dX10_holds_197 wF_X10_17 (by decide) (gk_49 hG) (zgv (c := 10) (k := 2) rfl (Or.inl ⟨_, rfl⟩) (gf_49_2 hG)) ?_
    refine zO_iconst dX10_holds_200 (by decide) ?_
    refine zO_lald dX10_holds_201 (gk_51 hG) (gl_in (gl_51 hG) (by decide)) ?_
    refine zO_lconst dX10_holds_202 ?_
    refine zO_lif_ne (tgt := 211) dX10_holds_203 dX10_holds_204 rfl (fun c203 => ?_) (fun c203 => ?_)
    · refine zO_iconst dX10_holds_207 (by decide) ?_
      refine zO_goto (tgt := 212) dX10_holds_208 rfl ?_
      exact zO_ret (rv := some (zI 1)) dX10_holds_212 rfl rfl rfl
    · refine zO_iconst dX10_holds_211 (by decide) ?_
      exact zO_ret (rv := some (zI 0)) dX10_holds_212 rfl rfl rfl
  · refine zO_iconst dX10_holds_211 (by decide) ?_
    exact zO_ret (rv := some (zI 0)) dX10_holds_212 rfl rfl rfl
set_option maxHeartbeats 20000000 in
theorem sX10_holds_182 {l : Launch} {E : zE} {d : Nat} {F : zFs} {n sl : Nat} (hG : zG F)  (o1 : Nat) (o3 : Int) (v4 : Int) (v5 : Int) (k_11 : Int → Int → zDa → Option (Int × zDa)) (hk_11 : ∀ (u4 : Int) (u5 : Int) (D : zDa), zO l E (d + 1) YX10_holds 11 [(0, zR 49), (1, zR o1), (3, zI o3), (4, zI u4), (5, zI u5)] [] (F, D, n, sl) (zcI F n sl) (k_11 u4 u5 D)) (D : zDa) : zO l E (d + 1) YX10_holds 182 [(0, zR 49), (1, zR o1), (3, zI o3), (4, zI v4), (5, zI v5)] [] (F, D, n, sl) (zcI F n sl) (fX10_holds_182 F k_11 o1 o3 v4 v5 D) := by
  unfold fX10_holds_182
  refine zO_chk (fun h3 => ?_)
  refine zO_iinc dX10_holds_182 rfl h3 (by decide) ?_
  refine zO_ls (ls' := [(0, zR 49), (1, zR o1), (3, zI o3), (4, zI v4), (5, zI (v5 + 1))]) rfl ?_
  refine zO_goto (tgt := 11) dX10_holds_185 rfl ?_
  refine zO_live [0, 1, 3, 4, 5] ?_
  exact hk_11 v4 (v5 + 1) D
set_option maxHeartbeats 20000000 in
theorem sX10_holds_168 {l : Launch} {E : zE} {d : Nat} {F : zFs} {n sl : Nat} (hG : zG F)  (o1 : Nat) (o3 : Int) (v4 : Int) (v5 : Int) (k_11 : Int → Int → zDa → Option (Int × zDa)) (hk_11 : ∀ (u4 : Int) (u5 : Int) (D : zDa), zO l E (d + 1) YX10_holds 11 [(0, zR 49), (1, zR o1), (3, zI o3), (4, zI u4), (5, zI u5)] [] (F, D, n, sl) (zcI F n sl) (k_11 u4 u5 D)) (D : zDa) : zO l E (d + 1) YX10_holds 168 [(0, zR 49), (1, zR o1), (3, zI o3), (4, zI v4), (5, zI v5)] [] (F, D, n, sl) (zcI F n sl) (fX10_holds_168 F k_11 o1 o3 v4 v5 D) := by
  unfold fX10_holds_168
  refine zO_goto (tgt := 182) dX10_holds_168 rfl ?_
  refine zO_live [0, 1, 3, 4, 5] ?_
  exact sX10_holds_182 hG o1 o3 v4 v5 _ hk_11 D
set_option maxHeartbeats 20000000 in
theorem sX10_holds_144 {l : Launch} {E : zE} {d : Nat} {F : zFs} {n sl : Nat} (hG : zG F)  (o1 : Nat) (o3 : Int) (v4 : Int) (v5 : Int) (v7 : Int) (s0 : Int) (k_11 : Int → Int → zDa → Option (Int × zDa)) (hk_11 : ∀ (u4 : Int) (u5 : Int) (D : zDa), zO l E (d + 1) YX10_holds 11 [(0, zR 49), (1, zR o1), (3, zI o3), (4, zI u4), (5, zI u5)] [] (F, D, n, sl) (zcI F n sl) (k_11 u4 u5 D)) (D : zDa) : zO l E (d + 1) YX10_holds 144 [(0, zR 49), (1, zR o1), (3, zI o3), (4, zI v4), (5, zI v5), (7, zI v7)] [zI s0] (F, D, n, sl) (zcI F n sl) (fX10_holds_144 F k_11 o1 o3 v4 v5 v7 s0 D) := by
  unfold fX10_holds_144
  refine zO_istore dX10_holds_144 (by decide) ?_
  refine zO_ls (ls' := [(0, zR 49), (1, zR o1), (3, zI o3), (4, zI v4), (5, zI v5), (7, zI v7), (8, zI s0)]) rfl ?_
  refine zO_iload dX10_holds_146 rfl ?_
  refine zO_if_eq (tgt := 158) dX10_holds_148 rfl (fun c148 => ?_) (fun c148 => ?_)
  · refine zO_chk (fun h6 => ?_)
    refine zO_aload_n dX10_holds_158 rfl (zR_P _) ?_
    refine zO_dup dX10_holds_159 (rfl) ?_
    refine gt10 (k := 3) (v := zI (D 49 3)) dX10_holds_160 wF_X10_81 (by decide) (gk_49 hG) rfl ?_
    refine zO_iconst dX10_holds_163 (by decide) ?_
    refine zO_isub dX10_holds_164 h6 ?_
    refine ptI10 (k := 3) (z := ((D 49 3) - 1)) dX10_holds_165 wF_X10_81 (by decide) rfl (gk_49 hG) rfl ?_
    refine zO_letD (fun D_8 eD_8 => ?_)
    refine zO_live [0, 1, 3, 4, 5] ?_
    exact sX10_holds_168 hG o1 o3 v4 v5 _ hk_11 D_8
  · refine zO_iload dX10_holds_151 rfl ?_
    refine zO_istore dX10_holds_153 (by decide) ?_
    refine zO_ls (ls' := [(0, zR 49), (1, zR o1), (3, zI o3), (4, zI v7), (5, zI v5), (7, zI v7), (8, zI s0)]) rfl ?_
    refine zO_goto (tgt := 168) dX10_holds_155 rfl ?_
    refine zO_live [0, 1, 3, 4, 5] ?_
    exact sX10_holds_168 hG o1 o3 v7 v5 _ hk_11 D
set_option maxHeartbeats 20000000 in
theorem sX10_holds_143 {l : Launch} {E : zE} {d : Nat} {F : zFs} {n sl : Nat} (hG : zG F)  (o1 : Nat) (o3 : Int) (v4 : Int) (v5 : Int) (v7 : Int) (k_11 : Int → Int → zDa → Option (Int × zDa)) (hk_11 : ∀ (u4 : Int) (u5 : Int) (D : zDa), zO l E (d + 1) YX10_holds 11 [(0, zR 49), (1, zR o1), (3, zI o3), (4, zI u4), (5, zI u5)] [] (F, D, n, sl) (zcI F n sl) (k_11 u4 u5 D)) (D : zDa) : zO l E (d + 1) YX10_holds 143 [(0, zR 49), (1, zR o1), (3, zI o3), (4, zI v4), (5, zI v5), (7, zI v7)] [] (F, D, n, sl) (zcI F n sl) (fX10_holds_143 F k_11 o1 o3 v4 v5 v7 D) := by
  unfold fX10_holds_143
  refine zO_iconst dX10_holds_143 (by decide) ?_
  refine zO_live [0, 1, 3, 4, 5, 7] ?_
  exact sX10_holds_144 hG o1 o3 v4 v5 v7 0 _ hk_11 D
set_option maxHeartbeats 20000000 in
theorem sX10_holds_134 {l : Launch} {E : zE} {d : Nat} {F : zFs} {n sl : Nat} (hG : zG F)  (o1 : Nat) (o3 : Int) (v4 : Int) (v5 : Int) (v7 : Int) (s0 : Int) (s1 : Int) (k_11 : Int → Int → zDa → Option (Int × zDa)) (hk_11 : ∀ (u4 : Int) (u5 : Int) (D : zDa), zO l E (d + 1) YX10_holds 11 [(0, zR 49), (1, zR o1), (3, zI o3), (4, zI u4), (5, zI u5)] [] (F, D, n, sl) (zcI F n sl) (k_11 u4 u5 D)) (D : zDa) : zO l E (d + 1) YX10_holds 134 [(0, zR 49), (1, zR o1), (3, zI o3), (4, zI v4), (5, zI v5), (7, zI v7)] [zI s0, zL s1] (F, D, n, sl) (zcI F n sl) (fX10_holds_134 F k_11 o1 o3 v4 v5 v7 s0 s1 D) := by
  unfold fX10_holds_134
  refine zO_i2l dX10_holds_134 ?_
  refine zO_lif_ne (tgt := 143) dX10_holds_135 dX10_holds_136 rfl (fun c135 => ?_) (fun c135 => ?_)
  · refine zO_iconst dX10_holds_139 (by decide) ?_
    refine zO_goto (tgt := 144) dX10_holds_140 rfl ?_
    refine zO_live [0, 1, 3, 4, 5, 7] ?_
    exact sX10_holds_144 hG o1 o3 v4 v5 v7 1 _ hk_11 D
  · refine zO_live [0, 1, 3, 4, 5, 7] ?_
    exact sX10_holds_143 hG o1 o3 v4 v5 v7 _ hk_11 D
set_option maxHeartbeats 20000000 in
theorem sX10_holds_104 {l : Launch} {E : zE} {d : Nat} {F : zFs} {n sl : Nat} (hG : zG F)  (o1 : Nat) (o3 : Int) (v4 : Int) (v5 : Int) (v6 : Int) (v7 : Int) (k_11 : Int → Int → zDa → Option (Int × zDa)) (hk_11 : ∀ (u4 : Int) (u5 : Int) (D : zDa), zO l E (d + 1) YX10_holds 11 [(0, zR 49), (1, zR o1), (3, zI o3), (4, zI u4), (5, zI u5)] [] (F, D, n, sl) (zcI F n sl) (k_11 u4 u5 D)) (D : zDa) : zO l E (d + 1) YX10_holds 104 [(0, zR 49), (1, zR o1), (3, zI o3), (4, zI v4), (5, zI v5), (6, zI v6), (7, zI v7)] [] (F, D, n, sl) (zcI F n sl) (fX10_holds_104 F k_11 o1 o3 v4 v5 v6 v7 D) := by
  unfold fX10_holds_104
  refine zO_aload_n dX10_holds_104 rfl (zR_P _) ?_
  refine gt10 (k := 3) (v := zI (D 49 3)) dX10_holds_105 wF_X10_81 (by decide) (gk_49 hG) rfl ?_
  refine zO_if_le (tgt := 143) dX10_holds_108 rfl (fun c108 => ?_) (fun c108 => ?_)
  · refine zO_chk (fun h5 => ?_)
    refine zO_aload_n dX10_holds_111 rfl (zR_P _) ?_
    refine gt10 (k := 2) dX10_holds_112 wF_X10_17 (by decide) (gk_49 hG) (zgv (c := 10) (k := 2) rfl (Or.inl ⟨_, rfl⟩) (gf_49_2 hG)) ?_
    refine zO_aload_n dX10_holds_115 rfl (zR_P _) ?_
    refine gt10 (k := 3) (v := zI (D 49 3)) dX10_holds_116 wF_X10_81 (by decide) (gk_49 hG) rfl ?_
    refine zO_iconst dX10_holds_119 (by decide) ?_
    refine zO_isub dX10_holds_120 h5.1 ?_
    refine zO_lald dX10_holds_121 (gk_51 hG) (gl_in (gl_51 hG) h5.2) ?_
    refine zO_iload dX10_holds_122 rfl ?_
    refine zO_bipush dX10_holds_124 (by decide) ?_
    refine zO_icmp_ne (tgt := 133) dX10_holds_126 rfl (fun c126 => ?_) (fun c126 => ?_)
    · refine zO_iconst dX10_holds_129 (by decide) ?_
      refine zO_goto (tgt := 134) dX10_holds_130 rfl ?_
      refine zO_live [0, 1, 3, 4, 5, 7] ?_
      exact sX10_holds_134 hG o1 o3 v4 v5 v7 1 (D 51 ((D 49 3) - 1).toNat) _ hk_11 D
    · refine zO_iconst dX10_holds_133 (by decide) ?_
      refine zO_live [0, 1, 3, 4, 5, 7] ?_
      exact sX10_holds_134 hG o1 o3 v4 v5 v7 0 (D 51 ((D 49 3) - 1).toNat) _ hk_11 D
  · refine zO_live [0, 1, 3, 4, 5, 7] ?_
    exact sX10_holds_143 hG o1 o3 v4 v5 v7 _ hk_11 D
set_option maxHeartbeats 20000000 in
theorem sX10_holds_11 {l : Launch} {E : zE} {d : Nat} {F : zFs} {n sl : Nat} (hG : zG F)  (o1 : Nat) (o3 : Int)   : ∀ (N : Nat) (v4 : Int) (v5 : Int) (D : zDa), zO l E (d + 1) YX10_holds 11 [(0, zR 49), (1, zR o1), (3, zI o3), (4, zI v4), (5, zI v5)] [] (F, D, n, sl) (zcI F n sl) (zfix (fun _ _ _ => none) (fX10_holds_11 F o1 o3) N v4 v5 D) := by
  intro N
  induction N with
  | zero => intro v4 v5 D; exact zO_none
  | succ N hk_11 =>
    intro v4 v5 D
    show zO _ _ _ _ _ _ _ _ _ ((fX10_holds_11 F o1 o3) (zfix (fun _ _ _ => none) (fX10_holds_11 F o1 o3) N) v4 v5 D)
    unfold fX10_holds_11
    refine zO_iload dX10_holds_11 rfl ?_
    refine zO_sipush dX10_holds_13 (by decide) ?_
    refine zO_icmp_ge (tgt := 188) dX10_holds_16 rfl (fun c16 => ?_) (fun c16 => ?_)
    · refine zO_iload dX10_holds_19 rfl ?_
      refine zO_if_lt (tgt := 188) dX10_holds_21 rfl (fun c21 => ?_) (fun c21 => ?_)
      · refine zO_live [0] ?_
        exact sX10_holds_188 hG D
      · refine zO_iload dX10_holds_24 rfl ?_
        refine zO_iload_n dX10_holds_26 rfl ?_
        refine zO_icmp_ge (tgt := 188) dX10_holds_27 rfl (fun c27 => ?_) (fun c27 => ?_)
        · refine zO_chk (fun h1 => ?_)
          refine zO_aload_n dX10_holds_30 rfl (zR_P _) ?_
          refine gt3 (k := 3) (v := zq ((F o1).2.2 3)) dX10_holds_31 wF_X10_84 (by decide) h1.1 rfl ?_
          refine zO_iload dX10_holds_34 rfl ?_
          refine zO_q1 h1.2.1 ?_
          refine zO_iald dX10_holds_36 h1.2.2.1 h1.2.2.2 ?_
          refine zO_bipush dX10_holds_37 (by decide) ?_
          refine zO_iand dX10_holds_39 ?_
          refine zO_letI (fun x6_2 ex6_2 => ?_)
          refine zO_istore dX10_holds_40 (by decide) ?_
          refine zO_ls (ls' := [(0, zR 49), (1, zR o1), (3, zI o3), (4, zI v4), (5, zI v5), (6, zI x6_2)]) rfl ?_
          refine zO_aload_n dX10_holds_42 rfl (zR_P _) ?_
          refine gt3 (k := 3) (v := zq ((F o1).2.2 3)) dX10_holds_43 wF_X10_84 (by decide) h1.1 rfl ?_
          refine zO_iload dX10_holds_46 rfl ?_
          refine zO_q1 h1.2.1 ?_
          refine zO_iald dX10_holds_48 h1.2.2.1 h1.2.2.2 ?_
          refine zO_iconst dX10_holds_49 (by decide) ?_
          refine zO_ishr dX10_holds_50 ?_
          refine zO_letI (fun x7_3 ex7_3 => ?_)
          refine zO_istore dX10_holds_51 (by decide) ?_
          refine zO_ls (ls' := [(0, zR 49), (1, zR o1), (3, zI o3), (4, zI v4), (5, zI v5), (6, zI x6_2), (7, zI x7_3)]) rfl ?_
          refine zO_chk (fun h2 => ?_)
          refine zO_iinc dX10_holds_53 rfl h2 (by decide) ?_
          refine zO_ls (ls' := [(0, zR 49), (1, zR o1), (3, zI o3), (4, zI (v4 + 1)), (5, zI v5), (6, zI x6_2), (7, zI x7_3)]) rfl ?_
          refine zO_iload dX10_holds_56 rfl ?_
          refine zO_if_ne (tgt := 70) dX10_holds_58 rfl (fun c58 => ?_) (fun c58 => ?_)
          · refine zO_aload_n dX10_holds_61 rfl (zR_P _) ?_
            refine zO_iload dX10_holds_62 rfl ?_
            refine zO_callV (Y' := YX10_push) (cw := zcV F n sl) (as := [zI x7_3]) (rest := []) (na := 1) (ci := 10) rfl dX10_holds_64 wC_X10_push wN_X10 wM_X10_87 wI_X10_push wV_X10_push (by decide) (by decide) rfl rfl (Nat.le_of_ble_eq_true rfl) rfl (by decide) (gk_49 hG) (fun r hr => zMet_cast (Nat.add_assoc d 0 0) (mX10_push (d := d + 0) hG x7_3 r hr)) ?_
            intro D_5 _
            show zO _ _ _ _ _ _ [] (F, D_5, n, sl) _ _
            refine zO_goto (tgt := 182) dX10_holds_67 rfl ?_
            refine zO_live [0, 1, 3, 4, 5] ?_
            exact sX10_holds_182 hG o1 o3 (v4 + 1) v5 _ hk_11 D_5
          · refine zO_iload dX10_holds_70 rfl ?_
            refine zO_iconst dX10_holds_72 (by decide) ?_
            refine zO_icmp_ne (tgt := 90) dX10_holds_73 rfl (fun c73 => ?_) (fun c73 => ?_)
            · refine zO_chk (fun h4 => ?_)
              refine zO_aload_n dX10_holds_76 rfl (zR_P _) ?_
              refine zO_aload_n dX10_holds_77 rfl (zR_P _) ?_
              refine gt10 (k := 1) dX10_holds_78 wF_X10_11 (by decide) (gk_49 hG) (zgv (c := 10) (k := 1) rfl (Or.inl ⟨_, rfl⟩) (gf_49_1 hG)) ?_
              refine zO_iload dX10_holds_81 rfl ?_
              refine zO_iald dX10_holds_83 (gk_50 hG) (gl_in (gl_50 hG) h4) ?_
              refine zO_callV (Y' := YX10_push) (cw := zcV F n sl) (as := [zI (D 50 x7_3.toNat)]) (rest := []) (na := 1) (ci := 10) rfl dX10_holds_84 wC_X10_push wN_X10 wM_X10_87 wI_X10_push wV_X10_push (by decide) (by decide) rfl rfl (Nat.le_of_ble_eq_true rfl) rfl (by decide) (gk_49 hG) (fun r hr => zMet_cast (Nat.add_assoc d 0 0) (mX10_push (d := d + 0) hG (D 50 x7_3.toNat) r hr)) ?_
              intro D_7 _
              show zO _ _ _ _ _ _ [] (F, D_7, n, sl) _ _
              refine zO_goto (tgt := 182) dX10_holds_87 rfl ?_
              refine zO_live [0, 1, 3, 4, 5] ?_
              exact sX10_holds_182 hG o1 o3 (v4 + 1) v5 _ hk_11 D_7
            · refine zO_iload dX10_holds_90 rfl ?_
              refine zO_bipush dX10_holds_92 (by decide) ?_
              refine zO_icmp_eq (tgt := 104) dX10_holds_94 rfl (fun c94 => ?_) (fun c94 => ?_)
              · refine zO_live [0, 1, 3, 4, 5, 6, 7] ?_
                exact sX10_holds_104 hG o1 o3 (v4 + 1) v5 x6_2 x7_3 _ hk_11 D
              · refine zO_iload dX10_holds_97 rfl ?_
                refine zO_bipush dX10_holds_99 (by decide) ?_
                refine zO_icmp_ne (tgt := 171) dX10_holds_101 rfl (fun c101 => ?_) (fun c101 => ?_)
                · refine zO_live [0, 1, 3, 4, 5, 6, 7] ?_
                  exact sX10_holds_104 hG o1 o3 (v4 + 1) v5 x6_2 x7_3 _ hk_11 D
                · refine zO_aload_n dX10_holds_171 rfl (zR_P _) ?_
                  refine zO_iload dX10_holds_172 rfl ?_
                  refine zO_callV (Y' := YX10_operate) (cw := zcI F n sl) (as := [zI x6_2]) (rest := []) (na := 1) (ci := 10) rfl dX10_holds_174 wC_X10_operate wN_X10 wM_X10_91 wI_X10_operate wV_X10_operate (by decide) (by decide) rfl rfl (Nat.le_of_ble_eq_true rfl) rfl (by decide) (gk_49 hG) (fun r hr => zMet_cast (Nat.add_assoc d 0 0) (mX10_operate (d := d + 0) hG x6_2 r hr)) ?_
                  rintro ⟨r_9, D_10⟩ -
                  show zO _ _ _ _ _ _ [zI r_9] (F, D_10, n, sl) _ _
                  refine zO_if_ne (tgt := 182) dX10_holds_177 rfl (fun c177 => ?_) (fun c177 => ?_)
                  · refine zO_iconst dX10_holds_180 (by decide) ?_
                    exact zO_ret (rv := some (zI 0)) dX10_holds_181 rfl rfl rfl
                  · refine zO_live [0, 1, 3, 4, 5] ?_
                    exact sX10_holds_182 hG o1 o3 (v4 + 1) v5 _ hk_11 D_10
        · refine zO_live [0] ?_
          exact sX10_holds_188 hG D
    · refine zO_live [0] ?_
      exact sX10_holds_188 hG D
set_option maxHeartbeats 20000000 in
theorem mX10_holds {l : Launch} {E : zE} {d : Nat} {F : zFs} {n sl : Nat} (hG : zG F) (a1 : Nat) (v2 : Int) (v3 : Int) {D : zDa} : ∀ r, fX10_holds F  a1 v2 v3 D = some r → zMet l E (d + 1) YX10_holds [zR 49, zR a1, zI v2, zI v3] (F, D, n, sl) (zcI F n sl r) := by
  intro r hr
  refine zMet_of (plainFor_of_name (by decide)) (fun _ h => (nomatch h)) (Nat.le_of_ble_eq_true rfl) ?_
  have hz : zO l E (d + 1) YX10_holds 0 [(0, zR 49), (1, zR a1), (2, zI v2), (3, zI v3)] [] (F, D, n, sl) (zcI F n sl) (fX10_holds F  a1 v2 v3 D) := by
    unfold fX10_holds
    refine zO_iload_n dX10_holds_0 rfl ?_
    refine zO_istore dX10_holds_1 (by decide) ?_
    refine zO_ls (ls' := [(0, zR 49), (1, zR a1), (2, zI v2), (3, zI v3), (4, zI v2)]) rfl ?_
    refine zO_aload_n dX10_holds_3 rfl (zR_P _) ?_
    refine zO_iconst dX10_holds_4 (by decide) ?_
    refine ptI10 (k := 3) (z := 0) dX10_holds_5 wF_X10_81 (by decide) rfl (gk_49 hG) rfl ?_
    refine zO_letD (fun D_1 eD_1 => ?_)
    refine zO_iconst dX10_holds_8 (by decide) ?_
    refine zO_istore dX10_holds_9 (by decide) ?_
    refine zO_ls (ls' := [(0, zR 49), (1, zR a1), (2, zI v2), (3, zI v3), (4, zI v2), (5, zI 0)]) rfl ?_
    refine zO_live [0, 1, 3, 4, 5] ?_
    exact sX10_holds_11 hG a1 v3 zfu v2 0 D_1
  exact hz r hr
theorem dJ9_min_f86c9_0 : decode cJ9_min_f86c9 0 = .ok (.lload_n 0, 1) := by decide +kernel
theorem dJ9_min_f86c9_1 : decode cJ9_min_f86c9 1 = .ok (.lload_n 2, 1) := by decide +kernel
theorem dJ9_min_f86c9_2 : decode cJ9_min_f86c9 2 = .ok (.lcmp, 1) := by decide +kernel
theorem dJ9_min_f86c9_3 : decode cJ9_min_f86c9 3 = .ok (.ifCond .gt 7, 3) := by decide +kernel
theorem dJ9_min_f86c9_6 : decode cJ9_min_f86c9 6 = .ok (.lload_n 0, 1) := by decide +kernel
theorem dJ9_min_f86c9_7 : decode cJ9_min_f86c9 7 = .ok (.goto 4, 3) := by decide +kernel
theorem dJ9_min_f86c9_10 : decode cJ9_min_f86c9 10 = .ok (.lload_n 2, 1) := by decide +kernel
theorem dJ9_min_f86c9_11 : decode cJ9_min_f86c9 11 = .ok (.lreturn, 1) := by decide +kernel
abbrev YJ9_min_f86c9 : zY := (yJ9_min_f86c9, cJ9_min_f86c9, 4, (Option.some Jvm.ClassFile.FieldType.long), [])
def fJ9_min_f86c9 (F : zFs) (v0 : Int) (v2 : Int) (D : zDa) : Option (Int × zDa) :=
  if v2 < v0 then
    some (v2, D)
  else
    some (v0, D)
set_option maxHeartbeats 20000000 in
theorem mJ9_min_f86c9 {l : Launch} {E : zE} {d : Nat} {F : zFs} {n sl : Nat} (hG : zG F) (v0 : Int) (v2 : Int) {D : zDa} : ∀ r, fJ9_min_f86c9 F  v0 v2 D = some r → zMet l E (d + 0) YJ9_min_f86c9 [zL v0, zL v2] (F, D, n, sl) (zcJ F n sl r) := by
  intro r hr
  refine zMet_of (by decide +kernel) (fun _ h => (nomatch h)) (Nat.le_of_ble_eq_true rfl) ?_
  have hz : zO l E (d + 0) YJ9_min_f86c9 0 [(0, zL v0), (2, zL v2)] [] (F, D, n, sl) (zcJ F n sl) (fJ9_min_f86c9 F  v0 v2 D) := by
    unfold fJ9_min_f86c9
    refine zO_lload_n dJ9_min_f86c9_0 rfl ?_
    refine zO_lload_n dJ9_min_f86c9_1 rfl ?_
    refine zO_lif_gt (tgt := 10) dJ9_min_f86c9_2 dJ9_min_f86c9_3 rfl (fun c2 => ?_) (fun c2 => ?_)
    · refine zO_lload_n dJ9_min_f86c9_10 rfl ?_
      exact zO_ret (rv := some (zL v2)) dJ9_min_f86c9_11 rfl trivial rfl
    · refine zO_lload_n dJ9_min_f86c9_6 rfl ?_
      refine zO_goto (tgt := 11) dJ9_min_f86c9_7 rfl ?_
      exact zO_ret (rv := some (zL v0)) dJ9_min_f86c9_11 rfl trivial rfl
  exact hz r hr
theorem dJ9_max_f86c9_0 : decode cJ9_max_f86c9 0 = .ok (.lload_n 0, 1) := by decide +kernel
theorem dJ9_max_f86c9_1 : decode cJ9_max_f86c9 1 = .ok (.lload_n 2, 1) := by decide +kernel
theorem dJ9_max_f86c9_2 : decode cJ9_max_f86c9 2 = .ok (.lcmp, 1) := by decide +kernel
theorem dJ9_max_f86c9_3 : decode cJ9_max_f86c9 3 = .ok (.ifCond .lt 7, 3) := by decide +kernel
theorem dJ9_max_f86c9_6 : decode cJ9_max_f86c9 6 = .ok (.lload_n 0, 1) := by decide +kernel
theorem dJ9_max_f86c9_7 : decode cJ9_max_f86c9 7 = .ok (.goto 4, 3) := by decide +kernel
theorem dJ9_max_f86c9_10 : decode cJ9_max_f86c9 10 = .ok (.lload_n 2, 1) := by decide +kernel
theorem dJ9_max_f86c9_11 : decode cJ9_max_f86c9 11 = .ok (.lreturn, 1) := by decide +kernel
abbrev YJ9_max_f86c9 : zY := (yJ9_max_f86c9, cJ9_max_f86c9, 4, (Option.some Jvm.ClassFile.FieldType.long), [])
def fJ9_max_f86c9 (F : zFs) (v0 : Int) (v2 : Int) (D : zDa) : Option (Int × zDa) :=
  if v0 < v2 then
    some (v2, D)
  else
    some (v0, D)
set_option maxHeartbeats 20000000 in
theorem mJ9_max_f86c9 {l : Launch} {E : zE} {d : Nat} {F : zFs} {n sl : Nat} (hG : zG F) (v0 : Int) (v2 : Int) {D : zDa} : ∀ r, fJ9_max_f86c9 F  v0 v2 D = some r → zMet l E (d + 0) YJ9_max_f86c9 [zL v0, zL v2] (F, D, n, sl) (zcJ F n sl r) := by
  intro r hr
  refine zMet_of (by decide +kernel) (fun _ h => (nomatch h)) (Nat.le_of_ble_eq_true rfl) ?_
  have hz : zO l E (d + 0) YJ9_max_f86c9 0 [(0, zL v0), (2, zL v2)] [] (F, D, n, sl) (zcJ F n sl) (fJ9_max_f86c9 F  v0 v2 D) := by
    unfold fJ9_max_f86c9
    refine zO_lload_n dJ9_max_f86c9_0 rfl ?_
    refine zO_lload_n dJ9_max_f86c9_1 rfl ?_
    refine zO_lif_lt (tgt := 10) dJ9_max_f86c9_2 dJ9_max_f86c9_3 rfl (fun c2 => ?_) (fun c2 => ?_)
    · refine zO_lload_n dJ9_max_f86c9_10 rfl ?_
      exact zO_ret (rv := some (zL v2)) dJ9_max_f86c9_11 rfl trivial rfl
    · refine zO_lload_n dJ9_max_f86c9_6 rfl ?_
      refine zO_goto (tgt := 11) dJ9_max_f86c9_7 rfl ?_
      exact zO_ret (rv := some (zL v0)) dJ9_max_f86c9_11 rfl trivial rfl
  exact hz r hr
theorem dX10_told_0 : decode cX10_told 0 = .ok (.aload_n 0, 1) := by decide +kernel
theorem dX10_told_1 : decode cX10_told 1 = .ok (.getfield 21, 3) := by decide +kernel
theorem dX10_told_4 : decode cX10_told 4 = .ok (.invokevirtual 54, 3) := by decide +kernel
theorem dX10_told_7 : decode cX10_told 7 = .ok (.astore 5, 2) := by decide +kernel
theorem dX10_told_9 : decode cX10_told 9 = .ok (.aload 5, 2) := by decide +kernel
theorem dX10_told_11 : decode cX10_told 11 = .ok (.ifnonnull 5, 3) := by decide +kernel
theorem dX10_told_14 : decode cX10_told 14 = .ok (.iload_n 2, 1) := by decide +kernel
theorem dX10_told_15 : decode cX10_told 15 = .ok (.ireturn, 1) := by decide +kernel
theorem dX10_told_16 : decode cX10_told 16 = .ok (.aload 5, 2) := by decide +kernel
theorem dX10_told_18 : decode cX10_told 18 = .ok (.getfield 58, 3) := by decide +kernel
theorem dX10_told_21 : decode cX10_told 21 = .ok (.iconst 1, 1) := by decide +kernel
theorem dX10_told_22 : decode cX10_told 22 = .ok (.isub, 1) := by decide +kernel
theorem dX10_told_23 : decode cX10_told 23 = .ok (.istore 6, 2) := by decide +kernel
theorem dX10_told_25 : decode cX10_told 25 = .ok (.iload 6, 2) := by decide +kernel
theorem dX10_told_27 : decode cX10_told 27 = .ok (.ifCond .lt 67, 3) := by decide +kernel
theorem dX10_told_30 : decode cX10_told 30 = .ok (.aload 5, 2) := by decide +kernel
theorem dX10_told_32 : decode cX10_told 32 = .ok (.getfield 62, 3) := by decide +kernel
theorem dX10_told_35 : decode cX10_told 35 = .ok (.iload 6, 2) := by decide +kernel
theorem dX10_told_37 : decode cX10_told 37 = .ok (.iaload, 1) := by decide +kernel
theorem dX10_told_38 : decode cX10_told 38 = .ok (.iload_n 1, 1) := by decide +kernel
theorem dX10_told_39 : decode cX10_told 39 = .ok (.if_icmp .ne 49, 3) := by decide +kernel
theorem dX10_told_42 : decode cX10_told 42 = .ok (.aload_n 0, 1) := by decide +kernel
theorem dX10_told_43 : decode cX10_told 43 = .ok (.aload 5, 2) := by decide +kernel
theorem dX10_told_45 : decode cX10_told 45 = .ok (.aload 5, 2) := by decide +kernel
theorem dX10_told_47 : decode cX10_told 47 = .ok (.getfield 65, 3) := by decide +kernel
theorem dX10_told_50 : decode cX10_told 50 = .ok (.iload 6, 2) := by decide +kernel
theorem dX10_told_52 : decode cX10_told 52 = .ok (.iaload, 1) := by decide +kernel
theorem dX10_told_53 : decode cX10_told 53 = .ok (.aload 5, 2) := by decide +kernel
theorem dX10_told_55 : decode cX10_told 55 = .ok (.getfield 65, 3) := by decide +kernel
theorem dX10_told_58 : decode cX10_told 58 = .ok (.iload 6, 2) := by decide +kernel
theorem dX10_told_60 : decode cX10_told 60 = .ok (.iconst 1, 1) := by decide +kernel
theorem dX10_told_61 : decode cX10_told 61 = .ok (.iadd, 1) := by decide +kernel
theorem dX10_told_62 : decode cX10_told 62 = .ok (.iaload, 1) := by decide +kernel
theorem dX10_told_63 : decode cX10_told 63 = .ok (.invokevirtual 68, 3) := by decide +kernel
theorem dX10_told_66 : decode cX10_told 66 = .ok (.ifCond .eq 22, 3) := by decide +kernel
theorem dX10_told_69 : decode cX10_told 69 = .ok (.iload_n 3, 1) := by decide +kernel
theorem dX10_told_70 : decode cX10_told 70 = .ok (.i2l, 1) := by decide +kernel
theorem dX10_told_71 : decode cX10_told 71 = .ok (.iload 4, 2) := by decide +kernel
theorem dX10_told_73 : decode cX10_told 73 = .ok (.i2l, 1) := by decide +kernel
theorem dX10_told_74 : decode cX10_told 74 = .ok (.aload_n 0, 1) := by decide +kernel
theorem dX10_told_75 : decode cX10_told 75 = .ok (.getfield 17, 3) := by decide +kernel
theorem dX10_told_78 : decode cX10_told 78 = .ok (.iconst 0, 1) := by decide +kernel
theorem dX10_told_79 : decode cX10_told 79 = .ok (.laload, 1) := by decide +kernel
theorem dX10_told_80 : decode cX10_told 80 = .ok (.invokestatic 72, 3) := by decide +kernel
theorem dX10_told_83 : decode cX10_told 83 = .ok (.invokestatic 78, 3) := by decide +kernel
theorem dX10_told_86 : decode cX10_told 86 = .ok (.l2i, 1) := by decide +kernel
theorem dX10_told_87 : decode cX10_told 87 = .ok (.ireturn, 1) := by decide +kernel
theorem dX10_told_88 : decode cX10_told 88 = .ok (.iinc 6 (-1), 3) := by decide +kernel
theorem dX10_told_91 : decode cX10_told 91 = .ok (.goto (-66), 3) := by decide +kernel
theorem dX10_told_94 : decode cX10_told 94 = .ok (.iload_n 2, 1) := by decide +kernel
theorem dX10_told_95 : decode cX10_told 95 = .ok (.ireturn, 1) := by decide +kernel
abbrev YX10_told : zY := (yX10_told, cX10_told, 7, (Option.some Jvm.ClassFile.FieldType.int), [])
def fX10_told_88 (F : zFs) (k_25 : Int → zDa → Option (Int × zDa)) (o1 : Int) (o2 : Int) (o3 : Int) (o4 : Int) (o5 : Int) (v6 : Int) (D : zDa) : Option (Int × zDa) :=
  if (-2147483648 ≤ v6 + (-1) ∧ v6 + (-1) ≤ 2147483647) then
    k_25 (v6 + (-1)) D
  else none
def fX10_told_25 (F : zFs) (o1 : Int) (o2 : Int) (o3 : Int) (o4 : Int) (o5 : Int)  (k_25 : Int → zDa → Option (Int × zDa)) (v6 : Int) (D : zDa) : Option (Int × zDa) :=
  if v6 < 0 then
    some (o2, D)
  else
    if (0 ≤ o5) ∧ ((F o5.toNat).1 = 4) ∧ (0 ≤ ((F o5.toNat).2.2 1)) ∧ ((F (((F o5.toNat).2.2 1).toNat)).1 = 20) ∧ ((0 : Int) ≤ v6 ∧ (v6 : Int) < ((F (((F o5.toNat).2.2 1).toNat)).2.1 : Int)) then
      if (D (((F o5.toNat).2.2 1).toNat) v6.toNat) = o1 then
        if (0 ≤ ((F o5.toNat).2.2 2)) ∧ ((F (((F o5.toNat).2.2 2).toNat)).1 = 20) ∧ ((0 : Int) ≤ v6 ∧ (v6 : Int) < ((F (((F o5.toNat).2.2 2).toNat)).2.1 : Int)) ∧ (-2147483648 ≤ v6 + 1 ∧ v6 + 1 ≤ 2147483647) ∧ ((0 : Int) ≤ (v6 + 1) ∧ ((v6 + 1) : Int) < ((F (((F o5.toNat).2.2 2).toNat)).2.1 : Int)) then
          (fX10_holds F o5.toNat (D (((F o5.toNat).2.2 2).toNat) v6.toNat) (D (((F o5.toNat).2.2 2).toNat) (v6 + 1).toNat) D).bind (fun (r_4, D_5) =>
            if r_4 = 0 then
              fX10_told_88 F k_25 o1 o2 o3 o4 o5 v6 D_5
            else
              (fJ9_min_f86c9 F o4 (D_5 51 0) D_5).bind (fun (r_6, D_7) =>
                (fJ9_max_f86c9 F o3 r_6 D_7).bind (fun (r_8, D_9) =>
                  some ((zl2i r_8), D_9))))
        else none
      else
        fX10_told_88 F k_25 o1 o2 o3 o4 o5 v6 D
    else none
def fX10_told (F : zFs) (v1 : Int) (v2 : Int) (v3 : Int) (v4 : Int) (D : zDa) : Option (Int × zDa) :=
  (fX9_paperInUse F D).bind (fun (r_1, D_2) =>
    if r_1 < 0 then
      some (v2, D_2)
    else
      if ((F r_1.toNat).1 = 4) ∧ (-2147483648 ≤ ((F r_1.toNat).2.2 0) - 1 ∧ ((F r_1.toNat).2.2 0) - 1 ≤ 2147483647) then
        zlet ((((F r_1.toNat).2.2 0) - 1)) (fun x6_3 =>
          zfix (fun _ _ => none) (fX10_told_25 F v1 v2 v3 v4 r_1) zfu x6_3 D_2)
      else none)
set_option maxHeartbeats 20000000 in
theorem sX10_told_88 {l : Launch} {E : zE} {d : Nat} {F : zFs} {n sl : Nat} (hG : zG F)  (o1 : Int) (o2 : Int) (o3 : Int) (o4 : Int) (o5 : Int) (v6 : Int) (k_25 : Int → zDa → Option (Int × zDa)) (hk_25 : ∀ (u6 : Int) (D : zDa), zO l E (d + 2) YX10_told 25 [(0, zR 49), (1, zI o1), (2, zI o2), (3, zI o3), (4, zI o4), (5, zq o5), (6, zI u6)] [] (F, D, n, sl) (zcI F n sl) (k_25 u6 D)) (D : zDa) : zO l E (d + 2) YX10_told 88 [(0, zR 49), (1, zI o1), (2, zI o2), (3, zI o3), (4, zI o4), (5, zq o5), (6, zI v6)] [] (F, D, n, sl) (zcI F n sl) (fX10_told_88 F k_25 o1 o2 o3 o4 o5 v6 D) := by
  unfold fX10_told_88
  refine zO_chk (fun h4 => ?_)
  refine zO_iinc dX10_told_88 rfl h4 (by decide) ?_
  refine zO_ls (ls' := [(0, zR 49), (1, zI o1), (2, zI o2), (3, zI o3), (4, zI o4), (5, zq o5), (6, zI (v6 + (-1)))]) rfl ?_
  refine zO_goto (tgt := 25) dX10_told_91 rfl ?_
  refine zO_live [0, 1, 2, 3, 4, 5, 6] ?_
  exact hk_25 (v6 + (-1)) D
set_option maxHeartbeats 20000000 in
theorem sX10_told_25 {l : Launch} {E : zE} {d : Nat} {F : zFs} {n sl : Nat} (hG : zG F)  (o1 : Int) (o2 : Int) (o3 : Int) (o4 : Int) (o5 : Int)   : ∀ (N : Nat) (v6 : Int) (D : zDa), zO l E (d + 2) YX10_told 25 [(0, zR 49), (1, zI o1), (2, zI o2), (3, zI o3), (4, zI o4), (5, zq o5), (6, zI v6)] [] (F, D, n, sl) (zcI F n sl) (zfix (fun _ _ => none) (fX10_told_25 F o1 o2 o3 o4 o5) N v6 D) := by
  intro N
  induction N with
  | zero => intro v6 D; exact zO_none
  | succ N hk_25 =>
    intro v6 D
    show zO _ _ _ _ _ _ _ _ _ ((fX10_told_25 F o1 o2 o3 o4 o5) (zfix (fun _ _ => none) (fX10_told_25 F o1 o2 o3 o4 o5) N) v6 D)
    unfold fX10_told_25
    refine zO_iload dX10_told_25 rfl ?_
    refine zO_if_lt (tgt := 94) dX10_told_27 rfl (fun c27 => ?_) (fun c27 => ?_)
    · refine zO_iload_n dX10_told_94 rfl ?_
      exact zO_ret (rv := some (zI o2)) dX10_told_95 rfl rfl rfl
    · refine zO_chk (fun h2 => ?_)
      refine zO_aload dX10_told_30 rfl (zq_P _) ?_
      refine zO_q0 h2.1 ?_
      refine gt3 (k := 1) (v := zq ((F o5.toNat).2.2 1)) dX10_told_32 wF_X10_62 (by decide) h2.2.1 rfl ?_
      refine zO_iload dX10_told_35 rfl ?_
      refine zO_q1 h2.2.2.1 ?_
      refine zO_iald dX10_told_37 h2.2.2.2.1 h2.2.2.2.2 ?_
      refine zO_iload_n dX10_told_38 rfl ?_
      refine zO_icmp_ne (tgt := 88) dX10_told_39 rfl (fun c39 => ?_) (fun c39 => ?_)
      · refine zO_chk (fun h3 => ?_)
        refine zO_aload_n dX10_told_42 rfl (zR_P _) ?_
        refine zO_aload dX10_told_43 rfl (zq_P _) ?_
        refine zO_aload dX10_told_45 rfl (zq_P _) ?_
        refine zO_q0 h2.1 ?_
        refine gt3 (k := 2) (v := zq ((F o5.toNat).2.2 2)) dX10_told_47 wF_X10_65 (by decide) h2.2.1 rfl ?_
        refine zO_iload dX10_told_50 rfl ?_
        refine zO_q1 h3.1 ?_
        refine zO_iald dX10_told_52 h3.2.1 h3.2.2.1 ?_
        refine zO_aload dX10_told_53 rfl (zq_P _) ?_
        refine zO_q0 h2.1 ?_
        refine gt3 (k := 2) (v := zq ((F o5.toNat).2.2 2)) dX10_told_55 wF_X10_65 (by decide) h2.2.1 rfl ?_
        refine zO_iload dX10_told_58 rfl ?_
        refine zO_iconst dX10_told_60 (by decide) ?_
        refine zO_iadd dX10_told_61 h3.2.2.2.1 ?_
        refine zO_q1 h3.1 ?_
        refine zO_iald dX10_told_62 h3.2.1 h3.2.2.2.2 ?_
        refine zO_q2 h2.1 ?_
        refine zO_callV (Y' := YX10_holds) (cw := zcI F n sl) (as := [zR o5.toNat, zI (D (((F o5.toNat).2.2 2).toNat) v6.toNat), zI (D (((F o5.toNat).2.2 2).toNat) (v6 + 1).toNat)]) (rest := []) (na := 3) (ci := 10) rfl dX10_told_63 wC_X10_holds wN_X10 wM_X10_68 wI_X10_holds wV_X10_holds (by decide) (by decide) rfl rfl (Nat.le_of_ble_eq_true rfl) rfl (by decide) (gk_49 hG) (fun r hr => zMet_cast (Nat.add_assoc d 0 1) (mX10_holds (d := d + 0) hG o5.toNat (D (((F o5.toNat).2.2 2).toNat) v6.toNat) (D (((F o5.toNat).2.2 2).toNat) (v6 + 1).toNat) r hr)) ?_
        rintro ⟨r_4, D_5⟩ -
        show zO _ _ _ _ _ _ [zI r_4] (F, D_5, n, sl) _ _
        refine zO_if_eq (tgt := 88) dX10_told_66 rfl (fun c66 => ?_) (fun c66 => ?_)
        · refine zO_live [0, 1, 2, 3, 4, 5, 6] ?_
          exact sX10_told_88 hG o1 o2 o3 o4 o5 v6 _ hk_25 D_5
        · refine zO_iload_n dX10_told_69 rfl ?_
          refine zO_i2l dX10_told_70 ?_
          refine zO_iload dX10_told_71 rfl ?_
          refine zO_i2l dX10_told_73 ?_
          refine zO_aload_n dX10_told_74 rfl (zR_P _) ?_
          refine gt10 (k := 2) dX10_told_75 wF_X10_17 (by decide) (gk_49 hG) (zgv (c := 10) (k := 2) rfl (Or.inl ⟨_, rfl⟩) (gf_49_2 hG)) ?_
          refine zO_iconst dX10_told_78 (by decide) ?_
          refine zO_lald dX10_told_79 (gk_51 hG) (gl_in (gl_51 hG) (by decide)) ?_
          refine zO_callS (Y' := YJ9_min_f86c9) (cw := zcJ F n sl) (as := [zL o4, zL (D_5 51 0)]) (rest := [zL o3]) (na := 2) dX10_told_80 wC_J9_min_f86c9 wN_J9 wM_X10_72 wS_J9_min_f86c9 (by decide) (by decide) rfl rfl (Nat.le_of_ble_eq_true rfl) (fun r hr => zMet_cast (Nat.add_assoc d 1 0) (mJ9_min_f86c9 (d := d + 1) hG o4 (D_5 51 0) r hr)) ?_
          rintro ⟨r_6, D_7⟩ -
          show zO _ _ _ _ _ _ [zL r_6, zL o3] (F, D_7, n, sl) _ _
          refine zO_callS (Y' := YJ9_max_f86c9) (cw := zcJ F n sl) (as := [zL o3, zL r_6]) (rest := []) (na := 2) dX10_told_83 wC_J9_max_f86c9 wN_J9 wM_X10_78 wS_J9_max_f86c9 (by decide) (by decide) rfl rfl (Nat.le_of_ble_eq_true rfl) (fun r hr => zMet_cast (Nat.add_assoc d 1 0) (mJ9_max_f86c9 (d := d + 1) hG o3 r_6 r hr)) ?_
          rintro ⟨r_8, D_9⟩ -
          show zO _ _ _ _ _ _ [zL r_8] (F, D_9, n, sl) _ _
          refine zO_l2i dX10_told_86 ?_
          exact zO_ret (rv := some (zI (zl2i r_8))) dX10_told_87 rfl rfl rfl
      · refine zO_live [0, 1, 2, 3, 4, 5, 6] ?_
        exact sX10_told_88 hG o1 o2 o3 o4 o5 v6 _ hk_25 D
set_option maxHeartbeats 20000000 in
theorem mX10_told {l : Launch} {E : zE} {d : Nat} {F : zFs} {n sl : Nat} (hG : zG F) (v1 : Int) (v2 : Int) (v3 : Int) (v4 : Int) {D : zDa} : ∀ r, fX10_told F  v1 v2 v3 v4 D = some r → zMet l E (d + 2) YX10_told [zR 49, zI v1, zI v2, zI v3, zI v4] (F, D, n, sl) (zcI F n sl r) := by
  intro r hr
  refine zMet_of (plainFor_of_name (by decide)) (fun _ h => (nomatch h)) (Nat.le_of_ble_eq_true rfl) ?_
  have hz : zO l E (d + 2) YX10_told 0 [(0, zR 49), (1, zI v1), (2, zI v2), (3, zI v3), (4, zI v4)] [] (F, D, n, sl) (zcI F n sl) (fX10_told F  v1 v2 v3 v4 D) := by
    unfold fX10_told
    refine zO_aload_n dX10_told_0 rfl (zR_P _) ?_
    refine gt10 (k := 0) dX10_told_1 wF_X10_21 (by decide) (gk_49 hG) (zgv (c := 10) (k := 0) rfl (Or.inr ⟨_, rfl⟩) (gf_49_0 hG)) ?_
    refine zO_callV (Y' := YX9_paperInUse) (cw := zcQ F n sl) (as := []) (rest := []) (na := 0) (ci := 9) rfl dX10_told_4 wC_X9_paperInUse wN_X9 wM_X10_54 wI_X9_paperInUse wV_X9_paperInUse (by decide) (by decide) rfl rfl (Nat.le_of_ble_eq_true rfl) rfl (by decide) (gk_1 hG) (fun r hr => zMet_cast (Nat.add_assoc d 1 0) (mX9_paperInUse (d := d + 1) hG  r hr)) ?_
    rintro ⟨r_1, D_2⟩ -
    show zO _ _ _ _ _ _ [zq r_1] (F, D_2, n, sl) _ _
    refine zO_astore dX10_told_7 (by decide) (zq_P _) ?_
    refine zO_ls (ls' := [(0, zR 49), (1, zI v1), (2, zI v2), (3, zI v3), (4, zI v4), (5, zq r_1)]) rfl ?_
    refine zO_aload dX10_told_9 rfl (zq_P _) ?_
    refine zO_ifnnq (tgt := 16) dX10_told_11 rfl (fun c11 => ?_) (fun c11 => ?_)
    · refine zO_iload_n dX10_told_14 rfl ?_
      exact zO_ret (rv := some (zI v2)) dX10_told_15 rfl rfl rfl
    · refine zO_chk (fun h1 => ?_)
      refine zO_aload dX10_told_16 rfl (zq_P _) ?_
      refine zO_q0 (Int.not_lt.mp c11) ?_
      refine gt3 (k := 0) (v := zI ((F r_1.toNat).2.2 0)) dX10_told_18 wF_X10_58 (by decide) h1.1 rfl ?_
      refine zO_iconst dX10_told_21 (by decide) ?_
      refine zO_isub dX10_told_22 h1.2 ?_
      refine zO_letI (fun x6_3 ex6_3 => ?_)
      refine zO_istore dX10_told_23 (by decide) ?_
      refine zO_ls (ls' := [(0, zR 49), (1, zI v1), (2, zI v2), (3, zI v3), (4, zI v4), (5, zq r_1), (6, zI x6_3)]) rfl ?_
      refine zO_live [0, 1, 2, 3, 4, 5, 6] ?_
      exact sX10_told_25 hG v1 v2 v3 v4 r_1 zfu x6_3 D_2
  exact hz r hr
theorem dX10_hoursOf_0 : decode cX10_hoursOf 0 = .ok (.aload_n 0, 1) := by decide +kernel
theorem dX10_hoursOf_1 : decode cX10_hoursOf 1 = .ok (.iload_n 1, 1) := by decide +kernel
theorem dX10_hoursOf_2 : decode cX10_hoursOf 2 = .ok (.iload_n 2, 1) := by decide +kernel
theorem dX10_hoursOf_3 : decode cX10_hoursOf 3 = .ok (.invokevirtual 25, 3) := by decide +kernel
theorem dX10_hoursOf_6 : decode cX10_hoursOf 6 = .ok (.aload_n 0, 1) := by decide +kernel
theorem dX10_hoursOf_7 : decode cX10_hoursOf 7 = .ok (.getfield 11, 3) := by decide +kernel
theorem dX10_hoursOf_10 : decode cX10_hoursOf 10 = .ok (.iconst 3, 1) := by decide +kernel
theorem dX10_hoursOf_11 : decode cX10_hoursOf 11 = .ok (.iload_n 3, 1) := by decide +kernel
theorem dX10_hoursOf_12 : decode cX10_hoursOf 12 = .ok (.iastore, 1) := by decide +kernel
theorem dX10_hoursOf_13 : decode cX10_hoursOf 13 = .ok (.aload_n 0, 1) := by decide +kernel
theorem dX10_hoursOf_14 : decode cX10_hoursOf 14 = .ok (.getfield 11, 3) := by decide +kernel
theorem dX10_hoursOf_17 : decode cX10_hoursOf 17 = .ok (.iconst 5, 1) := by decide +kernel
theorem dX10_hoursOf_18 : decode cX10_hoursOf 18 = .ok (.iload 4, 2) := by decide +kernel
theorem dX10_hoursOf_20 : decode cX10_hoursOf 20 = .ok (.iastore, 1) := by decide +kernel
theorem dX10_hoursOf_21 : decode cX10_hoursOf 21 = .ok (.aload_n 0, 1) := by decide +kernel
theorem dX10_hoursOf_22 : decode cX10_hoursOf 22 = .ok (.iconst 0, 1) := by decide +kernel
theorem dX10_hoursOf_23 : decode cX10_hoursOf 23 = .ok (.iconst 4, 1) := by decide +kernel
theorem dX10_hoursOf_24 : decode cX10_hoursOf 24 = .ok (.iconst 1, 1) := by decide +kernel
theorem dX10_hoursOf_25 : decode cX10_hoursOf 25 = .ok (.bipush 20, 2) := by decide +kernel
theorem dX10_hoursOf_27 : decode cX10_hoursOf 27 = .ok (.invokevirtual 29, 3) := by decide +kernel
theorem dX10_hoursOf_30 : decode cX10_hoursOf 30 = .ok (.ireturn, 1) := by decide +kernel
abbrev YX10_hoursOf : zY := (yX10_hoursOf, cX10_hoursOf, 5, (Option.some Jvm.ClassFile.FieldType.int), [])
def fX10_hoursOf (F : zFs) (v1 : Int) (v2 : Int) (v3 : Int) (v4 : Int) (D : zDa) : Option (Int × zDa) :=
  (fX10_ask F v1 v2 D).bind (fun D_2 =>
    zlet (zwr D_2 50 3 v3) (fun D_3 =>
      zlet (zwr D_3 50 5 v4) (fun D_4 =>
        (fX10_told F 0 4 1 20 D_4).bind (fun (r_5, D_6) =>
          some (r_5, D_6)))))
set_option maxHeartbeats 20000000 in
theorem mX10_hoursOf {l : Launch} {E : zE} {d : Nat} {F : zFs} {n sl : Nat} (hG : zG F) (v1 : Int) (v2 : Int) (v3 : Int) (v4 : Int) {D : zDa} : ∀ r, fX10_hoursOf F  v1 v2 v3 v4 D = some r → zMet l E (d + 3) YX10_hoursOf [zR 49, zI v1, zI v2, zI v3, zI v4] (F, D, n, sl) (zcI F n sl r) := by
  intro r hr
  refine zMet_of (plainFor_of_name (by decide)) (fun _ h => (nomatch h)) (Nat.le_of_ble_eq_true rfl) ?_
  have hz : zO l E (d + 3) YX10_hoursOf 0 [(0, zR 49), (1, zI v1), (2, zI v2), (3, zI v3), (4, zI v4)] [] (F, D, n, sl) (zcI F n sl) (fX10_hoursOf F  v1 v2 v3 v4 D) := by
    unfold fX10_hoursOf
    refine zO_aload_n dX10_hoursOf_0 rfl (zR_P _) ?_
    refine zO_iload_n dX10_hoursOf_1 rfl ?_
    refine zO_iload_n dX10_hoursOf_2 rfl ?_
    refine zO_callV (Y' := YX10_ask) (cw := zcV F n sl) (as := [zI v1, zI v2]) (rest := []) (na := 2) (ci := 10) rfl dX10_hoursOf_3 wC_X10_ask wN_X10 wM_X10_25 wI_X10_ask wV_X10_ask (by decide) (by decide) rfl rfl (Nat.le_of_ble_eq_true rfl) rfl (by decide) (gk_49 hG) (fun r hr => zMet_cast (Nat.add_assoc d 1 1) (mX10_ask (d := d + 1) hG v1 v2 r hr)) ?_
    intro D_2 _
    show zO _ _ _ _ _ _ [] (F, D_2, n, sl) _ _
    refine zO_aload_n dX10_hoursOf_6 rfl (zR_P _) ?_
    refine gt10 (k := 1) dX10_hoursOf_7 wF_X10_11 (by decide) (gk_49 hG) (zgv (c := 10) (k := 1) rfl (Or.inl ⟨_, rfl⟩) (gf_49_1 hG)) ?_
    refine zO_iconst dX10_hoursOf_10 (by decide) ?_
    refine zO_iload_n dX10_hoursOf_11 rfl ?_
    refine zO_iast dX10_hoursOf_12 (gk_50 hG) (gl_in (gl_50 hG) (by decide)) ?_
    refine zO_letD (fun D_3 eD_3 => ?_)
    refine zO_aload_n dX10_hoursOf_13 rfl (zR_P _) ?_
    refine gt10 (k := 1) dX10_hoursOf_14 wF_X10_11 (by decide) (gk_49 hG) (zgv (c := 10) (k := 1) rfl (Or.inl ⟨_, rfl⟩) (gf_49_1 hG)) ?_
    refine zO_iconst dX10_hoursOf_17 (by decide) ?_
    refine zO_iload dX10_hoursOf_18 rfl ?_
    refine zO_iast dX10_hoursOf_20 (gk_50 hG) (gl_in (gl_50 hG) (by decide)) ?_
    refine zO_letD (fun D_4 eD_4 => ?_)
    refine zO_aload_n dX10_hoursOf_21 rfl (zR_P _) ?_
    refine zO_iconst dX10_hoursOf_22 (by decide) ?_
    refine zO_iconst dX10_hoursOf_23 (by decide) ?_
    refine zO_iconst dX10_hoursOf_24 (by decide) ?_
    refine zO_bipush dX10_hoursOf_25 (by decide) ?_
    refine zO_callV (Y' := YX10_told) (cw := zcI F n sl) (as := [zI 0, zI 4, zI 1, zI 20]) (rest := []) (na := 4) (ci := 10) rfl dX10_hoursOf_27 wC_X10_told wN_X10 wM_X10_29 wI_X10_told wV_X10_told (by decide) (by decide) rfl rfl (Nat.le_of_ble_eq_true rfl) rfl (by decide) (gk_49 hG) (fun r hr => zMet_cast (Nat.add_assoc d 0 2) (mX10_told (d := d + 0) hG 0 4 1 20 r hr)) ?_
    rintro ⟨r_5, D_6⟩ -
    show zO _ _ _ _ _ _ [zI r_5] (F, D_6, n, sl) _ _
    exact zO_ret (rv := some (zI r_5)) dX10_hoursOf_30 rfl rfl rfl
  exact hz r hr
theorem dX4_firstTakes_0 : decode cX4_firstTakes 0 = .ok (.aload_n 0, 1) := by decide +kernel
theorem dX4_firstTakes_1 : decode cX4_firstTakes 1 = .ok (.getfield 61, 3) := by decide +kernel
theorem dX4_firstTakes_4 : decode cX4_firstTakes 4 = .ok (.iload_n 1, 1) := by decide +kernel
theorem dX4_firstTakes_5 : decode cX4_firstTakes 5 = .ok (.iload_n 2, 1) := by decide +kernel
theorem dX4_firstTakes_6 : decode cX4_firstTakes 6 = .ok (.aload_n 0, 1) := by decide +kernel
theorem dX4_firstTakes_7 : decode cX4_firstTakes 7 = .ok (.getfield 50, 3) := by decide +kernel
theorem dX4_firstTakes_10 : decode cX4_firstTakes 10 = .ok (.iload_n 1, 1) := by decide +kernel
theorem dX4_firstTakes_11 : decode cX4_firstTakes 11 = .ok (.iaload, 1) := by decide +kernel
theorem dX4_firstTakes_12 : decode cX4_firstTakes 12 = .ok (.iconst 0, 1) := by decide +kernel
theorem dX4_firstTakes_13 : decode cX4_firstTakes 13 = .ok (.invokevirtual 113, 3) := by decide +kernel
theorem dX4_firstTakes_16 : decode cX4_firstTakes 16 = .ok (.ireturn, 1) := by decide +kernel
abbrev YX4_firstTakes : zY := (yX4_firstTakes, cX4_firstTakes, 3, (Option.some Jvm.ClassFile.FieldType.int), [])
def fX4_firstTakes (F : zFs) (v1 : Int) (v2 : Int) (D : zDa) : Option (Int × zDa) :=
  if (0 ≤ v1 ∧ v1 < 20) then
    (fX10_hoursOf F v1 v2 (D 70 v1.toNat) 0 D).bind (fun (r_1, D_2) =>
      some (r_1, D_2))
  else none
set_option maxHeartbeats 20000000 in
theorem mX4_firstTakes {l : Launch} {E : zE} {d : Nat} {F : zFs} {n sl : Nat} (hG : zG F) (v1 : Int) (v2 : Int) {D : zDa} : ∀ r, fX4_firstTakes F  v1 v2 D = some r → zMet l E (d + 4) YX4_firstTakes [zR 60, zI v1, zI v2] (F, D, n, sl) (zcI F n sl r) := by
  intro r hr
  refine zMet_of (plainFor_of_name (by decide)) (fun _ h => (nomatch h)) (Nat.le_of_ble_eq_true rfl) ?_
  have hz : zO l E (d + 4) YX4_firstTakes 0 [(0, zR 60), (1, zI v1), (2, zI v2)] [] (F, D, n, sl) (zcI F n sl) (fX4_firstTakes F  v1 v2 D) := by
    unfold fX4_firstTakes
    refine zO_chk (fun h1 => ?_)
    refine zO_aload_n dX4_firstTakes_0 rfl (zR_P _) ?_
    refine gt4 (k := 1) dX4_firstTakes_1 wF_X4_61 (by decide) (gk_60 hG) (zgv (c := 4) (k := 1) rfl (Or.inr ⟨_, rfl⟩) (gf_60_1 hG)) ?_
    refine zO_iload_n dX4_firstTakes_4 rfl ?_
    refine zO_iload_n dX4_firstTakes_5 rfl ?_
    refine zO_aload_n dX4_firstTakes_6 rfl (zR_P _) ?_
    refine gt4 (k := 16) dX4_firstTakes_7 wF_X4_50 (by decide) (gk_60 hG) (zgv (c := 4) (k := 16) rfl (Or.inl ⟨_, rfl⟩) (gf_60_16 hG)) ?_
    refine zO_iload_n dX4_firstTakes_10 rfl ?_
    refine zO_iald dX4_firstTakes_11 (gk_70 hG) (gl_in (gl_70 hG) h1) ?_
    refine zO_iconst dX4_firstTakes_12 (by decide) ?_
    refine zO_callV (Y' := YX10_hoursOf) (cw := zcI F n sl) (as := [zI v1, zI v2, zI (D 70 v1.toNat), zI 0]) (rest := []) (na := 4) (ci := 10) rfl dX4_firstTakes_13 wC_X10_hoursOf wN_X10 wM_X4_113 wI_X10_hoursOf wV_X10_hoursOf (by decide) (by decide) rfl rfl (Nat.le_of_ble_eq_true rfl) rfl (by decide) (gk_49 hG) (fun r hr => zMet_cast (Nat.add_assoc d 0 3) (mX10_hoursOf (d := d + 0) hG v1 v2 (D 70 v1.toNat) 0 r hr)) ?_
    rintro ⟨r_1, D_2⟩ -
    show zO _ _ _ _ _ _ [zI r_1] (F, D_2, n, sl) _ _
    exact zO_ret (rv := some (zI r_1)) dX4_firstTakes_16 rfl rfl rfl
  exact hz r hr
theorem dX0_layAll_0 : decode cX0_layAll 0 = .ok (.iload_n 2, 1) := by decide +kernel
theorem dX0_layAll_1 : decode cX0_layAll 1 = .ok (.istore_n 3, 1) := by decide +kernel
theorem dX0_layAll_2 : decode cX0_layAll 2 = .ok (.iload_n 3, 1) := by decide +kernel
theorem dX0_layAll_3 : decode cX0_layAll 3 = .ok (.ifCond .le 110, 3) := by decide +kernel
theorem dX0_layAll_6 : decode cX0_layAll 6 = .ok (.aload_n 0, 1) := by decide +kernel
theorem dX0_layAll_7 : decode cX0_layAll 7 = .ok (.getfield 19, 3) := by decide +kernel
theorem dX0_layAll_10 : decode cX0_layAll 10 = .ok (.iload_n 1, 1) := by decide +kernel
theorem dX0_layAll_11 : decode cX0_layAll 11 = .ok (.iload_n 3, 1) := by decide +kernel
theorem dX0_layAll_12 : decode cX0_layAll 12 = .ok (.invokevirtual 54, 3) := by decide +kernel
theorem dX0_layAll_15 : decode cX0_layAll 15 = .ok (.istore 4, 2) := by decide +kernel
theorem dX0_layAll_17 : decode cX0_layAll 17 = .ok (.aload_n 0, 1) := by decide +kernel
theorem dX0_layAll_18 : decode cX0_layAll 18 = .ok (.getfield 38, 3) := by decide +kernel
theorem dX0_layAll_21 : decode cX0_layAll 21 = .ok (.ifCond .lt 33, 3) := by decide +kernel
theorem dX0_layAll_24 : decode cX0_layAll 24 = .ok (.iload 4, 2) := by decide +kernel
theorem dX0_layAll_26 : decode cX0_layAll 26 = .ok (.aload_n 0, 1) := by decide +kernel
theorem dX0_layAll_27 : decode cX0_layAll 27 = .ok (.getfield 44, 3) := by decide +kernel
theorem dX0_layAll_30 : decode cX0_layAll 30 = .ok (.if_icmp .le 24, 3) := by decide +kernel
theorem dX0_layAll_33 : decode cX0_layAll 33 = .ok (.aload_n 0, 1) := by decide +kernel
theorem dX0_layAll_34 : decode cX0_layAll 34 = .ok (.dup, 1) := by decide +kernel
theorem dX0_layAll_35 : decode cX0_layAll 35 = .ok (.getfield 38, 3) := by decide +kernel
theorem dX0_layAll_38 : decode cX0_layAll 38 = .ok (.iconst 1, 1) := by decide +kernel
theorem dX0_layAll_39 : decode cX0_layAll 39 = .ok (.isub, 1) := by decide +kernel
theorem dX0_layAll_40 : decode cX0_layAll 40 = .ok (.putfield 38, 3) := by decide +kernel
theorem dX0_layAll_43 : decode cX0_layAll 43 = .ok (.aload_n 0, 1) := by decide +kernel
theorem dX0_layAll_44 : decode cX0_layAll 44 = .ok (.aload_n 0, 1) := by decide +kernel
theorem dX0_layAll_45 : decode cX0_layAll 45 = .ok (.getfield 41, 3) := by decide +kernel
theorem dX0_layAll_48 : decode cX0_layAll 48 = .ok (.putfield 44, 3) := by decide +kernel
theorem dX0_layAll_51 : decode cX0_layAll 51 = .ok (.goto (-34), 3) := by decide +kernel
theorem dX0_layAll_54 : decode cX0_layAll 54 = .ok (.aload_n 0, 1) := by decide +kernel
theorem dX0_layAll_55 : decode cX0_layAll 55 = .ok (.getfield 38, 3) := by decide +kernel
theorem dX0_layAll_58 : decode cX0_layAll 58 = .ok (.ifCond .ge 16, 3) := by decide +kernel
theorem dX0_layAll_61 : decode cX0_layAll 61 = .ok (.aload_n 0, 1) := by decide +kernel
theorem dX0_layAll_62 : decode cX0_layAll 62 = .ok (.dup, 1) := by decide +kernel
theorem dX0_layAll_63 : decode cX0_layAll 63 = .ok (.getfield 35, 3) := by decide +kernel
theorem dX0_layAll_66 : decode cX0_layAll 66 = .ok (.iconst 1, 1) := by decide +kernel
theorem dX0_layAll_67 : decode cX0_layAll 67 = .ok (.iadd, 1) := by decide +kernel
theorem dX0_layAll_68 : decode cX0_layAll 68 = .ok (.putfield 35, 3) := by decide +kernel
theorem dX0_layAll_71 : decode cX0_layAll 71 = .ok (.goto 36, 3) := by decide +kernel
theorem dX0_layAll_74 : decode cX0_layAll 74 = .ok (.aload_n 0, 1) := by decide +kernel
theorem dX0_layAll_75 : decode cX0_layAll 75 = .ok (.dup, 1) := by decide +kernel
theorem dX0_layAll_76 : decode cX0_layAll 76 = .ok (.getfield 44, 3) := by decide +kernel
theorem dX0_layAll_79 : decode cX0_layAll 79 = .ok (.iload 4, 2) := by decide +kernel
theorem dX0_layAll_81 : decode cX0_layAll 81 = .ok (.isub, 1) := by decide +kernel
theorem dX0_layAll_82 : decode cX0_layAll 82 = .ok (.putfield 44, 3) := by decide +kernel
theorem dX0_layAll_85 : decode cX0_layAll 85 = .ok (.aload_n 0, 1) := by decide +kernel
theorem dX0_layAll_86 : decode cX0_layAll 86 = .ok (.getfield 9, 3) := by decide +kernel
theorem dX0_layAll_89 : decode cX0_layAll 89 = .ok (.iload_n 1, 1) := by decide +kernel
theorem dX0_layAll_90 : decode cX0_layAll 90 = .ok (.iconst 3, 1) := by decide +kernel
theorem dX0_layAll_91 : decode cX0_layAll 91 = .ok (.imul, 1) := by decide +kernel
theorem dX0_layAll_92 : decode cX0_layAll 92 = .ok (.iload_n 3, 1) := by decide +kernel
theorem dX0_layAll_93 : decode cX0_layAll 93 = .ok (.iadd, 1) := by decide +kernel
theorem dX0_layAll_94 : decode cX0_layAll 94 = .ok (.aload_n 0, 1) := by decide +kernel
theorem dX0_layAll_95 : decode cX0_layAll 95 = .ok (.getfield 38, 3) := by decide +kernel
theorem dX0_layAll_98 : decode cX0_layAll 98 = .ok (.iastore, 1) := by decide +kernel
theorem dX0_layAll_99 : decode cX0_layAll 99 = .ok (.aload_n 0, 1) := by decide +kernel
theorem dX0_layAll_100 : decode cX0_layAll 100 = .ok (.aload_n 0, 1) := by decide +kernel
theorem dX0_layAll_101 : decode cX0_layAll 101 = .ok (.getfield 38, 3) := by decide +kernel
theorem dX0_layAll_104 : decode cX0_layAll 104 = .ok (.putfield 15, 3) := by decide +kernel
theorem dX0_layAll_107 : decode cX0_layAll 107 = .ok (.iinc 3 (-1), 3) := by decide +kernel
theorem dX0_layAll_110 : decode cX0_layAll 110 = .ok (.goto (-108), 3) := by decide +kernel
theorem dX0_layAll_113 : decode cX0_layAll 113 = .ok (.return_, 1) := by decide +kernel
abbrev YX0_layAll : zY := (yX0_layAll, cX0_layAll, 5, none, [])
def fX0_layAll_107 (F : zFs) (k_2 : Int → zDa → Option zDa) (o1 : Int) (o3 : Int) (D : zDa) : Option zDa :=
  if (-2147483648 ≤ o3 + (-1) ∧ o3 + (-1) ≤ 2147483647) then
    k_2 (o3 + (-1)) D
  else none
def fX0_layAll_54 (F : zFs) (k_2 : Int → zDa → Option zDa) (o1 : Int) (o3 : Int) (o4 : Int) (D : zDa) : Option zDa :=
  if (D 71 2) < 0 then
    if (-2147483648 ≤ (D 71 5) + 1 ∧ (D 71 5) + 1 ≤ 2147483647) then
      zlet (zwr D 71 5 ((D 71 5) + 1)) (fun D_3 =>
        fX0_layAll_107 F k_2 o1 o3 D_3)
    else none
  else
    if (-2147483648 ≤ (D 71 3) - o4 ∧ (D 71 3) - o4 ≤ 2147483647) then
      zlet (zwr D 71 3 ((D 71 3) - o4)) (fun D_4 =>
        if (-2147483648 ≤ o1 * 3 ∧ o1 * 3 ≤ 2147483647) ∧ (-2147483648 ≤ (o1 * 3) + o3 ∧ (o1 * 3) + o3 ≤ 2147483647) ∧ (0 ≤ ((o1 * 3) + o3) ∧ ((o1 * 3) + o3) < 60) then
          zlet (zwr D_4 72 ((o1 * 3) + o3).toNat (D_4 71 2)) (fun D_5 =>
            zlet (zwr D_5 71 6 (D_5 71 2)) (fun D_6 =>
              fX0_layAll_107 F k_2 o1 o3 D_6))
        else none)
    else none
def fX0_layAll_17 (F : zFs) (o1 : Int) (o3 : Int) (o4 : Int) (k_2 : Int → zDa → Option zDa) (k_17 : zDa → Option zDa)  (D : zDa) : Option zDa :=
  if (D 71 2) < 0 then
    fX0_layAll_54 F k_2 o1 o3 o4 D
  else
    if (D 71 3) < o4 then
      if (-2147483648 ≤ (D 71 2) - 1 ∧ (D 71 2) - 1 ≤ 2147483647) then
        zlet (zwr D 71 2 ((D 71 2) - 1)) (fun D_7 =>
          zlet (zwr D_7 71 3 (D_7 71 4)) (fun D_8 =>
            k_17 D_8))
      else none
    else
      fX0_layAll_54 F k_2 o1 o3 o4 D
def fX0_layAll_2 (F : zFs) (o1 : Int)  (k_2 : Int → zDa → Option zDa) (v3 : Int) (D : zDa) : Option zDa :=
  if 0 < v3 then
    (fX4_firstTakes F o1 v3 D).bind (fun (r_1, D_2) =>
      zfix (fun _ => none) (fX0_layAll_17 F o1 v3 r_1 k_2) zfu  D_2)
  else
    some D
def fX0_layAll (F : zFs) (v1 : Int) (v2 : Int) (D : zDa) : Option zDa :=
  zfix (fun _ _ => none) (fX0_layAll_2 F v1) zfu v2 D
set_option maxHeartbeats 20000000 in
theorem sX0_layAll_107 {l : Launch} {E : zE} {d : Nat} {F : zFs} {n sl : Nat} (hG : zG F)  (o1 : Int) (o3 : Int) (k_2 : Int → zDa → Option zDa) (hk_2 : ∀ (u3 : Int) (D : zDa), zO l E (d + 5) YX0_layAll 2 [(0, zR 71), (1, zI o1), (3, zI u3)] [] (F, D, n, sl) (zcV F n sl) (k_2 u3 D)) (D : zDa) : zO l E (d + 5) YX0_layAll 107 [(0, zR 71), (1, zI o1), (3, zI o3)] [] (F, D, n, sl) (zcV F n sl) (fX0_layAll_107 F k_2 o1 o3 D) := by
  unfold fX0_layAll_107
  refine zO_chk (fun h2 => ?_)
  refine zO_iinc dX0_layAll_107 rfl h2 (by decide) ?_
  refine zO_ls (ls' := [(0, zR 71), (1, zI o1), (3, zI (o3 + (-1)))]) rfl ?_
  refine zO_goto (tgt := 2) dX0_layAll_110 rfl ?_
  refine zO_live [0, 1, 3] ?_
  exact hk_2 (o3 + (-1)) D
set_option maxHeartbeats 20000000 in
theorem sX0_layAll_54 {l : Launch} {E : zE} {d : Nat} {F : zFs} {n sl : Nat} (hG : zG F)  (o1 : Int) (o3 : Int) (o4 : Int) (k_2 : Int → zDa → Option zDa) (hk_2 : ∀ (u3 : Int) (D : zDa), zO l E (d + 5) YX0_layAll 2 [(0, zR 71), (1, zI o1), (3, zI u3)] [] (F, D, n, sl) (zcV F n sl) (k_2 u3 D)) (D : zDa) : zO l E (d + 5) YX0_layAll 54 [(0, zR 71), (1, zI o1), (3, zI o3), (4, zI o4)] [] (F, D, n, sl) (zcV F n sl) (fX0_layAll_54 F k_2 o1 o3 o4 D) := by
  unfold fX0_layAll_54
  refine zO_aload_n dX0_layAll_54 rfl (zR_P _) ?_
  refine gt0 (k := 2) (v := zI (D 71 2)) dX0_layAll_55 wF_X0_38 (by decide) (gk_71 hG) rfl ?_
  refine zO_if_ge (tgt := 74) dX0_layAll_58 rfl (fun c58 => ?_) (fun c58 => ?_)
  · refine zO_chk (fun h1 => ?_)
    refine zO_aload_n dX0_layAll_61 rfl (zR_P _) ?_
    refine zO_dup dX0_layAll_62 (rfl) ?_
    refine gt0 (k := 5) (v := zI (D 71 5)) dX0_layAll_63 wF_X0_35 (by decide) (gk_71 hG) rfl ?_
    refine zO_iconst dX0_layAll_66 (by decide) ?_
    refine zO_iadd dX0_layAll_67 h1 ?_
    refine ptI0 (k := 5) (z := ((D 71 5) + 1)) dX0_layAll_68 wF_X0_35 (by decide) rfl (gk_71 hG) rfl ?_
    refine zO_letD (fun D_3 eD_3 => ?_)
    refine zO_goto (tgt := 107) dX0_layAll_71 rfl ?_
    refine zO_live [0, 1, 3] ?_
    exact sX0_layAll_107 hG o1 o3 _ hk_2 D_3
  · refine zO_chk (fun h3 => ?_)
    refine zO_aload_n dX0_layAll_74 rfl (zR_P _) ?_
    refine zO_dup dX0_layAll_75 (rfl) ?_
    refine gt0 (k := 3) (v := zI (D 71 3)) dX0_layAll_76 wF_X0_44 (by decide) (gk_71 hG) rfl ?_
    refine zO_iload dX0_layAll_79 rfl ?_
    refine zO_isub dX0_layAll_81 h3 ?_
    refine ptI0 (k := 3) (z := ((D 71 3) - o4)) dX0_layAll_82 wF_X0_44 (by decide) rfl (gk_71 hG) rfl ?_
    refine zO_letD (fun D_4 eD_4 => ?_)
    refine zO_chk (fun h4 => ?_)
    refine zO_aload_n dX0_layAll_85 rfl (zR_P _) ?_
    refine gt0 (k := 1) dX0_layAll_86 wF_X0_9 (by decide) (gk_71 hG) (zgv (c := 0) (k := 1) rfl (Or.inl ⟨_, rfl⟩) (gf_71_1 hG)) ?_
    refine zO_iload_n dX0_layAll_89 rfl ?_
    refine zO_iconst dX0_layAll_90 (by decide) ?_
    refine zO_imul dX0_layAll_91 h4.1 ?_
    refine zO_iload_n dX0_layAll_92 rfl ?_
    refine zO_iadd dX0_layAll_93 h4.2.1 ?_
    refine zO_aload_n dX0_layAll_94 rfl (zR_P _) ?_
    refine gt0 (k := 2) (v := zI (D_4 71 2)) dX0_layAll_95 wF_X0_38 (by decide) (gk_71 hG) rfl ?_
    refine zO_iast dX0_layAll_98 (gk_72 hG) (gl_in (gl_72 hG) h4.2.2) ?_
    refine zO_letD (fun D_5 eD_5 => ?_)
    refine zO_aload_n dX0_layAll_99 rfl (zR_P _) ?_
    refine zO_aload_n dX0_layAll_100 rfl (zR_P _) ?_
    refine gt0 (k := 2) (v := zI (D_5 71 2)) dX0_layAll_101 wF_X0_38 (by decide) (gk_71 hG) rfl ?_
    refine ptI0 (k := 6) (z := (D_5 71 2)) dX0_layAll_104 wF_X0_15 (by decide) rfl (gk_71 hG) rfl ?_
    refine zO_letD (fun D_6 eD_6 => ?_)
    refine zO_live [0, 1, 3] ?_
    exact sX0_layAll_107 hG o1 o3 _ hk_2 D_6
set_option maxHeartbeats 20000000 in
theorem sX0_layAll_17 {l : Launch} {E : zE} {d : Nat} {F : zFs} {n sl : Nat} (hG : zG F)  (o1 : Int) (o3 : Int) (o4 : Int) (k_2 : Int → zDa → Option zDa) (hk_2 : ∀ (u3 : Int) (D : zDa), zO l E (d + 5) YX0_layAll 2 [(0, zR 71), (1, zI o1), (3, zI u3)] [] (F, D, n, sl) (zcV F n sl) (k_2 u3 D)) : ∀ (N : Nat)  (D : zDa), zO l E (d + 5) YX0_layAll 17 [(0, zR 71), (1, zI o1), (3, zI o3), (4, zI o4)] [] (F, D, n, sl) (zcV F n sl) (zfix (fun _ => none) (fX0_layAll_17 F o1 o3 o4 k_2) N  D) := by
  intro N
  induction N with
  | zero => intro D; exact zO_none
  | succ N hk_17 =>
    intro D
    show zO _ _ _ _ _ _ _ _ _ ((fX0_layAll_17 F o1 o3 o4 k_2) (zfix (fun _ => none) (fX0_layAll_17 F o1 o3 o4 k_2) N)  D)
    unfold fX0_layAll_17
    refine zO_aload_n dX0_layAll_17 rfl (zR_P _) ?_
    refine gt0 (k := 2) (v := zI (D 71 2)) dX0_layAll_18 wF_X0_38 (by decide) (gk_71 hG) rfl ?_
    refine zO_if_lt (tgt := 54) dX0_layAll_21 rfl (fun c21 => ?_) (fun c21 => ?_)
    · refine zO_live [0, 1, 3, 4] ?_
      exact sX0_layAll_54 hG o1 o3 o4 _ hk_2 D
    · refine zO_iload dX0_layAll_24 rfl ?_
      refine zO_aload_n dX0_layAll_26 rfl (zR_P _) ?_
      refine gt0 (k := 3) (v := zI (D 71 3)) dX0_layAll_27 wF_X0_44 (by decide) (gk_71 hG) rfl ?_
      refine zO_icmp_le (tgt := 54) dX0_layAll_30 rfl (fun c30 => ?_) (fun c30 => ?_)
      · refine zO_chk (fun h5 => ?_)
        refine zO_aload_n dX0_layAll_33 rfl (zR_P _) ?_
        refine zO_dup dX0_layAll_34 (rfl) ?_
        refine gt0 (k := 2) (v := zI (D 71 2)) dX0_layAll_35 wF_X0_38 (by decide) (gk_71 hG) rfl ?_
        refine zO_iconst dX0_layAll_38 (by decide) ?_
        refine zO_isub dX0_layAll_39 h5 ?_
        refine ptI0 (k := 2) (z := ((D 71 2) - 1)) dX0_layAll_40 wF_X0_38 (by decide) rfl (gk_71 hG) rfl ?_
        refine zO_letD (fun D_7 eD_7 => ?_)
        refine zO_aload_n dX0_layAll_43 rfl (zR_P _) ?_
        refine zO_aload_n dX0_layAll_44 rfl (zR_P _) ?_
        refine gt0 (k := 4) (v := zI (D_7 71 4)) dX0_layAll_45 wF_X0_41 (by decide) (gk_71 hG) rfl ?_
        refine ptI0 (k := 3) (z := (D_7 71 4)) dX0_layAll_48 wF_X0_44 (by decide) rfl (gk_71 hG) rfl ?_
        refine zO_letD (fun D_8 eD_8 => ?_)
        refine zO_goto (tgt := 17) dX0_layAll_51 rfl ?_
        refine zO_live [0, 1, 3, 4] ?_
        exact hk_17 D_8
      · refine zO_live [0, 1, 3, 4] ?_
        exact sX0_layAll_54 hG o1 o3 o4 _ hk_2 D
set_option maxHeartbeats 20000000 in
theorem sX0_layAll_2 {l : Launch} {E : zE} {d : Nat} {F : zFs} {n sl : Nat} (hG : zG F)  (o1 : Int)   : ∀ (N : Nat) (v3 : Int) (D : zDa), zO l E (d + 5) YX0_layAll 2 [(0, zR 71), (1, zI o1), (3, zI v3)] [] (F, D, n, sl) (zcV F n sl) (zfix (fun _ _ => none) (fX0_layAll_2 F o1) N v3 D) := by
  intro N
  induction N with
  | zero => intro v3 D; exact zO_none
  | succ N hk_2 =>
    intro v3 D
    show zO _ _ _ _ _ _ _ _ _ ((fX0_layAll_2 F o1) (zfix (fun _ _ => none) (fX0_layAll_2 F o1) N) v3 D)
    unfold fX0_layAll_2
    refine zO_iload_n dX0_layAll_2 rfl ?_
    refine zO_if_le (tgt := 113) dX0_layAll_3 rfl (fun c3 => ?_) (fun c3 => ?_)
    · refine zO_aload_n dX0_layAll_6 rfl (zR_P _) ?_
      refine gt0 (k := 0) dX0_layAll_7 wF_X0_19 (by decide) (gk_71 hG) (zgv (c := 0) (k := 0) rfl (Or.inr ⟨_, rfl⟩) (gf_71_0 hG)) ?_
      refine zO_iload_n dX0_layAll_10 rfl ?_
      refine zO_iload_n dX0_layAll_11 rfl ?_
      refine zO_callV (Y' := YX4_firstTakes) (cw := zcI F n sl) (as := [zI o1, zI v3]) (rest := []) (na := 2) (ci := 4) rfl dX0_layAll_12 wC_X4_firstTakes wN_X4 wM_X0_54 wI_X4_firstTakes wV_X4_firstTakes (by decide) (by decide) rfl rfl (Nat.le_of_ble_eq_true rfl) rfl (by decide) (gk_60 hG) (fun r hr => zMet_cast (Nat.add_assoc d 0 4) (mX4_firstTakes (d := d + 0) hG o1 v3 r hr)) ?_
      rintro ⟨r_1, D_2⟩ -
      show zO _ _ _ _ _ _ [zI r_1] (F, D_2, n, sl) _ _
      refine zO_istore dX0_layAll_15 (by decide) ?_
      refine zO_ls (ls' := [(0, zR 71), (1, zI o1), (3, zI v3), (4, zI r_1)]) rfl ?_
      refine zO_live [0, 1, 3, 4] ?_
      exact sX0_layAll_17 hG o1 v3 r_1 _ hk_2 zfu D_2
    · exact zO_ret (rv := none) dX0_layAll_113 rfl trivial rfl
set_option maxHeartbeats 20000000 in
theorem mX0_layAll {l : Launch} {E : zE} {d : Nat} {F : zFs} {n sl : Nat} (hG : zG F) (v1 : Int) (v2 : Int) {D : zDa} : ∀ r, fX0_layAll F  v1 v2 D = some r → zMet l E (d + 5) YX0_layAll [zR 71, zI v1, zI v2] (F, D, n, sl) (zcV F n sl r) := by
  intro r hr
  refine zMet_of (plainFor_of_name (by decide)) (fun _ h => (nomatch h)) (Nat.le_of_ble_eq_true rfl) ?_
  have hz : zO l E (d + 5) YX0_layAll 0 [(0, zR 71), (1, zI v1), (2, zI v2)] [] (F, D, n, sl) (zcV F n sl) (fX0_layAll F  v1 v2 D) := by
    unfold fX0_layAll
    refine zO_iload_n dX0_layAll_0 rfl ?_
    refine zO_istore_n dX0_layAll_1 (by decide) ?_
    refine zO_ls (ls' := [(0, zR 71), (1, zI v1), (2, zI v2), (3, zI v2)]) rfl ?_
    refine zO_live [0, 1, 3] ?_
    exact sX0_layAll_2 hG v1 zfu v2 D
  exact hz r hr
theorem dX0_lay_0 : decode cX0_lay 0 = .ok (.aload_n 0, 1) := by decide +kernel
theorem dX0_lay_1 : decode cX0_lay 1 = .ok (.getfield 19, 3) := by decide +kernel
theorem dX0_lay_4 : decode cX0_lay 4 = .ok (.iload_n 1, 1) := by decide +kernel
theorem dX0_lay_5 : decode cX0_lay 5 = .ok (.iload_n 2, 1) := by decide +kernel
theorem dX0_lay_6 : decode cX0_lay 6 = .ok (.imul, 1) := by decide +kernel
theorem dX0_lay_7 : decode cX0_lay 7 = .ok (.invokevirtual 23, 3) := by decide +kernel
theorem dX0_lay_10 : decode cX0_lay 10 = .ok (.aload_n 0, 1) := by decide +kernel
theorem dX0_lay_11 : decode cX0_lay 11 = .ok (.getfield 9, 3) := by decide +kernel
theorem dX0_lay_14 : decode cX0_lay 14 = .ok (.iconst (-1), 1) := by decide +kernel
theorem dX0_lay_15 : decode cX0_lay 15 = .ok (.invokestatic 29, 3) := by decide +kernel
theorem dX0_lay_18 : decode cX0_lay 18 = .ok (.aload_n 0, 1) := by decide +kernel
theorem dX0_lay_19 : decode cX0_lay 19 = .ok (.iconst 0, 1) := by decide +kernel
theorem dX0_lay_20 : decode cX0_lay 20 = .ok (.putfield 35, 3) := by decide +kernel
theorem dX0_lay_23 : decode cX0_lay 23 = .ok (.aload_n 0, 1) := by decide +kernel
theorem dX0_lay_24 : decode cX0_lay 24 = .ok (.iconst (-1), 1) := by decide +kernel
theorem dX0_lay_25 : decode cX0_lay 25 = .ok (.putfield 15, 3) := by decide +kernel
theorem dX0_lay_28 : decode cX0_lay 28 = .ok (.aload_n 0, 1) := by decide +kernel
theorem dX0_lay_29 : decode cX0_lay 29 = .ok (.iload_n 1, 1) := by decide +kernel
theorem dX0_lay_30 : decode cX0_lay 30 = .ok (.iconst 1, 1) := by decide +kernel
theorem dX0_lay_31 : decode cX0_lay 31 = .ok (.isub, 1) := by decide +kernel
theorem dX0_lay_32 : decode cX0_lay 32 = .ok (.putfield 38, 3) := by decide +kernel
theorem dX0_lay_35 : decode cX0_lay 35 = .ok (.aload_n 0, 1) := by decide +kernel
theorem dX0_lay_36 : decode cX0_lay 36 = .ok (.iload_n 2, 1) := by decide +kernel
theorem dX0_lay_37 : decode cX0_lay 37 = .ok (.putfield 41, 3) := by decide +kernel
theorem dX0_lay_40 : decode cX0_lay 40 = .ok (.aload_n 0, 1) := by decide +kernel
theorem dX0_lay_41 : decode cX0_lay 41 = .ok (.iload_n 2, 1) := by decide +kernel
theorem dX0_lay_42 : decode cX0_lay 42 = .ok (.putfield 44, 3) := by decide +kernel
theorem dX0_lay_45 : decode cX0_lay 45 = .ok (.iconst 2, 1) := by decide +kernel
theorem dX0_lay_46 : decode cX0_lay 46 = .ok (.istore_n 3, 1) := by decide +kernel
theorem dX0_lay_47 : decode cX0_lay 47 = .ok (.iload_n 3, 1) := by decide +kernel
theorem dX0_lay_48 : decode cX0_lay 48 = .ok (.ifCond .le 46, 3) := by decide +kernel
theorem dX0_lay_51 : decode cX0_lay 51 = .ok (.iconst 0, 1) := by decide +kernel
theorem dX0_lay_52 : decode cX0_lay 52 = .ok (.istore 4, 2) := by decide +kernel
theorem dX0_lay_54 : decode cX0_lay 54 = .ok (.iload 4, 2) := by decide +kernel
theorem dX0_lay_56 : decode cX0_lay 56 = .ok (.bipush 20, 2) := by decide +kernel
theorem dX0_lay_58 : decode cX0_lay 58 = .ok (.if_icmp .ge 30, 3) := by decide +kernel
theorem dX0_lay_61 : decode cX0_lay 61 = .ok (.aload_n 0, 1) := by decide +kernel
theorem dX0_lay_62 : decode cX0_lay 62 = .ok (.getfield 19, 3) := by decide +kernel
theorem dX0_lay_65 : decode cX0_lay 65 = .ok (.getfield 47, 3) := by decide +kernel
theorem dX0_lay_68 : decode cX0_lay 68 = .ok (.iload 4, 2) := by decide +kernel
theorem dX0_lay_70 : decode cX0_lay 70 = .ok (.iaload, 1) := by decide +kernel
theorem dX0_lay_71 : decode cX0_lay 71 = .ok (.iload_n 3, 1) := by decide +kernel
theorem dX0_lay_72 : decode cX0_lay 72 = .ok (.if_icmp .ne 10, 3) := by decide +kernel
theorem dX0_lay_75 : decode cX0_lay 75 = .ok (.aload_n 0, 1) := by decide +kernel
theorem dX0_lay_76 : decode cX0_lay 76 = .ok (.iload 4, 2) := by decide +kernel
theorem dX0_lay_78 : decode cX0_lay 78 = .ok (.iload_n 3, 1) := by decide +kernel
theorem dX0_lay_79 : decode cX0_lay 79 = .ok (.invokevirtual 50, 3) := by decide +kernel
theorem dX0_lay_82 : decode cX0_lay 82 = .ok (.iinc 4 1, 3) := by decide +kernel
theorem dX0_lay_85 : decode cX0_lay 85 = .ok (.goto (-31), 3) := by decide +kernel
theorem dX0_lay_88 : decode cX0_lay 88 = .ok (.iinc 3 (-1), 3) := by decide +kernel
theorem dX0_lay_91 : decode cX0_lay 91 = .ok (.goto (-44), 3) := by decide +kernel
theorem dX0_lay_94 : decode cX0_lay 94 = .ok (.return_, 1) := by decide +kernel
abbrev YX0_lay : zY := (yX0_lay, cX0_lay, 5, none, [])
def fX0_lay_82 (F : zFs) (k_47 : Int → zDa → Option zDa) (k_54 : Int → zDa → Option zDa) (o3 : Int) (v4 : Int) (D : zDa) : Option zDa :=
  if (-2147483648 ≤ v4 + 1 ∧ v4 + 1 ≤ 2147483647) then
    k_54 (v4 + 1) D
  else none
def fX0_lay_54 (F : zFs) (o3 : Int) (k_47 : Int → zDa → Option zDa) (k_54 : Int → zDa → Option zDa) (v4 : Int) (D : zDa) : Option zDa :=
  if v4 < 20 then
    if (0 ≤ v4 ∧ v4 < 20) then
      if (D 69 v4.toNat) = o3 then
        (fX0_layAll F v4 o3 D).bind (fun D_11 =>
          fX0_lay_82 F k_47 k_54 o3 v4 D_11)
      else
        fX0_lay_82 F k_47 k_54 o3 v4 D
    else none
  else
    if (-2147483648 ≤ o3 + (-1) ∧ o3 + (-1) ≤ 2147483647) then
      k_47 (o3 + (-1)) D
    else none
def fX0_lay_47 (F : zFs)   (k_47 : Int → zDa → Option zDa) (v3 : Int) (D : zDa) : Option zDa :=
  if 0 < v3 then
    zfix (fun _ _ => none) (fX0_lay_54 F v3 k_47) zfu 0 D
  else
    some D
def fX0_lay (F : zFs) (v1 : Int) (v2 : Int) (D : zDa) : Option zDa :=
  if (-2147483648 ≤ v1 * v2 ∧ v1 * v2 ≤ 2147483647) then
    (fX4_findFirst F (v1 * v2) D).bind (fun D_2 =>
      (fJ7_fill_53178 F 72 (-1) D_2).bind (fun D_4 =>
        zlet (zwr D_4 71 5 0) (fun D_5 =>
          zlet (zwr D_5 71 6 (-1)) (fun D_6 =>
            if (-2147483648 ≤ v1 - 1 ∧ v1 - 1 ≤ 2147483647) then
              zlet (zwr D_6 71 2 (v1 - 1)) (fun D_7 =>
                zlet (zwr D_7 71 4 v2) (fun D_8 =>
                  zlet (zwr D_8 71 3 v2) (fun D_9 =>
                    zfix (fun _ _ => none) (fX0_lay_47 F) zfu 2 D_9)))
            else none))))
  else none
set_option maxHeartbeats 20000000 in
theorem sX0_lay_82 {l : Launch} {E : zE} {d : Nat} {F : zFs} {n sl : Nat} (hG : zG F)  (o3 : Int) (v4 : Int) (k_47 : Int → zDa → Option zDa) (k_54 : Int → zDa → Option zDa) (hk_47 : ∀ (u3 : Int) (D : zDa), zO l E (d + 6) YX0_lay 47 [(0, zR 71), (3, zI u3)] [] (F, D, n, sl) (zcV F n sl) (k_47 u3 D)) (hk_54 : ∀ (u4 : Int) (D : zDa), zO l E (d + 6) YX0_lay 54 [(0, zR 71), (3, zI o3), (4, zI u4)] [] (F, D, n, sl) (zcV F n sl) (k_54 u4 D)) (D : zDa) : zO l E (d + 6) YX0_lay 82 [(0, zR 71), (3, zI o3), (4, zI v4)] [] (F, D, n, sl) (zcV F n sl) (fX0_lay_82 F k_47 k_54 o3 v4 D) := by
  unfold fX0_lay_82
  refine zO_chk (fun h4 => ?_)
  refine zO_iinc dX0_lay_82 rfl h4 (by decide) ?_
  refine zO_ls (ls' := [(0, zR 71), (3, zI o3), (4, zI (v4 + 1))]) rfl ?_
  refine zO_goto (tgt := 54) dX0_lay_85 rfl ?_
  refine zO_live [0, 3, 4] ?_
  exact hk_54 (v4 + 1) D
set_option maxHeartbeats 20000000 in
theorem sX0_lay_54 {l : Launch} {E : zE} {d : Nat} {F : zFs} {n sl : Nat} (hG : zG F)  (o3 : Int) (k_47 : Int → zDa → Option zDa) (hk_47 : ∀ (u3 : Int) (D : zDa), zO l E (d + 6) YX0_lay 47 [(0, zR 71), (3, zI u3)] [] (F, D, n, sl) (zcV F n sl) (k_47 u3 D)) : ∀ (N : Nat) (v4 : Int) (D : zDa), zO l E (d + 6) YX0_lay 54 [(0, zR 71), (3, zI o3), (4, zI v4)] [] (F, D, n, sl) (zcV F n sl) (zfix (fun _ _ => none) (fX0_lay_54 F o3 k_47) N v4 D) := by
  intro N
  induction N with
  | zero => intro v4 D; exact zO_none
  | succ N hk_54 =>
    intro v4 D
    show zO _ _ _ _ _ _ _ _ _ ((fX0_lay_54 F o3 k_47) (zfix (fun _ _ => none) (fX0_lay_54 F o3 k_47) N) v4 D)
    unfold fX0_lay_54
    refine zO_iload dX0_lay_54 rfl ?_
    refine zO_bipush dX0_lay_56 (by decide) ?_
    refine zO_icmp_ge (tgt := 88) dX0_lay_58 rfl (fun c58 => ?_) (fun c58 => ?_)
    · refine zO_chk (fun h3 => ?_)
      refine zO_aload_n dX0_lay_61 rfl (zR_P _) ?_
      refine gt0 (k := 0) dX0_lay_62 wF_X0_19 (by decide) (gk_71 hG) (zgv (c := 0) (k := 0) rfl (Or.inr ⟨_, rfl⟩) (gf_71_0 hG)) ?_
      refine gt4 (k := 15) dX0_lay_65 wF_X0_47 (by decide) (gk_60 hG) (zgv (c := 4) (k := 15) rfl (Or.inl ⟨_, rfl⟩) (gf_60_15 hG)) ?_
      refine zO_iload dX0_lay_68 rfl ?_
      refine zO_iald dX0_lay_70 (gk_69 hG) (gl_in (gl_69 hG) h3) ?_
      refine zO_iload_n dX0_lay_71 rfl ?_
      refine zO_icmp_ne (tgt := 82) dX0_lay_72 rfl (fun c72 => ?_) (fun c72 => ?_)
      · refine zO_aload_n dX0_lay_75 rfl (zR_P _) ?_
        refine zO_iload dX0_lay_76 rfl ?_
        refine zO_iload_n dX0_lay_78 rfl ?_
        refine zO_callV (Y' := YX0_layAll) (cw := zcV F n sl) (as := [zI v4, zI o3]) (rest := []) (na := 2) (ci := 0) rfl dX0_lay_79 wC_X0_layAll wN_X0 wM_X0_50 wI_X0_layAll wV_X0_layAll (by decide) (by decide) rfl rfl (Nat.le_of_ble_eq_true rfl) rfl (by decide) (gk_71 hG) (fun r hr => zMet_cast (Nat.add_assoc d 0 5) (mX0_layAll (d := d + 0) hG v4 o3 r hr)) ?_
        intro D_11 _
        show zO _ _ _ _ _ _ [] (F, D_11, n, sl) _ _
        refine zO_live [0, 3, 4] ?_
        exact sX0_lay_82 hG o3 v4 _ _ hk_47 hk_54 D_11
      · refine zO_live [0, 3, 4] ?_
        exact sX0_lay_82 hG o3 v4 _ _ hk_47 hk_54 D
    · refine zO_chk (fun h5 => ?_)
      refine zO_iinc dX0_lay_88 rfl h5 (by decide) ?_
      refine zO_ls (ls' := [(0, zR 71), (3, zI (o3 + (-1))), (4, zI v4)]) rfl ?_
      refine zO_goto (tgt := 47) dX0_lay_91 rfl ?_
      refine zO_live [0, 3] ?_
      exact hk_47 (o3 + (-1)) D
set_option maxHeartbeats 20000000 in
theorem sX0_lay_47 {l : Launch} {E : zE} {d : Nat} {F : zFs} {n sl : Nat} (hG : zG F)     : ∀ (N : Nat) (v3 : Int) (D : zDa), zO l E (d + 6) YX0_lay 47 [(0, zR 71), (3, zI v3)] [] (F, D, n, sl) (zcV F n sl) (zfix (fun _ _ => none) (fX0_lay_47 F) N v3 D) := by
  intro N
  induction N with
  | zero => intro v3 D; exact zO_none
  | succ N hk_47 =>
    intro v3 D
    show zO _ _ _ _ _ _ _ _ _ ((fX0_lay_47 F) (zfix (fun _ _ => none) (fX0_lay_47 F) N) v3 D)
    unfold fX0_lay_47
    refine zO_iload_n dX0_lay_47 rfl ?_
    refine zO_if_le (tgt := 94) dX0_lay_48 rfl (fun c48 => ?_) (fun c48 => ?_)
    · refine zO_iconst dX0_lay_51 (by decide) ?_
      refine zO_istore dX0_lay_52 (by decide) ?_
      refine zO_ls (ls' := [(0, zR 71), (3, zI v3), (4, zI 0)]) rfl ?_
      refine zO_live [0, 3, 4] ?_
      exact sX0_lay_54 hG v3 _ hk_47 zfu 0 D
    · exact zO_ret (rv := none) dX0_lay_94 rfl trivial rfl
set_option maxHeartbeats 20000000 in
theorem mX0_lay {l : Launch} {E : zE} {d : Nat} {F : zFs} {n sl : Nat} (hG : zG F) (v1 : Int) (v2 : Int) {D : zDa} : ∀ r, fX0_lay F  v1 v2 D = some r → zMet l E (d + 6) YX0_lay [zR 71, zI v1, zI v2] (F, D, n, sl) (zcV F n sl r) := by
  intro r hr
  refine zMet_of (plainFor_of_name (by decide)) (fun _ h => (nomatch h)) (Nat.le_of_ble_eq_true rfl) ?_
  have hz : zO l E (d + 6) YX0_lay 0 [(0, zR 71), (1, zI v1), (2, zI v2)] [] (F, D, n, sl) (zcV F n sl) (fX0_lay F  v1 v2 D) := by
    unfold fX0_lay
    refine zO_chk (fun h1 => ?_)
    refine zO_aload_n dX0_lay_0 rfl (zR_P _) ?_
    refine gt0 (k := 0) dX0_lay_1 wF_X0_19 (by decide) (gk_71 hG) (zgv (c := 0) (k := 0) rfl (Or.inr ⟨_, rfl⟩) (gf_71_0 hG)) ?_
    refine zO_iload_n dX0_lay_4 rfl ?_
    refine zO_iload_n dX0_lay_5 rfl ?_
    refine zO_imul dX0_lay_6 h1 ?_
    refine zO_callV (Y' := YX4_findFirst) (cw := zcV F n sl) (as := [zI (v1 * v2)]) (rest := []) (na := 1) (ci := 4) rfl dX0_lay_7 wC_X4_findFirst wN_X4 wM_X0_23 wI_X4_findFirst wV_X4_findFirst (by decide) (by decide) rfl rfl (Nat.le_of_ble_eq_true rfl) rfl (by decide) (gk_60 hG) (fun r hr => zMet_cast (Nat.add_assoc d 2 3) (mX4_findFirst (d := d + 2) hG (v1 * v2) r hr)) ?_
    intro D_2 _
    show zO _ _ _ _ _ _ [] (F, D_2, n, sl) _ _
    refine zO_aload_n dX0_lay_10 rfl (zR_P _) ?_
    refine gt0 (k := 1) dX0_lay_11 wF_X0_9 (by decide) (gk_71 hG) (zgv (c := 0) (k := 1) rfl (Or.inl ⟨_, rfl⟩) (gf_71_1 hG)) ?_
    refine zO_iconst dX0_lay_14 (by decide) ?_
    refine zO_callS (Y' := YJ7_fill_53178) (cw := zcV F n sl) (as := [zR 72, zI (-1)]) (rest := []) (na := 2) dX0_lay_15 wC_J7_fill_53178 wN_J7 wM_X0_29 wS_J7_fill_53178 (by decide) (by decide) rfl rfl (Nat.le_of_ble_eq_true rfl) (fun r hr => zMet_cast (Nat.add_assoc d 5 0) (mJ7_fill_53178 (d := d + 5) hG 72 (-1) r hr)) ?_
    intro D_4 _
    show zO _ _ _ _ _ _ [] (F, D_4, n, sl) _ _
    refine zO_aload_n dX0_lay_18 rfl (zR_P _) ?_
    refine zO_iconst dX0_lay_19 (by decide) ?_
    refine ptI0 (k := 5) (z := 0) dX0_lay_20 wF_X0_35 (by decide) rfl (gk_71 hG) rfl ?_
    refine zO_letD (fun D_5 eD_5 => ?_)
    refine zO_aload_n dX0_lay_23 rfl (zR_P _) ?_
    refine zO_iconst dX0_lay_24 (by decide) ?_
    refine ptI0 (k := 6) (z := (-1)) dX0_lay_25 wF_X0_15 (by decide) rfl (gk_71 hG) rfl ?_
    refine zO_letD (fun D_6 eD_6 => ?_)
    refine zO_chk (fun h2 => ?_)
    refine zO_aload_n dX0_lay_28 rfl (zR_P _) ?_
    refine zO_iload_n dX0_lay_29 rfl ?_
    refine zO_iconst dX0_lay_30 (by decide) ?_
    refine zO_isub dX0_lay_31 h2 ?_
    refine ptI0 (k := 2) (z := (v1 - 1)) dX0_lay_32 wF_X0_38 (by decide) rfl (gk_71 hG) rfl ?_
    refine zO_letD (fun D_7 eD_7 => ?_)
    refine zO_aload_n dX0_lay_35 rfl (zR_P _) ?_
    refine zO_iload_n dX0_lay_36 rfl ?_
    refine ptI0 (k := 4) (z := v2) dX0_lay_37 wF_X0_41 (by decide) rfl (gk_71 hG) rfl ?_
    refine zO_letD (fun D_8 eD_8 => ?_)
    refine zO_aload_n dX0_lay_40 rfl (zR_P _) ?_
    refine zO_iload_n dX0_lay_41 rfl ?_
    refine ptI0 (k := 3) (z := v2) dX0_lay_42 wF_X0_44 (by decide) rfl (gk_71 hG) rfl ?_
    refine zO_letD (fun D_9 eD_9 => ?_)
    refine zO_iconst dX0_lay_45 (by decide) ?_
    refine zO_istore_n dX0_lay_46 (by decide) ?_
    refine zO_ls (ls' := [(0, zR 71), (1, zI v1), (2, zI v2), (3, zI 2)]) rfl ?_
    refine zO_live [0, 3] ?_
    exact sX0_lay_47 hG zfu 2 D_9
  exact hz r hr
theorem dX0_dayOf_0 : decode cX0_dayOf 0 = .ok (.aload_n 0, 1) := by decide +kernel
theorem dX0_dayOf_1 : decode cX0_dayOf 1 = .ok (.getfield 9, 3) := by decide +kernel
theorem dX0_dayOf_4 : decode cX0_dayOf 4 = .ok (.iload_n 1, 1) := by decide +kernel
theorem dX0_dayOf_5 : decode cX0_dayOf 5 = .ok (.iconst 3, 1) := by decide +kernel
theorem dX0_dayOf_6 : decode cX0_dayOf 6 = .ok (.imul, 1) := by decide +kernel
theorem dX0_dayOf_7 : decode cX0_dayOf 7 = .ok (.iload_n 2, 1) := by decide +kernel
theorem dX0_dayOf_8 : decode cX0_dayOf 8 = .ok (.iadd, 1) := by decide +kernel
theorem dX0_dayOf_9 : decode cX0_dayOf 9 = .ok (.iaload, 1) := by decide +kernel
theorem dX0_dayOf_10 : decode cX0_dayOf 10 = .ok (.ireturn, 1) := by decide +kernel
abbrev YX0_dayOf : zY := (yX0_dayOf, cX0_dayOf, 3, (Option.some Jvm.ClassFile.FieldType.int), [])
def fX0_dayOf (F : zFs) (v1 : Int) (v2 : Int) (D : zDa) : Option (Int × zDa) :=
  if (-2147483648 ≤ v1 * 3 ∧ v1 * 3 ≤ 2147483647) ∧ (-2147483648 ≤ (v1 * 3) + v2 ∧ (v1 * 3) + v2 ≤ 2147483647) ∧ (0 ≤ ((v1 * 3) + v2) ∧ ((v1 * 3) + v2) < 60) then
    some ((D 72 ((v1 * 3) + v2).toNat), D)
  else none
set_option maxHeartbeats 20000000 in
theorem mX0_dayOf {l : Launch} {E : zE} {d : Nat} {F : zFs} {n sl : Nat} (hG : zG F) (v1 : Int) (v2 : Int) {D : zDa} : ∀ r, fX0_dayOf F  v1 v2 D = some r → zMet l E (d + 0) YX0_dayOf [zR 71, zI v1, zI v2] (F, D, n, sl) (zcI F n sl r) := by
  intro r hr
  refine zMet_of (plainFor_of_name (by decide)) (fun _ h => (nomatch h)) (Nat.le_of_ble_eq_true rfl) ?_
  have hz : zO l E (d + 0) YX0_dayOf 0 [(0, zR 71), (1, zI v1), (2, zI v2)] [] (F, D, n, sl) (zcI F n sl) (fX0_dayOf F  v1 v2 D) := by
    unfold fX0_dayOf
    refine zO_chk (fun h1 => ?_)
    refine zO_aload_n dX0_dayOf_0 rfl (zR_P _) ?_
    refine gt0 (k := 1) dX0_dayOf_1 wF_X0_9 (by decide) (gk_71 hG) (zgv (c := 0) (k := 1) rfl (Or.inl ⟨_, rfl⟩) (gf_71_1 hG)) ?_
    refine zO_iload_n dX0_dayOf_4 rfl ?_
    refine zO_iconst dX0_dayOf_5 (by decide) ?_
    refine zO_imul dX0_dayOf_6 h1.1 ?_
    refine zO_iload_n dX0_dayOf_7 rfl ?_
    refine zO_iadd dX0_dayOf_8 h1.2.1 ?_
    refine zO_iald dX0_dayOf_9 (gk_72 hG) (gl_in (gl_72 hG) h1.2.2) ?_
    exact zO_ret (rv := some (zI (D 72 ((v1 * 3) + v2).toNat))) dX0_dayOf_10 rfl rfl rfl
  exact hz r hr
theorem dX1_levelBehind_0 : decode cX1_levelBehind 0 = .ok (.aload_n 0, 1) := by decide +kernel
theorem dX1_levelBehind_1 : decode cX1_levelBehind 1 = .ok (.getfield 22, 3) := by decide +kernel
theorem dX1_levelBehind_4 : decode cX1_levelBehind 4 = .ok (.iload_n 1, 1) := by decide +kernel
theorem dX1_levelBehind_5 : decode cX1_levelBehind 5 = .ok (.bipush 20, 2) := by decide +kernel
theorem dX1_levelBehind_7 : decode cX1_levelBehind 7 = .ok (.imul, 1) := by decide +kernel
theorem dX1_levelBehind_8 : decode cX1_levelBehind 8 = .ok (.iload_n 2, 1) := by decide +kernel
theorem dX1_levelBehind_9 : decode cX1_levelBehind 9 = .ok (.iadd, 1) := by decide +kernel
theorem dX1_levelBehind_10 : decode cX1_levelBehind 10 = .ok (.iaload, 1) := by decide +kernel
theorem dX1_levelBehind_11 : decode cX1_levelBehind 11 = .ok (.ireturn, 1) := by decide +kernel
abbrev YX1_levelBehind : zY := (yX1_levelBehind, cX1_levelBehind, 3, (Option.some Jvm.ClassFile.FieldType.int), [])
def fX1_levelBehind (F : zFs) (v1 : Int) (v2 : Int) (D : zDa) : Option (Int × zDa) :=
  if (-2147483648 ≤ v1 * 20 ∧ v1 * 20 ≤ 2147483647) ∧ (-2147483648 ≤ (v1 * 20) + v2 ∧ (v1 * 20) + v2 ≤ 2147483647) ∧ (0 ≤ ((v1 * 20) + v2) ∧ ((v1 * 20) + v2) < 400) then
    some ((D 76 ((v1 * 20) + v2).toNat), D)
  else none
set_option maxHeartbeats 20000000 in
theorem mX1_levelBehind {l : Launch} {E : zE} {d : Nat} {F : zFs} {n sl : Nat} (hG : zG F) (v1 : Int) (v2 : Int) {D : zDa} : ∀ r, fX1_levelBehind F  v1 v2 D = some r → zMet l E (d + 0) YX1_levelBehind [zR 73, zI v1, zI v2] (F, D, n, sl) (zcI F n sl r) := by
  intro r hr
  refine zMet_of (plainFor_of_name (by decide)) (fun _ h => (nomatch h)) (Nat.le_of_ble_eq_true rfl) ?_
  have hz : zO l E (d + 0) YX1_levelBehind 0 [(0, zR 73), (1, zI v1), (2, zI v2)] [] (F, D, n, sl) (zcI F n sl) (fX1_levelBehind F  v1 v2 D) := by
    unfold fX1_levelBehind
    refine zO_chk (fun h1 => ?_)
    refine zO_aload_n dX1_levelBehind_0 rfl (zR_P _) ?_
    refine gt1 (k := 5) dX1_levelBehind_1 wF_X1_22 (by decide) (gk_73 hG) (zgv (c := 1) (k := 5) rfl (Or.inl ⟨_, rfl⟩) (gf_73_5 hG)) ?_
    refine zO_iload_n dX1_levelBehind_4 rfl ?_
    refine zO_bipush dX1_levelBehind_5 (by decide) ?_
    refine zO_imul dX1_levelBehind_7 h1.1 ?_
    refine zO_iload_n dX1_levelBehind_8 rfl ?_
    refine zO_iadd dX1_levelBehind_9 h1.2.1 ?_
    refine zO_iald dX1_levelBehind_10 (gk_76 hG) (gl_in (gl_76 hG) h1.2.2) ?_
    exact zO_ret (rv := some (zI (D 76 ((v1 * 20) + v2).toNat))) dX1_levelBehind_11 rfl rfl rfl
  exact hz r hr
theorem dX1_isHelped_0 : decode cX1_isHelped 0 = .ok (.aload_n 0, 1) := by decide +kernel
theorem dX1_isHelped_1 : decode cX1_isHelped 1 = .ok (.getfield 31, 3) := by decide +kernel
theorem dX1_isHelped_4 : decode cX1_isHelped 4 = .ok (.getfield 103, 3) := by decide +kernel
theorem dX1_isHelped_7 : decode cX1_isHelped 7 = .ok (.iload_n 1, 1) := by decide +kernel
theorem dX1_isHelped_8 : decode cX1_isHelped 8 = .ok (.iaload, 1) := by decide +kernel
theorem dX1_isHelped_9 : decode cX1_isHelped 9 = .ok (.istore_n 2, 1) := by decide +kernel
theorem dX1_isHelped_10 : decode cX1_isHelped 10 = .ok (.iconst 0, 1) := by decide +kernel
theorem dX1_isHelped_11 : decode cX1_isHelped 11 = .ok (.istore_n 3, 1) := by decide +kernel
theorem dX1_isHelped_12 : decode cX1_isHelped 12 = .ok (.iload_n 3, 1) := by decide +kernel
theorem dX1_isHelped_13 : decode cX1_isHelped 13 = .ok (.aload_n 0, 1) := by decide +kernel
theorem dX1_isHelped_14 : decode cX1_isHelped 14 = .ok (.getfield 31, 3) := by decide +kernel
theorem dX1_isHelped_17 : decode cX1_isHelped 17 = .ok (.getfield 106, 3) := by decide +kernel
theorem dX1_isHelped_20 : decode cX1_isHelped 20 = .ok (.if_icmp .ge 42, 3) := by decide +kernel
theorem dX1_isHelped_23 : decode cX1_isHelped 23 = .ok (.iload_n 2, 1) := by decide +kernel
theorem dX1_isHelped_24 : decode cX1_isHelped 24 = .ok (.ifCond .eq 32, 3) := by decide +kernel
theorem dX1_isHelped_27 : decode cX1_isHelped 27 = .ok (.iload_n 3, 1) := by decide +kernel
theorem dX1_isHelped_28 : decode cX1_isHelped 28 = .ok (.iload_n 1, 1) := by decide +kernel
theorem dX1_isHelped_29 : decode cX1_isHelped 29 = .ok (.if_icmp .eq 27, 3) := by decide +kernel
theorem dX1_isHelped_32 : decode cX1_isHelped 32 = .ok (.aload_n 0, 1) := by decide +kernel
theorem dX1_isHelped_33 : decode cX1_isHelped 33 = .ok (.getfield 31, 3) := by decide +kernel
theorem dX1_isHelped_36 : decode cX1_isHelped 36 = .ok (.getfield 103, 3) := by decide +kernel
theorem dX1_isHelped_39 : decode cX1_isHelped 39 = .ok (.iload_n 3, 1) := by decide +kernel
theorem dX1_isHelped_40 : decode cX1_isHelped 40 = .ok (.iaload, 1) := by decide +kernel
theorem dX1_isHelped_41 : decode cX1_isHelped 41 = .ok (.iload_n 2, 1) := by decide +kernel
theorem dX1_isHelped_42 : decode cX1_isHelped 42 = .ok (.if_icmp .ne 14, 3) := by decide +kernel
theorem dX1_isHelped_45 : decode cX1_isHelped 45 = .ok (.aload_n 0, 1) := by decide +kernel
theorem dX1_isHelped_46 : decode cX1_isHelped 46 = .ok (.getfield 15, 3) := by decide +kernel
theorem dX1_isHelped_49 : decode cX1_isHelped 49 = .ok (.iload_n 3, 1) := by decide +kernel
theorem dX1_isHelped_50 : decode cX1_isHelped 50 = .ok (.iaload, 1) := by decide +kernel
theorem dX1_isHelped_51 : decode cX1_isHelped 51 = .ok (.ifCond .le 5, 3) := by decide +kernel
theorem dX1_isHelped_54 : decode cX1_isHelped 54 = .ok (.iconst 1, 1) := by decide +kernel
theorem dX1_isHelped_55 : decode cX1_isHelped 55 = .ok (.ireturn, 1) := by decide +kernel
theorem dX1_isHelped_56 : decode cX1_isHelped 56 = .ok (.iinc 3 1, 3) := by decide +kernel
theorem dX1_isHelped_59 : decode cX1_isHelped 59 = .ok (.goto (-47), 3) := by decide +kernel
theorem dX1_isHelped_62 : decode cX1_isHelped 62 = .ok (.iconst 0, 1) := by decide +kernel
theorem dX1_isHelped_63 : decode cX1_isHelped 63 = .ok (.ireturn, 1) := by decide +kernel
abbrev YX1_isHelped : zY := (yX1_isHelped, cX1_isHelped, 4, (Option.some Jvm.ClassFile.FieldType.boolean), [])
def fX1_isHelped_56 (F : zFs) (k_12 : Int → zDa → Option (Int × zDa)) (o1 : Int) (o2 : Int) (v3 : Int) (D : zDa) : Option (Int × zDa) :=
  if (-2147483648 ≤ v3 + 1 ∧ v3 + 1 ≤ 2147483647) then
    k_12 (v3 + 1) D
  else none
def fX1_isHelped_12 (F : zFs) (o1 : Int) (o2 : Int)  (k_12 : Int → zDa → Option (Int × zDa)) (v3 : Int) (D : zDa) : Option (Int × zDa) :=
  if v3 < (D 1 5) then
    if o2 = 0 then
      fX1_isHelped_56 F k_12 o1 o2 v3 D
    else
      if v3 = o1 then
        fX1_isHelped_56 F k_12 o1 o2 v3 D
      else
        if (0 ≤ v3 ∧ v3 < 20) then
          if (D 2 v3.toNat) = o2 then
            if 0 < (D 74 v3.toNat) then
              some (1, D)
            else
              fX1_isHelped_56 F k_12 o1 o2 v3 D
          else
            fX1_isHelped_56 F k_12 o1 o2 v3 D
        else none
  else
    some (0, D)
def fX1_isHelped (F : zFs) (v1 : Int) (D : zDa) : Option (Int × zDa) :=
  if (0 ≤ v1 ∧ v1 < 20) then
    zlet ((D 2 v1.toNat)) (fun x2_1 =>
      zfix (fun _ _ => none) (fX1_isHelped_12 F v1 x2_1) zfu 0 D)
  else none
set_option maxHeartbeats 20000000 in
theorem sX1_isHelped_56 {l : Launch} {E : zE} {d : Nat} {F : zFs} {n sl : Nat} (hG : zG F)  (o1 : Int) (o2 : Int) (v3 : Int) (k_12 : Int → zDa → Option (Int × zDa)) (hk_12 : ∀ (u3 : Int) (D : zDa), zO l E (d + 0) YX1_isHelped 12 [(0, zR 73), (1, zI o1), (2, zI o2), (3, zI u3)] [] (F, D, n, sl) (zcI F n sl) (k_12 u3 D)) (D : zDa) : zO l E (d + 0) YX1_isHelped 56 [(0, zR 73), (1, zI o1), (2, zI o2), (3, zI v3)] [] (F, D, n, sl) (zcI F n sl) (fX1_isHelped_56 F k_12 o1 o2 v3 D) := by
  unfold fX1_isHelped_56
  refine zO_chk (fun h2 => ?_)
  refine zO_iinc dX1_isHelped_56 rfl h2 (by decide) ?_
  refine zO_ls (ls' := [(0, zR 73), (1, zI o1), (2, zI o2), (3, zI (v3 + 1))]) rfl ?_
  refine zO_goto (tgt := 12) dX1_isHelped_59 rfl ?_
  refine zO_live [0, 1, 2, 3] ?_
  exact hk_12 (v3 + 1) D
set_option maxHeartbeats 20000000 in
theorem sX1_isHelped_12 {l : Launch} {E : zE} {d : Nat} {F : zFs} {n sl : Nat} (hG : zG F)  (o1 : Int) (o2 : Int)   : ∀ (N : Nat) (v3 : Int) (D : zDa), zO l E (d + 0) YX1_isHelped 12 [(0, zR 73), (1, zI o1), (2, zI o2), (3, zI v3)] [] (F, D, n, sl) (zcI F n sl) (zfix (fun _ _ => none) (fX1_isHelped_12 F o1 o2) N v3 D) := by
  intro N
  induction N with
  | zero => intro v3 D; exact zO_none
  | succ N hk_12 =>
    intro v3 D
    show zO _ _ _ _ _ _ _ _ _ ((fX1_isHelped_12 F o1 o2) (zfix (fun _ _ => none) (fX1_isHelped_12 F o1 o2) N) v3 D)
    unfold fX1_isHelped_12
    refine zO_iload_n dX1_isHelped_12 rfl ?_
    refine zO_aload_n dX1_isHelped_13 rfl (zR_P _) ?_
    refine gt1 (k := 0) dX1_isHelped_14 wF_X1_31 (by decide) (gk_73 hG) (zgv (c := 1) (k := 0) rfl (Or.inr ⟨_, rfl⟩) (gf_73_0 hG)) ?_
    refine gt9 (k := 5) (v := zI (D 1 5)) dX1_isHelped_17 wF_X1_106 (by decide) (gk_1 hG) rfl ?_
    refine zO_icmp_ge (tgt := 62) dX1_isHelped_20 rfl (fun c20 => ?_) (fun c20 => ?_)
    · refine zO_iload_n dX1_isHelped_23 rfl ?_
      refine zO_if_eq (tgt := 56) dX1_isHelped_24 rfl (fun c24 => ?_) (fun c24 => ?_)
      · refine zO_live [0, 1, 2, 3] ?_
        exact sX1_isHelped_56 hG o1 o2 v3 _ hk_12 D
      · refine zO_iload_n dX1_isHelped_27 rfl ?_
        refine zO_iload_n dX1_isHelped_28 rfl ?_
        refine zO_icmp_eq (tgt := 56) dX1_isHelped_29 rfl (fun c29 => ?_) (fun c29 => ?_)
        · refine zO_live [0, 1, 2, 3] ?_
          exact sX1_isHelped_56 hG o1 o2 v3 _ hk_12 D
        · refine zO_chk (fun h3 => ?_)
          refine zO_aload_n dX1_isHelped_32 rfl (zR_P _) ?_
          refine gt1 (k := 0) dX1_isHelped_33 wF_X1_31 (by decide) (gk_73 hG) (zgv (c := 1) (k := 0) rfl (Or.inr ⟨_, rfl⟩) (gf_73_0 hG)) ?_
          refine gt9 (k := 0) dX1_isHelped_36 wF_X1_103 (by decide) (gk_1 hG) (zgv (c := 9) (k := 0) rfl (Or.inl ⟨_, rfl⟩) (gf_1_0 hG)) ?_
          refine zO_iload_n dX1_isHelped_39 rfl ?_
          refine zO_iald dX1_isHelped_40 (gk_2 hG) (gl_in (gl_2 hG) h3) ?_
          refine zO_iload_n dX1_isHelped_41 rfl ?_
          refine zO_icmp_ne (tgt := 56) dX1_isHelped_42 rfl (fun c42 => ?_) (fun c42 => ?_)
          · refine zO_aload_n dX1_isHelped_45 rfl (zR_P _) ?_
            refine gt1 (k := 3) dX1_isHelped_46 wF_X1_15 (by decide) (gk_73 hG) (zgv (c := 1) (k := 3) rfl (Or.inl ⟨_, rfl⟩) (gf_73_3 hG)) ?_
            refine zO_iload_n dX1_isHelped_49 rfl ?_
            refine zO_iald dX1_isHelped_50 (gk_74 hG) (gl_in (gl_74 hG) h3) ?_
            refine zO_if_le (tgt := 56) dX1_isHelped_51 rfl (fun c51 => ?_) (fun c51 => ?_)
            · refine zO_iconst dX1_isHelped_54 (by decide) ?_
              exact zO_ret (rv := some (zI 1)) dX1_isHelped_55 rfl rfl rfl
            · refine zO_live [0, 1, 2, 3] ?_
              exact sX1_isHelped_56 hG o1 o2 v3 _ hk_12 D
          · refine zO_live [0, 1, 2, 3] ?_
            exact sX1_isHelped_56 hG o1 o2 v3 _ hk_12 D
    · refine zO_iconst dX1_isHelped_62 (by decide) ?_
      exact zO_ret (rv := some (zI 0)) dX1_isHelped_63 rfl rfl rfl
set_option maxHeartbeats 20000000 in
theorem mX1_isHelped {l : Launch} {E : zE} {d : Nat} {F : zFs} {n sl : Nat} (hG : zG F) (v1 : Int) {D : zDa} : ∀ r, fX1_isHelped F  v1 D = some r → zMet l E (d + 0) YX1_isHelped [zR 73, zI v1] (F, D, n, sl) (zcI F n sl r) := by
  intro r hr
  refine zMet_of (plainFor_of_name (by decide)) (fun _ h => (nomatch h)) (Nat.le_of_ble_eq_true rfl) ?_
  have hz : zO l E (d + 0) YX1_isHelped 0 [(0, zR 73), (1, zI v1)] [] (F, D, n, sl) (zcI F n sl) (fX1_isHelped F  v1 D) := by
    unfold fX1_isHelped
    refine zO_chk (fun h1 => ?_)
    refine zO_aload_n dX1_isHelped_0 rfl (zR_P _) ?_
    refine gt1 (k := 0) dX1_isHelped_1 wF_X1_31 (by decide) (gk_73 hG) (zgv (c := 1) (k := 0) rfl (Or.inr ⟨_, rfl⟩) (gf_73_0 hG)) ?_
    refine gt9 (k := 0) dX1_isHelped_4 wF_X1_103 (by decide) (gk_1 hG) (zgv (c := 9) (k := 0) rfl (Or.inl ⟨_, rfl⟩) (gf_1_0 hG)) ?_
    refine zO_iload_n dX1_isHelped_7 rfl ?_
    refine zO_iald dX1_isHelped_8 (gk_2 hG) (gl_in (gl_2 hG) h1) ?_
    refine zO_letI (fun x2_1 ex2_1 => ?_)
    refine zO_istore_n dX1_isHelped_9 (by decide) ?_
    refine zO_ls (ls' := [(0, zR 73), (1, zI v1), (2, zI x2_1)]) rfl ?_
    refine zO_iconst dX1_isHelped_10 (by decide) ?_
    refine zO_istore_n dX1_isHelped_11 (by decide) ?_
    refine zO_ls (ls' := [(0, zR 73), (1, zI v1), (2, zI x2_1), (3, zI 0)]) rfl ?_
    refine zO_live [0, 1, 2, 3] ?_
    exact sX1_isHelped_12 hG v1 x2_1 zfu 0 D
  exact hz r hr
theorem dX1_hoursFor_0 : decode cX1_hoursFor 0 = .ok (.aload_n 0, 1) := by decide +kernel
theorem dX1_hoursFor_1 : decode cX1_hoursFor 1 = .ok (.getfield 15, 3) := by decide +kernel
theorem dX1_hoursFor_4 : decode cX1_hoursFor 4 = .ok (.iload_n 1, 1) := by decide +kernel
theorem dX1_hoursFor_5 : decode cX1_hoursFor 5 = .ok (.iaload, 1) := by decide +kernel
theorem dX1_hoursFor_6 : decode cX1_hoursFor 6 = .ok (.iconst 2, 1) := by decide +kernel
theorem dX1_hoursFor_7 : decode cX1_hoursFor 7 = .ok (.if_icmp .ne 5, 3) := by decide +kernel
theorem dX1_hoursFor_10 : decode cX1_hoursFor 10 = .ok (.iconst 1, 1) := by decide +kernel
theorem dX1_hoursFor_11 : decode cX1_hoursFor 11 = .ok (.ireturn, 1) := by decide +kernel
theorem dX1_hoursFor_12 : decode cX1_hoursFor 12 = .ok (.aload_n 0, 1) := by decide +kernel
theorem dX1_hoursFor_13 : decode cX1_hoursFor 13 = .ok (.getfield 35, 3) := by decide +kernel
theorem dX1_hoursFor_16 : decode cX1_hoursFor 16 = .ok (.iload_n 1, 1) := by decide +kernel
theorem dX1_hoursFor_17 : decode cX1_hoursFor 17 = .ok (.aload_n 0, 1) := by decide +kernel
theorem dX1_hoursFor_18 : decode cX1_hoursFor 18 = .ok (.getfield 15, 3) := by decide +kernel
theorem dX1_hoursFor_21 : decode cX1_hoursFor 21 = .ok (.iload_n 1, 1) := by decide +kernel
theorem dX1_hoursFor_22 : decode cX1_hoursFor 22 = .ok (.iaload, 1) := by decide +kernel
theorem dX1_hoursFor_23 : decode cX1_hoursFor 23 = .ok (.iconst 1, 1) := by decide +kernel
theorem dX1_hoursFor_24 : decode cX1_hoursFor 24 = .ok (.iadd, 1) := by decide +kernel
theorem dX1_hoursFor_25 : decode cX1_hoursFor 25 = .ok (.aload_n 0, 1) := by decide +kernel
theorem dX1_hoursFor_26 : decode cX1_hoursFor 26 = .ok (.iload_n 1, 1) := by decide +kernel
theorem dX1_hoursFor_27 : decode cX1_hoursFor 27 = .ok (.invokevirtual 95, 3) := by decide +kernel
theorem dX1_hoursFor_30 : decode cX1_hoursFor 30 = .ok (.ifCond .eq 7, 3) := by decide +kernel
theorem dX1_hoursFor_33 : decode cX1_hoursFor 33 = .ok (.iconst 1, 1) := by decide +kernel
theorem dX1_hoursFor_34 : decode cX1_hoursFor 34 = .ok (.goto 4, 3) := by decide +kernel
theorem dX1_hoursFor_37 : decode cX1_hoursFor 37 = .ok (.iconst 0, 1) := by decide +kernel
theorem dX1_hoursFor_38 : decode cX1_hoursFor 38 = .ok (.iload_n 2, 1) := by decide +kernel
theorem dX1_hoursFor_39 : decode cX1_hoursFor 39 = .ok (.invokevirtual 99, 3) := by decide +kernel
theorem dX1_hoursFor_42 : decode cX1_hoursFor 42 = .ok (.ireturn, 1) := by decide +kernel
abbrev YX1_hoursFor : zY := (yX1_hoursFor, cX1_hoursFor, 3, (Option.some Jvm.ClassFile.FieldType.int), [])
def fX1_hoursFor_38 (F : zFs)  (v2 : Int) (s0 : Int) (s1 : Int) (s2 : Int) (D : zDa) : Option (Int × zDa) :=
  (fX10_hoursOf F s2 s1 s0 v2 D).bind (fun (r_3, D_4) =>
    some (r_3, D_4))
def fX1_hoursFor (F : zFs) (v1 : Int) (v2 : Int) (D : zDa) : Option (Int × zDa) :=
  if (0 ≤ v1 ∧ v1 < 20) then
    if (D 74 v1.toNat) = 2 then
      some (1, D)
    else
      if (-2147483648 ≤ (D 74 v1.toNat) + 1 ∧ (D 74 v1.toNat) + 1 ≤ 2147483647) then
        (fX1_isHelped F v1 D).bind (fun (r_1, D_2) =>
          if r_1 = 0 then
            fX1_hoursFor_38 F v2 0 ((D 74 v1.toNat) + 1) v1 D_2
          else
            fX1_hoursFor_38 F v2 1 ((D 74 v1.toNat) + 1) v1 D_2)
      else none
  else none
set_option maxHeartbeats 20000000 in
theorem sX1_hoursFor_38 {l : Launch} {E : zE} {d : Nat} {F : zFs} {n sl : Nat} (hG : zG F)  (v2 : Int) (s0 : Int) (s1 : Int) (s2 : Int)   (D : zDa) : zO l E (d + 4) YX1_hoursFor 38 [(2, zI v2)] [zI s0, zI s1, zI s2, zR 49] (F, D, n, sl) (zcI F n sl) (fX1_hoursFor_38 F v2 s0 s1 s2 D) := by
  unfold fX1_hoursFor_38
  refine zO_iload_n dX1_hoursFor_38 rfl ?_
  refine zO_callV (Y' := YX10_hoursOf) (cw := zcI F n sl) (as := [zI s2, zI s1, zI s0, zI v2]) (rest := []) (na := 4) (ci := 10) rfl dX1_hoursFor_39 wC_X10_hoursOf wN_X10 wM_X1_99 wI_X10_hoursOf wV_X10_hoursOf (by decide) (by decide) rfl rfl (Nat.le_of_ble_eq_true rfl) rfl (by decide) (gk_49 hG) (fun r hr => zMet_cast (Nat.add_assoc d 0 3) (mX10_hoursOf (d := d + 0) hG s2 s1 s0 v2 r hr)) ?_
  rintro ⟨r_3, D_4⟩ -
  show zO _ _ _ _ _ _ [zI r_3] (F, D_4, n, sl) _ _
  exact zO_ret (rv := some (zI r_3)) dX1_hoursFor_42 rfl rfl rfl
set_option maxHeartbeats 20000000 in
theorem mX1_hoursFor {l : Launch} {E : zE} {d : Nat} {F : zFs} {n sl : Nat} (hG : zG F) (v1 : Int) (v2 : Int) {D : zDa} : ∀ r, fX1_hoursFor F  v1 v2 D = some r → zMet l E (d + 4) YX1_hoursFor [zR 73, zI v1, zI v2] (F, D, n, sl) (zcI F n sl r) := by
  intro r hr
  refine zMet_of (plainFor_of_name (by decide)) (fun _ h => (nomatch h)) (Nat.le_of_ble_eq_true rfl) ?_
  have hz : zO l E (d + 4) YX1_hoursFor 0 [(0, zR 73), (1, zI v1), (2, zI v2)] [] (F, D, n, sl) (zcI F n sl) (fX1_hoursFor F  v1 v2 D) := by
    unfold fX1_hoursFor
    refine zO_chk (fun h1 => ?_)
    refine zO_aload_n dX1_hoursFor_0 rfl (zR_P _) ?_
    refine gt1 (k := 3) dX1_hoursFor_1 wF_X1_15 (by decide) (gk_73 hG) (zgv (c := 1) (k := 3) rfl (Or.inl ⟨_, rfl⟩) (gf_73_3 hG)) ?_
    refine zO_iload_n dX1_hoursFor_4 rfl ?_
    refine zO_iald dX1_hoursFor_5 (gk_74 hG) (gl_in (gl_74 hG) h1) ?_
    refine zO_iconst dX1_hoursFor_6 (by decide) ?_
    refine zO_icmp_ne (tgt := 12) dX1_hoursFor_7 rfl (fun c7 => ?_) (fun c7 => ?_)
    · refine zO_iconst dX1_hoursFor_10 (by decide) ?_
      exact zO_ret (rv := some (zI 1)) dX1_hoursFor_11 rfl rfl rfl
    · refine zO_chk (fun h2 => ?_)
      refine zO_aload_n dX1_hoursFor_12 rfl (zR_P _) ?_
      refine gt1 (k := 1) dX1_hoursFor_13 wF_X1_35 (by decide) (gk_73 hG) (zgv (c := 1) (k := 1) rfl (Or.inr ⟨_, rfl⟩) (gf_73_1 hG)) ?_
      refine zO_iload_n dX1_hoursFor_16 rfl ?_
      refine zO_aload_n dX1_hoursFor_17 rfl (zR_P _) ?_
      refine gt1 (k := 3) dX1_hoursFor_18 wF_X1_15 (by decide) (gk_73 hG) (zgv (c := 1) (k := 3) rfl (Or.inl ⟨_, rfl⟩) (gf_73_3 hG)) ?_
      refine zO_iload_n dX1_hoursFor_21 rfl ?_
      refine zO_iald dX1_hoursFor_22 (gk_74 hG) (gl_in (gl_74 hG) h1) ?_
      refine zO_iconst dX1_hoursFor_23 (by decide) ?_
      refine zO_iadd dX1_hoursFor_24 h2 ?_
      refine zO_aload_n dX1_hoursFor_25 rfl (zR_P _) ?_
      refine zO_iload_n dX1_hoursFor_26 rfl ?_
      refine zO_callV (Y' := YX1_isHelped) (cw := zcI F n sl) (as := [zI v1]) (rest := [zI ((D 74 v1.toNat) + 1), zI v1, zR 49]) (na := 1) (ci := 1) rfl dX1_hoursFor_27 wC_X1_isHelped wN_X1 wM_X1_95 wI_X1_isHelped wV_X1_isHelped (by decide) (by decide) rfl rfl (Nat.le_of_ble_eq_true rfl) rfl (by decide) (gk_73 hG) (fun r hr => zMet_cast (Nat.add_assoc d 3 0) (mX1_isHelped (d := d + 3) hG v1 r hr)) ?_
      rintro ⟨r_1, D_2⟩ -
      show zO _ _ _ _ _ _ [zI r_1, zI ((D 74 v1.toNat) + 1), zI v1, zR 49] (F, D_2, n, sl) _ _
      refine zO_if_eq (tgt := 37) dX1_hoursFor_30 rfl (fun c30 => ?_) (fun c30 => ?_)
      · refine zO_iconst dX1_hoursFor_37 (by decide) ?_
        refine zO_live [2] ?_
        exact sX1_hoursFor_38 hG v2 0 ((D 74 v1.toNat) + 1) v1 D_2
      · refine zO_iconst dX1_hoursFor_33 (by decide) ?_
        refine zO_goto (tgt := 38) dX1_hoursFor_34 rfl ?_
        refine zO_live [2] ?_
        exact sX1_hoursFor_38 hG v2 1 ((D 74 v1.toNat) + 1) v1 D_2
  exact hz r hr
theorem dX1_drop_0 : decode cX1_drop 0 = .ok (.aload_n 0, 1) := by decide +kernel
theorem dX1_drop_1 : decode cX1_drop 1 = .ok (.dup, 1) := by decide +kernel
theorem dX1_drop_2 : decode cX1_drop 2 = .ok (.getfield 50, 3) := by decide +kernel
theorem dX1_drop_5 : decode cX1_drop 5 = .ok (.iconst 1, 1) := by decide +kernel
theorem dX1_drop_6 : decode cX1_drop 6 = .ok (.iadd, 1) := by decide +kernel
theorem dX1_drop_7 : decode cX1_drop 7 = .ok (.putfield 50, 3) := by decide +kernel
theorem dX1_drop_10 : decode cX1_drop 10 = .ok (.aload_n 0, 1) := by decide +kernel
theorem dX1_drop_11 : decode cX1_drop 11 = .ok (.getfield 28, 3) := by decide +kernel
theorem dX1_drop_14 : decode cX1_drop 14 = .ok (.iconst (-1), 1) := by decide +kernel
theorem dX1_drop_15 : decode cX1_drop 15 = .ok (.if_icmp .ne 8, 3) := by decide +kernel
theorem dX1_drop_18 : decode cX1_drop 18 = .ok (.aload_n 0, 1) := by decide +kernel
theorem dX1_drop_19 : decode cX1_drop 19 = .ok (.iload_n 1, 1) := by decide +kernel
theorem dX1_drop_20 : decode cX1_drop 20 = .ok (.putfield 28, 3) := by decide +kernel
theorem dX1_drop_23 : decode cX1_drop 23 = .ok (.return_, 1) := by decide +kernel
abbrev YX1_drop : zY := (yX1_drop, cX1_drop, 2, none, [])
def fX1_drop (F : zFs) (v1 : Int) (D : zDa) : Option zDa :=
  if (-2147483648 ≤ (D 73 7) + 1 ∧ (D 73 7) + 1 ≤ 2147483647) then
    zlet (zwr D 73 7 ((D 73 7) + 1)) (fun D_1 =>
      if (D_1 73 8) = (-1) then
        zlet (zwr D_1 73 8 v1) (fun D_2 =>
          some D_2)
      else
        some D_1)
  else none
set_option maxHeartbeats 20000000 in
theorem mX1_drop {l : Launch} {E : zE} {d : Nat} {F : zFs} {n sl : Nat} (hG : zG F) (v1 : Int) {D : zDa} : ∀ r, fX1_drop F  v1 D = some r → zMet l E (d + 0) YX1_drop [zR 73, zI v1] (F, D, n, sl) (zcV F n sl r) := by
  intro r hr
  refine zMet_of (plainFor_of_name (by decide)) (fun _ h => (nomatch h)) (Nat.le_of_ble_eq_true rfl) ?_
  have hz : zO l E (d + 0) YX1_drop 0 [(0, zR 73), (1, zI v1)] [] (F, D, n, sl) (zcV F n sl) (fX1_drop F  v1 D) := by
    unfold fX1_drop
    refine zO_chk (fun h1 => ?_)
    refine zO_aload_n dX1_drop_0 rfl (zR_P _) ?_
    refine zO_dup dX1_drop_1 (rfl) ?_
    refine gt1 (k := 7) (v := zI (D 73 7)) dX1_drop_2 wF_X1_50 (by decide) (gk_73 hG) rfl ?_
    refine zO_iconst dX1_drop_5 (by decide) ?_
    refine zO_iadd dX1_drop_6 h1 ?_
    refine ptI1 (k := 7) (z := ((D 73 7) + 1)) dX1_drop_7 wF_X1_50 (by decide) rfl (gk_73 hG) rfl ?_
    refine zO_letD (fun D_1 eD_1 => ?_)
    refine zO_aload_n dX1_drop_10 rfl (zR_P _) ?_
    refine gt1 (k := 8) (v := zI (D_1 73 8)) dX1_drop_11 wF_X1_28 (by decide) (gk_73 hG) rfl ?_
    refine zO_iconst dX1_drop_14 (by decide) ?_
    refine zO_icmp_ne (tgt := 23) dX1_drop_15 rfl (fun c15 => ?_) (fun c15 => ?_)
    · refine zO_aload_n dX1_drop_18 rfl (zR_P _) ?_
      refine zO_iload_n dX1_drop_19 rfl ?_
      refine ptI1 (k := 8) (z := v1) dX1_drop_20 wF_X1_28 (by decide) rfl (gk_73 hG) rfl ?_
      refine zO_letD (fun D_2 eD_2 => ?_)
      exact zO_ret (rv := none) dX1_drop_23 rfl trivial rfl
    · exact zO_ret (rv := none) dX1_drop_23 rfl trivial rfl
  exact hz r hr
theorem dJ9_min_7cf53_0 : decode cJ9_min_7cf53 0 = .ok (.iload_n 0, 1) := by decide +kernel
theorem dJ9_min_7cf53_1 : decode cJ9_min_7cf53 1 = .ok (.iload_n 1, 1) := by decide +kernel
theorem dJ9_min_7cf53_2 : decode cJ9_min_7cf53 2 = .ok (.if_icmp .gt 7, 3) := by decide +kernel
theorem dJ9_min_7cf53_5 : decode cJ9_min_7cf53 5 = .ok (.iload_n 0, 1) := by decide +kernel
theorem dJ9_min_7cf53_6 : decode cJ9_min_7cf53 6 = .ok (.goto 4, 3) := by decide +kernel
theorem dJ9_min_7cf53_9 : decode cJ9_min_7cf53 9 = .ok (.iload_n 1, 1) := by decide +kernel
theorem dJ9_min_7cf53_10 : decode cJ9_min_7cf53 10 = .ok (.ireturn, 1) := by decide +kernel
abbrev YJ9_min_7cf53 : zY := (yJ9_min_7cf53, cJ9_min_7cf53, 2, (Option.some Jvm.ClassFile.FieldType.int), [])
def fJ9_min_7cf53 (F : zFs) (v0 : Int) (v1 : Int) (D : zDa) : Option (Int × zDa) :=
  if v1 < v0 then
    some (v1, D)
  else
    some (v0, D)
set_option maxHeartbeats 20000000 in
theorem mJ9_min_7cf53 {l : Launch} {E : zE} {d : Nat} {F : zFs} {n sl : Nat} (hG : zG F) (v0 : Int) (v1 : Int) {D : zDa} : ∀ r, fJ9_min_7cf53 F  v0 v1 D = some r → zMet l E (d + 0) YJ9_min_7cf53 [zI v0, zI v1] (F, D, n, sl) (zcI F n sl r) := by
  intro r hr
  refine zMet_of (by decide +kernel) (fun _ h => (nomatch h)) (Nat.le_of_ble_eq_true rfl) ?_
  have hz : zO l E (d + 0) YJ9_min_7cf53 0 [(0, zI v0), (1, zI v1)] [] (F, D, n, sl) (zcI F n sl) (fJ9_min_7cf53 F  v0 v1 D) := by
    unfold fJ9_min_7cf53
    refine zO_iload_n dJ9_min_7cf53_0 rfl ?_
    refine zO_iload_n dJ9_min_7cf53_1 rfl ?_
    refine zO_icmp_gt (tgt := 9) dJ9_min_7cf53_2 rfl (fun c2 => ?_) (fun c2 => ?_)
    · refine zO_iload_n dJ9_min_7cf53_9 rfl ?_
      exact zO_ret (rv := some (zI v1)) dJ9_min_7cf53_10 rfl rfl rfl
    · refine zO_iload_n dJ9_min_7cf53_5 rfl ?_
      refine zO_goto (tgt := 10) dJ9_min_7cf53_6 rfl ?_
      exact zO_ret (rv := some (zI v0)) dJ9_min_7cf53_10 rfl rfl rfl
  exact hz r hr
theorem dX1_holdLessons_0 : decode cX1_holdLessons 0 = .ok (.aload_n 0, 1) := by decide +kernel
theorem dX1_holdLessons_1 : decode cX1_holdLessons 1 = .ok (.getfield 31, 3) := by decide +kernel
theorem dX1_holdLessons_4 : decode cX1_holdLessons 4 = .ok (.getfield 56, 3) := by decide +kernel
theorem dX1_holdLessons_7 : decode cX1_holdLessons 7 = .ok (.bipush 6, 2) := by decide +kernel
theorem dX1_holdLessons_9 : decode cX1_holdLessons 9 = .ok (.iaload, 1) := by decide +kernel
theorem dX1_holdLessons_10 : decode cX1_holdLessons 10 = .ok (.istore_n 2, 1) := by decide +kernel
theorem dX1_holdLessons_11 : decode cX1_holdLessons 11 = .ok (.iconst 0, 1) := by decide +kernel
theorem dX1_holdLessons_12 : decode cX1_holdLessons 12 = .ok (.istore_n 3, 1) := by decide +kernel
theorem dX1_holdLessons_13 : decode cX1_holdLessons 13 = .ok (.iconst 0, 1) := by decide +kernel
theorem dX1_holdLessons_14 : decode cX1_holdLessons 14 = .ok (.istore 4, 2) := by decide +kernel
theorem dX1_holdLessons_16 : decode cX1_holdLessons 16 = .ok (.iload 4, 2) := by decide +kernel
theorem dX1_holdLessons_18 : decode cX1_holdLessons 18 = .ok (.aload_n 0, 1) := by decide +kernel
theorem dX1_holdLessons_19 : decode cX1_holdLessons 19 = .ok (.getfield 31, 3) := by decide +kernel
theorem dX1_holdLessons_22 : decode cX1_holdLessons 22 = .ok (.getfield 72, 3) := by decide +kernel
theorem dX1_holdLessons_25 : decode cX1_holdLessons 25 = .ok (.if_icmp .ge 113, 3) := by decide +kernel
theorem dX1_holdLessons_28 : decode cX1_holdLessons 28 = .ok (.aload_n 0, 1) := by decide +kernel
theorem dX1_holdLessons_29 : decode cX1_holdLessons 29 = .ok (.getfield 31, 3) := by decide +kernel
theorem dX1_holdLessons_32 : decode cX1_holdLessons 32 = .ok (.getfield 75, 3) := by decide +kernel
theorem dX1_holdLessons_35 : decode cX1_holdLessons 35 = .ok (.iload 4, 2) := by decide +kernel
theorem dX1_holdLessons_37 : decode cX1_holdLessons 37 = .ok (.iaload, 1) := by decide +kernel
theorem dX1_holdLessons_38 : decode cX1_holdLessons 38 = .ok (.iload_n 1, 1) := by decide +kernel
theorem dX1_holdLessons_39 : decode cX1_holdLessons 39 = .ok (.if_icmp .ne 93, 3) := by decide +kernel
theorem dX1_holdLessons_42 : decode cX1_holdLessons 42 = .ok (.aload_n 0, 1) := by decide +kernel
theorem dX1_holdLessons_43 : decode cX1_holdLessons 43 = .ok (.getfield 31, 3) := by decide +kernel
theorem dX1_holdLessons_46 : decode cX1_holdLessons 46 = .ok (.getfield 78, 3) := by decide +kernel
theorem dX1_holdLessons_49 : decode cX1_holdLessons 49 = .ok (.iload 4, 2) := by decide +kernel
theorem dX1_holdLessons_51 : decode cX1_holdLessons 51 = .ok (.iaload, 1) := by decide +kernel
theorem dX1_holdLessons_52 : decode cX1_holdLessons 52 = .ok (.istore 5, 2) := by decide +kernel
theorem dX1_holdLessons_54 : decode cX1_holdLessons 54 = .ok (.iload_n 3, 1) := by decide +kernel
theorem dX1_holdLessons_55 : decode cX1_holdLessons 55 = .ok (.ifCond .eq 7, 3) := by decide +kernel
theorem dX1_holdLessons_58 : decode cX1_holdLessons 58 = .ok (.iconst 0, 1) := by decide +kernel
theorem dX1_holdLessons_59 : decode cX1_holdLessons 59 = .ok (.goto 10, 3) := by decide +kernel
theorem dX1_holdLessons_62 : decode cX1_holdLessons 62 = .ok (.aload_n 0, 1) := by decide +kernel
theorem dX1_holdLessons_63 : decode cX1_holdLessons 63 = .ok (.iload 5, 2) := by decide +kernel
theorem dX1_holdLessons_65 : decode cX1_holdLessons 65 = .ok (.iload_n 1, 1) := by decide +kernel
theorem dX1_holdLessons_66 : decode cX1_holdLessons 66 = .ok (.invokevirtual 81, 3) := by decide +kernel
theorem dX1_holdLessons_69 : decode cX1_holdLessons 69 = .ok (.istore 6, 2) := by decide +kernel
theorem dX1_holdLessons_71 : decode cX1_holdLessons 71 = .ok (.iload_n 3, 1) := by decide +kernel
theorem dX1_holdLessons_72 : decode cX1_holdLessons 72 = .ok (.ifCond .ne 9, 3) := by decide +kernel
theorem dX1_holdLessons_75 : decode cX1_holdLessons 75 = .ok (.iload 6, 2) := by decide +kernel
theorem dX1_holdLessons_77 : decode cX1_holdLessons 77 = .ok (.iload_n 2, 1) := by decide +kernel
theorem dX1_holdLessons_78 : decode cX1_holdLessons 78 = .ok (.if_icmp .le 7, 3) := by decide +kernel
theorem dX1_holdLessons_81 : decode cX1_holdLessons 81 = .ok (.iconst 1, 1) := by decide +kernel
theorem dX1_holdLessons_82 : decode cX1_holdLessons 82 = .ok (.goto 4, 3) := by decide +kernel
theorem dX1_holdLessons_85 : decode cX1_holdLessons 85 = .ok (.iconst 0, 1) := by decide +kernel
theorem dX1_holdLessons_86 : decode cX1_holdLessons 86 = .ok (.istore_n 3, 1) := by decide +kernel
theorem dX1_holdLessons_87 : decode cX1_holdLessons 87 = .ok (.iload_n 3, 1) := by decide +kernel
theorem dX1_holdLessons_88 : decode cX1_holdLessons 88 = .ok (.ifCond .eq 11, 3) := by decide +kernel
theorem dX1_holdLessons_91 : decode cX1_holdLessons 91 = .ok (.aload_n 0, 1) := by decide +kernel
theorem dX1_holdLessons_92 : decode cX1_holdLessons 92 = .ok (.iload_n 1, 1) := by decide +kernel
theorem dX1_holdLessons_93 : decode cX1_holdLessons 93 = .ok (.invokevirtual 85, 3) := by decide +kernel
theorem dX1_holdLessons_96 : decode cX1_holdLessons 96 = .ok (.goto 36, 3) := by decide +kernel
theorem dX1_holdLessons_99 : decode cX1_holdLessons 99 = .ok (.iload_n 2, 1) := by decide +kernel
theorem dX1_holdLessons_100 : decode cX1_holdLessons 100 = .ok (.iload 6, 2) := by decide +kernel
theorem dX1_holdLessons_102 : decode cX1_holdLessons 102 = .ok (.isub, 1) := by decide +kernel
theorem dX1_holdLessons_103 : decode cX1_holdLessons 103 = .ok (.istore_n 2, 1) := by decide +kernel
theorem dX1_holdLessons_104 : decode cX1_holdLessons 104 = .ok (.aload_n 0, 1) := by decide +kernel
theorem dX1_holdLessons_105 : decode cX1_holdLessons 105 = .ok (.getfield 15, 3) := by decide +kernel
theorem dX1_holdLessons_108 : decode cX1_holdLessons 108 = .ok (.iload 5, 2) := by decide +kernel
theorem dX1_holdLessons_110 : decode cX1_holdLessons 110 = .ok (.iconst 2, 1) := by decide +kernel
theorem dX1_holdLessons_111 : decode cX1_holdLessons 111 = .ok (.aload_n 0, 1) := by decide +kernel
theorem dX1_holdLessons_112 : decode cX1_holdLessons 112 = .ok (.getfield 15, 3) := by decide +kernel
theorem dX1_holdLessons_115 : decode cX1_holdLessons 115 = .ok (.iload 5, 2) := by decide +kernel
theorem dX1_holdLessons_117 : decode cX1_holdLessons 117 = .ok (.iaload, 1) := by decide +kernel
theorem dX1_holdLessons_118 : decode cX1_holdLessons 118 = .ok (.iconst 1, 1) := by decide +kernel
theorem dX1_holdLessons_119 : decode cX1_holdLessons 119 = .ok (.iadd, 1) := by decide +kernel
theorem dX1_holdLessons_120 : decode cX1_holdLessons 120 = .ok (.invokestatic 88, 3) := by decide +kernel
theorem dX1_holdLessons_123 : decode cX1_holdLessons 123 = .ok (.iastore, 1) := by decide +kernel
theorem dX1_holdLessons_124 : decode cX1_holdLessons 124 = .ok (.aload_n 0, 1) := by decide +kernel
theorem dX1_holdLessons_125 : decode cX1_holdLessons 125 = .ok (.getfield 19, 3) := by decide +kernel
theorem dX1_holdLessons_128 : decode cX1_holdLessons 128 = .ok (.iload 5, 2) := by decide +kernel
theorem dX1_holdLessons_130 : decode cX1_holdLessons 130 = .ok (.iload_n 1, 1) := by decide +kernel
theorem dX1_holdLessons_131 : decode cX1_holdLessons 131 = .ok (.iastore, 1) := by decide +kernel
theorem dX1_holdLessons_132 : decode cX1_holdLessons 132 = .ok (.iinc 4 1, 3) := by decide +kernel
theorem dX1_holdLessons_135 : decode cX1_holdLessons 135 = .ok (.goto (-119), 3) := by decide +kernel
theorem dX1_holdLessons_138 : decode cX1_holdLessons 138 = .ok (.aload_n 0, 1) := by decide +kernel
theorem dX1_holdLessons_139 : decode cX1_holdLessons 139 = .ok (.getfield 25, 3) := by decide +kernel
theorem dX1_holdLessons_142 : decode cX1_holdLessons 142 = .ok (.iload_n 1, 1) := by decide +kernel
theorem dX1_holdLessons_143 : decode cX1_holdLessons 143 = .ok (.aload_n 0, 1) := by decide +kernel
theorem dX1_holdLessons_144 : decode cX1_holdLessons 144 = .ok (.getfield 31, 3) := by decide +kernel
theorem dX1_holdLessons_147 : decode cX1_holdLessons 147 = .ok (.getfield 56, 3) := by decide +kernel
theorem dX1_holdLessons_150 : decode cX1_holdLessons 150 = .ok (.bipush 6, 2) := by decide +kernel
theorem dX1_holdLessons_152 : decode cX1_holdLessons 152 = .ok (.iaload, 1) := by decide +kernel
theorem dX1_holdLessons_153 : decode cX1_holdLessons 153 = .ok (.iload_n 2, 1) := by decide +kernel
theorem dX1_holdLessons_154 : decode cX1_holdLessons 154 = .ok (.isub, 1) := by decide +kernel
theorem dX1_holdLessons_155 : decode cX1_holdLessons 155 = .ok (.iastore, 1) := by decide +kernel
theorem dX1_holdLessons_156 : decode cX1_holdLessons 156 = .ok (.return_, 1) := by decide +kernel
abbrev YX1_holdLessons : zY := (yX1_holdLessons, cX1_holdLessons, 7, none, [])
def fX1_holdLessons_132 (F : zFs) (k_16 : Int → Int → Int → zDa → Option zDa) (o1 : Int) (v2 : Int) (v3 : Int) (v4 : Int) (D : zDa) : Option zDa :=
  if (-2147483648 ≤ v4 + 1 ∧ v4 + 1 ≤ 2147483647) then
    k_16 v2 v3 (v4 + 1) D
  else none
def fX1_holdLessons_86 (F : zFs) (k_16 : Int → Int → Int → zDa → Option zDa) (o1 : Int) (v2 : Int) (v4 : Int) (v5 : Int) (v6 : Int) (s0 : Int) (D : zDa) : Option zDa :=
  if s0 = 0 then
    if (-2147483648 ≤ v2 - v6 ∧ v2 - v6 ≤ 2147483647) then
      zlet ((v2 - v6)) (fun x2_5 =>
        if (0 ≤ v5 ∧ v5 < 20) ∧ (-2147483648 ≤ (D 74 v5.toNat) + 1 ∧ (D 74 v5.toNat) + 1 ≤ 2147483647) then
          (fJ9_min_7cf53 F 2 ((D 74 v5.toNat) + 1) D).bind (fun (r_6, D_7) =>
            zlet (zwr D_7 74 v5.toNat r_6) (fun D_8 =>
              zlet (zwr D_8 75 v5.toNat o1) (fun D_9 =>
                fX1_holdLessons_132 F k_16 o1 x2_5 s0 v4 D_9)))
        else none)
    else none
  else
    (fX1_drop F o1 D).bind (fun D_11 =>
      fX1_holdLessons_132 F k_16 o1 v2 s0 v4 D_11)
def fX1_holdLessons_81 (F : zFs) (k_16 : Int → Int → Int → zDa → Option zDa) (o1 : Int) (v2 : Int) (v4 : Int) (v5 : Int) (v6 : Int) (D : zDa) : Option zDa :=
  fX1_holdLessons_86 F k_16 o1 v2 v4 v5 v6 1 D
def fX1_holdLessons_69 (F : zFs) (k_16 : Int → Int → Int → zDa → Option zDa) (o1 : Int) (v2 : Int) (v3 : Int) (v4 : Int) (v5 : Int) (s0 : Int) (D : zDa) : Option zDa :=
  if v3 = 0 then
    if v2 < s0 then
      fX1_holdLessons_81 F k_16 o1 v2 v4 v5 s0 D
    else
      fX1_holdLessons_86 F k_16 o1 v2 v4 v5 s0 0 D
  else
    fX1_holdLessons_81 F k_16 o1 v2 v4 v5 s0 D
def fX1_holdLessons_16 (F : zFs) (o1 : Int)  (k_16 : Int → Int → Int → zDa → Option zDa) (v2 : Int) (v3 : Int) (v4 : Int) (D : zDa) : Option zDa :=
  if v4 < (D 1 12) then
    if (0 ≤ v4 ∧ v4 < 120) then
      if (D 9 v4.toNat) = o1 then
        zlet ((D 10 v4.toNat)) (fun x5_2 =>
          if v3 = 0 then
            (fX1_hoursFor F x5_2 o1 D).bind (fun (r_3, D_4) =>
              fX1_holdLessons_69 F k_16 o1 v2 v3 v4 x5_2 r_3 D_4)
          else
            fX1_holdLessons_69 F k_16 o1 v2 v3 v4 x5_2 0 D)
      else
        fX1_holdLessons_132 F k_16 o1 v2 v3 v4 D
    else none
  else
    if (-2147483648 ≤ (D 7 6) - v2 ∧ (D 7 6) - v2 ≤ 2147483647) ∧ (0 ≤ o1 ∧ o1 < 20) then
      zlet (zwr D 77 o1.toNat ((D 7 6) - v2)) (fun D_12 =>
        some D_12)
    else none
def fX1_holdLessons (F : zFs) (v1 : Int) (D : zDa) : Option zDa :=
  zlet ((D 7 6)) (fun x2_1 =>
    zfix (fun _ _ _ _ => none) (fX1_holdLessons_16 F v1) zfu x2_1 0 0 D)
set_option maxHeartbeats 20000000 in
theorem sX1_holdLessons_132 {l : Launch} {E : zE} {d : Nat} {F : zFs} {n sl : Nat} (hG : zG F)  (o1 : Int) (v2 : Int) (v3 : Int) (v4 : Int) (k_16 : Int → Int → Int → zDa → Option zDa) (hk_16 : ∀ (u2 : Int) (u3 : Int) (u4 : Int) (D : zDa), zO l E (d + 5) YX1_holdLessons 16 [(0, zR 73), (1, zI o1), (2, zI u2), (3, zI u3), (4, zI u4)] [] (F, D, n, sl) (zcV F n sl) (k_16 u2 u3 u4 D)) (D : zDa) : zO l E (d + 5) YX1_holdLessons 132 [(0, zR 73), (1, zI o1), (2, zI v2), (3, zI v3), (4, zI v4)] [] (F, D, n, sl) (zcV F n sl) (fX1_holdLessons_132 F k_16 o1 v2 v3 v4 D) := by
  unfold fX1_holdLessons_132
  refine zO_chk (fun h4 => ?_)
  refine zO_iinc dX1_holdLessons_132 rfl h4 (by decide) ?_
  refine zO_ls (ls' := [(0, zR 73), (1, zI o1), (2, zI v2), (3, zI v3), (4, zI (v4 + 1))]) rfl ?_
  refine zO_goto (tgt := 16) dX1_holdLessons_135 rfl ?_
  refine zO_live [0, 1, 2, 3, 4] ?_
  exact hk_16 v2 v3 (v4 + 1) D
set_option maxHeartbeats 20000000 in
theorem sX1_holdLessons_86 {l : Launch} {E : zE} {d : Nat} {F : zFs} {n sl : Nat} (hG : zG F)  (o1 : Int) (v2 : Int) (v4 : Int) (v5 : Int) (v6 : Int) (s0 : Int) (k_16 : Int → Int → Int → zDa → Option zDa) (hk_16 : ∀ (u2 : Int) (u3 : Int) (u4 : Int) (D : zDa), zO l E (d + 5) YX1_holdLessons 16 [(0, zR 73), (1, zI o1), (2, zI u2), (3, zI u3), (4, zI u4)] [] (F, D, n, sl) (zcV F n sl) (k_16 u2 u3 u4 D)) (D : zDa) : zO l E (d + 5) YX1_holdLessons 86 [(0, zR 73), (1, zI o1), (2, zI v2), (4, zI v4), (5, zI v5), (6, zI v6)] [zI s0] (F, D, n, sl) (zcV F n sl) (fX1_holdLessons_86 F k_16 o1 v2 v4 v5 v6 s0 D) := by
  unfold fX1_holdLessons_86
  refine zO_istore_n dX1_holdLessons_86 (by decide) ?_
  refine zO_ls (ls' := [(0, zR 73), (1, zI o1), (2, zI v2), (3, zI s0), (4, zI v4), (5, zI v5), (6, zI v6)]) rfl ?_
  refine zO_iload_n dX1_holdLessons_87 rfl ?_
  refine zO_if_eq (tgt := 99) dX1_holdLessons_88 rfl (fun c88 => ?_) (fun c88 => ?_)
  · refine zO_chk (fun h2 => ?_)
    refine zO_iload_n dX1_holdLessons_99 rfl ?_
    refine zO_iload dX1_holdLessons_100 rfl ?_
    refine zO_isub dX1_holdLessons_102 h2 ?_
    refine zO_letI (fun x2_5 ex2_5 => ?_)
    refine zO_istore_n dX1_holdLessons_103 (by decide) ?_
    refine zO_ls (ls' := [(0, zR 73), (1, zI o1), (2, zI x2_5), (3, zI s0), (4, zI v4), (5, zI v5), (6, zI v6)]) rfl ?_
    refine zO_chk (fun h3 => ?_)
    refine zO_aload_n dX1_holdLessons_104 rfl (zR_P _) ?_
    refine gt1 (k := 3) dX1_holdLessons_105 wF_X1_15 (by decide) (gk_73 hG) (zgv (c := 1) (k := 3) rfl (Or.inl ⟨_, rfl⟩) (gf_73_3 hG)) ?_
    refine zO_iload dX1_holdLessons_108 rfl ?_
    refine zO_iconst dX1_holdLessons_110 (by decide) ?_
    refine zO_aload_n dX1_holdLessons_111 rfl (zR_P _) ?_
    refine gt1 (k := 3) dX1_holdLessons_112 wF_X1_15 (by decide) (gk_73 hG) (zgv (c := 1) (k := 3) rfl (Or.inl ⟨_, rfl⟩) (gf_73_3 hG)) ?_
    refine zO_iload dX1_holdLessons_115 rfl ?_
    refine zO_iald dX1_holdLessons_117 (gk_74 hG) (gl_in (gl_74 hG) h3.1) ?_
    refine zO_iconst dX1_holdLessons_118 (by decide) ?_
    refine zO_iadd dX1_holdLessons_119 h3.2 ?_
    refine zO_callS (Y' := YJ9_min_7cf53) (cw := zcI F n sl) (as := [zI 2, zI ((D 74 v5.toNat) + 1)]) (rest := [zI v5, zR 74]) (na := 2) dX1_holdLessons_120 wC_J9_min_7cf53 wN_J9 wM_X1_88 wS_J9_min_7cf53 (by decide) (by decide) rfl rfl (Nat.le_of_ble_eq_true rfl) (fun r hr => zMet_cast (Nat.add_assoc d 4 0) (mJ9_min_7cf53 (d := d + 4) hG 2 ((D 74 v5.toNat) + 1) r hr)) ?_
    rintro ⟨r_6, D_7⟩ -
    show zO _ _ _ _ _ _ [zI r_6, zI v5, zR 74] (F, D_7, n, sl) _ _
    refine zO_iast dX1_holdLessons_123 (gk_74 hG) (gl_in (gl_74 hG) h3.1) ?_
    refine zO_letD (fun D_8 eD_8 => ?_)
    refine zO_aload_n dX1_holdLessons_124 rfl (zR_P _) ?_
    refine gt1 (k := 4) dX1_holdLessons_125 wF_X1_19 (by decide) (gk_73 hG) (zgv (c := 1) (k := 4) rfl (Or.inl ⟨_, rfl⟩) (gf_73_4 hG)) ?_
    refine zO_iload dX1_holdLessons_128 rfl ?_
    refine zO_iload_n dX1_holdLessons_130 rfl ?_
    refine zO_iast dX1_holdLessons_131 (gk_75 hG) (gl_in (gl_75 hG) h3.1) ?_
    refine zO_letD (fun D_9 eD_9 => ?_)
    refine zO_live [0, 1, 2, 3, 4] ?_
    exact sX1_holdLessons_132 hG o1 x2_5 s0 v4 _ hk_16 D_9
  · refine zO_aload_n dX1_holdLessons_91 rfl (zR_P _) ?_
    refine zO_iload_n dX1_holdLessons_92 rfl ?_
    refine zO_callV (Y' := YX1_drop) (cw := zcV F n sl) (as := [zI o1]) (rest := []) (na := 1) (ci := 1) rfl dX1_holdLessons_93 wC_X1_drop wN_X1 wM_X1_85 wI_X1_drop wV_X1_drop (by decide) (by decide) rfl rfl (Nat.le_of_ble_eq_true rfl) rfl (by decide) (gk_73 hG) (fun r hr => zMet_cast (Nat.add_assoc d 4 0) (mX1_drop (d := d + 4) hG o1 r hr)) ?_
    intro D_11 _
    show zO _ _ _ _ _ _ [] (F, D_11, n, sl) _ _
    refine zO_goto (tgt := 132) dX1_holdLessons_96 rfl ?_
    refine zO_live [0, 1, 2, 3, 4] ?_
    exact sX1_holdLessons_132 hG o1 v2 s0 v4 _ hk_16 D_11
set_option maxHeartbeats 20000000 in
theorem sX1_holdLessons_81 {l : Launch} {E : zE} {d : Nat} {F : zFs} {n sl : Nat} (hG : zG F)  (o1 : Int) (v2 : Int) (v4 : Int) (v5 : Int) (v6 : Int) (k_16 : Int → Int → Int → zDa → Option zDa) (hk_16 : ∀ (u2 : Int) (u3 : Int) (u4 : Int) (D : zDa), zO l E (d + 5) YX1_holdLessons 16 [(0, zR 73), (1, zI o1), (2, zI u2), (3, zI u3), (4, zI u4)] [] (F, D, n, sl) (zcV F n sl) (k_16 u2 u3 u4 D)) (D : zDa) : zO l E (d + 5) YX1_holdLessons 81 [(0, zR 73), (1, zI o1), (2, zI v2), (4, zI v4), (5, zI v5), (6, zI v6)] [] (F, D, n, sl) (zcV F n sl) (fX1_holdLessons_81 F k_16 o1 v2 v4 v5 v6 D) := by
  unfold fX1_holdLessons_81
  refine zO_iconst dX1_holdLessons_81 (by decide) ?_
  refine zO_goto (tgt := 86) dX1_holdLessons_82 rfl ?_
  refine zO_live [0, 1, 2, 4, 5, 6] ?_
  exact sX1_holdLessons_86 hG o1 v2 v4 v5 v6 1 _ hk_16 D
set_option maxHeartbeats 20000000 in
theorem sX1_holdLessons_69 {l : Launch} {E : zE} {d : Nat} {F : zFs} {n sl : Nat} (hG : zG F)  (o1 : Int) (v2 : Int) (v3 : Int) (v4 : Int) (v5 : Int) (s0 : Int) (k_16 : Int → Int → Int → zDa → Option zDa) (hk_16 : ∀ (u2 : Int) (u3 : Int) (u4 : Int) (D : zDa), zO l E (d + 5) YX1_holdLessons 16 [(0, zR 73), (1, zI o1), (2, zI u2), (3, zI u3), (4, zI u4)] [] (F, D, n, sl) (zcV F n sl) (k_16 u2 u3 u4 D)) (D : zDa) : zO l E (d + 5) YX1_holdLessons 69 [(0, zR 73), (1, zI o1), (2, zI v2), (3, zI v3), (4, zI v4), (5, zI v5)] [zI s0] (F, D, n, sl) (zcV F n sl) (fX1_holdLessons_69 F k_16 o1 v2 v3 v4 v5 s0 D) := by
  unfold fX1_holdLessons_69
  refine zO_istore dX1_holdLessons_69 (by decide) ?_
  refine zO_ls (ls' := [(0, zR 73), (1, zI o1), (2, zI v2), (3, zI v3), (4, zI v4), (5, zI v5), (6, zI s0)]) rfl ?_
  refine zO_iload_n dX1_holdLessons_71 rfl ?_
  refine zO_if_ne (tgt := 81) dX1_holdLessons_72 rfl (fun c72 => ?_) (fun c72 => ?_)
  · refine zO_iload dX1_holdLessons_75 rfl ?_
    refine zO_iload_n dX1_holdLessons_77 rfl ?_
    refine zO_icmp_le (tgt := 85) dX1_holdLessons_78 rfl (fun c78 => ?_) (fun c78 => ?_)
    · refine zO_live [0, 1, 2, 4, 5, 6] ?_
      exact sX1_holdLessons_81 hG o1 v2 v4 v5 s0 _ hk_16 D
    · refine zO_iconst dX1_holdLessons_85 (by decide) ?_
      refine zO_live [0, 1, 2, 4, 5, 6] ?_
      exact sX1_holdLessons_86 hG o1 v2 v4 v5 s0 0 _ hk_16 D
  · refine zO_live [0, 1, 2, 4, 5, 6] ?_
    exact sX1_holdLessons_81 hG o1 v2 v4 v5 s0 _ hk_16 D
set_option maxHeartbeats 20000000 in
theorem sX1_holdLessons_16 {l : Launch} {E : zE} {d : Nat} {F : zFs} {n sl : Nat} (hG : zG F)  (o1 : Int)   : ∀ (N : Nat) (v2 : Int) (v3 : Int) (v4 : Int) (D : zDa), zO l E (d + 5) YX1_holdLessons 16 [(0, zR 73), (1, zI o1), (2, zI v2), (3, zI v3), (4, zI v4)] [] (F, D, n, sl) (zcV F n sl) (zfix (fun _ _ _ _ => none) (fX1_holdLessons_16 F o1) N v2 v3 v4 D) := by
  intro N
  induction N with
  | zero => intro v2 v3 v4 D; exact zO_none
  | succ N hk_16 =>
    intro v2 v3 v4 D
    show zO _ _ _ _ _ _ _ _ _ ((fX1_holdLessons_16 F o1) (zfix (fun _ _ _ _ => none) (fX1_holdLessons_16 F o1) N) v2 v3 v4 D)
    unfold fX1_holdLessons_16
    refine zO_iload dX1_holdLessons_16 rfl ?_
    refine zO_aload_n dX1_holdLessons_18 rfl (zR_P _) ?_
    refine gt1 (k := 0) dX1_holdLessons_19 wF_X1_31 (by decide) (gk_73 hG) (zgv (c := 1) (k := 0) rfl (Or.inr ⟨_, rfl⟩) (gf_73_0 hG)) ?_
    refine gt9 (k := 12) (v := zI (D 1 12)) dX1_holdLessons_22 wF_X1_72 (by decide) (gk_1 hG) rfl ?_
    refine zO_icmp_ge (tgt := 138) dX1_holdLessons_25 rfl (fun c25 => ?_) (fun c25 => ?_)
    · refine zO_chk (fun h1 => ?_)
      refine zO_aload_n dX1_holdLessons_28 rfl (zR_P _) ?_
      refine gt1 (k := 0) dX1_holdLessons_29 wF_X1_31 (by decide) (gk_73 hG) (zgv (c := 1) (k := 0) rfl (Or.inr ⟨_, rfl⟩) (gf_73_0 hG)) ?_
      refine gt9 (k := 10) dX1_holdLessons_32 wF_X1_75 (by decide) (gk_1 hG) (zgv (c := 9) (k := 10) rfl (Or.inl ⟨_, rfl⟩) (gf_1_10 hG)) ?_
      refine zO_iload dX1_holdLessons_35 rfl ?_
      refine zO_iald dX1_holdLessons_37 (gk_9 hG) (gl_in (gl_9 hG) h1) ?_
      refine zO_iload_n dX1_holdLessons_38 rfl ?_
      refine zO_icmp_ne (tgt := 132) dX1_holdLessons_39 rfl (fun c39 => ?_) (fun c39 => ?_)
      · refine zO_aload_n dX1_holdLessons_42 rfl (zR_P _) ?_
        refine gt1 (k := 0) dX1_holdLessons_43 wF_X1_31 (by decide) (gk_73 hG) (zgv (c := 1) (k := 0) rfl (Or.inr ⟨_, rfl⟩) (gf_73_0 hG)) ?_
        refine gt9 (k := 11) dX1_holdLessons_46 wF_X1_78 (by decide) (gk_1 hG) (zgv (c := 9) (k := 11) rfl (Or.inl ⟨_, rfl⟩) (gf_1_11 hG)) ?_
        refine zO_iload dX1_holdLessons_49 rfl ?_
        refine zO_iald dX1_holdLessons_51 (gk_10 hG) (gl_in (gl_10 hG) h1) ?_
        refine zO_letI (fun x5_2 ex5_2 => ?_)
        refine zO_istore dX1_holdLessons_52 (by decide) ?_
        refine zO_ls (ls' := [(0, zR 73), (1, zI o1), (2, zI v2), (3, zI v3), (4, zI v4), (5, zI x5_2)]) rfl ?_
        refine zO_iload_n dX1_holdLessons_54 rfl ?_
        refine zO_if_eq (tgt := 62) dX1_holdLessons_55 rfl (fun c55 => ?_) (fun c55 => ?_)
        · refine zO_aload_n dX1_holdLessons_62 rfl (zR_P _) ?_
          refine zO_iload dX1_holdLessons_63 rfl ?_
          refine zO_iload_n dX1_holdLessons_65 rfl ?_
          refine zO_callV (Y' := YX1_hoursFor) (cw := zcI F n sl) (as := [zI x5_2, zI o1]) (rest := []) (na := 2) (ci := 1) rfl dX1_holdLessons_66 wC_X1_hoursFor wN_X1 wM_X1_81 wI_X1_hoursFor wV_X1_hoursFor (by decide) (by decide) rfl rfl (Nat.le_of_ble_eq_true rfl) rfl (by decide) (gk_73 hG) (fun r hr => zMet_cast (Nat.add_assoc d 0 4) (mX1_hoursFor (d := d + 0) hG x5_2 o1 r hr)) ?_
          rintro ⟨r_3, D_4⟩ -
          show zO _ _ _ _ _ _ [zI r_3] (F, D_4, n, sl) _ _
          refine zO_live [0, 1, 2, 3, 4, 5] ?_
          exact sX1_holdLessons_69 hG o1 v2 v3 v4 x5_2 r_3 _ hk_16 D_4
        · refine zO_iconst dX1_holdLessons_58 (by decide) ?_
          refine zO_goto (tgt := 69) dX1_holdLessons_59 rfl ?_
          refine zO_live [0, 1, 2, 3, 4, 5] ?_
          exact sX1_holdLessons_69 hG o1 v2 v3 v4 x5_2 0 _ hk_16 D
      · refine zO_live [0, 1, 2, 3, 4] ?_
        exact sX1_holdLessons_132 hG o1 v2 v3 v4 _ hk_16 D
    · refine zO_chk (fun h5 => ?_)
      refine zO_aload_n dX1_holdLessons_138 rfl (zR_P _) ?_
      refine gt1 (k := 6) dX1_holdLessons_139 wF_X1_25 (by decide) (gk_73 hG) (zgv (c := 1) (k := 6) rfl (Or.inl ⟨_, rfl⟩) (gf_73_6 hG)) ?_
      refine zO_iload_n dX1_holdLessons_142 rfl ?_
      refine zO_aload_n dX1_holdLessons_143 rfl (zR_P _) ?_
      refine gt1 (k := 0) dX1_holdLessons_144 wF_X1_31 (by decide) (gk_73 hG) (zgv (c := 1) (k := 0) rfl (Or.inr ⟨_, rfl⟩) (gf_73_0 hG)) ?_
      refine gt9 (k := 6) dX1_holdLessons_147 wF_X1_56 (by decide) (gk_1 hG) (zgv (c := 9) (k := 6) rfl (Or.inl ⟨_, rfl⟩) (gf_1_6 hG)) ?_
      refine zO_bipush dX1_holdLessons_150 (by decide) ?_
      refine zO_iald dX1_holdLessons_152 (gk_7 hG) (gl_in (gl_7 hG) (by decide)) ?_
      refine zO_iload_n dX1_holdLessons_153 rfl ?_
      refine zO_isub dX1_holdLessons_154 h5.1 ?_
      refine zO_iast dX1_holdLessons_155 (gk_77 hG) (gl_in (gl_77 hG) h5.2) ?_
      refine zO_letD (fun D_12 eD_12 => ?_)
      exact zO_ret (rv := none) dX1_holdLessons_156 rfl trivial rfl
set_option maxHeartbeats 20000000 in
theorem mX1_holdLessons {l : Launch} {E : zE} {d : Nat} {F : zFs} {n sl : Nat} (hG : zG F) (v1 : Int) {D : zDa} : ∀ r, fX1_holdLessons F  v1 D = some r → zMet l E (d + 5) YX1_holdLessons [zR 73, zI v1] (F, D, n, sl) (zcV F n sl r) := by
  intro r hr
  refine zMet_of (plainFor_of_name (by decide)) (fun _ h => (nomatch h)) (Nat.le_of_ble_eq_true rfl) ?_
  have hz : zO l E (d + 5) YX1_holdLessons 0 [(0, zR 73), (1, zI v1)] [] (F, D, n, sl) (zcV F n sl) (fX1_holdLessons F  v1 D) := by
    unfold fX1_holdLessons
    refine zO_aload_n dX1_holdLessons_0 rfl (zR_P _) ?_
    refine gt1 (k := 0) dX1_holdLessons_1 wF_X1_31 (by decide) (gk_73 hG) (zgv (c := 1) (k := 0) rfl (Or.inr ⟨_, rfl⟩) (gf_73_0 hG)) ?_
    refine gt9 (k := 6) dX1_holdLessons_4 wF_X1_56 (by decide) (gk_1 hG) (zgv (c := 9) (k := 6) rfl (Or.inl ⟨_, rfl⟩) (gf_1_6 hG)) ?_
    refine zO_bipush dX1_holdLessons_7 (by decide) ?_
    refine zO_iald dX1_holdLessons_9 (gk_7 hG) (gl_in (gl_7 hG) (by decide)) ?_
    refine zO_letI (fun x2_1 ex2_1 => ?_)
    refine zO_istore_n dX1_holdLessons_10 (by decide) ?_
    refine zO_ls (ls' := [(0, zR 73), (1, zI v1), (2, zI x2_1)]) rfl ?_
    refine zO_iconst dX1_holdLessons_11 (by decide) ?_
    refine zO_istore_n dX1_holdLessons_12 (by decide) ?_
    refine zO_ls (ls' := [(0, zR 73), (1, zI v1), (2, zI x2_1), (3, zI 0)]) rfl ?_
    refine zO_iconst dX1_holdLessons_13 (by decide) ?_
    refine zO_istore dX1_holdLessons_14 (by decide) ?_
    refine zO_ls (ls' := [(0, zR 73), (1, zI v1), (2, zI x2_1), (3, zI 0), (4, zI 0)]) rfl ?_
    refine zO_live [0, 1, 2, 3, 4] ?_
    exact sX1_holdLessons_16 hG v1 zfu x2_1 0 0 D
  exact hz r hr
theorem dX10_daysKept_0 : decode cX10_daysKept 0 = .ok (.aload_n 0, 1) := by decide +kernel
theorem dX10_daysKept_1 : decode cX10_daysKept 1 = .ok (.iload_n 1, 1) := by decide +kernel
theorem dX10_daysKept_2 : decode cX10_daysKept 2 = .ok (.iload_n 2, 1) := by decide +kernel
theorem dX10_daysKept_3 : decode cX10_daysKept 3 = .ok (.invokevirtual 25, 3) := by decide +kernel
theorem dX10_daysKept_6 : decode cX10_daysKept 6 = .ok (.aload_n 0, 1) := by decide +kernel
theorem dX10_daysKept_7 : decode cX10_daysKept 7 = .ok (.iconst 1, 1) := by decide +kernel
theorem dX10_daysKept_8 : decode cX10_daysKept 8 = .ok (.bipush 10, 2) := by decide +kernel
theorem dX10_daysKept_10 : decode cX10_daysKept 10 = .ok (.iconst 1, 1) := by decide +kernel
theorem dX10_daysKept_11 : decode cX10_daysKept 11 = .ok (.bipush 30, 2) := by decide +kernel
theorem dX10_daysKept_13 : decode cX10_daysKept 13 = .ok (.invokevirtual 29, 3) := by decide +kernel
theorem dX10_daysKept_16 : decode cX10_daysKept 16 = .ok (.ireturn, 1) := by decide +kernel
abbrev YX10_daysKept : zY := (yX10_daysKept, cX10_daysKept, 3, (Option.some Jvm.ClassFile.FieldType.int), [])
def fX10_daysKept (F : zFs) (v1 : Int) (v2 : Int) (D : zDa) : Option (Int × zDa) :=
  (fX10_ask F v1 v2 D).bind (fun D_2 =>
    (fX10_told F 1 10 1 30 D_2).bind (fun (r_3, D_4) =>
      some (r_3, D_4)))
set_option maxHeartbeats 20000000 in
theorem mX10_daysKept {l : Launch} {E : zE} {d : Nat} {F : zFs} {n sl : Nat} (hG : zG F) (v1 : Int) (v2 : Int) {D : zDa} : ∀ r, fX10_daysKept F  v1 v2 D = some r → zMet l E (d + 3) YX10_daysKept [zR 49, zI v1, zI v2] (F, D, n, sl) (zcI F n sl r) := by
  intro r hr
  refine zMet_of (plainFor_of_name (by decide)) (fun _ h => (nomatch h)) (Nat.le_of_ble_eq_true rfl) ?_
  have hz : zO l E (d + 3) YX10_daysKept 0 [(0, zR 49), (1, zI v1), (2, zI v2)] [] (F, D, n, sl) (zcI F n sl) (fX10_daysKept F  v1 v2 D) := by
    unfold fX10_daysKept
    refine zO_aload_n dX10_daysKept_0 rfl (zR_P _) ?_
    refine zO_iload_n dX10_daysKept_1 rfl ?_
    refine zO_iload_n dX10_daysKept_2 rfl ?_
    refine zO_callV (Y' := YX10_ask) (cw := zcV F n sl) (as := [zI v1, zI v2]) (rest := []) (na := 2) (ci := 10) rfl dX10_daysKept_3 wC_X10_ask wN_X10 wM_X10_25 wI_X10_ask wV_X10_ask (by decide) (by decide) rfl rfl (Nat.le_of_ble_eq_true rfl) rfl (by decide) (gk_49 hG) (fun r hr => zMet_cast (Nat.add_assoc d 1 1) (mX10_ask (d := d + 1) hG v1 v2 r hr)) ?_
    intro D_2 _
    show zO _ _ _ _ _ _ [] (F, D_2, n, sl) _ _
    refine zO_aload_n dX10_daysKept_6 rfl (zR_P _) ?_
    refine zO_iconst dX10_daysKept_7 (by decide) ?_
    refine zO_bipush dX10_daysKept_8 (by decide) ?_
    refine zO_iconst dX10_daysKept_10 (by decide) ?_
    refine zO_bipush dX10_daysKept_11 (by decide) ?_
    refine zO_callV (Y' := YX10_told) (cw := zcI F n sl) (as := [zI 1, zI 10, zI 1, zI 30]) (rest := []) (na := 4) (ci := 10) rfl dX10_daysKept_13 wC_X10_told wN_X10 wM_X10_29 wI_X10_told wV_X10_told (by decide) (by decide) rfl rfl (Nat.le_of_ble_eq_true rfl) rfl (by decide) (gk_49 hG) (fun r hr => zMet_cast (Nat.add_assoc d 0 2) (mX10_told (d := d + 0) hG 1 10 1 30 r hr)) ?_
    rintro ⟨r_3, D_4⟩ -
    show zO _ _ _ _ _ _ [zI r_3] (F, D_4, n, sl) _ _
    exact zO_ret (rv := some (zI r_3)) dX10_daysKept_16 rfl rfl rfl
  exact hz r hr
theorem dX1_forget_0 : decode cX1_forget 0 = .ok (.iconst 0, 1) := by decide +kernel
theorem dX1_forget_1 : decode cX1_forget 1 = .ok (.istore_n 2, 1) := by decide +kernel
theorem dX1_forget_2 : decode cX1_forget 2 = .ok (.iload_n 2, 1) := by decide +kernel
theorem dX1_forget_3 : decode cX1_forget 3 = .ok (.aload_n 0, 1) := by decide +kernel
theorem dX1_forget_4 : decode cX1_forget 4 = .ok (.getfield 31, 3) := by decide +kernel
theorem dX1_forget_7 : decode cX1_forget 7 = .ok (.getfield 106, 3) := by decide +kernel
theorem dX1_forget_10 : decode cX1_forget 10 = .ok (.if_icmp .ge 80, 3) := by decide +kernel
theorem dX1_forget_13 : decode cX1_forget 13 = .ok (.aload_n 0, 1) := by decide +kernel
theorem dX1_forget_14 : decode cX1_forget 14 = .ok (.getfield 15, 3) := by decide +kernel
theorem dX1_forget_17 : decode cX1_forget 17 = .ok (.iload_n 2, 1) := by decide +kernel
theorem dX1_forget_18 : decode cX1_forget 18 = .ok (.iaload, 1) := by decide +kernel
theorem dX1_forget_19 : decode cX1_forget 19 = .ok (.ifCond .le 65, 3) := by decide +kernel
theorem dX1_forget_22 : decode cX1_forget 22 = .ok (.iload_n 1, 1) := by decide +kernel
theorem dX1_forget_23 : decode cX1_forget 23 = .ok (.aload_n 0, 1) := by decide +kernel
theorem dX1_forget_24 : decode cX1_forget 24 = .ok (.getfield 19, 3) := by decide +kernel
theorem dX1_forget_27 : decode cX1_forget 27 = .ok (.iload_n 2, 1) := by decide +kernel
theorem dX1_forget_28 : decode cX1_forget 28 = .ok (.iaload, 1) := by decide +kernel
theorem dX1_forget_29 : decode cX1_forget 29 = .ok (.if_icmp .le 55, 3) := by decide +kernel
theorem dX1_forget_32 : decode cX1_forget 32 = .ok (.iload_n 1, 1) := by decide +kernel
theorem dX1_forget_33 : decode cX1_forget 33 = .ok (.aload_n 0, 1) := by decide +kernel
theorem dX1_forget_34 : decode cX1_forget 34 = .ok (.getfield 19, 3) := by decide +kernel
theorem dX1_forget_37 : decode cX1_forget 37 = .ok (.iload_n 2, 1) := by decide +kernel
theorem dX1_forget_38 : decode cX1_forget 38 = .ok (.iaload, 1) := by decide +kernel
theorem dX1_forget_39 : decode cX1_forget 39 = .ok (.isub, 1) := by decide +kernel
theorem dX1_forget_40 : decode cX1_forget 40 = .ok (.aload_n 0, 1) := by decide +kernel
theorem dX1_forget_41 : decode cX1_forget 41 = .ok (.getfield 35, 3) := by decide +kernel
theorem dX1_forget_44 : decode cX1_forget 44 = .ok (.iload_n 2, 1) := by decide +kernel
theorem dX1_forget_45 : decode cX1_forget 45 = .ok (.aload_n 0, 1) := by decide +kernel
theorem dX1_forget_46 : decode cX1_forget 46 = .ok (.getfield 15, 3) := by decide +kernel
theorem dX1_forget_49 : decode cX1_forget 49 = .ok (.iload_n 2, 1) := by decide +kernel
theorem dX1_forget_50 : decode cX1_forget 50 = .ok (.iaload, 1) := by decide +kernel
theorem dX1_forget_51 : decode cX1_forget 51 = .ok (.invokevirtual 109, 3) := by decide +kernel
theorem dX1_forget_54 : decode cX1_forget 54 = .ok (.if_icmp .lt 30, 3) := by decide +kernel
theorem dX1_forget_57 : decode cX1_forget 57 = .ok (.aload_n 0, 1) := by decide +kernel
theorem dX1_forget_58 : decode cX1_forget 58 = .ok (.getfield 15, 3) := by decide +kernel
theorem dX1_forget_61 : decode cX1_forget 61 = .ok (.iload_n 2, 1) := by decide +kernel
theorem dX1_forget_62 : decode cX1_forget 62 = .ok (.dup2, 1) := by decide +kernel
theorem dX1_forget_63 : decode cX1_forget 63 = .ok (.iaload, 1) := by decide +kernel
theorem dX1_forget_64 : decode cX1_forget 64 = .ok (.iconst 1, 1) := by decide +kernel
theorem dX1_forget_65 : decode cX1_forget 65 = .ok (.isub, 1) := by decide +kernel
theorem dX1_forget_66 : decode cX1_forget 66 = .ok (.iastore, 1) := by decide +kernel
theorem dX1_forget_67 : decode cX1_forget 67 = .ok (.aload_n 0, 1) := by decide +kernel
theorem dX1_forget_68 : decode cX1_forget 68 = .ok (.getfield 19, 3) := by decide +kernel
theorem dX1_forget_71 : decode cX1_forget 71 = .ok (.iload_n 2, 1) := by decide +kernel
theorem dX1_forget_72 : decode cX1_forget 72 = .ok (.iload_n 1, 1) := by decide +kernel
theorem dX1_forget_73 : decode cX1_forget 73 = .ok (.iastore, 1) := by decide +kernel
theorem dX1_forget_74 : decode cX1_forget 74 = .ok (.aload_n 0, 1) := by decide +kernel
theorem dX1_forget_75 : decode cX1_forget 75 = .ok (.dup, 1) := by decide +kernel
theorem dX1_forget_76 : decode cX1_forget 76 = .ok (.getfield 53, 3) := by decide +kernel
theorem dX1_forget_79 : decode cX1_forget 79 = .ok (.iconst 1, 1) := by decide +kernel
theorem dX1_forget_80 : decode cX1_forget 80 = .ok (.iadd, 1) := by decide +kernel
theorem dX1_forget_81 : decode cX1_forget 81 = .ok (.putfield 53, 3) := by decide +kernel
theorem dX1_forget_84 : decode cX1_forget 84 = .ok (.iinc 2 1, 3) := by decide +kernel
theorem dX1_forget_87 : decode cX1_forget 87 = .ok (.goto (-85), 3) := by decide +kernel
theorem dX1_forget_90 : decode cX1_forget 90 = .ok (.return_, 1) := by decide +kernel
abbrev YX1_forget : zY := (yX1_forget, cX1_forget, 3, none, [])
def fX1_forget_84 (F : zFs) (k_2 : Int → zDa → Option zDa) (o1 : Int) (v2 : Int) (D : zDa) : Option zDa :=
  if (-2147483648 ≤ v2 + 1 ∧ v2 + 1 ≤ 2147483647) then
    k_2 (v2 + 1) D
  else none
def fX1_forget_2 (F : zFs) (o1 : Int)  (k_2 : Int → zDa → Option zDa) (v2 : Int) (D : zDa) : Option zDa :=
  if v2 < (D 1 5) then
    if (0 ≤ v2 ∧ v2 < 20) then
      if 0 < (D 74 v2.toNat) then
        if (D 75 v2.toNat) < o1 then
          if (-2147483648 ≤ o1 - (D 75 v2.toNat) ∧ o1 - (D 75 v2.toNat) ≤ 2147483647) then
            (fX10_daysKept F v2 (D 74 v2.toNat) D).bind (fun (r_1, D_2) =>
              if (o1 - (D 75 v2.toNat)) < r_1 then
                fX1_forget_84 F k_2 o1 v2 D_2
              else
                if (-2147483648 ≤ (D_2 74 v2.toNat) - 1 ∧ (D_2 74 v2.toNat) - 1 ≤ 2147483647) then
                  zlet (zwr D_2 74 v2.toNat ((D_2 74 v2.toNat) - 1)) (fun D_3 =>
                    zlet (zwr D_3 75 v2.toNat o1) (fun D_4 =>
                      if (-2147483648 ≤ (D_4 73 9) + 1 ∧ (D_4 73 9) + 1 ≤ 2147483647) then
                        zlet (zwr D_4 73 9 ((D_4 73 9) + 1)) (fun D_5 =>
                          fX1_forget_84 F k_2 o1 v2 D_5)
                      else none))
                else none)
          else none
        else
          fX1_forget_84 F k_2 o1 v2 D
      else
        fX1_forget_84 F k_2 o1 v2 D
    else none
  else
    some D
def fX1_forget (F : zFs) (v1 : Int) (D : zDa) : Option zDa :=
  zfix (fun _ _ => none) (fX1_forget_2 F v1) zfu 0 D
set_option maxHeartbeats 20000000 in
theorem sX1_forget_84 {l : Launch} {E : zE} {d : Nat} {F : zFs} {n sl : Nat} (hG : zG F)  (o1 : Int) (v2 : Int) (k_2 : Int → zDa → Option zDa) (hk_2 : ∀ (u2 : Int) (D : zDa), zO l E (d + 4) YX1_forget 2 [(0, zR 73), (1, zI o1), (2, zI u2)] [] (F, D, n, sl) (zcV F n sl) (k_2 u2 D)) (D : zDa) : zO l E (d + 4) YX1_forget 84 [(0, zR 73), (1, zI o1), (2, zI v2)] [] (F, D, n, sl) (zcV F n sl) (fX1_forget_84 F k_2 o1 v2 D) := by
  unfold fX1_forget_84
  refine zO_chk (fun h3 => ?_)
  refine zO_iinc dX1_forget_84 rfl h3 (by decide) ?_
  refine zO_ls (ls' := [(0, zR 73), (1, zI o1), (2, zI (v2 + 1))]) rfl ?_
  refine zO_goto (tgt := 2) dX1_forget_87 rfl ?_
  refine zO_live [0, 1, 2] ?_
  exact hk_2 (v2 + 1) D
set_option maxHeartbeats 20000000 in
theorem sX1_forget_2 {l : Launch} {E : zE} {d : Nat} {F : zFs} {n sl : Nat} (hG : zG F)  (o1 : Int)   : ∀ (N : Nat) (v2 : Int) (D : zDa), zO l E (d + 4) YX1_forget 2 [(0, zR 73), (1, zI o1), (2, zI v2)] [] (F, D, n, sl) (zcV F n sl) (zfix (fun _ _ => none) (fX1_forget_2 F o1) N v2 D) := by
  intro N
  induction N with
  | zero => intro v2 D; exact zO_none
  | succ N hk_2 =>
    intro v2 D
    show zO _ _ _ _ _ _ _ _ _ ((fX1_forget_2 F o1) (zfix (fun _ _ => none) (fX1_forget_2 F o1) N) v2 D)
    unfold fX1_forget_2
    refine zO_iload_n dX1_forget_2 rfl ?_
    refine zO_aload_n dX1_forget_3 rfl (zR_P _) ?_
    refine gt1 (k := 0) dX1_forget_4 wF_X1_31 (by decide) (gk_73 hG) (zgv (c := 1) (k := 0) rfl (Or.inr ⟨_, rfl⟩) (gf_73_0 hG)) ?_
    refine gt9 (k := 5) (v := zI (D 1 5)) dX1_forget_7 wF_X1_106 (by decide) (gk_1 hG) rfl ?_
    refine zO_icmp_ge (tgt := 90) dX1_forget_10 rfl (fun c10 => ?_) (fun c10 => ?_)
    · refine zO_chk (fun h1 => ?_)
      refine zO_aload_n dX1_forget_13 rfl (zR_P _) ?_
      refine gt1 (k := 3) dX1_forget_14 wF_X1_15 (by decide) (gk_73 hG) (zgv (c := 1) (k := 3) rfl (Or.inl ⟨_, rfl⟩) (gf_73_3 hG)) ?_
      refine zO_iload_n dX1_forget_17 rfl ?_
      refine zO_iald dX1_forget_18 (gk_74 hG) (gl_in (gl_74 hG) h1) ?_
      refine zO_if_le (tgt := 84) dX1_forget_19 rfl (fun c19 => ?_) (fun c19 => ?_)
      · refine zO_iload_n dX1_forget_22 rfl ?_
        refine zO_aload_n dX1_forget_23 rfl (zR_P _) ?_
        refine gt1 (k := 4) dX1_forget_24 wF_X1_19 (by decide) (gk_73 hG) (zgv (c := 1) (k := 4) rfl (Or.inl ⟨_, rfl⟩) (gf_73_4 hG)) ?_
        refine zO_iload_n dX1_forget_27 rfl ?_
        refine zO_iald dX1_forget_28 (gk_75 hG) (gl_in (gl_75 hG) h1) ?_
        refine zO_icmp_le (tgt := 84) dX1_forget_29 rfl (fun c29 => ?_) (fun c29 => ?_)
        · refine zO_chk (fun h2 => ?_)
          refine zO_iload_n dX1_forget_32 rfl ?_
          refine zO_aload_n dX1_forget_33 rfl (zR_P _) ?_
          refine gt1 (k := 4) dX1_forget_34 wF_X1_19 (by decide) (gk_73 hG) (zgv (c := 1) (k := 4) rfl (Or.inl ⟨_, rfl⟩) (gf_73_4 hG)) ?_
          refine zO_iload_n dX1_forget_37 rfl ?_
          refine zO_iald dX1_forget_38 (gk_75 hG) (gl_in (gl_75 hG) h1) ?_
          refine zO_isub dX1_forget_39 h2 ?_
          refine zO_aload_n dX1_forget_40 rfl (zR_P _) ?_
          refine gt1 (k := 1) dX1_forget_41 wF_X1_35 (by decide) (gk_73 hG) (zgv (c := 1) (k := 1) rfl (Or.inr ⟨_, rfl⟩) (gf_73_1 hG)) ?_
          refine zO_iload_n dX1_forget_44 rfl ?_
          refine zO_aload_n dX1_forget_45 rfl (zR_P _) ?_
          refine gt1 (k := 3) dX1_forget_46 wF_X1_15 (by decide) (gk_73 hG) (zgv (c := 1) (k := 3) rfl (Or.inl ⟨_, rfl⟩) (gf_73_3 hG)) ?_
          refine zO_iload_n dX1_forget_49 rfl ?_
          refine zO_iald dX1_forget_50 (gk_74 hG) (gl_in (gl_74 hG) h1) ?_
          refine zO_callV (Y' := YX10_daysKept) (cw := zcI F n sl) (as := [zI v2, zI (D 74 v2.toNat)]) (rest := [zI (o1 - (D 75 v2.toNat))]) (na := 2) (ci := 10) rfl dX1_forget_51 wC_X10_daysKept wN_X10 wM_X1_109 wI_X10_daysKept wV_X10_daysKept (by decide) (by decide) rfl rfl (Nat.le_of_ble_eq_true rfl) rfl (by decide) (gk_49 hG) (fun r hr => zMet_cast (Nat.add_assoc d 0 3) (mX10_daysKept (d := d + 0) hG v2 (D 74 v2.toNat) r hr)) ?_
          rintro ⟨r_1, D_2⟩ -
          show zO _ _ _ _ _ _ [zI r_1, zI (o1 - (D 75 v2.toNat))] (F, D_2, n, sl) _ _
          refine zO_icmp_lt (tgt := 84) dX1_forget_54 rfl (fun c54 => ?_) (fun c54 => ?_)
          · refine zO_live [0, 1, 2] ?_
            exact sX1_forget_84 hG o1 v2 _ hk_2 D_2
          · refine zO_chk (fun h4 => ?_)
            refine zO_aload_n dX1_forget_57 rfl (zR_P _) ?_
            refine gt1 (k := 3) dX1_forget_58 wF_X1_15 (by decide) (gk_73 hG) (zgv (c := 1) (k := 3) rfl (Or.inl ⟨_, rfl⟩) (gf_73_3 hG)) ?_
            refine zO_iload_n dX1_forget_61 rfl ?_
            refine zO_dup2a dX1_forget_62 (rfl) (rfl) ?_
            refine zO_iald dX1_forget_63 (gk_74 hG) (gl_in (gl_74 hG) h1) ?_
            refine zO_iconst dX1_forget_64 (by decide) ?_
            refine zO_isub dX1_forget_65 h4 ?_
            refine zO_iast dX1_forget_66 (gk_74 hG) (gl_in (gl_74 hG) h1) ?_
            refine zO_letD (fun D_3 eD_3 => ?_)
            refine zO_aload_n dX1_forget_67 rfl (zR_P _) ?_
            refine gt1 (k := 4) dX1_forget_68 wF_X1_19 (by decide) (gk_73 hG) (zgv (c := 1) (k := 4) rfl (Or.inl ⟨_, rfl⟩) (gf_73_4 hG)) ?_
            refine zO_iload_n dX1_forget_71 rfl ?_
            refine zO_iload_n dX1_forget_72 rfl ?_
            refine zO_iast dX1_forget_73 (gk_75 hG) (gl_in (gl_75 hG) h1) ?_
            refine zO_letD (fun D_4 eD_4 => ?_)
            refine zO_chk (fun h5 => ?_)
            refine zO_aload_n dX1_forget_74 rfl (zR_P _) ?_
            refine zO_dup dX1_forget_75 (rfl) ?_
            refine gt1 (k := 9) (v := zI (D_4 73 9)) dX1_forget_76 wF_X1_53 (by decide) (gk_73 hG) rfl ?_
            refine zO_iconst dX1_forget_79 (by decide) ?_
            refine zO_iadd dX1_forget_80 h5 ?_
            refine ptI1 (k := 9) (z := ((D_4 73 9) + 1)) dX1_forget_81 wF_X1_53 (by decide) rfl (gk_73 hG) rfl ?_
            refine zO_letD (fun D_5 eD_5 => ?_)
            refine zO_live [0, 1, 2] ?_
            exact sX1_forget_84 hG o1 v2 _ hk_2 D_5
        · refine zO_live [0, 1, 2] ?_
          exact sX1_forget_84 hG o1 v2 _ hk_2 D
      · refine zO_live [0, 1, 2] ?_
        exact sX1_forget_84 hG o1 v2 _ hk_2 D
    · exact zO_ret (rv := none) dX1_forget_90 rfl trivial rfl
set_option maxHeartbeats 20000000 in
theorem mX1_forget {l : Launch} {E : zE} {d : Nat} {F : zFs} {n sl : Nat} (hG : zG F) (v1 : Int) {D : zDa} : ∀ r, fX1_forget F  v1 D = some r → zMet l E (d + 4) YX1_forget [zR 73, zI v1] (F, D, n, sl) (zcV F n sl r) := by
  intro r hr
  refine zMet_of (plainFor_of_name (by decide)) (fun _ h => (nomatch h)) (Nat.le_of_ble_eq_true rfl) ?_
  have hz : zO l E (d + 4) YX1_forget 0 [(0, zR 73), (1, zI v1)] [] (F, D, n, sl) (zcV F n sl) (fX1_forget F  v1 D) := by
    unfold fX1_forget
    refine zO_iconst dX1_forget_0 (by decide) ?_
    refine zO_istore_n dX1_forget_1 (by decide) ?_
    refine zO_ls (ls' := [(0, zR 73), (1, zI v1), (2, zI 0)]) rfl ?_
    refine zO_live [0, 1, 2] ?_
    exact sX1_forget_2 hG v1 zfu 0 D
  exact hz r hr
theorem dX1_refresh_0 : decode cX1_refresh 0 = .ok (.aload_n 0, 1) := by decide +kernel
theorem dX1_refresh_1 : decode cX1_refresh 1 = .ok (.getfield 9, 3) := by decide +kernel
theorem dX1_refresh_4 : decode cX1_refresh 4 = .ok (.aload_n 0, 1) := by decide +kernel
theorem dX1_refresh_5 : decode cX1_refresh 5 = .ok (.getfield 31, 3) := by decide +kernel
theorem dX1_refresh_8 : decode cX1_refresh 8 = .ok (.getfield 39, 3) := by decide +kernel
theorem dX1_refresh_11 : decode cX1_refresh 11 = .ok (.if_icmp .ne 4, 3) := by decide +kernel
theorem dX1_refresh_14 : decode cX1_refresh 14 = .ok (.return_, 1) := by decide +kernel
theorem dX1_refresh_15 : decode cX1_refresh 15 = .ok (.aload_n 0, 1) := by decide +kernel
theorem dX1_refresh_16 : decode cX1_refresh 16 = .ok (.aload_n 0, 1) := by decide +kernel
theorem dX1_refresh_17 : decode cX1_refresh 17 = .ok (.getfield 31, 3) := by decide +kernel
theorem dX1_refresh_20 : decode cX1_refresh 20 = .ok (.getfield 39, 3) := by decide +kernel
theorem dX1_refresh_23 : decode cX1_refresh 23 = .ok (.putfield 9, 3) := by decide +kernel
theorem dX1_refresh_26 : decode cX1_refresh 26 = .ok (.aload_n 0, 1) := by decide +kernel
theorem dX1_refresh_27 : decode cX1_refresh 27 = .ok (.getfield 15, 3) := by decide +kernel
theorem dX1_refresh_30 : decode cX1_refresh 30 = .ok (.iconst 0, 1) := by decide +kernel
theorem dX1_refresh_31 : decode cX1_refresh 31 = .ok (.invokestatic 44, 3) := by decide +kernel
theorem dX1_refresh_34 : decode cX1_refresh 34 = .ok (.aload_n 0, 1) := by decide +kernel
theorem dX1_refresh_35 : decode cX1_refresh 35 = .ok (.getfield 19, 3) := by decide +kernel
theorem dX1_refresh_38 : decode cX1_refresh 38 = .ok (.iconst 0, 1) := by decide +kernel
theorem dX1_refresh_39 : decode cX1_refresh 39 = .ok (.invokestatic 44, 3) := by decide +kernel
theorem dX1_refresh_42 : decode cX1_refresh 42 = .ok (.aload_n 0, 1) := by decide +kernel
theorem dX1_refresh_43 : decode cX1_refresh 43 = .ok (.iconst 0, 1) := by decide +kernel
theorem dX1_refresh_44 : decode cX1_refresh 44 = .ok (.putfield 50, 3) := by decide +kernel
theorem dX1_refresh_47 : decode cX1_refresh 47 = .ok (.aload_n 0, 1) := by decide +kernel
theorem dX1_refresh_48 : decode cX1_refresh 48 = .ok (.iconst (-1), 1) := by decide +kernel
theorem dX1_refresh_49 : decode cX1_refresh 49 = .ok (.putfield 28, 3) := by decide +kernel
theorem dX1_refresh_52 : decode cX1_refresh 52 = .ok (.aload_n 0, 1) := by decide +kernel
theorem dX1_refresh_53 : decode cX1_refresh 53 = .ok (.iconst 0, 1) := by decide +kernel
theorem dX1_refresh_54 : decode cX1_refresh 54 = .ok (.putfield 53, 3) := by decide +kernel
theorem dX1_refresh_57 : decode cX1_refresh 57 = .ok (.iconst 0, 1) := by decide +kernel
theorem dX1_refresh_58 : decode cX1_refresh 58 = .ok (.istore_n 1, 1) := by decide +kernel
theorem dX1_refresh_59 : decode cX1_refresh 59 = .ok (.iload_n 1, 1) := by decide +kernel
theorem dX1_refresh_60 : decode cX1_refresh 60 = .ok (.aload_n 0, 1) := by decide +kernel
theorem dX1_refresh_61 : decode cX1_refresh 61 = .ok (.getfield 31, 3) := by decide +kernel
theorem dX1_refresh_64 : decode cX1_refresh 64 = .ok (.getfield 56, 3) := by decide +kernel
theorem dX1_refresh_67 : decode cX1_refresh 67 = .ok (.iconst 5, 1) := by decide +kernel
theorem dX1_refresh_68 : decode cX1_refresh 68 = .ok (.iaload, 1) := by decide +kernel
theorem dX1_refresh_69 : decode cX1_refresh 69 = .ok (.if_icmp .ge 37, 3) := by decide +kernel
theorem dX1_refresh_72 : decode cX1_refresh 72 = .ok (.aload_n 0, 1) := by decide +kernel
theorem dX1_refresh_73 : decode cX1_refresh 73 = .ok (.iload_n 1, 1) := by decide +kernel
theorem dX1_refresh_74 : decode cX1_refresh 74 = .ok (.invokevirtual 59, 3) := by decide +kernel
theorem dX1_refresh_77 : decode cX1_refresh 77 = .ok (.aload_n 0, 1) := by decide +kernel
theorem dX1_refresh_78 : decode cX1_refresh 78 = .ok (.iload_n 1, 1) := by decide +kernel
theorem dX1_refresh_79 : decode cX1_refresh 79 = .ok (.invokevirtual 63, 3) := by decide +kernel
theorem dX1_refresh_82 : decode cX1_refresh 82 = .ok (.aload_n 0, 1) := by decide +kernel
theorem dX1_refresh_83 : decode cX1_refresh 83 = .ok (.getfield 15, 3) := by decide +kernel
theorem dX1_refresh_86 : decode cX1_refresh 86 = .ok (.iconst 0, 1) := by decide +kernel
theorem dX1_refresh_87 : decode cX1_refresh 87 = .ok (.aload_n 0, 1) := by decide +kernel
theorem dX1_refresh_88 : decode cX1_refresh 88 = .ok (.getfield 22, 3) := by decide +kernel
theorem dX1_refresh_91 : decode cX1_refresh 91 = .ok (.iload_n 1, 1) := by decide +kernel
theorem dX1_refresh_92 : decode cX1_refresh 92 = .ok (.bipush 20, 2) := by decide +kernel
theorem dX1_refresh_94 : decode cX1_refresh 94 = .ok (.imul, 1) := by decide +kernel
theorem dX1_refresh_95 : decode cX1_refresh 95 = .ok (.bipush 20, 2) := by decide +kernel
theorem dX1_refresh_97 : decode cX1_refresh 97 = .ok (.invokestatic 66, 3) := by decide +kernel
theorem dX1_refresh_100 : decode cX1_refresh 100 = .ok (.iinc 1 1, 3) := by decide +kernel
theorem dX1_refresh_103 : decode cX1_refresh 103 = .ok (.goto (-44), 3) := by decide +kernel
theorem dX1_refresh_106 : decode cX1_refresh 106 = .ok (.return_, 1) := by decide +kernel
abbrev YX1_refresh : zY := (yX1_refresh, cX1_refresh, 2, none, [])
def fX1_refresh_59 (F : zFs)   (k_59 : Int → zDa → Option zDa) (v1 : Int) (D : zDa) : Option zDa :=
  if v1 < (D 7 5) then
    (fX1_holdLessons F v1 D).bind (fun D_10 =>
      (fX1_forget F v1 D_10).bind (fun D_12 =>
        if (-2147483648 ≤ v1 * 20 ∧ v1 * 20 ≤ 2147483647) ∧ ((0 : Int) ≤ 0 ∧ (0 : Int) ≤ (v1 * 20) ∧ (0 : Int) ≤ 20 ∧ (0 + 20 : Int) ≤ 20 ∧ ((v1 * 20) + 20 : Int) ≤ 400) then
          zlet (zrow D_12 76 (va_cpy (D_12 74) (D_12 76) 0 (v1 * 20).toNat 20)) (fun D_13 =>
            if (-2147483648 ≤ v1 + 1 ∧ v1 + 1 ≤ 2147483647) then
              k_59 (v1 + 1) D_13
            else none)
        else none))
  else
    some D
def fX1_refresh (F : zFs)  (D : zDa) : Option zDa :=
  if (D 73 2) = (D 1 17) then
    some D
  else
    zlet (zwr D 73 2 (D 1 17)) (fun D_1 =>
      (fJ7_fill_53178 F 74 0 D_1).bind (fun D_3 =>
        (fJ7_fill_53178 F 75 0 D_3).bind (fun D_5 =>
          zlet (zwr D_5 73 7 0) (fun D_6 =>
            zlet (zwr D_6 73 8 (-1)) (fun D_7 =>
              zlet (zwr D_7 73 9 0) (fun D_8 =>
                zfix (fun _ _ => none) (fX1_refresh_59 F) zfu 0 D_8))))))
set_option maxHeartbeats 20000000 in
theorem sX1_refresh_59 {l : Launch} {E : zE} {d : Nat} {F : zFs} {n sl : Nat} (hG : zG F)     : ∀ (N : Nat) (v1 : Int) (D : zDa), zO l E (d + 6) YX1_refresh 59 [(0, zR 73), (1, zI v1)] [] (F, D, n, sl) (zcV F n sl) (zfix (fun _ _ => none) (fX1_refresh_59 F) N v1 D) := by
  intro N
  induction N with
  | zero => intro v1 D; exact zO_none
  | succ N hk_59 =>
    intro v1 D
    show zO _ _ _ _ _ _ _ _ _ ((fX1_refresh_59 F) (zfix (fun _ _ => none) (fX1_refresh_59 F) N) v1 D)
    unfold fX1_refresh_59
    refine zO_iload_n dX1_refresh_59 rfl ?_
    refine zO_aload_n dX1_refresh_60 rfl (zR_P _) ?_
    refine gt1 (k := 0) dX1_refresh_61 wF_X1_31 (by decide) (gk_73 hG) (zgv (c := 1) (k := 0) rfl (Or.inr ⟨_, rfl⟩) (gf_73_0 hG)) ?_
    refine gt9 (k := 6) dX1_refresh_64 wF_X1_56 (by decide) (gk_1 hG) (zgv (c := 9) (k := 6) rfl (Or.inl ⟨_, rfl⟩) (gf_1_6 hG)) ?_
    refine zO_iconst dX1_refresh_67 (by decide) ?_
    refine zO_iald dX1_refresh_68 (gk_7 hG) (gl_in (gl_7 hG) (by decide)) ?_
    refine zO_icmp_ge (tgt := 106) dX1_refresh_69 rfl (fun c69 => ?_) (fun c69 => ?_)
    · refine zO_aload_n dX1_refresh_72 rfl (zR_P _) ?_
      refine zO_iload_n dX1_refresh_73 rfl ?_
      refine zO_callV (Y' := YX1_holdLessons) (cw := zcV F n sl) (as := [zI v1]) (rest := []) (na := 1) (ci := 1) rfl dX1_refresh_74 wC_X1_holdLessons wN_X1 wM_X1_59 wI_X1_holdLessons wV_X1_holdLessons (by decide) (by decide) rfl rfl (Nat.le_of_ble_eq_true rfl) rfl (by decide) (gk_73 hG) (fun r hr => zMet_cast (Nat.add_assoc d 0 5) (mX1_holdLessons (d := d + 0) hG v1 r hr)) ?_
      intro D_10 _
      show zO _ _ _ _ _ _ [] (F, D_10, n, sl) _ _
      refine zO_aload_n dX1_refresh_77 rfl (zR_P _) ?_
      refine zO_iload_n dX1_refresh_78 rfl ?_
      refine zO_callV (Y' := YX1_forget) (cw := zcV F n sl) (as := [zI v1]) (rest := []) (na := 1) (ci := 1) rfl dX1_refresh_79 wC_X1_forget wN_X1 wM_X1_63 wI_X1_forget wV_X1_forget (by decide) (by decide) rfl rfl (Nat.le_of_ble_eq_true rfl) rfl (by decide) (gk_73 hG) (fun r hr => zMet_cast (Nat.add_assoc d 1 4) (mX1_forget (d := d + 1) hG v1 r hr)) ?_
      intro D_12 _
      show zO _ _ _ _ _ _ [] (F, D_12, n, sl) _ _
      refine zO_chk (fun h1 => ?_)
      refine zO_aload_n dX1_refresh_82 rfl (zR_P _) ?_
      refine gt1 (k := 3) dX1_refresh_83 wF_X1_15 (by decide) (gk_73 hG) (zgv (c := 1) (k := 3) rfl (Or.inl ⟨_, rfl⟩) (gf_73_3 hG)) ?_
      refine zO_iconst dX1_refresh_86 (by decide) ?_
      refine zO_aload_n dX1_refresh_87 rfl (zR_P _) ?_
      refine gt1 (k := 5) dX1_refresh_88 wF_X1_22 (by decide) (gk_73 hG) (zgv (c := 1) (k := 5) rfl (Or.inl ⟨_, rfl⟩) (gf_73_5 hG)) ?_
      refine zO_iload_n dX1_refresh_91 rfl ?_
      refine zO_bipush dX1_refresh_92 (by decide) ?_
      refine zO_imul dX1_refresh_94 h1.1 ?_
      refine zO_bipush dX1_refresh_95 (by decide) ?_
      refine zO_copy (kd := 20) dX1_refresh_97 wM_X1_66 (by decide) (gk_74 hG) (gk_76 hG) (by rw [gl_74 hG, gl_76 hG]; exact h1.2) (Nat.le_of_ble_eq_true rfl) ?_
      refine zO_letD (fun D_13 eD_13 => ?_)
      refine zO_chk (fun h2 => ?_)
      refine zO_iinc dX1_refresh_100 rfl h2 (by decide) ?_
      refine zO_ls (ls' := [(0, zR 73), (1, zI (v1 + 1))]) rfl ?_
      refine zO_goto (tgt := 59) dX1_refresh_103 rfl ?_
      refine zO_live [0, 1] ?_
      exact hk_59 (v1 + 1) D_13
    · exact zO_ret (rv := none) dX1_refresh_106 rfl trivial rfl
set_option maxHeartbeats 20000000 in
theorem mX1_refresh {l : Launch} {E : zE} {d : Nat} {F : zFs} {n sl : Nat} (hG : zG F)  {D : zDa} : ∀ r, fX1_refresh F   D = some r → zMet l E (d + 6) YX1_refresh [zR 73] (F, D, n, sl) (zcV F n sl r) := by
  intro r hr
  refine zMet_of (plainFor_of_name (by decide)) (fun _ h => (nomatch h)) (Nat.le_of_ble_eq_true rfl) ?_
  have hz : zO l E (d + 6) YX1_refresh 0 [(0, zR 73)] [] (F, D, n, sl) (zcV F n sl) (fX1_refresh F   D) := by
    unfold fX1_refresh
    refine zO_aload_n dX1_refresh_0 rfl (zR_P _) ?_
    refine gt1 (k := 2) (v := zI (D 73 2)) dX1_refresh_1 wF_X1_9 (by decide) (gk_73 hG) rfl ?_
    refine zO_aload_n dX1_refresh_4 rfl (zR_P _) ?_
    refine gt1 (k := 0) dX1_refresh_5 wF_X1_31 (by decide) (gk_73 hG) (zgv (c := 1) (k := 0) rfl (Or.inr ⟨_, rfl⟩) (gf_73_0 hG)) ?_
    refine gt9 (k := 17) (v := zI (D 1 17)) dX1_refresh_8 wF_X1_39 (by decide) (gk_1 hG) rfl ?_
    refine zO_icmp_ne (tgt := 15) dX1_refresh_11 rfl (fun c11 => ?_) (fun c11 => ?_)
    · exact zO_ret (rv := none) dX1_refresh_14 rfl trivial rfl
    · refine zO_aload_n dX1_refresh_15 rfl (zR_P _) ?_
      refine zO_aload_n dX1_refresh_16 rfl (zR_P _) ?_
      refine gt1 (k := 0) dX1_refresh_17 wF_X1_31 (by decide) (gk_73 hG) (zgv (c := 1) (k := 0) rfl (Or.inr ⟨_, rfl⟩) (gf_73_0 hG)) ?_
      refine gt9 (k := 17) (v := zI (D 1 17)) dX1_refresh_20 wF_X1_39 (by decide) (gk_1 hG) rfl ?_
      refine ptI1 (k := 2) (z := (D 1 17)) dX1_refresh_23 wF_X1_9 (by decide) rfl (gk_73 hG) rfl ?_
      refine zO_letD (fun D_1 eD_1 => ?_)
      refine zO_aload_n dX1_refresh_26 rfl (zR_P _) ?_
      refine gt1 (k := 3) dX1_refresh_27 wF_X1_15 (by decide) (gk_73 hG) (zgv (c := 1) (k := 3) rfl (Or.inl ⟨_, rfl⟩) (gf_73_3 hG)) ?_
      refine zO_iconst dX1_refresh_30 (by decide) ?_
      refine zO_callS (Y' := YJ7_fill_53178) (cw := zcV F n sl) (as := [zR 74, zI 0]) (rest := []) (na := 2) dX1_refresh_31 wC_J7_fill_53178 wN_J7 wM_X1_44 wS_J7_fill_53178 (by decide) (by decide) rfl rfl (Nat.le_of_ble_eq_true rfl) (fun r hr => zMet_cast (Nat.add_assoc d 5 0) (mJ7_fill_53178 (d := d + 5) hG 74 0 r hr)) ?_
      intro D_3 _
      show zO _ _ _ _ _ _ [] (F, D_3, n, sl) _ _
      refine zO_aload_n dX1_refresh_34 rfl (zR_P _) ?_
      refine gt1 (k := 4) dX1_refresh_35 wF_X1_19 (by decide) (gk_73 hG) (zgv (c := 1) (k := 4) rfl (Or.inl ⟨_, rfl⟩) (gf_73_4 hG)) ?_
      refine zO_iconst dX1_refresh_38 (by decide) ?_
      refine zO_callS (Y' := YJ7_fill_53178) (cw := zcV F n sl) (as := [zR 75, zI 0]) (rest := []) (na := 2) dX1_refresh_39 wC_J7_fill_53178 wN_J7 wM_X1_44 wS_J7_fill_53178 (by decide) (by decide) rfl rfl (Nat.le_of_ble_eq_true rfl) (fun r hr => zMet_cast (Nat.add_assoc d 5 0) (mJ7_fill_53178 (d := d + 5) hG 75 0 r hr)) ?_
      intro D_5 _
      show zO _ _ _ _ _ _ [] (F, D_5, n, sl) _ _
      refine zO_aload_n dX1_refresh_42 rfl (zR_P _) ?_
      refine zO_iconst dX1_refresh_43 (by decide) ?_
      refine ptI1 (k := 7) (z := 0) dX1_refresh_44 wF_X1_50 (by decide) rfl (gk_73 hG) rfl ?_
      refine zO_letD (fun D_6 eD_6 => ?_)
      refine zO_aload_n dX1_refresh_47 rfl (zR_P _) ?_
      refine zO_iconst dX1_refresh_48 (by decide) ?_
      refine ptI1 (k := 8) (z := (-1)) dX1_refresh_49 wF_X1_28 (by decide) rfl (gk_73 hG) rfl ?_
      refine zO_letD (fun D_7 eD_7 => ?_)
      refine zO_aload_n dX1_refresh_52 rfl (zR_P _) ?_
      refine zO_iconst dX1_refresh_53 (by decide) ?_
      refine ptI1 (k := 9) (z := 0) dX1_refresh_54 wF_X1_53 (by decide) rfl (gk_73 hG) rfl ?_
      refine zO_letD (fun D_8 eD_8 => ?_)
      refine zO_iconst dX1_refresh_57 (by decide) ?_
      refine zO_istore_n dX1_refresh_58 (by decide) ?_
      refine zO_ls (ls' := [(0, zR 73), (1, zI 0)]) rfl ?_
      refine zO_live [0, 1] ?_
      exact sX1_refresh_59 hG zfu 0 D_8
  exact hz r hr
