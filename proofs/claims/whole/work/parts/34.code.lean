/-! printed by wip/gen/emit_all.py: X12_answers X12_lots X12_odds X12_known X12_common X12_reduced X12_passes X12_pass X12_right X12_mean X12_passesWith -/
theorem dX12_answers_0 : decode cX12_answers 0 = .ok (.iconst 0, 1) := by decide +kernel
theorem dX12_answers_1 : decode cX12_answers 1 = .ok (.istore_n 1, 1) := by decide +kernel
theorem dX12_answers_2 : decode cX12_answers 2 = .ok (.iload_n 1, 1) := by decide +kernel
theorem dX12_answers_3 : decode cX12_answers 3 = .ok (.iconst 4, 1) := by decide +kernel
theorem dX12_answers_4 : decode cX12_answers 4 = .ok (.if_icmp .ge 24, 3) := by decide +kernel
theorem dX12_answers_7 : decode cX12_answers 7 = .ok (.aload_n 0, 1) := by decide +kernel
theorem dX12_answers_8 : decode cX12_answers 8 = .ok (.getfield 67, 3) := by decide +kernel
theorem dX12_answers_11 : decode cX12_answers 11 = .ok (.iload_n 1, 1) := by decide +kernel
theorem dX12_answers_12 : decode cX12_answers 12 = .ok (.iload_n 1, 1) := by decide +kernel
theorem dX12_answers_13 : decode cX12_answers 13 = .ok (.ifCond .ne 7, 3) := by decide +kernel
theorem dX12_answers_16 : decode cX12_answers 16 = .ok (.lconst 1, 1) := by decide +kernel
theorem dX12_answers_17 : decode cX12_answers 17 = .ok (.goto 4, 3) := by decide +kernel
theorem dX12_answers_20 : decode cX12_answers 20 = .ok (.lconst 0, 1) := by decide +kernel
theorem dX12_answers_21 : decode cX12_answers 21 = .ok (.lastore, 1) := by decide +kernel
theorem dX12_answers_22 : decode cX12_answers 22 = .ok (.iinc 1 1, 3) := by decide +kernel
theorem dX12_answers_25 : decode cX12_answers 25 = .ok (.goto (-23), 3) := by decide +kernel
theorem dX12_answers_28 : decode cX12_answers 28 = .ok (.aload_n 0, 1) := by decide +kernel
theorem dX12_answers_29 : decode cX12_answers 29 = .ok (.getfield 308, 3) := by decide +kernel
theorem dX12_answers_32 : decode cX12_answers 32 = .ok (.istore_n 1, 1) := by decide +kernel
theorem dX12_answers_33 : decode cX12_answers 33 = .ok (.iconst 0, 1) := by decide +kernel
theorem dX12_answers_34 : decode cX12_answers 34 = .ok (.istore_n 2, 1) := by decide +kernel
theorem dX12_answers_35 : decode cX12_answers 35 = .ok (.iload_n 1, 1) := by decide +kernel
theorem dX12_answers_36 : decode cX12_answers 36 = .ok (.ifCond .le 155, 3) := by decide +kernel
theorem dX12_answers_39 : decode cX12_answers 39 = .ok (.iconst (-1), 1) := by decide +kernel
theorem dX12_answers_40 : decode cX12_answers 40 = .ok (.istore_n 3, 1) := by decide +kernel
theorem dX12_answers_41 : decode cX12_answers 41 = .ok (.iconst 0, 1) := by decide +kernel
theorem dX12_answers_42 : decode cX12_answers 42 = .ok (.istore 4, 2) := by decide +kernel
theorem dX12_answers_44 : decode cX12_answers 44 = .ok (.iload 4, 2) := by decide +kernel
theorem dX12_answers_46 : decode cX12_answers 46 = .ok (.iconst 3, 1) := by decide +kernel
theorem dX12_answers_47 : decode cX12_answers 47 = .ok (.if_icmp .ge 42, 3) := by decide +kernel
theorem dX12_answers_50 : decode cX12_answers 50 = .ok (.iload_n 2, 1) := by decide +kernel
theorem dX12_answers_51 : decode cX12_answers 51 = .ok (.iload 4, 2) := by decide +kernel
theorem dX12_answers_53 : decode cX12_answers 53 = .ok (.ishr, 1) := by decide +kernel
theorem dX12_answers_54 : decode cX12_answers 54 = .ok (.iconst 1, 1) := by decide +kernel
theorem dX12_answers_55 : decode cX12_answers 55 = .ok (.iand, 1) := by decide +kernel
theorem dX12_answers_56 : decode cX12_answers 56 = .ok (.ifCond .ne 27, 3) := by decide +kernel
theorem dX12_answers_59 : decode cX12_answers 59 = .ok (.iload_n 3, 1) := by decide +kernel
theorem dX12_answers_60 : decode cX12_answers 60 = .ok (.iconst (-1), 1) := by decide +kernel
theorem dX12_answers_61 : decode cX12_answers 61 = .ok (.if_icmp .eq 19, 3) := by decide +kernel
theorem dX12_answers_64 : decode cX12_answers 64 = .ok (.aload_n 0, 1) := by decide +kernel
theorem dX12_answers_65 : decode cX12_answers 65 = .ok (.getfield 55, 3) := by decide +kernel
theorem dX12_answers_68 : decode cX12_answers 68 = .ok (.iload 4, 2) := by decide +kernel
theorem dX12_answers_70 : decode cX12_answers 70 = .ok (.iaload, 1) := by decide +kernel
theorem dX12_answers_71 : decode cX12_answers 71 = .ok (.aload_n 0, 1) := by decide +kernel
theorem dX12_answers_72 : decode cX12_answers 72 = .ok (.getfield 55, 3) := by decide +kernel
theorem dX12_answers_75 : decode cX12_answers 75 = .ok (.iload_n 3, 1) := by decide +kernel
theorem dX12_answers_76 : decode cX12_answers 76 = .ok (.iaload, 1) := by decide +kernel
theorem dX12_answers_77 : decode cX12_answers 77 = .ok (.if_icmp .le 6, 3) := by decide +kernel
theorem dX12_answers_80 : decode cX12_answers 80 = .ok (.iload 4, 2) := by decide +kernel
theorem dX12_answers_82 : decode cX12_answers 82 = .ok (.istore_n 3, 1) := by decide +kernel
theorem dX12_answers_83 : decode cX12_answers 83 = .ok (.iinc 4 1, 3) := by decide +kernel
theorem dX12_answers_86 : decode cX12_answers 86 = .ok (.goto (-42), 3) := by decide +kernel
theorem dX12_answers_89 : decode cX12_answers 89 = .ok (.iload_n 2, 1) := by decide +kernel
theorem dX12_answers_90 : decode cX12_answers 90 = .ok (.iconst 1, 1) := by decide +kernel
theorem dX12_answers_91 : decode cX12_answers 91 = .ok (.iload_n 3, 1) := by decide +kernel
theorem dX12_answers_92 : decode cX12_answers 92 = .ok (.ishl, 1) := by decide +kernel
theorem dX12_answers_93 : decode cX12_answers 93 = .ok (.ior, 1) := by decide +kernel
theorem dX12_answers_94 : decode cX12_answers 94 = .ok (.istore_n 2, 1) := by decide +kernel
theorem dX12_answers_95 : decode cX12_answers 95 = .ok (.iconst 0, 1) := by decide +kernel
theorem dX12_answers_96 : decode cX12_answers 96 = .ok (.istore 4, 2) := by decide +kernel
theorem dX12_answers_98 : decode cX12_answers 98 = .ok (.iload 4, 2) := by decide +kernel
theorem dX12_answers_100 : decode cX12_answers 100 = .ok (.aload_n 0, 1) := by decide +kernel
theorem dX12_answers_101 : decode cX12_answers 101 = .ok (.getfield 64, 3) := by decide +kernel
theorem dX12_answers_104 : decode cX12_answers 104 = .ok (.iload_n 3, 1) := by decide +kernel
theorem dX12_answers_105 : decode cX12_answers 105 = .ok (.iaload, 1) := by decide +kernel
theorem dX12_answers_106 : decode cX12_answers 106 = .ok (.if_icmp .ge 82, 3) := by decide +kernel
theorem dX12_answers_109 : decode cX12_answers 109 = .ok (.iload_n 1, 1) := by decide +kernel
theorem dX12_answers_110 : decode cX12_answers 110 = .ok (.ifCond .le 78, 3) := by decide +kernel
theorem dX12_answers_113 : decode cX12_answers 113 = .ok (.iconst 3, 1) := by decide +kernel
theorem dX12_answers_114 : decode cX12_answers 114 = .ok (.istore 5, 2) := by decide +kernel
theorem dX12_answers_116 : decode cX12_answers 116 = .ok (.iload 5, 2) := by decide +kernel
theorem dX12_answers_118 : decode cX12_answers 118 = .ok (.ifCond .lt 61, 3) := by decide +kernel
theorem dX12_answers_121 : decode cX12_answers 121 = .ok (.aload_n 0, 1) := by decide +kernel
theorem dX12_answers_122 : decode cX12_answers 122 = .ok (.getfield 67, 3) := by decide +kernel
theorem dX12_answers_125 : decode cX12_answers 125 = .ok (.iload 5, 2) := by decide +kernel
theorem dX12_answers_127 : decode cX12_answers 127 = .ok (.aload_n 0, 1) := by decide +kernel
theorem dX12_answers_128 : decode cX12_answers 128 = .ok (.getfield 67, 3) := by decide +kernel
theorem dX12_answers_131 : decode cX12_answers 131 = .ok (.iload 5, 2) := by decide +kernel
theorem dX12_answers_133 : decode cX12_answers 133 = .ok (.laload, 1) := by decide +kernel
theorem dX12_answers_134 : decode cX12_answers 134 = .ok (.bipush 100, 2) := by decide +kernel
theorem dX12_answers_136 : decode cX12_answers 136 = .ok (.aload_n 0, 1) := by decide +kernel
theorem dX12_answers_137 : decode cX12_answers 137 = .ok (.getfield 55, 3) := by decide +kernel
theorem dX12_answers_140 : decode cX12_answers 140 = .ok (.iload_n 3, 1) := by decide +kernel
theorem dX12_answers_141 : decode cX12_answers 141 = .ok (.iaload, 1) := by decide +kernel
theorem dX12_answers_142 : decode cX12_answers 142 = .ok (.isub, 1) := by decide +kernel
theorem dX12_answers_143 : decode cX12_answers 143 = .ok (.i2l, 1) := by decide +kernel
theorem dX12_answers_144 : decode cX12_answers 144 = .ok (.lmul, 1) := by decide +kernel
theorem dX12_answers_145 : decode cX12_answers 145 = .ok (.iload 5, 2) := by decide +kernel
theorem dX12_answers_147 : decode cX12_answers 147 = .ok (.ifCond .le 23, 3) := by decide +kernel
theorem dX12_answers_150 : decode cX12_answers 150 = .ok (.aload_n 0, 1) := by decide +kernel
theorem dX12_answers_151 : decode cX12_answers 151 = .ok (.getfield 67, 3) := by decide +kernel
theorem dX12_answers_154 : decode cX12_answers 154 = .ok (.iload 5, 2) := by decide +kernel
theorem dX12_answers_156 : decode cX12_answers 156 = .ok (.iconst 1, 1) := by decide +kernel
theorem dX12_answers_157 : decode cX12_answers 157 = .ok (.isub, 1) := by decide +kernel
theorem dX12_answers_158 : decode cX12_answers 158 = .ok (.laload, 1) := by decide +kernel
theorem dX12_answers_159 : decode cX12_answers 159 = .ok (.aload_n 0, 1) := by decide +kernel
theorem dX12_answers_160 : decode cX12_answers 160 = .ok (.getfield 55, 3) := by decide +kernel
theorem dX12_answers_163 : decode cX12_answers 163 = .ok (.iload_n 3, 1) := by decide +kernel
theorem dX12_answers_164 : decode cX12_answers 164 = .ok (.iaload, 1) := by decide +kernel
theorem dX12_answers_165 : decode cX12_answers 165 = .ok (.i2l, 1) := by decide +kernel
theorem dX12_answers_166 : decode cX12_answers 166 = .ok (.lmul, 1) := by decide +kernel
theorem dX12_answers_167 : decode cX12_answers 167 = .ok (.goto 4, 3) := by decide +kernel
theorem dX12_answers_170 : decode cX12_answers 170 = .ok (.lconst 0, 1) := by decide +kernel
theorem dX12_answers_171 : decode cX12_answers 171 = .ok (.ladd, 1) := by decide +kernel
theorem dX12_answers_172 : decode cX12_answers 172 = .ok (.lastore, 1) := by decide +kernel
theorem dX12_answers_173 : decode cX12_answers 173 = .ok (.iinc 5 (-1), 3) := by decide +kernel
theorem dX12_answers_176 : decode cX12_answers 176 = .ok (.goto (-60), 3) := by decide +kernel
theorem dX12_answers_179 : decode cX12_answers 179 = .ok (.iinc 1 (-1), 3) := by decide +kernel
theorem dX12_answers_182 : decode cX12_answers 182 = .ok (.iinc 4 1, 3) := by decide +kernel
theorem dX12_answers_185 : decode cX12_answers 185 = .ok (.goto (-87), 3) := by decide +kernel
theorem dX12_answers_188 : decode cX12_answers 188 = .ok (.goto (-153), 3) := by decide +kernel
theorem dX12_answers_191 : decode cX12_answers 191 = .ok (.return_, 1) := by decide +kernel
abbrev YX12_answers : zY := (yX12_answers, cX12_answers, 6, none, [])
def fX12_answers_21 (F : zFs) (k_2 : Int → zDa → Option zDa) (v1 : Int) (s0 : Int) (s1 : Int) (D : zDa) : Option zDa :=
  if (0 ≤ s1 ∧ s1 < 4) then
    zlet (zwr D 107 s1.toNat s0) (fun D_1 =>
      if (-2147483648 ≤ v1 + 1 ∧ v1 + 1 ≤ 2147483647) then
        k_2 (v1 + 1) D_1
      else none)
  else none
def fX12_answers_83 (F : zFs) (k_35 : Int → Int → zDa → Option zDa) (k_44 : Int → Int → zDa → Option zDa) (o1 : Int) (o2 : Int) (v3 : Int) (v4 : Int) (D : zDa) : Option zDa :=
  if (-2147483648 ≤ v4 + 1 ∧ v4 + 1 ≤ 2147483647) then
    k_44 v3 (v4 + 1) D
  else none
def fX12_answers_80 (F : zFs) (k_35 : Int → Int → zDa → Option zDa) (k_44 : Int → Int → zDa → Option zDa) (o1 : Int) (o2 : Int) (v4 : Int) (D : zDa) : Option zDa :=
  fX12_answers_83 F k_35 k_44 o1 o2 v4 v4 D
def fX12_answers_171 (F : zFs) (k_35 : Int → Int → zDa → Option zDa) (k_98 : Int → Int → zDa → Option zDa) (k_116 : Int → zDa → Option zDa) (o1 : Int) (o2 : Int) (o3 : Int) (o4 : Int) (v5 : Int) (s0 : Int) (s1 : Int) (s2 : Int) (D : zDa) : Option zDa :=
  if (-9223372036854775808 ≤ s1 + s0 ∧ s1 + s0 ≤ 9223372036854775807) ∧ (0 ≤ s2 ∧ s2 < 4) then
    zlet (zwr D 107 s2.toNat (s1 + s0)) (fun D_4 =>
      if (-2147483648 ≤ v5 + (-1) ∧ v5 + (-1) ≤ 2147483647) then
        k_116 (v5 + (-1)) D_4
      else none)
  else none
def fX12_answers_116 (F : zFs) (o1 : Int) (o2 : Int) (o3 : Int) (o4 : Int) (k_35 : Int → Int → zDa → Option zDa) (k_98 : Int → Int → zDa → Option zDa) (k_116 : Int → zDa → Option zDa) (v5 : Int) (D : zDa) : Option zDa :=
  if v5 < 0 then
    if (-2147483648 ≤ o1 + (-1) ∧ o1 + (-1) ≤ 2147483647) ∧ (-2147483648 ≤ o4 + 1 ∧ o4 + 1 ≤ 2147483647) then
      k_98 (o1 + (-1)) (o4 + 1) D
    else none
  else
    if (0 ≤ v5 ∧ v5 < 4) ∧ (0 ≤ o3 ∧ o3 < 3) ∧ (-2147483648 ≤ 100 - (D 103 o3.toNat) ∧ 100 - (D 103 o3.toNat) ≤ 2147483647) ∧ (-9223372036854775808 ≤ (D 107 v5.toNat) * (100 - (D 103 o3.toNat)) ∧ (D 107 v5.toNat) * (100 - (D 103 o3.toNat)) ≤ 9223372036854775807) then
      if 0 < v5 then
        if (-2147483648 ≤ v5 - 1 ∧ v5 - 1 ≤ 2147483647) ∧ (0 ≤ (v5 - 1) ∧ (v5 - 1) < 4) ∧ (-9223372036854775808 ≤ (D 107 (v5 - 1).toNat) * (D 103 o3.toNat) ∧ (D 107 (v5 - 1).toNat) * (D 103 o3.toNat) ≤ 9223372036854775807) then
          fX12_answers_171 F k_35 k_98 k_116 o1 o2 o3 o4 v5 ((D 107 (v5 - 1).toNat) * (D 103 o3.toNat)) ((D 107 v5.toNat) * (100 - (D 103 o3.toNat))) v5 D
        else none
      else
        fX12_answers_171 F k_35 k_98 k_116 o1 o2 o3 o4 v5 0 ((D 107 v5.toNat) * (100 - (D 103 o3.toNat))) v5 D
    else none
def fX12_answers_188 (F : zFs) (k_35 : Int → Int → zDa → Option zDa) (v1 : Int) (o2 : Int) (D : zDa) : Option zDa :=
  k_35 v1 o2 D
def fX12_answers_98 (F : zFs) (o2 : Int) (o3 : Int) (k_35 : Int → Int → zDa → Option zDa) (k_98 : Int → Int → zDa → Option zDa) (v1 : Int) (v4 : Int) (D : zDa) : Option zDa :=
  if (0 ≤ o3 ∧ o3 < 3) then
    if v4 < (D 106 o3.toNat) then
      if 0 < v1 then
        zfix (fun _ _ => none) (fX12_answers_116 F v1 o2 o3 v4 k_35 k_98) zfu 3 D
      else
        fX12_answers_188 F k_35 v1 o2 D
    else
      fX12_answers_188 F k_35 v1 o2 D
  else none
def fX12_answers_44 (F : zFs) (o1 : Int) (o2 : Int) (k_35 : Int → Int → zDa → Option zDa) (k_44 : Int → Int → zDa → Option zDa) (v3 : Int) (v4 : Int) (D : zDa) : Option zDa :=
  if v4 < 3 then
    if (zand (zshr o2 v4) 1) = 0 then
      if v3 = (-1) then
        fX12_answers_80 F k_35 k_44 o1 o2 v4 D
      else
        if (0 ≤ v4 ∧ v4 < 3) ∧ (0 ≤ v3 ∧ v3 < 3) then
          if (D 103 v3.toNat) < (D 103 v4.toNat) then
            fX12_answers_80 F k_35 k_44 o1 o2 v4 D
          else
            fX12_answers_83 F k_35 k_44 o1 o2 v3 v4 D
        else none
    else
      fX12_answers_83 F k_35 k_44 o1 o2 v3 v4 D
  else
    zlet ((zor o2 (zshl 1 v3))) (fun x2_3 =>
      zfix (fun _ _ _ => none) (fX12_answers_98 F x2_3 v3 k_35) zfu o1 0 D)
def fX12_answers_35 (F : zFs)   (k_35 : Int → Int → zDa → Option zDa) (v1 : Int) (v2 : Int) (D : zDa) : Option zDa :=
  if 0 < v1 then
    zfix (fun _ _ _ => none) (fX12_answers_44 F v1 v2 k_35) zfu (-1) 0 D
  else
    some D
def fX12_answers_2 (F : zFs)   (k_2 : Int → zDa → Option zDa) (v1 : Int) (D : zDa) : Option zDa :=
  if v1 < 4 then
    if v1 = 0 then
      fX12_answers_21 F k_2 v1 1 v1 D
    else
      fX12_answers_21 F k_2 v1 0 v1 D
  else
    zlet ((D 91 29)) (fun x1_2 =>
      zfix (fun _ _ _ => none) (fX12_answers_35 F) zfu x1_2 0 D)
def fX12_answers (F : zFs)  (D : zDa) : Option zDa :=
  zfix (fun _ _ => none) (fX12_answers_2 F) zfu 0 D
set_option maxHeartbeats 20000000 in
theorem sX12_answers_21 {l : Launch} {E : zE} {d : Nat} {F : zFs} {n sl : Nat} (hG : zG F)  (v1 : Int) (s0 : Int) (s1 : Int) (k_2 : Int → zDa → Option zDa) (hk_2 : ∀ (u1 : Int) (D : zDa), zO l E (d + 0) YX12_answers 2 [(0, zR 91), (1, zI u1)] [] (F, D, n, sl) (zcV F n sl) (k_2 u1 D)) (D : zDa) : zO l E (d + 0) YX12_answers 21 [(0, zR 91), (1, zI v1)] [zL s0, zI s1, zR 107] (F, D, n, sl) (zcV F n sl) (fX12_answers_21 F k_2 v1 s0 s1 D) := by
  unfold fX12_answers_21
  refine zO_chk (fun h1 => ?_)
  refine zO_last dX12_answers_21 (gk_107 hG) (gl_in (gl_107 hG) h1) ?_
  refine zO_letD (fun D_1 eD_1 => ?_)
  refine zO_chk (fun h2 => ?_)
  refine zO_iinc dX12_answers_22 rfl h2 (by decide) ?_
  refine zO_ls (ls' := [(0, zR 91), (1, zI (v1 + 1))]) rfl ?_
  refine zO_goto (tgt := 2) dX12_answers_25 rfl ?_
  refine zO_live [0, 1] ?_
  exact hk_2 (v1 + 1) D_1
set_option maxHeartbeats 20000000 in
theorem sX12_answers_83 {l : Launch} {E : zE} {d : Nat} {F : zFs} {n sl : Nat} (hG : zG F)  (o1 : Int) (o2 : Int) (v3 : Int) (v4 : Int) (k_35 : Int → Int → zDa → Option zDa) (k_44 : Int → Int → zDa → Option zDa) (hk_35 : ∀ (u1 : Int) (u2 : Int) (D : zDa), zO l E (d + 0) YX12_answers 35 [(0, zR 91), (1, zI u1), (2, zI u2)] [] (F, D, n, sl) (zcV F n sl) (k_35 u1 u2 D)) (hk_44 : ∀ (u3 : Int) (u4 : Int) (D : zDa), zO l E (d + 0) YX12_answers 44 [(0, zR 91), (1, zI o1), (2, zI o2), (3, zI u3), (4, zI u4)] [] (F, D, n, sl) (zcV F n sl) (k_44 u3 u4 D)) (D : zDa) : zO l E (d + 0) YX12_answers 83 [(0, zR 91), (1, zI o1), (2, zI o2), (3, zI v3), (4, zI v4)] [] (F, D, n, sl) (zcV F n sl) (fX12_answers_83 F k_35 k_44 o1 o2 v3 v4 D) := by
  unfold fX12_answers_83
  refine zO_chk (fun h3 => ?_)
  refine zO_iinc dX12_answers_83 rfl h3 (by decide) ?_
  refine zO_ls (ls' := [(0, zR 91), (1, zI o1), (2, zI o2), (3, zI v3), (4, zI (v4 + 1))]) rfl ?_
  refine zO_goto (tgt := 44) dX12_answers_86 rfl ?_
  refine zO_live [0, 1, 2, 3, 4] ?_
  exact hk_44 v3 (v4 + 1) D
set_option maxHeartbeats 20000000 in
theorem sX12_answers_80 {l : Launch} {E : zE} {d : Nat} {F : zFs} {n sl : Nat} (hG : zG F)  (o1 : Int) (o2 : Int) (v4 : Int) (k_35 : Int → Int → zDa → Option zDa) (k_44 : Int → Int → zDa → Option zDa) (hk_35 : ∀ (u1 : Int) (u2 : Int) (D : zDa), zO l E (d + 0) YX12_answers 35 [(0, zR 91), (1, zI u1), (2, zI u2)] [] (F, D, n, sl) (zcV F n sl) (k_35 u1 u2 D)) (hk_44 : ∀ (u3 : Int) (u4 : Int) (D : zDa), zO l E (d + 0) YX12_answers 44 [(0, zR 91), (1, zI o1), (2, zI o2), (3, zI u3), (4, zI u4)] [] (F, D, n, sl) (zcV F n sl) (k_44 u3 u4 D)) (D : zDa) : zO l E (d + 0) YX12_answers 80 [(0, zR 91), (1, zI o1), (2, zI o2), (4, zI v4)] [] (F, D, n, sl) (zcV F n sl) (fX12_answers_80 F k_35 k_44 o1 o2 v4 D) := by
  unfold fX12_answers_80
  refine zO_iload dX12_answers_80 rfl ?_
  refine zO_istore_n dX12_answers_82 (by decide) ?_
  refine zO_ls (ls' := [(0, zR 91), (1, zI o1), (2, zI o2), (3, zI v4), (4, zI v4)]) rfl ?_
  refine zO_live [0, 1, 2, 3, 4] ?_
  exact sX12_answers_83 hG o1 o2 v4 v4 _ _ hk_35 hk_44 D
set_option maxHeartbeats 20000000 in
theorem sX12_answers_171 {l : Launch} {E : zE} {d : Nat} {F : zFs} {n sl : Nat} (hG : zG F)  (o1 : Int) (o2 : Int) (o3 : Int) (o4 : Int) (v5 : Int) (s0 : Int) (s1 : Int) (s2 : Int) (k_35 : Int → Int → zDa → Option zDa) (k_98 : Int → Int → zDa → Option zDa) (k_116 : Int → zDa → Option zDa) (hk_35 : ∀ (u1 : Int) (u2 : Int) (D : zDa), zO l E (d + 0) YX12_answers 35 [(0, zR 91), (1, zI u1), (2, zI u2)] [] (F, D, n, sl) (zcV F n sl) (k_35 u1 u2 D)) (hk_98 : ∀ (u1 : Int) (u4 : Int) (D : zDa), zO l E (d + 0) YX12_answers 98 [(0, zR 91), (1, zI u1), (2, zI o2), (3, zI o3), (4, zI u4)] [] (F, D, n, sl) (zcV F n sl) (k_98 u1 u4 D)) (hk_116 : ∀ (u5 : Int) (D : zDa), zO l E (d + 0) YX12_answers 116 [(0, zR 91), (1, zI o1), (2, zI o2), (3, zI o3), (4, zI o4), (5, zI u5)] [] (F, D, n, sl) (zcV F n sl) (k_116 u5 D)) (D : zDa) : zO l E (d + 0) YX12_answers 171 [(0, zR 91), (1, zI o1), (2, zI o2), (3, zI o3), (4, zI o4), (5, zI v5)] [zL s0, zL s1, zI s2, zR 107] (F, D, n, sl) (zcV F n sl) (fX12_answers_171 F k_35 k_98 k_116 o1 o2 o3 o4 v5 s0 s1 s2 D) := by
  unfold fX12_answers_171
  refine zO_chk (fun h9 => ?_)
  refine zO_ladd dX12_answers_171 h9.1 ?_
  refine zO_last dX12_answers_172 (gk_107 hG) (gl_in (gl_107 hG) h9.2) ?_
  refine zO_letD (fun D_4 eD_4 => ?_)
  refine zO_chk (fun h10 => ?_)
  refine zO_iinc dX12_answers_173 rfl h10 (by decide) ?_
  refine zO_ls (ls' := [(0, zR 91), (1, zI o1), (2, zI o2), (3, zI o3), (4, zI o4), (5, zI (v5 + (-1)))]) rfl ?_
  refine zO_goto (tgt := 116) dX12_answers_176 rfl ?_
  refine zO_live [0, 1, 2, 3, 4, 5] ?_
  exact hk_116 (v5 + (-1)) D_4
set_option maxHeartbeats 20000000 in
theorem sX12_answers_116 {l : Launch} {E : zE} {d : Nat} {F : zFs} {n sl : Nat} (hG : zG F)  (o1 : Int) (o2 : Int) (o3 : Int) (o4 : Int) (k_35 : Int → Int → zDa → Option zDa) (k_98 : Int → Int → zDa → Option zDa) (hk_35 : ∀ (u1 : Int) (u2 : Int) (D : zDa), zO l E (d + 0) YX12_answers 35 [(0, zR 91), (1, zI u1), (2, zI u2)] [] (F, D, n, sl) (zcV F n sl) (k_35 u1 u2 D)) (hk_98 : ∀ (u1 : Int) (u4 : Int) (D : zDa), zO l E (d + 0) YX12_answers 98 [(0, zR 91), (1, zI u1), (2, zI o2), (3, zI o3), (4, zI u4)] [] (F, D, n, sl) (zcV F n sl) (k_98 u1 u4 D)) : ∀ (N : Nat) (v5 : Int) (D : zDa), zO l E (d + 0) YX12_answers 116 [(0, zR 91), (1, zI o1), (2, zI o2), (3, zI o3), (4, zI o4), (5, zI v5)] [] (F, D, n, sl) (zcV F n sl) (zfix (fun _ _ => none) (fX12_answers_116 F o1 o2 o3 o4 k_35 k_98) N v5 D) := by
  intro N
  induction N with
  | zero => intro v5 D; exact zO_none
  | succ N hk_116 =>
    intro v5 D
    show zO _ _ _ _ _ _ _ _ _ ((fX12_answers_116 F o1 o2 o3 o4 k_35 k_98) (zfix (fun _ _ => none) (fX12_answers_116 F o1 o2 o3 o4 k_35 k_98) N) v5 D)
    unfold fX12_answers_116
    refine zO_iload dX12_answers_116 rfl ?_
    refine zO_if_lt (tgt := 179) dX12_answers_118 rfl (fun c118 => ?_) (fun c118 => ?_)
    · refine zO_chk (fun h6 => ?_)
      refine zO_iinc dX12_answers_179 rfl h6.1 (by decide) ?_
      refine zO_ls (ls' := [(0, zR 91), (1, zI (o1 + (-1))), (2, zI o2), (3, zI o3), (4, zI o4), (5, zI v5)]) rfl ?_
      refine zO_iinc dX12_answers_182 rfl h6.2 (by decide) ?_
      refine zO_ls (ls' := [(0, zR 91), (1, zI (o1 + (-1))), (2, zI o2), (3, zI o3), (4, zI (o4 + 1)), (5, zI v5)]) rfl ?_
      refine zO_goto (tgt := 98) dX12_answers_185 rfl ?_
      refine zO_live [0, 1, 2, 3, 4] ?_
      exact hk_98 (o1 + (-1)) (o4 + 1) D
    · refine zO_chk (fun h7 => ?_)
      refine zO_aload_n dX12_answers_121 rfl (zR_P _) ?_
      refine gt12 (k := 26) dX12_answers_122 wF_X12_67 (by decide) (gk_91 hG) (zgv (c := 12) (k := 26) rfl (Or.inl ⟨_, rfl⟩) (gf_91_26 hG)) ?_
      refine zO_iload dX12_answers_125 rfl ?_
      refine zO_aload_n dX12_answers_127 rfl (zR_P _) ?_
      refine gt12 (k := 26) dX12_answers_128 wF_X12_67 (by decide) (gk_91 hG) (zgv (c := 12) (k := 26) rfl (Or.inl ⟨_, rfl⟩) (gf_91_26 hG)) ?_
      refine zO_iload dX12_answers_131 rfl ?_
      refine zO_lald dX12_answers_133 (gk_107 hG) (gl_in (gl_107 hG) h7.1) ?_
      refine zO_bipush dX12_answers_134 (by decide) ?_
      refine zO_aload_n dX12_answers_136 rfl (zR_P _) ?_
      refine gt12 (k := 22) dX12_answers_137 wF_X12_55 (by decide) (gk_91 hG) (zgv (c := 12) (k := 22) rfl (Or.inl ⟨_, rfl⟩) (gf_91_22 hG)) ?_
      refine zO_iload_n dX12_answers_140 rfl ?_
      refine zO_iald dX12_answers_141 (gk_103 hG) (gl_in (gl_103 hG) h7.2.1) ?_
      refine zO_isub dX12_answers_142 h7.2.2.1 ?_
      refine zO_i2l dX12_answers_143 ?_
      refine zO_lmul dX12_answers_144 h7.2.2.2 ?_
      refine zO_iload dX12_answers_145 rfl ?_
      refine zO_if_le (tgt := 170) dX12_answers_147 rfl (fun c147 => ?_) (fun c147 => ?_)
      · refine zO_chk (fun h8 => ?_)
        refine zO_aload_n dX12_answers_150 rfl (zR_P _) ?_
        refine gt12 (k := 26) dX12_answers_151 wF_X12_67 (by decide) (gk_91 hG) (zgv (c := 12) (k := 26) rfl (Or.inl ⟨_, rfl⟩) (gf_91_26 hG)) ?_
        refine zO_iload dX12_answers_154 rfl ?_
        refine zO_iconst dX12_answers_156 (by decide) ?_
        refine zO_isub dX12_answers_157 h8.1 ?_
        refine zO_lald dX12_answers_158 (gk_107 hG) (gl_in (gl_107 hG) h8.2.1) ?_
        refine zO_aload_n dX12_answers_159 rfl (zR_P _) ?_
        refine gt12 (k := 22) dX12_answers_160 wF_X12_55 (by decide) (gk_91 hG) (zgv (c := 12) (k := 22) rfl (Or.inl ⟨_, rfl⟩) (gf_91_22 hG)) ?_
        refine zO_iload_n dX12_answers_163 rfl ?_
        refine zO_iald dX12_answers_164 (gk_103 hG) (gl_in (gl_103 hG) h7.2.1) ?_
        refine zO_i2l dX12_answers_165 ?_
        refine zO_lmul dX12_answers_166 h8.2.2 ?_
        refine zO_goto (tgt := 171) dX12_answers_167 rfl ?_
        refine zO_live [0, 1, 2, 3, 4, 5] ?_
        exact sX12_answers_171 hG o1 o2 o3 o4 v5 ((D 107 (v5 - 1).toNat) * (D 103 o3.toNat)) ((D 107 v5.toNat) * (100 - (D 103 o3.toNat))) v5 _ _ _ hk_35 hk_98 hk_116 D
      · refine zO_lconst dX12_answers_170 ?_
        refine zO_live [0, 1, 2, 3, 4, 5] ?_
        exact sX12_answers_171 hG o1 o2 o3 o4 v5 0 ((D 107 v5.toNat) * (100 - (D 103 o3.toNat))) v5 _ _ _ hk_35 hk_98 hk_116 D
set_option maxHeartbeats 20000000 in
theorem sX12_answers_188 {l : Launch} {E : zE} {d : Nat} {F : zFs} {n sl : Nat} (hG : zG F)  (v1 : Int) (o2 : Int) (k_35 : Int → Int → zDa → Option zDa) (hk_35 : ∀ (u1 : Int) (u2 : Int) (D : zDa), zO l E (d + 0) YX12_answers 35 [(0, zR 91), (1, zI u1), (2, zI u2)] [] (F, D, n, sl) (zcV F n sl) (k_35 u1 u2 D)) (D : zDa) : zO l E (d + 0) YX12_answers 188 [(0, zR 91), (1, zI v1), (2, zI o2)] [] (F, D, n, sl) (zcV F n sl) (fX12_answers_188 F k_35 v1 o2 D) := by
  unfold fX12_answers_188
  refine zO_goto (tgt := 35) dX12_answers_188 rfl ?_
  refine zO_live [0, 1, 2] ?_
  exact hk_35 v1 o2 D
set_option maxHeartbeats 20000000 in
theorem sX12_answers_98 {l : Launch} {E : zE} {d : Nat} {F : zFs} {n sl : Nat} (hG : zG F)  (o2 : Int) (o3 : Int) (k_35 : Int → Int → zDa → Option zDa) (hk_35 : ∀ (u1 : Int) (u2 : Int) (D : zDa), zO l E (d + 0) YX12_answers 35 [(0, zR 91), (1, zI u1), (2, zI u2)] [] (F, D, n, sl) (zcV F n sl) (k_35 u1 u2 D)) : ∀ (N : Nat) (v1 : Int) (v4 : Int) (D : zDa), zO l E (d + 0) YX12_answers 98 [(0, zR 91), (1, zI v1), (2, zI o2), (3, zI o3), (4, zI v4)] [] (F, D, n, sl) (zcV F n sl) (zfix (fun _ _ _ => none) (fX12_answers_98 F o2 o3 k_35) N v1 v4 D) := by
  intro N
  induction N with
  | zero => intro v1 v4 D; exact zO_none
  | succ N hk_98 =>
    intro v1 v4 D
    show zO _ _ _ _ _ _ _ _ _ ((fX12_answers_98 F o2 o3 k_35) (zfix (fun _ _ _ => none) (fX12_answers_98 F o2 o3 k_35) N) v1 v4 D)
    unfold fX12_answers_98
    refine zO_chk (fun h5 => ?_)
    refine zO_iload dX12_answers_98 rfl ?_
    refine zO_aload_n dX12_answers_100 rfl (zR_P _) ?_
    refine gt12 (k := 25) dX12_answers_101 wF_X12_64 (by decide) (gk_91 hG) (zgv (c := 12) (k := 25) rfl (Or.inl ⟨_, rfl⟩) (gf_91_25 hG)) ?_
    refine zO_iload_n dX12_answers_104 rfl ?_
    refine zO_iald dX12_answers_105 (gk_106 hG) (gl_in (gl_106 hG) h5) ?_
    refine zO_icmp_ge (tgt := 188) dX12_answers_106 rfl (fun c106 => ?_) (fun c106 => ?_)
    · refine zO_iload_n dX12_answers_109 rfl ?_
      refine zO_if_le (tgt := 188) dX12_answers_110 rfl (fun c110 => ?_) (fun c110 => ?_)
      · refine zO_iconst dX12_answers_113 (by decide) ?_
        refine zO_istore dX12_answers_114 (by decide) ?_
        refine zO_ls (ls' := [(0, zR 91), (1, zI v1), (2, zI o2), (3, zI o3), (4, zI v4), (5, zI 3)]) rfl ?_
        refine zO_live [0, 1, 2, 3, 4, 5] ?_
        exact sX12_answers_116 hG v1 o2 o3 v4 _ _ hk_35 hk_98 zfu 3 D
      · refine zO_live [0, 1, 2] ?_
        exact sX12_answers_188 hG v1 o2 _ hk_35 D
    · refine zO_live [0, 1, 2] ?_
      exact sX12_answers_188 hG v1 o2 _ hk_35 D
set_option maxHeartbeats 20000000 in
theorem sX12_answers_44 {l : Launch} {E : zE} {d : Nat} {F : zFs} {n sl : Nat} (hG : zG F)  (o1 : Int) (o2 : Int) (k_35 : Int → Int → zDa → Option zDa) (hk_35 : ∀ (u1 : Int) (u2 : Int) (D : zDa), zO l E (d + 0) YX12_answers 35 [(0, zR 91), (1, zI u1), (2, zI u2)] [] (F, D, n, sl) (zcV F n sl) (k_35 u1 u2 D)) : ∀ (N : Nat) (v3 : Int) (v4 : Int) (D : zDa), zO l E (d + 0) YX12_answers 44 [(0, zR 91), (1, zI o1), (2, zI o2), (3, zI v3), (4, zI v4)] [] (F, D, n, sl) (zcV F n sl) (zfix (fun _ _ _ => none) (fX12_answers_44 F o1 o2 k_35) N v3 v4 D) := by
  intro N
  induction N with
  | zero => intro v3 v4 D; exact zO_none
  | succ N hk_44 =>
    intro v3 v4 D
    show zO _ _ _ _ _ _ _ _ _ ((fX12_answers_44 F o1 o2 k_35) (zfix (fun _ _ _ => none) (fX12_answers_44 F o1 o2 k_35) N) v3 v4 D)
    unfold fX12_answers_44
    refine zO_iload dX12_answers_44 rfl ?_
    refine zO_iconst dX12_answers_46 (by decide) ?_
    refine zO_icmp_ge (tgt := 89) dX12_answers_47 rfl (fun c47 => ?_) (fun c47 => ?_)
    · refine zO_iload_n dX12_answers_50 rfl ?_
      refine zO_iload dX12_answers_51 rfl ?_
      refine zO_ishr dX12_answers_53 ?_
      refine zO_iconst dX12_answers_54 (by decide) ?_
      refine zO_iand dX12_answers_55 ?_
      refine zO_if_ne (tgt := 83) dX12_answers_56 rfl (fun c56 => ?_) (fun c56 => ?_)
      · refine zO_iload_n dX12_answers_59 rfl ?_
        refine zO_iconst dX12_answers_60 (by decide) ?_
        refine zO_icmp_eq (tgt := 80) dX12_answers_61 rfl (fun c61 => ?_) (fun c61 => ?_)
        · refine zO_live [0, 1, 2, 4] ?_
          exact sX12_answers_80 hG o1 o2 v4 _ _ hk_35 hk_44 D
        · refine zO_chk (fun h4 => ?_)
          refine zO_aload_n dX12_answers_64 rfl (zR_P _) ?_
          refine gt12 (k := 22) dX12_answers_65 wF_X12_55 (by decide) (gk_91 hG) (zgv (c := 12) (k := 22) rfl (Or.inl ⟨_, rfl⟩) (gf_91_22 hG)) ?_
          refine zO_iload dX12_answers_68 rfl ?_
          refine zO_iald dX12_answers_70 (gk_103 hG) (gl_in (gl_103 hG) h4.1) ?_
          refine zO_aload_n dX12_answers_71 rfl (zR_P _) ?_
          refine gt12 (k := 22) dX12_answers_72 wF_X12_55 (by decide) (gk_91 hG) (zgv (c := 12) (k := 22) rfl (Or.inl ⟨_, rfl⟩) (gf_91_22 hG)) ?_
          refine zO_iload_n dX12_answers_75 rfl ?_
          refine zO_iald dX12_answers_76 (gk_103 hG) (gl_in (gl_103 hG) h4.2) ?_
          refine zO_icmp_le (tgt := 83) dX12_answers_77 rfl (fun c77 => ?_) (fun c77 => ?_)
          · refine zO_live [0, 1, 2, 4] ?_
            exact sX12_answers_80 hG o1 o2 v4 _ _ hk_35 hk_44 D
          · refine zO_live [0, 1, 2, 3, 4] ?_
            exact sX12_answers_83 hG o1 o2 v3 v4 _ _ hk_35 hk_44 D
      · refine zO_live [0, 1, 2, 3, 4] ?_
        exact sX12_answers_83 hG o1 o2 v3 v4 _ _ hk_35 hk_44 D
    · refine zO_iload_n dX12_answers_89 rfl ?_
      refine zO_iconst dX12_answers_90 (by decide) ?_
      refine zO_iload_n dX12_answers_91 rfl ?_
      refine zO_ishl dX12_answers_92 ?_
      refine zO_ior dX12_answers_93 ?_
      refine zO_letI (fun x2_3 ex2_3 => ?_)
      refine zO_istore_n dX12_answers_94 (by decide) ?_
      refine zO_ls (ls' := [(0, zR 91), (1, zI o1), (2, zI x2_3), (3, zI v3), (4, zI v4)]) rfl ?_
      refine zO_iconst dX12_answers_95 (by decide) ?_
      refine zO_istore dX12_answers_96 (by decide) ?_
      refine zO_ls (ls' := [(0, zR 91), (1, zI o1), (2, zI x2_3), (3, zI v3), (4, zI 0)]) rfl ?_
      refine zO_live [0, 1, 2, 3, 4] ?_
      exact sX12_answers_98 hG x2_3 v3 _ hk_35 zfu o1 0 D
set_option maxHeartbeats 20000000 in
theorem sX12_answers_35 {l : Launch} {E : zE} {d : Nat} {F : zFs} {n sl : Nat} (hG : zG F)     : ∀ (N : Nat) (v1 : Int) (v2 : Int) (D : zDa), zO l E (d + 0) YX12_answers 35 [(0, zR 91), (1, zI v1), (2, zI v2)] [] (F, D, n, sl) (zcV F n sl) (zfix (fun _ _ _ => none) (fX12_answers_35 F) N v1 v2 D) := by
  intro N
  induction N with
  | zero => intro v1 v2 D; exact zO_none
  | succ N hk_35 =>
    intro v1 v2 D
    show zO _ _ _ _ _ _ _ _ _ ((fX12_answers_35 F) (zfix (fun _ _ _ => none) (fX12_answers_35 F) N) v1 v2 D)
    unfold fX12_answers_35
    refine zO_iload_n dX12_answers_35 rfl ?_
    refine zO_if_le (tgt := 191) dX12_answers_36 rfl (fun c36 => ?_) (fun c36 => ?_)
    · refine zO_iconst dX12_answers_39 (by decide) ?_
      refine zO_istore_n dX12_answers_40 (by decide) ?_
      refine zO_ls (ls' := [(0, zR 91), (1, zI v1), (2, zI v2), (3, zI (-1))]) rfl ?_
      refine zO_iconst dX12_answers_41 (by decide) ?_
      refine zO_istore dX12_answers_42 (by decide) ?_
      refine zO_ls (ls' := [(0, zR 91), (1, zI v1), (2, zI v2), (3, zI (-1)), (4, zI 0)]) rfl ?_
      refine zO_live [0, 1, 2, 3, 4] ?_
      exact sX12_answers_44 hG v1 v2 _ hk_35 zfu (-1) 0 D
    · exact zO_ret (rv := none) dX12_answers_191 rfl trivial rfl
set_option maxHeartbeats 20000000 in
theorem sX12_answers_2 {l : Launch} {E : zE} {d : Nat} {F : zFs} {n sl : Nat} (hG : zG F)     : ∀ (N : Nat) (v1 : Int) (D : zDa), zO l E (d + 0) YX12_answers 2 [(0, zR 91), (1, zI v1)] [] (F, D, n, sl) (zcV F n sl) (zfix (fun _ _ => none) (fX12_answers_2 F) N v1 D) := by
  intro N
  induction N with
  | zero => intro v1 D; exact zO_none
  | succ N hk_2 =>
    intro v1 D
    show zO _ _ _ _ _ _ _ _ _ ((fX12_answers_2 F) (zfix (fun _ _ => none) (fX12_answers_2 F) N) v1 D)
    unfold fX12_answers_2
    refine zO_iload_n dX12_answers_2 rfl ?_
    refine zO_iconst dX12_answers_3 (by decide) ?_
    refine zO_icmp_ge (tgt := 28) dX12_answers_4 rfl (fun c4 => ?_) (fun c4 => ?_)
    · refine zO_aload_n dX12_answers_7 rfl (zR_P _) ?_
      refine gt12 (k := 26) dX12_answers_8 wF_X12_67 (by decide) (gk_91 hG) (zgv (c := 12) (k := 26) rfl (Or.inl ⟨_, rfl⟩) (gf_91_26 hG)) ?_
      refine zO_iload_n dX12_answers_11 rfl ?_
      refine zO_iload_n dX12_answers_12 rfl ?_
      refine zO_if_ne (tgt := 20) dX12_answers_13 rfl (fun c13 => ?_) (fun c13 => ?_)
      · refine zO_lconst dX12_answers_16 ?_
        refine zO_goto (tgt := 21) dX12_answers_17 rfl ?_
        refine zO_live [0, 1] ?_
        exact sX12_answers_21 hG v1 1 v1 _ hk_2 D
      · refine zO_lconst dX12_answers_20 ?_
        refine zO_live [0, 1] ?_
        exact sX12_answers_21 hG v1 0 v1 _ hk_2 D
    · refine zO_aload_n dX12_answers_28 rfl (zR_P _) ?_
      refine gt12 (k := 29) (v := zI (D 91 29)) dX12_answers_29 wF_X12_308 (by decide) (gk_91 hG) rfl ?_
      refine zO_letI (fun x1_2 ex1_2 => ?_)
      refine zO_istore_n dX12_answers_32 (by decide) ?_
      refine zO_ls (ls' := [(0, zR 91), (1, zI x1_2)]) rfl ?_
      refine zO_iconst dX12_answers_33 (by decide) ?_
      refine zO_istore_n dX12_answers_34 (by decide) ?_
      refine zO_ls (ls' := [(0, zR 91), (1, zI x1_2), (2, zI 0)]) rfl ?_
      refine zO_live [0, 1, 2] ?_
      exact sX12_answers_35 hG zfu x1_2 0 D
set_option maxHeartbeats 20000000 in
theorem mX12_answers {l : Launch} {E : zE} {d : Nat} {F : zFs} {n sl : Nat} (hG : zG F)  {D : zDa} : ∀ r, fX12_answers F   D = some r → zMet l E (d + 0) YX12_answers [zR 91] (F, D, n, sl) (zcV F n sl r) := by
  intro r hr
  refine zMet_of (plainFor_of_name (by decide)) (fun _ h => (nomatch h)) (Nat.le_of_ble_eq_true rfl) ?_
  have hz : zO l E (d + 0) YX12_answers 0 [(0, zR 91)] [] (F, D, n, sl) (zcV F n sl) (fX12_answers F   D) := by
    unfold fX12_answers
    refine zO_iconst dX12_answers_0 (by decide) ?_
    refine zO_istore_n dX12_answers_1 (by decide) ?_
    refine zO_ls (ls' := [(0, zR 91), (1, zI 0)]) rfl ?_
    refine zO_live [0, 1] ?_
    exact sX12_answers_2 hG zfu 0 D
  exact hz r hr
theorem dX12_lots_0 : decode cX12_lots 0 = .ok (.iconst 0, 1) := by decide +kernel
theorem dX12_lots_1 : decode cX12_lots 1 = .ok (.istore 5, 2) := by decide +kernel
theorem dX12_lots_3 : decode cX12_lots 3 = .ok (.iload 5, 2) := by decide +kernel
theorem dX12_lots_5 : decode cX12_lots 5 = .ok (.iload_n 1, 1) := by decide +kernel
theorem dX12_lots_6 : decode cX12_lots 6 = .ok (.if_icmp .gt 163, 3) := by decide +kernel
theorem dX12_lots_9 : decode cX12_lots 9 = .ok (.iconst 0, 1) := by decide +kernel
theorem dX12_lots_10 : decode cX12_lots 10 = .ok (.istore 6, 2) := by decide +kernel
theorem dX12_lots_12 : decode cX12_lots 12 = .ok (.iload 5, 2) := by decide +kernel
theorem dX12_lots_14 : decode cX12_lots 14 = .ok (.iload 6, 2) := by decide +kernel
theorem dX12_lots_16 : decode cX12_lots 16 = .ok (.iadd, 1) := by decide +kernel
theorem dX12_lots_17 : decode cX12_lots 17 = .ok (.iload_n 1, 1) := by decide +kernel
theorem dX12_lots_18 : decode cX12_lots 18 = .ok (.if_icmp .gt 145, 3) := by decide +kernel
theorem dX12_lots_21 : decode cX12_lots 21 = .ok (.iload_n 1, 1) := by decide +kernel
theorem dX12_lots_22 : decode cX12_lots 22 = .ok (.iload 5, 2) := by decide +kernel
theorem dX12_lots_24 : decode cX12_lots 24 = .ok (.isub, 1) := by decide +kernel
theorem dX12_lots_25 : decode cX12_lots 25 = .ok (.iload 6, 2) := by decide +kernel
theorem dX12_lots_27 : decode cX12_lots 27 = .ok (.isub, 1) := by decide +kernel
theorem dX12_lots_28 : decode cX12_lots 28 = .ok (.istore 7, 2) := by decide +kernel
theorem dX12_lots_30 : decode cX12_lots 30 = .ok (.aload_n 0, 1) := by decide +kernel
theorem dX12_lots_31 : decode cX12_lots 31 = .ok (.getfield 58, 3) := by decide +kernel
theorem dX12_lots_34 : decode cX12_lots 34 = .ok (.iconst 0, 1) := by decide +kernel
theorem dX12_lots_35 : decode cX12_lots 35 = .ok (.iaload, 1) := by decide +kernel
theorem dX12_lots_36 : decode cX12_lots 36 = .ok (.iload 5, 2) := by decide +kernel
theorem dX12_lots_38 : decode cX12_lots 38 = .ok (.invokestatic 311, 3) := by decide +kernel
theorem dX12_lots_41 : decode cX12_lots 41 = .ok (.aload_n 0, 1) := by decide +kernel
theorem dX12_lots_42 : decode cX12_lots 42 = .ok (.getfield 58, 3) := by decide +kernel
theorem dX12_lots_45 : decode cX12_lots 45 = .ok (.iconst 1, 1) := by decide +kernel
theorem dX12_lots_46 : decode cX12_lots 46 = .ok (.iaload, 1) := by decide +kernel
theorem dX12_lots_47 : decode cX12_lots 47 = .ok (.iload 6, 2) := by decide +kernel
theorem dX12_lots_49 : decode cX12_lots 49 = .ok (.invokestatic 311, 3) := by decide +kernel
theorem dX12_lots_52 : decode cX12_lots 52 = .ok (.lmul, 1) := by decide +kernel
theorem dX12_lots_53 : decode cX12_lots 53 = .ok (.aload_n 0, 1) := by decide +kernel
theorem dX12_lots_54 : decode cX12_lots 54 = .ok (.getfield 58, 3) := by decide +kernel
theorem dX12_lots_57 : decode cX12_lots 57 = .ok (.iconst 2, 1) := by decide +kernel
theorem dX12_lots_58 : decode cX12_lots 58 = .ok (.iaload, 1) := by decide +kernel
theorem dX12_lots_59 : decode cX12_lots 59 = .ok (.iload 7, 2) := by decide +kernel
theorem dX12_lots_61 : decode cX12_lots 61 = .ok (.invokestatic 311, 3) := by decide +kernel
theorem dX12_lots_64 : decode cX12_lots 64 = .ok (.lmul, 1) := by decide +kernel
theorem dX12_lots_65 : decode cX12_lots 65 = .ok (.lstore 8, 2) := by decide +kernel
theorem dX12_lots_67 : decode cX12_lots 67 = .ok (.lload 8, 2) := by decide +kernel
theorem dX12_lots_69 : decode cX12_lots 69 = .ok (.lconst 0, 1) := by decide +kernel
theorem dX12_lots_70 : decode cX12_lots 70 = .ok (.lcmp, 1) := by decide +kernel
theorem dX12_lots_71 : decode cX12_lots 71 = .ok (.ifCond .ne 6, 3) := by decide +kernel
theorem dX12_lots_74 : decode cX12_lots 74 = .ok (.goto 83, 3) := by decide +kernel
theorem dX12_lots_77 : decode cX12_lots 77 = .ok (.aload_n 0, 1) := by decide +kernel
theorem dX12_lots_78 : decode cX12_lots 78 = .ok (.getfield 64, 3) := by decide +kernel
theorem dX12_lots_81 : decode cX12_lots 81 = .ok (.iconst 0, 1) := by decide +kernel
theorem dX12_lots_82 : decode cX12_lots 82 = .ok (.iload 5, 2) := by decide +kernel
theorem dX12_lots_84 : decode cX12_lots 84 = .ok (.iastore, 1) := by decide +kernel
theorem dX12_lots_85 : decode cX12_lots 85 = .ok (.aload_n 0, 1) := by decide +kernel
theorem dX12_lots_86 : decode cX12_lots 86 = .ok (.getfield 64, 3) := by decide +kernel
theorem dX12_lots_89 : decode cX12_lots 89 = .ok (.iconst 1, 1) := by decide +kernel
theorem dX12_lots_90 : decode cX12_lots 90 = .ok (.iload 6, 2) := by decide +kernel
theorem dX12_lots_92 : decode cX12_lots 92 = .ok (.iastore, 1) := by decide +kernel
theorem dX12_lots_93 : decode cX12_lots 93 = .ok (.aload_n 0, 1) := by decide +kernel
theorem dX12_lots_94 : decode cX12_lots 94 = .ok (.getfield 64, 3) := by decide +kernel
theorem dX12_lots_97 : decode cX12_lots 97 = .ok (.iconst 2, 1) := by decide +kernel
theorem dX12_lots_98 : decode cX12_lots 98 = .ok (.iload 7, 2) := by decide +kernel
theorem dX12_lots_100 : decode cX12_lots 100 = .ok (.iastore, 1) := by decide +kernel
theorem dX12_lots_101 : decode cX12_lots 101 = .ok (.iload_n 2, 1) := by decide +kernel
theorem dX12_lots_102 : decode cX12_lots 102 = .ok (.iconst (-1), 1) := by decide +kernel
theorem dX12_lots_103 : decode cX12_lots 103 = .ok (.if_icmp .eq 13, 3) := by decide +kernel
theorem dX12_lots_106 : decode cX12_lots 106 = .ok (.aload_n 0, 1) := by decide +kernel
theorem dX12_lots_107 : decode cX12_lots 107 = .ok (.getfield 64, 3) := by decide +kernel
theorem dX12_lots_110 : decode cX12_lots 110 = .ok (.iload_n 2, 1) := by decide +kernel
theorem dX12_lots_111 : decode cX12_lots 111 = .ok (.dup2, 1) := by decide +kernel
theorem dX12_lots_112 : decode cX12_lots 112 = .ok (.iaload, 1) := by decide +kernel
theorem dX12_lots_113 : decode cX12_lots 113 = .ok (.iconst 1, 1) := by decide +kernel
theorem dX12_lots_114 : decode cX12_lots 114 = .ok (.iadd, 1) := by decide +kernel
theorem dX12_lots_115 : decode cX12_lots 115 = .ok (.iastore, 1) := by decide +kernel
theorem dX12_lots_116 : decode cX12_lots 116 = .ok (.aload_n 0, 1) := by decide +kernel
theorem dX12_lots_117 : decode cX12_lots 117 = .ok (.invokevirtual 315, 3) := by decide +kernel
theorem dX12_lots_120 : decode cX12_lots 120 = .ok (.iconst 0, 1) := by decide +kernel
theorem dX12_lots_121 : decode cX12_lots 121 = .ok (.istore 10, 2) := by decide +kernel
theorem dX12_lots_123 : decode cX12_lots 123 = .ok (.iload 10, 2) := by decide +kernel
theorem dX12_lots_125 : decode cX12_lots 125 = .ok (.iconst 4, 1) := by decide +kernel
theorem dX12_lots_126 : decode cX12_lots 126 = .ok (.if_icmp .ge 31, 3) := by decide +kernel
theorem dX12_lots_129 : decode cX12_lots 129 = .ok (.aload_n 0, 1) := by decide +kernel
theorem dX12_lots_130 : decode cX12_lots 130 = .ok (.getfield 71, 3) := by decide +kernel
theorem dX12_lots_133 : decode cX12_lots 133 = .ok (.iload 10, 2) := by decide +kernel
theorem dX12_lots_135 : decode cX12_lots 135 = .ok (.dup2, 1) := by decide +kernel
theorem dX12_lots_136 : decode cX12_lots 136 = .ok (.laload, 1) := by decide +kernel
theorem dX12_lots_137 : decode cX12_lots 137 = .ok (.lload_n 3, 1) := by decide +kernel
theorem dX12_lots_138 : decode cX12_lots 138 = .ok (.lload 8, 2) := by decide +kernel
theorem dX12_lots_140 : decode cX12_lots 140 = .ok (.lmul, 1) := by decide +kernel
theorem dX12_lots_141 : decode cX12_lots 141 = .ok (.aload_n 0, 1) := by decide +kernel
theorem dX12_lots_142 : decode cX12_lots 142 = .ok (.getfield 67, 3) := by decide +kernel
theorem dX12_lots_145 : decode cX12_lots 145 = .ok (.iload 10, 2) := by decide +kernel
theorem dX12_lots_147 : decode cX12_lots 147 = .ok (.laload, 1) := by decide +kernel
theorem dX12_lots_148 : decode cX12_lots 148 = .ok (.lmul, 1) := by decide +kernel
theorem dX12_lots_149 : decode cX12_lots 149 = .ok (.ladd, 1) := by decide +kernel
theorem dX12_lots_150 : decode cX12_lots 150 = .ok (.lastore, 1) := by decide +kernel
theorem dX12_lots_151 : decode cX12_lots 151 = .ok (.iinc 10 1, 3) := by decide +kernel
theorem dX12_lots_154 : decode cX12_lots 154 = .ok (.goto (-31), 3) := by decide +kernel
theorem dX12_lots_157 : decode cX12_lots 157 = .ok (.iinc 6 1, 3) := by decide +kernel
theorem dX12_lots_160 : decode cX12_lots 160 = .ok (.goto (-148), 3) := by decide +kernel
theorem dX12_lots_163 : decode cX12_lots 163 = .ok (.iinc 5 1, 3) := by decide +kernel
theorem dX12_lots_166 : decode cX12_lots 166 = .ok (.goto (-163), 3) := by decide +kernel
theorem dX12_lots_169 : decode cX12_lots 169 = .ok (.return_, 1) := by decide +kernel
abbrev YX12_lots : zY := (yX12_lots, cX12_lots, 11, none, [])
def fX12_lots_157 (F : zFs) (k_3 : Int → zDa → Option zDa) (k_12 : Int → zDa → Option zDa) (o1 : Int) (o2 : Int) (o3 : Int) (o5 : Int) (v6 : Int) (D : zDa) : Option zDa :=
  if (-2147483648 ≤ v6 + 1 ∧ v6 + 1 ≤ 2147483647) then
    k_12 (v6 + 1) D
  else none
def fX12_lots_123 (F : zFs) (o1 : Int) (o2 : Int) (o3 : Int) (o5 : Int) (o6 : Int) (o8 : Int) (k_3 : Int → zDa → Option zDa) (k_12 : Int → zDa → Option zDa) (k_123 : Int → zDa → Option zDa) (v10 : Int) (D : zDa) : Option zDa :=
  if v10 < 4 then
    if (0 ≤ v10 ∧ v10 < 4) ∧ (-9223372036854775808 ≤ o3 * o8 ∧ o3 * o8 ≤ 9223372036854775807) ∧ (-9223372036854775808 ≤ (o3 * o8) * (D 107 v10.toNat) ∧ (o3 * o8) * (D 107 v10.toNat) ≤ 9223372036854775807) ∧ (-9223372036854775808 ≤ (D 108 v10.toNat) + ((o3 * o8) * (D 107 v10.toNat)) ∧ (D 108 v10.toNat) + ((o3 * o8) * (D 107 v10.toNat)) ≤ 9223372036854775807) then
      zlet (zwr D 108 v10.toNat ((D 108 v10.toNat) + ((o3 * o8) * (D 107 v10.toNat)))) (fun D_14 =>
        if (-2147483648 ≤ v10 + 1 ∧ v10 + 1 ≤ 2147483647) then
          k_123 (v10 + 1) D_14
        else none)
    else none
  else
    fX12_lots_157 F k_3 k_12 o1 o2 o3 o5 o6 D
def fX12_lots_116 (F : zFs) (k_3 : Int → zDa → Option zDa) (k_12 : Int → zDa → Option zDa) (o1 : Int) (o2 : Int) (o3 : Int) (o5 : Int) (v6 : Int) (v8 : Int) (D : zDa) : Option zDa :=
  (fX12_answers F D).bind (fun D_13 =>
    zfix (fun _ _ => none) (fX12_lots_123 F o1 o2 o3 o5 v6 v8 k_3 k_12) zfu 0 D_13)
def fX12_lots_12 (F : zFs) (o1 : Int) (o2 : Int) (o3 : Int) (o5 : Int) (k_3 : Int → zDa → Option zDa) (k_12 : Int → zDa → Option zDa) (v6 : Int) (D : zDa) : Option zDa :=
  if (-2147483648 ≤ o5 + v6 ∧ o5 + v6 ≤ 2147483647) then
    if o1 < (o5 + v6) then
      if (-2147483648 ≤ o5 + 1 ∧ o5 + 1 ≤ 2147483647) then
        k_3 (o5 + 1) D
      else none
    else
      if (-2147483648 ≤ o1 - o5 ∧ o1 - o5 ≤ 2147483647) ∧ (-2147483648 ≤ (o1 - o5) - v6 ∧ (o1 - o5) - v6 ≤ 2147483647) then
        zlet (((o1 - o5) - v6)) (fun x7_1 =>
          (fX12_choose F (D 104 0) o5 D).bind (fun (r_2, D_3) =>
            (fX12_choose F (D_3 104 1) v6 D_3).bind (fun (r_4, D_5) =>
              if (-9223372036854775808 ≤ r_2 * r_4 ∧ r_2 * r_4 ≤ 9223372036854775807) then
                (fX12_choose F (D_5 104 2) x7_1 D_5).bind (fun (r_6, D_7) =>
                  if (-9223372036854775808 ≤ (r_2 * r_4) * r_6 ∧ (r_2 * r_4) * r_6 ≤ 9223372036854775807) then
                    zlet (((r_2 * r_4) * r_6)) (fun x8_8 =>
                      if x8_8 = 0 then
                        fX12_lots_157 F k_3 k_12 o1 o2 o3 o5 v6 D_7
                      else
                        zlet (zwr D_7 106 0 o5) (fun D_9 =>
                          zlet (zwr D_9 106 1 v6) (fun D_10 =>
                            zlet (zwr D_10 106 2 x7_1) (fun D_11 =>
                              if o2 = (-1) then
                                fX12_lots_116 F k_3 k_12 o1 o2 o3 o5 v6 x8_8 D_11
                              else
                                if (0 ≤ o2 ∧ o2 < 3) ∧ (-2147483648 ≤ (D_11 106 o2.toNat) + 1 ∧ (D_11 106 o2.toNat) + 1 ≤ 2147483647) then
                                  zlet (zwr D_11 106 o2.toNat ((D_11 106 o2.toNat) + 1)) (fun D_15 =>
                                    fX12_lots_116 F k_3 k_12 o1 o2 o3 o5 v6 x8_8 D_15)
                                else none))))
                  else none)
              else none)))
      else none
  else none
def fX12_lots_3 (F : zFs) (o1 : Int) (o2 : Int) (o3 : Int)  (k_3 : Int → zDa → Option zDa) (v5 : Int) (D : zDa) : Option zDa :=
  if o1 < v5 then
    some D
  else
    zfix (fun _ _ => none) (fX12_lots_12 F o1 o2 o3 v5 k_3) zfu 0 D
def fX12_lots (F : zFs) (v1 : Int) (v2 : Int) (v3 : Int) (D : zDa) : Option zDa :=
  zfix (fun _ _ => none) (fX12_lots_3 F v1 v2 v3) zfu 0 D
set_option maxHeartbeats 20000000 in
theorem sX12_lots_157 {l : Launch} {E : zE} {d : Nat} {F : zFs} {n sl : Nat} (hG : zG F)  (o1 : Int) (o2 : Int) (o3 : Int) (o5 : Int) (v6 : Int) (k_3 : Int → zDa → Option zDa) (k_12 : Int → zDa → Option zDa) (hk_3 : ∀ (u5 : Int) (D : zDa), zO l E (d + 1) YX12_lots 3 [(0, zR 91), (1, zI o1), (2, zI o2), (3, zL o3), (5, zI u5)] [] (F, D, n, sl) (zcV F n sl) (k_3 u5 D)) (hk_12 : ∀ (u6 : Int) (D : zDa), zO l E (d + 1) YX12_lots 12 [(0, zR 91), (1, zI o1), (2, zI o2), (3, zL o3), (5, zI o5), (6, zI u6)] [] (F, D, n, sl) (zcV F n sl) (k_12 u6 D)) (D : zDa) : zO l E (d + 1) YX12_lots 157 [(0, zR 91), (1, zI o1), (2, zI o2), (3, zL o3), (5, zI o5), (6, zI v6)] [] (F, D, n, sl) (zcV F n sl) (fX12_lots_157 F k_3 k_12 o1 o2 o3 o5 v6 D) := by
  unfold fX12_lots_157
  refine zO_chk (fun h6 => ?_)
  refine zO_iinc dX12_lots_157 rfl h6 (by decide) ?_
  refine zO_ls (ls' := [(0, zR 91), (1, zI o1), (2, zI o2), (3, zL o3), (5, zI o5), (6, zI (v6 + 1))]) rfl ?_
  refine zO_goto (tgt := 12) dX12_lots_160 rfl ?_
  refine zO_live [0, 1, 2, 3, 5, 6] ?_
  exact hk_12 (v6 + 1) D
set_option maxHeartbeats 20000000 in
theorem sX12_lots_123 {l : Launch} {E : zE} {d : Nat} {F : zFs} {n sl : Nat} (hG : zG F)  (o1 : Int) (o2 : Int) (o3 : Int) (o5 : Int) (o6 : Int) (o8 : Int) (k_3 : Int → zDa → Option zDa) (k_12 : Int → zDa → Option zDa) (hk_3 : ∀ (u5 : Int) (D : zDa), zO l E (d + 1) YX12_lots 3 [(0, zR 91), (1, zI o1), (2, zI o2), (3, zL o3), (5, zI u5)] [] (F, D, n, sl) (zcV F n sl) (k_3 u5 D)) (hk_12 : ∀ (u6 : Int) (D : zDa), zO l E (d + 1) YX12_lots 12 [(0, zR 91), (1, zI o1), (2, zI o2), (3, zL o3), (5, zI o5), (6, zI u6)] [] (F, D, n, sl) (zcV F n sl) (k_12 u6 D)) : ∀ (N : Nat) (v10 : Int) (D : zDa), zO l E (d + 1) YX12_lots 123 [(0, zR 91), (1, zI o1), (2, zI o2), (3, zL o3), (5, zI o5), (6, zI o6), (8, zL o8), (10, zI v10)] [] (F, D, n, sl) (zcV F n sl) (zfix (fun _ _ => none) (fX12_lots_123 F o1 o2 o3 o5 o6 o8 k_3 k_12) N v10 D) := by
  intro N
  induction N with
  | zero => intro v10 D; exact zO_none
  | succ N hk_123 =>
    intro v10 D
    show zO _ _ _ _ _ _ _ _ _ ((fX12_lots_123 F o1 o2 o3 o5 o6 o8 k_3 k_12) (zfix (fun _ _ => none) (fX12_lots_123 F o1 o2 o3 o5 o6 o8 k_3 k_12) N) v10 D)
    unfold fX12_lots_123
    refine zO_iload dX12_lots_123 rfl ?_
    refine zO_iconst dX12_lots_125 (by decide) ?_
    refine zO_icmp_ge (tgt := 157) dX12_lots_126 rfl (fun c126 => ?_) (fun c126 => ?_)
    · refine zO_chk (fun h7 => ?_)
      refine zO_aload_n dX12_lots_129 rfl (zR_P _) ?_
      refine gt12 (k := 27) dX12_lots_130 wF_X12_71 (by decide) (gk_91 hG) (zgv (c := 12) (k := 27) rfl (Or.inl ⟨_, rfl⟩) (gf_91_27 hG)) ?_
      refine zO_iload dX12_lots_133 rfl ?_
      refine zO_dup2a dX12_lots_135 (rfl) (rfl) ?_
      refine zO_lald dX12_lots_136 (gk_108 hG) (gl_in (gl_108 hG) h7.1) ?_
      refine zO_lload_n dX12_lots_137 rfl ?_
      refine zO_lload dX12_lots_138 rfl ?_
      refine zO_lmul dX12_lots_140 h7.2.1 ?_
      refine zO_aload_n dX12_lots_141 rfl (zR_P _) ?_
      refine gt12 (k := 26) dX12_lots_142 wF_X12_67 (by decide) (gk_91 hG) (zgv (c := 12) (k := 26) rfl (Or.inl ⟨_, rfl⟩) (gf_91_26 hG)) ?_
      refine zO_iload dX12_lots_145 rfl ?_
      refine zO_lald dX12_lots_147 (gk_107 hG) (gl_in (gl_107 hG) h7.1) ?_
      refine zO_lmul dX12_lots_148 h7.2.2.1 ?_
      refine zO_ladd dX12_lots_149 h7.2.2.2 ?_
      refine zO_last dX12_lots_150 (gk_108 hG) (gl_in (gl_108 hG) h7.1) ?_
      refine zO_letD (fun D_14 eD_14 => ?_)
      refine zO_chk (fun h8 => ?_)
      refine zO_iinc dX12_lots_151 rfl h8 (by decide) ?_
      refine zO_ls (ls' := [(0, zR 91), (1, zI o1), (2, zI o2), (3, zL o3), (5, zI o5), (6, zI o6), (8, zL o8), (10, zI (v10 + 1))]) rfl ?_
      refine zO_goto (tgt := 123) dX12_lots_154 rfl ?_
      refine zO_live [0, 1, 2, 3, 5, 6, 8, 10] ?_
      exact hk_123 (v10 + 1) D_14
    · refine zO_live [0, 1, 2, 3, 5, 6] ?_
      exact sX12_lots_157 hG o1 o2 o3 o5 o6 _ _ hk_3 hk_12 D
set_option maxHeartbeats 20000000 in
theorem sX12_lots_116 {l : Launch} {E : zE} {d : Nat} {F : zFs} {n sl : Nat} (hG : zG F)  (o1 : Int) (o2 : Int) (o3 : Int) (o5 : Int) (v6 : Int) (v8 : Int) (k_3 : Int → zDa → Option zDa) (k_12 : Int → zDa → Option zDa) (hk_3 : ∀ (u5 : Int) (D : zDa), zO l E (d + 1) YX12_lots 3 [(0, zR 91), (1, zI o1), (2, zI o2), (3, zL o3), (5, zI u5)] [] (F, D, n, sl) (zcV F n sl) (k_3 u5 D)) (hk_12 : ∀ (u6 : Int) (D : zDa), zO l E (d + 1) YX12_lots 12 [(0, zR 91), (1, zI o1), (2, zI o2), (3, zL o3), (5, zI o5), (6, zI u6)] [] (F, D, n, sl) (zcV F n sl) (k_12 u6 D)) (D : zDa) : zO l E (d + 1) YX12_lots 116 [(0, zR 91), (1, zI o1), (2, zI o2), (3, zL o3), (5, zI o5), (6, zI v6), (8, zL v8)] [] (F, D, n, sl) (zcV F n sl) (fX12_lots_116 F k_3 k_12 o1 o2 o3 o5 v6 v8 D) := by
  unfold fX12_lots_116
  refine zO_aload_n dX12_lots_116 rfl (zR_P _) ?_
  refine zO_callV (Y' := YX12_answers) (cw := zcV F n sl) (as := []) (rest := []) (na := 0) (ci := 12) rfl dX12_lots_117 wC_X12_answers wN_X12 wM_X12_315 wI_X12_answers wV_X12_answers (by decide) (by decide) rfl rfl (Nat.le_of_ble_eq_true rfl) rfl (by decide) (gk_91 hG) (fun r hr => zMet_cast (Nat.add_assoc d 0 0) (mX12_answers (d := d + 0) hG  r hr)) ?_
  intro D_13 _
  show zO _ _ _ _ _ _ [] (F, D_13, n, sl) _ _
  refine zO_iconst dX12_lots_120 (by decide) ?_
  refine zO_istore dX12_lots_121 (by decide) ?_
  refine zO_ls (ls' := [(0, zR 91), (1, zI o1), (2, zI o2), (3, zL o3), (5, zI o5), (6, zI v6), (8, zL v8), (10, zI 0)]) rfl ?_
  refine zO_live [0, 1, 2, 3, 5, 6, 8, 10] ?_
  exact sX12_lots_123 hG o1 o2 o3 o5 v6 v8 _ _ hk_3 hk_12 zfu 0 D_13
set_option maxHeartbeats 20000000 in
theorem sX12_lots_12 {l : Launch} {E : zE} {d : Nat} {F : zFs} {n sl : Nat} (hG : zG F)  (o1 : Int) (o2 : Int) (o3 : Int) (o5 : Int) (k_3 : Int → zDa → Option zDa) (hk_3 : ∀ (u5 : Int) (D : zDa), zO l E (d + 1) YX12_lots 3 [(0, zR 91), (1, zI o1), (2, zI o2), (3, zL o3), (5, zI u5)] [] (F, D, n, sl) (zcV F n sl) (k_3 u5 D)) : ∀ (N : Nat) (v6 : Int) (D : zDa), zO l E (d + 1) YX12_lots 12 [(0, zR 91), (1, zI o1), (2, zI o2), (3, zL o3), (5, zI o5), (6, zI v6)] [] (F, D, n, sl) (zcV F n sl) (zfix (fun _ _ => none) (fX12_lots_12 F o1 o2 o3 o5 k_3) N v6 D) := by
  intro N
  induction N with
  | zero => intro v6 D; exact zO_none
  | succ N hk_12 =>
    intro v6 D
    show zO _ _ _ _ _ _ _ _ _ ((fX12_lots_12 F o1 o2 o3 o5 k_3) (zfix (fun _ _ => none) (fX12_lots_12 F o1 o2 o3 o5 k_3) N) v6 D)
    unfold fX12_lots_12
    refine zO_chk (fun h1 => ?_)
    refine zO_iload dX12_lots_12 rfl ?_
    refine zO_iload dX12_lots_14 rfl ?_
    refine zO_iadd dX12_lots_16 h1 ?_
    refine zO_iload_n dX12_lots_17 rfl ?_
    refine zO_icmp_gt (tgt := 163) dX12_lots_18 rfl (fun c18 => ?_) (fun c18 => ?_)
    · refine zO_chk (fun h2 => ?_)
      refine zO_iinc dX12_lots_163 rfl h2 (by decide) ?_
      refine zO_ls (ls' := [(0, zR 91), (1, zI o1), (2, zI o2), (3, zL o3), (5, zI (o5 + 1)), (6, zI v6)]) rfl ?_
      refine zO_goto (tgt := 3) dX12_lots_166 rfl ?_
      refine zO_live [0, 1, 2, 3, 5] ?_
      exact hk_3 (o5 + 1) D
    · refine zO_chk (fun h3 => ?_)
      refine zO_iload_n dX12_lots_21 rfl ?_
      refine zO_iload dX12_lots_22 rfl ?_
      refine zO_isub dX12_lots_24 h3.1 ?_
      refine zO_iload dX12_lots_25 rfl ?_
      refine zO_isub dX12_lots_27 h3.2 ?_
      refine zO_letI (fun x7_1 ex7_1 => ?_)
      refine zO_istore dX12_lots_28 (by decide) ?_
      refine zO_ls (ls' := [(0, zR 91), (1, zI o1), (2, zI o2), (3, zL o3), (5, zI o5), (6, zI v6), (7, zI x7_1)]) rfl ?_
      refine zO_aload_n dX12_lots_30 rfl (zR_P _) ?_
      refine gt12 (k := 23) dX12_lots_31 wF_X12_58 (by decide) (gk_91 hG) (zgv (c := 12) (k := 23) rfl (Or.inl ⟨_, rfl⟩) (gf_91_23 hG)) ?_
      refine zO_iconst dX12_lots_34 (by decide) ?_
      refine zO_iald dX12_lots_35 (gk_104 hG) (gl_in (gl_104 hG) (by decide)) ?_
      refine zO_iload dX12_lots_36 rfl ?_
      refine zO_callS (Y' := YX12_choose) (cw := zcJ F n sl) (as := [zI (D 104 0), zI o5]) (rest := []) (na := 2) dX12_lots_38 wC_X12_choose wN_X12 wM_X12_311 wS_X12_choose (by decide) (by decide) rfl rfl (Nat.le_of_ble_eq_true rfl) (fun r hr => zMet_cast (Nat.add_assoc d 0 0) (mX12_choose (d := d + 0) hG (D 104 0) o5 r hr)) ?_
      rintro ⟨r_2, D_3⟩ -
      show zO _ _ _ _ _ _ [zL r_2] (F, D_3, n, sl) _ _
      refine zO_aload_n dX12_lots_41 rfl (zR_P _) ?_
      refine gt12 (k := 23) dX12_lots_42 wF_X12_58 (by decide) (gk_91 hG) (zgv (c := 12) (k := 23) rfl (Or.inl ⟨_, rfl⟩) (gf_91_23 hG)) ?_
      refine zO_iconst dX12_lots_45 (by decide) ?_
      refine zO_iald dX12_lots_46 (gk_104 hG) (gl_in (gl_104 hG) (by decide)) ?_
      refine zO_iload dX12_lots_47 rfl ?_
      refine zO_callS (Y' := YX12_choose) (cw := zcJ F n sl) (as := [zI (D_3 104 1), zI v6]) (rest := [zL r_2]) (na := 2) dX12_lots_49 wC_X12_choose wN_X12 wM_X12_311 wS_X12_choose (by decide) (by decide) rfl rfl (Nat.le_of_ble_eq_true rfl) (fun r hr => zMet_cast (Nat.add_assoc d 0 0) (mX12_choose (d := d + 0) hG (D_3 104 1) v6 r hr)) ?_
      rintro ⟨r_4, D_5⟩ -
      show zO _ _ _ _ _ _ [zL r_4, zL r_2] (F, D_5, n, sl) _ _
      refine zO_chk (fun h4 => ?_)
      refine zO_lmul dX12_lots_52 h4 ?_
      refine zO_aload_n dX12_lots_53 rfl (zR_P _) ?_
      refine gt12 (k := 23) dX12_lots_54 wF_X12_58 (by decide) (gk_91 hG) (zgv (c := 12) (k := 23) rfl (Or.inl ⟨_, rfl⟩) (gf_91_23 hG)) ?_
      refine zO_iconst dX12_lots_57 (by decide) ?_
      refine zO_iald dX12_lots_58 (gk_104 hG) (gl_in (gl_104 hG) (by decide)) ?_
      refine zO_iload dX12_lots_59 rfl ?_
      refine zO_callS (Y' := YX12_choose) (cw := zcJ F n sl) (as := [zI (D_5 104 2), zI x7_1]) (rest := [zL (r_2 * r_4)]) (na := 2) dX12_lots_61 wC_X12_choose wN_X12 wM_X12_311 wS_X12_choose (by decide) (by decide) rfl rfl (Nat.le_of_ble_eq_true rfl) (fun r hr => zMet_cast (Nat.add_assoc d 0 0) (mX12_choose (d := d + 0) hG (D_5 104 2) x7_1 r hr)) ?_
      rintro ⟨r_6, D_7⟩ -
      show zO _ _ _ _ _ _ [zL r_6, zL (r_2 * r_4)] (F, D_7, n, sl) _ _
      refine zO_chk (fun h5 => ?_)
      refine zO_lmul dX12_lots_64 h5 ?_
      refine zO_letJ (fun x8_8 ex8_8 => ?_)
      refine zO_lstore dX12_lots_65 (by decide) ?_
      refine zO_ls (ls' := [(0, zR 91), (1, zI o1), (2, zI o2), (3, zL o3), (5, zI o5), (6, zI v6), (7, zI x7_1), (8, zL x8_8)]) rfl ?_
      refine zO_lload dX12_lots_67 rfl ?_
      refine zO_lconst dX12_lots_69 ?_
      refine zO_lif_ne (tgt := 77) dX12_lots_70 dX12_lots_71 rfl (fun c70 => ?_) (fun c70 => ?_)
      · refine zO_goto (tgt := 157) dX12_lots_74 rfl ?_
        refine zO_live [0, 1, 2, 3, 5, 6] ?_
        exact sX12_lots_157 hG o1 o2 o3 o5 v6 _ _ hk_3 hk_12 D_7
      · refine zO_aload_n dX12_lots_77 rfl (zR_P _) ?_
        refine gt12 (k := 25) dX12_lots_78 wF_X12_64 (by decide) (gk_91 hG) (zgv (c := 12) (k := 25) rfl (Or.inl ⟨_, rfl⟩) (gf_91_25 hG)) ?_
        refine zO_iconst dX12_lots_81 (by decide) ?_
        refine zO_iload dX12_lots_82 rfl ?_
        refine zO_iast dX12_lots_84 (gk_106 hG) (gl_in (gl_106 hG) (by decide)) ?_
        refine zO_letD (fun D_9 eD_9 => ?_)
        refine zO_aload_n dX12_lots_85 rfl (zR_P _) ?_
        refine gt12 (k := 25) dX12_lots_86 wF_X12_64 (by decide) (gk_91 hG) (zgv (c := 12) (k := 25) rfl (Or.inl ⟨_, rfl⟩) (gf_91_25 hG)) ?_
        refine zO_iconst dX12_lots_89 (by decide) ?_
        refine zO_iload dX12_lots_90 rfl ?_
        refine zO_iast dX12_lots_92 (gk_106 hG) (gl_in (gl_106 hG) (by decide)) ?_
        refine zO_letD (fun D_10 eD_10 => ?_)
        refine zO_aload_n dX12_lots_93 rfl (zR_P _) ?_
        refine gt12 (k := 25) dX12_lots_94 wF_X12_64 (by decide) (gk_91 hG) (zgv (c := 12) (k := 25) rfl (Or.inl ⟨_, rfl⟩) (gf_91_25 hG)) ?_
        refine zO_iconst dX12_lots_97 (by decide) ?_
        refine zO_iload dX12_lots_98 rfl ?_
        refine zO_iast dX12_lots_100 (gk_106 hG) (gl_in (gl_106 hG) (by decide)) ?_
        refine zO_letD (fun D_11 eD_11 => ?_)
        refine zO_iload_n dX12_lots_101 rfl ?_
        refine zO_iconst dX12_lots_102 (by decide) ?_
        refine zO_icmp_eq (tgt := 116) dX12_lots_103 rfl (fun c103 => ?_) (fun c103 => ?_)
        · refine zO_live [0, 1, 2, 3, 5, 6, 8] ?_
          exact sX12_lots_116 hG o1 o2 o3 o5 v6 x8_8 _ _ hk_3 hk_12 D_11
        · refine zO_chk (fun h9 => ?_)
          refine zO_aload_n dX12_lots_106 rfl (zR_P _) ?_
          refine gt12 (k := 25) dX12_lots_107 wF_X12_64 (by decide) (gk_91 hG) (zgv (c := 12) (k := 25) rfl (Or.inl ⟨_, rfl⟩) (gf_91_25 hG)) ?_
          refine zO_iload_n dX12_lots_110 rfl ?_
          refine zO_dup2a dX12_lots_111 (rfl) (rfl) ?_
          refine zO_iald dX12_lots_112 (gk_106 hG) (gl_in (gl_106 hG) h9.1) ?_
          refine zO_iconst dX12_lots_113 (by decide) ?_
          refine zO_iadd dX12_lots_114 h9.2 ?_
          refine zO_iast dX12_lots_115 (gk_106 hG) (gl_in (gl_106 hG) h9.1) ?_
          refine zO_letD (fun D_15 eD_15 => ?_)
          refine zO_live [0, 1, 2, 3, 5, 6, 8] ?_
          exact sX12_lots_116 hG o1 o2 o3 o5 v6 x8_8 _ _ hk_3 hk_12 D_15
set_option maxHeartbeats 20000000 in
theorem sX12_lots_3 {l : Launch} {E : zE} {d : Nat} {F : zFs} {n sl : Nat} (hG : zG F)  (o1 : Int) (o2 : Int) (o3 : Int)   : ∀ (N : Nat) (v5 : Int) (D : zDa), zO l E (d + 1) YX12_lots 3 [(0, zR 91), (1, zI o1), (2, zI o2), (3, zL o3), (5, zI v5)] [] (F, D, n, sl) (zcV F n sl) (zfix (fun _ _ => none) (fX12_lots_3 F o1 o2 o3) N v5 D) := by
  intro N
  induction N with
  | zero => intro v5 D; exact zO_none
  | succ N hk_3 =>
    intro v5 D
    show zO _ _ _ _ _ _ _ _ _ ((fX12_lots_3 F o1 o2 o3) (zfix (fun _ _ => none) (fX12_lots_3 F o1 o2 o3) N) v5 D)
    unfold fX12_lots_3
    refine zO_iload dX12_lots_3 rfl ?_
    refine zO_iload_n dX12_lots_5 rfl ?_
    refine zO_icmp_gt (tgt := 169) dX12_lots_6 rfl (fun c6 => ?_) (fun c6 => ?_)
    · exact zO_ret (rv := none) dX12_lots_169 rfl trivial rfl
    · refine zO_iconst dX12_lots_9 (by decide) ?_
      refine zO_istore dX12_lots_10 (by decide) ?_
      refine zO_ls (ls' := [(0, zR 91), (1, zI o1), (2, zI o2), (3, zL o3), (5, zI v5), (6, zI 0)]) rfl ?_
      refine zO_live [0, 1, 2, 3, 5, 6] ?_
      exact sX12_lots_12 hG o1 o2 o3 v5 _ hk_3 zfu 0 D
set_option maxHeartbeats 20000000 in
theorem mX12_lots {l : Launch} {E : zE} {d : Nat} {F : zFs} {n sl : Nat} (hG : zG F) (v1 : Int) (v2 : Int) (v3 : Int) {D : zDa} : ∀ r, fX12_lots F  v1 v2 v3 D = some r → zMet l E (d + 1) YX12_lots [zR 91, zI v1, zI v2, zL v3] (F, D, n, sl) (zcV F n sl r) := by
  intro r hr
  refine zMet_of (plainFor_of_name (by decide)) (fun _ h => (nomatch h)) (Nat.le_of_ble_eq_true rfl) ?_
  have hz : zO l E (d + 1) YX12_lots 0 [(0, zR 91), (1, zI v1), (2, zI v2), (3, zL v3)] [] (F, D, n, sl) (zcV F n sl) (fX12_lots F  v1 v2 v3 D) := by
    unfold fX12_lots
    refine zO_iconst dX12_lots_0 (by decide) ?_
    refine zO_istore dX12_lots_1 (by decide) ?_
    refine zO_ls (ls' := [(0, zR 91), (1, zI v1), (2, zI v2), (3, zL v3), (5, zI 0)]) rfl ?_
    refine zO_live [0, 1, 2, 3, 5] ?_
    exact sX12_lots_3 hG v1 v2 v3 zfu 0 D
  exact hz r hr
theorem dX12_odds_0 : decode cX12_odds 0 = .ok (.aload_n 0, 1) := by decide +kernel
theorem dX12_odds_1 : decode cX12_odds 1 = .ok (.getfield 58, 3) := by decide +kernel
theorem dX12_odds_4 : decode cX12_odds 4 = .ok (.iconst 0, 1) := by decide +kernel
theorem dX12_odds_5 : decode cX12_odds 5 = .ok (.iaload, 1) := by decide +kernel
theorem dX12_odds_6 : decode cX12_odds 6 = .ok (.aload_n 0, 1) := by decide +kernel
theorem dX12_odds_7 : decode cX12_odds 7 = .ok (.getfield 58, 3) := by decide +kernel
theorem dX12_odds_10 : decode cX12_odds 10 = .ok (.iconst 1, 1) := by decide +kernel
theorem dX12_odds_11 : decode cX12_odds 11 = .ok (.iaload, 1) := by decide +kernel
theorem dX12_odds_12 : decode cX12_odds 12 = .ok (.iadd, 1) := by decide +kernel
theorem dX12_odds_13 : decode cX12_odds 13 = .ok (.aload_n 0, 1) := by decide +kernel
theorem dX12_odds_14 : decode cX12_odds 14 = .ok (.getfield 58, 3) := by decide +kernel
theorem dX12_odds_17 : decode cX12_odds 17 = .ok (.iconst 2, 1) := by decide +kernel
theorem dX12_odds_18 : decode cX12_odds 18 = .ok (.iaload, 1) := by decide +kernel
theorem dX12_odds_19 : decode cX12_odds 19 = .ok (.iadd, 1) := by decide +kernel
theorem dX12_odds_20 : decode cX12_odds 20 = .ok (.istore_n 2, 1) := by decide +kernel
theorem dX12_odds_21 : decode cX12_odds 21 = .ok (.aload_n 0, 1) := by decide +kernel
theorem dX12_odds_22 : decode cX12_odds 22 = .ok (.getfield 61, 3) := by decide +kernel
theorem dX12_odds_25 : decode cX12_odds 25 = .ok (.iconst 0, 1) := by decide +kernel
theorem dX12_odds_26 : decode cX12_odds 26 = .ok (.iaload, 1) := by decide +kernel
theorem dX12_odds_27 : decode cX12_odds 27 = .ok (.aload_n 0, 1) := by decide +kernel
theorem dX12_odds_28 : decode cX12_odds 28 = .ok (.getfield 61, 3) := by decide +kernel
theorem dX12_odds_31 : decode cX12_odds 31 = .ok (.iconst 1, 1) := by decide +kernel
theorem dX12_odds_32 : decode cX12_odds 32 = .ok (.iaload, 1) := by decide +kernel
theorem dX12_odds_33 : decode cX12_odds 33 = .ok (.iadd, 1) := by decide +kernel
theorem dX12_odds_34 : decode cX12_odds 34 = .ok (.aload_n 0, 1) := by decide +kernel
theorem dX12_odds_35 : decode cX12_odds 35 = .ok (.getfield 61, 3) := by decide +kernel
theorem dX12_odds_38 : decode cX12_odds 38 = .ok (.iconst 2, 1) := by decide +kernel
theorem dX12_odds_39 : decode cX12_odds 39 = .ok (.iaload, 1) := by decide +kernel
theorem dX12_odds_40 : decode cX12_odds 40 = .ok (.iadd, 1) := by decide +kernel
theorem dX12_odds_41 : decode cX12_odds 41 = .ok (.istore_n 3, 1) := by decide +kernel
theorem dX12_odds_42 : decode cX12_odds 42 = .ok (.aload_n 0, 1) := by decide +kernel
theorem dX12_odds_43 : decode cX12_odds 43 = .ok (.aload_n 0, 1) := by decide +kernel
theorem dX12_odds_44 : decode cX12_odds 44 = .ok (.iconst 0, 1) := by decide +kernel
theorem dX12_odds_45 : decode cX12_odds 45 = .ok (.invokevirtual 318, 3) := by decide +kernel
theorem dX12_odds_48 : decode cX12_odds 48 = .ok (.iload_n 2, 1) := by decide +kernel
theorem dX12_odds_49 : decode cX12_odds 49 = .ok (.if_icmp .ge 11, 3) := by decide +kernel
theorem dX12_odds_52 : decode cX12_odds 52 = .ok (.aload_n 0, 1) := by decide +kernel
theorem dX12_odds_53 : decode cX12_odds 53 = .ok (.iconst 0, 1) := by decide +kernel
theorem dX12_odds_54 : decode cX12_odds 54 = .ok (.invokevirtual 318, 3) := by decide +kernel
theorem dX12_odds_57 : decode cX12_odds 57 = .ok (.goto 4, 3) := by decide +kernel
theorem dX12_odds_60 : decode cX12_odds 60 = .ok (.iload_n 2, 1) := by decide +kernel
theorem dX12_odds_61 : decode cX12_odds 61 = .ok (.putfield 321, 3) := by decide +kernel
theorem dX12_odds_64 : decode cX12_odds 64 = .ok (.aload_n 0, 1) := by decide +kernel
theorem dX12_odds_65 : decode cX12_odds 65 = .ok (.aload_n 0, 1) := by decide +kernel
theorem dX12_odds_66 : decode cX12_odds 66 = .ok (.iconst 1, 1) := by decide +kernel
theorem dX12_odds_67 : decode cX12_odds 67 = .ok (.invokevirtual 318, 3) := by decide +kernel
theorem dX12_odds_70 : decode cX12_odds 70 = .ok (.aload_n 0, 1) := by decide +kernel
theorem dX12_odds_71 : decode cX12_odds 71 = .ok (.getfield 321, 3) := by decide +kernel
theorem dX12_odds_74 : decode cX12_odds 74 = .ok (.if_icmp .ge 11, 3) := by decide +kernel
theorem dX12_odds_77 : decode cX12_odds 77 = .ok (.aload_n 0, 1) := by decide +kernel
theorem dX12_odds_78 : decode cX12_odds 78 = .ok (.iconst 1, 1) := by decide +kernel
theorem dX12_odds_79 : decode cX12_odds 79 = .ok (.invokevirtual 318, 3) := by decide +kernel
theorem dX12_odds_82 : decode cX12_odds 82 = .ok (.goto 7, 3) := by decide +kernel
theorem dX12_odds_85 : decode cX12_odds 85 = .ok (.aload_n 0, 1) := by decide +kernel
theorem dX12_odds_86 : decode cX12_odds 86 = .ok (.getfield 321, 3) := by decide +kernel
theorem dX12_odds_89 : decode cX12_odds 89 = .ok (.putfield 308, 3) := by decide +kernel
theorem dX12_odds_92 : decode cX12_odds 92 = .ok (.iconst 0, 1) := by decide +kernel
theorem dX12_odds_93 : decode cX12_odds 93 = .ok (.istore 4, 2) := by decide +kernel
theorem dX12_odds_95 : decode cX12_odds 95 = .ok (.iload 4, 2) := by decide +kernel
theorem dX12_odds_97 : decode cX12_odds 97 = .ok (.iconst 4, 1) := by decide +kernel
theorem dX12_odds_98 : decode cX12_odds 98 = .ok (.if_icmp .ge 17, 3) := by decide +kernel
theorem dX12_odds_101 : decode cX12_odds 101 = .ok (.aload_n 0, 1) := by decide +kernel
theorem dX12_odds_102 : decode cX12_odds 102 = .ok (.getfield 71, 3) := by decide +kernel
theorem dX12_odds_105 : decode cX12_odds 105 = .ok (.iload 4, 2) := by decide +kernel
theorem dX12_odds_107 : decode cX12_odds 107 = .ok (.lconst 0, 1) := by decide +kernel
theorem dX12_odds_108 : decode cX12_odds 108 = .ok (.lastore, 1) := by decide +kernel
theorem dX12_odds_109 : decode cX12_odds 109 = .ok (.iinc 4 1, 3) := by decide +kernel
theorem dX12_odds_112 : decode cX12_odds 112 = .ok (.goto (-17), 3) := by decide +kernel
theorem dX12_odds_115 : decode cX12_odds 115 = .ok (.aload_n 0, 1) := by decide +kernel
theorem dX12_odds_116 : decode cX12_odds 116 = .ok (.iload_n 2, 1) := by decide +kernel
theorem dX12_odds_117 : decode cX12_odds 117 = .ok (.aload_n 0, 1) := by decide +kernel
theorem dX12_odds_118 : decode cX12_odds 118 = .ok (.getfield 321, 3) := by decide +kernel
theorem dX12_odds_121 : decode cX12_odds 121 = .ok (.invokestatic 311, 3) := by decide +kernel
theorem dX12_odds_124 : decode cX12_odds 124 = .ok (.putfield 324, 3) := by decide +kernel
theorem dX12_odds_127 : decode cX12_odds 127 = .ok (.iconst 0, 1) := by decide +kernel
theorem dX12_odds_128 : decode cX12_odds 128 = .ok (.istore 4, 2) := by decide +kernel
theorem dX12_odds_130 : decode cX12_odds 130 = .ok (.iload 4, 2) := by decide +kernel
theorem dX12_odds_132 : decode cX12_odds 132 = .ok (.aload_n 0, 1) := by decide +kernel
theorem dX12_odds_133 : decode cX12_odds 133 = .ok (.getfield 308, 3) := by decide +kernel
theorem dX12_odds_136 : decode cX12_odds 136 = .ok (.if_icmp .ge 21, 3) := by decide +kernel
theorem dX12_odds_139 : decode cX12_odds 139 = .ok (.aload_n 0, 1) := by decide +kernel
theorem dX12_odds_140 : decode cX12_odds 140 = .ok (.aload_n 0, 1) := by decide +kernel
theorem dX12_odds_141 : decode cX12_odds 141 = .ok (.getfield 324, 3) := by decide +kernel
theorem dX12_odds_144 : decode cX12_odds 144 = .ok (.ldc2_w 328, 3) := by decide +kernel
theorem dX12_odds_147 : decode cX12_odds 147 = .ok (.lmul, 1) := by decide +kernel
theorem dX12_odds_148 : decode cX12_odds 148 = .ok (.putfield 324, 3) := by decide +kernel
theorem dX12_odds_151 : decode cX12_odds 151 = .ok (.iinc 4 1, 3) := by decide +kernel
theorem dX12_odds_154 : decode cX12_odds 154 = .ok (.goto (-24), 3) := by decide +kernel
theorem dX12_odds_157 : decode cX12_odds 157 = .ok (.iload_n 1, 1) := by decide +kernel
theorem dX12_odds_158 : decode cX12_odds 158 = .ok (.ifCond .le 20, 3) := by decide +kernel
theorem dX12_odds_161 : decode cX12_odds 161 = .ok (.iload_n 3, 1) := by decide +kernel
theorem dX12_odds_162 : decode cX12_odds 162 = .ok (.ifCond .le 16, 3) := by decide +kernel
theorem dX12_odds_165 : decode cX12_odds 165 = .ok (.aload_n 0, 1) := by decide +kernel
theorem dX12_odds_166 : decode cX12_odds 166 = .ok (.iconst 0, 1) := by decide +kernel
theorem dX12_odds_167 : decode cX12_odds 167 = .ok (.invokevirtual 318, 3) := by decide +kernel
theorem dX12_odds_170 : decode cX12_odds 170 = .ok (.iload_n 2, 1) := by decide +kernel
theorem dX12_odds_171 : decode cX12_odds 171 = .ok (.if_icmp .ge 7, 3) := by decide +kernel
theorem dX12_odds_174 : decode cX12_odds 174 = .ok (.iconst 1, 1) := by decide +kernel
theorem dX12_odds_175 : decode cX12_odds 175 = .ok (.goto 4, 3) := by decide +kernel
theorem dX12_odds_178 : decode cX12_odds 178 = .ok (.iconst 0, 1) := by decide +kernel
theorem dX12_odds_179 : decode cX12_odds 179 = .ok (.istore 4, 2) := by decide +kernel
theorem dX12_odds_181 : decode cX12_odds 181 = .ok (.iload 4, 2) := by decide +kernel
theorem dX12_odds_183 : decode cX12_odds 183 = .ok (.ifCond .ne 14, 3) := by decide +kernel
theorem dX12_odds_186 : decode cX12_odds 186 = .ok (.aload_n 0, 1) := by decide +kernel
theorem dX12_odds_187 : decode cX12_odds 187 = .ok (.aload_n 0, 1) := by decide +kernel
theorem dX12_odds_188 : decode cX12_odds 188 = .ok (.getfield 321, 3) := by decide +kernel
theorem dX12_odds_191 : decode cX12_odds 191 = .ok (.iconst (-1), 1) := by decide +kernel
theorem dX12_odds_192 : decode cX12_odds 192 = .ok (.lconst 1, 1) := by decide +kernel
theorem dX12_odds_193 : decode cX12_odds 193 = .ok (.invokevirtual 330, 3) := by decide +kernel
theorem dX12_odds_196 : decode cX12_odds 196 = .ok (.return_, 1) := by decide +kernel
theorem dX12_odds_197 : decode cX12_odds 197 = .ok (.aload_n 0, 1) := by decide +kernel
theorem dX12_odds_198 : decode cX12_odds 198 = .ok (.aload_n 0, 1) := by decide +kernel
theorem dX12_odds_199 : decode cX12_odds 199 = .ok (.getfield 324, 3) := by decide +kernel
theorem dX12_odds_202 : decode cX12_odds 202 = .ok (.ldc2_w 328, 3) := by decide +kernel
theorem dX12_odds_205 : decode cX12_odds 205 = .ok (.lmul, 1) := by decide +kernel
theorem dX12_odds_206 : decode cX12_odds 206 = .ok (.iload_n 3, 1) := by decide +kernel
theorem dX12_odds_207 : decode cX12_odds 207 = .ok (.i2l, 1) := by decide +kernel
theorem dX12_odds_208 : decode cX12_odds 208 = .ok (.lmul, 1) := by decide +kernel
theorem dX12_odds_209 : decode cX12_odds 209 = .ok (.aload_n 0, 1) := by decide +kernel
theorem dX12_odds_210 : decode cX12_odds 210 = .ok (.getfield 321, 3) := by decide +kernel
theorem dX12_odds_213 : decode cX12_odds 213 = .ok (.i2l, 1) := by decide +kernel
theorem dX12_odds_214 : decode cX12_odds 214 = .ok (.lmul, 1) := by decide +kernel
theorem dX12_odds_215 : decode cX12_odds 215 = .ok (.putfield 324, 3) := by decide +kernel
theorem dX12_odds_218 : decode cX12_odds 218 = .ok (.aload_n 0, 1) := by decide +kernel
theorem dX12_odds_219 : decode cX12_odds 219 = .ok (.aload_n 0, 1) := by decide +kernel
theorem dX12_odds_220 : decode cX12_odds 220 = .ok (.getfield 321, 3) := by decide +kernel
theorem dX12_odds_223 : decode cX12_odds 223 = .ok (.iconst (-1), 1) := by decide +kernel
theorem dX12_odds_224 : decode cX12_odds 224 = .ok (.bipush 100, 2) := by decide +kernel
theorem dX12_odds_226 : decode cX12_odds 226 = .ok (.iload_n 1, 1) := by decide +kernel
theorem dX12_odds_227 : decode cX12_odds 227 = .ok (.isub, 1) := by decide +kernel
theorem dX12_odds_228 : decode cX12_odds 228 = .ok (.i2l, 1) := by decide +kernel
theorem dX12_odds_229 : decode cX12_odds 229 = .ok (.iload_n 3, 1) := by decide +kernel
theorem dX12_odds_230 : decode cX12_odds 230 = .ok (.i2l, 1) := by decide +kernel
theorem dX12_odds_231 : decode cX12_odds 231 = .ok (.lmul, 1) := by decide +kernel
theorem dX12_odds_232 : decode cX12_odds 232 = .ok (.aload_n 0, 1) := by decide +kernel
theorem dX12_odds_233 : decode cX12_odds 233 = .ok (.getfield 321, 3) := by decide +kernel
theorem dX12_odds_236 : decode cX12_odds 236 = .ok (.i2l, 1) := by decide +kernel
theorem dX12_odds_237 : decode cX12_odds 237 = .ok (.lmul, 1) := by decide +kernel
theorem dX12_odds_238 : decode cX12_odds 238 = .ok (.invokevirtual 330, 3) := by decide +kernel
theorem dX12_odds_241 : decode cX12_odds 241 = .ok (.iconst 0, 1) := by decide +kernel
theorem dX12_odds_242 : decode cX12_odds 242 = .ok (.istore 5, 2) := by decide +kernel
theorem dX12_odds_244 : decode cX12_odds 244 = .ok (.iload 5, 2) := by decide +kernel
theorem dX12_odds_246 : decode cX12_odds 246 = .ok (.iconst 3, 1) := by decide +kernel
theorem dX12_odds_247 : decode cX12_odds 247 = .ok (.if_icmp .ge 70, 3) := by decide +kernel
theorem dX12_odds_250 : decode cX12_odds 250 = .ok (.aload_n 0, 1) := by decide +kernel
theorem dX12_odds_251 : decode cX12_odds 251 = .ok (.getfield 61, 3) := by decide +kernel
theorem dX12_odds_254 : decode cX12_odds 254 = .ok (.iload 5, 2) := by decide +kernel
theorem dX12_odds_256 : decode cX12_odds 256 = .ok (.iaload, 1) := by decide +kernel
theorem dX12_odds_257 : decode cX12_odds 257 = .ok (.ifCond .ne 6, 3) := by decide +kernel
theorem dX12_odds_260 : decode cX12_odds 260 = .ok (.goto 51, 3) := by decide +kernel
theorem dX12_odds_263 : decode cX12_odds 263 = .ok (.aload_n 0, 1) := by decide +kernel
theorem dX12_odds_264 : decode cX12_odds 264 = .ok (.getfield 58, 3) := by decide +kernel
theorem dX12_odds_267 : decode cX12_odds 267 = .ok (.iload 5, 2) := by decide +kernel
theorem dX12_odds_269 : decode cX12_odds 269 = .ok (.dup2, 1) := by decide +kernel
theorem dX12_odds_270 : decode cX12_odds 270 = .ok (.iaload, 1) := by decide +kernel
theorem dX12_odds_271 : decode cX12_odds 271 = .ok (.iconst 1, 1) := by decide +kernel
theorem dX12_odds_272 : decode cX12_odds 272 = .ok (.isub, 1) := by decide +kernel
theorem dX12_odds_273 : decode cX12_odds 273 = .ok (.iastore, 1) := by decide +kernel
theorem dX12_odds_274 : decode cX12_odds 274 = .ok (.aload_n 0, 1) := by decide +kernel
theorem dX12_odds_275 : decode cX12_odds 275 = .ok (.aload_n 0, 1) := by decide +kernel
theorem dX12_odds_276 : decode cX12_odds 276 = .ok (.getfield 321, 3) := by decide +kernel
theorem dX12_odds_279 : decode cX12_odds 279 = .ok (.iconst 1, 1) := by decide +kernel
theorem dX12_odds_280 : decode cX12_odds 280 = .ok (.isub, 1) := by decide +kernel
theorem dX12_odds_281 : decode cX12_odds 281 = .ok (.iload 5, 2) := by decide +kernel
theorem dX12_odds_283 : decode cX12_odds 283 = .ok (.iload_n 1, 1) := by decide +kernel
theorem dX12_odds_284 : decode cX12_odds 284 = .ok (.i2l, 1) := by decide +kernel
theorem dX12_odds_285 : decode cX12_odds 285 = .ok (.aload_n 0, 1) := by decide +kernel
theorem dX12_odds_286 : decode cX12_odds 286 = .ok (.getfield 61, 3) := by decide +kernel
theorem dX12_odds_289 : decode cX12_odds 289 = .ok (.iload 5, 2) := by decide +kernel
theorem dX12_odds_291 : decode cX12_odds 291 = .ok (.iaload, 1) := by decide +kernel
theorem dX12_odds_292 : decode cX12_odds 292 = .ok (.i2l, 1) := by decide +kernel
theorem dX12_odds_293 : decode cX12_odds 293 = .ok (.lmul, 1) := by decide +kernel
theorem dX12_odds_294 : decode cX12_odds 294 = .ok (.iload_n 2, 1) := by decide +kernel
theorem dX12_odds_295 : decode cX12_odds 295 = .ok (.i2l, 1) := by decide +kernel
theorem dX12_odds_296 : decode cX12_odds 296 = .ok (.lmul, 1) := by decide +kernel
theorem dX12_odds_297 : decode cX12_odds 297 = .ok (.invokevirtual 330, 3) := by decide +kernel
theorem dX12_odds_300 : decode cX12_odds 300 = .ok (.aload_n 0, 1) := by decide +kernel
theorem dX12_odds_301 : decode cX12_odds 301 = .ok (.getfield 58, 3) := by decide +kernel
theorem dX12_odds_304 : decode cX12_odds 304 = .ok (.iload 5, 2) := by decide +kernel
theorem dX12_odds_306 : decode cX12_odds 306 = .ok (.dup2, 1) := by decide +kernel
theorem dX12_odds_307 : decode cX12_odds 307 = .ok (.iaload, 1) := by decide +kernel
theorem dX12_odds_308 : decode cX12_odds 308 = .ok (.iconst 1, 1) := by decide +kernel
theorem dX12_odds_309 : decode cX12_odds 309 = .ok (.iadd, 1) := by decide +kernel
theorem dX12_odds_310 : decode cX12_odds 310 = .ok (.iastore, 1) := by decide +kernel
theorem dX12_odds_311 : decode cX12_odds 311 = .ok (.iinc 5 1, 3) := by decide +kernel
theorem dX12_odds_314 : decode cX12_odds 314 = .ok (.goto (-70), 3) := by decide +kernel
theorem dX12_odds_317 : decode cX12_odds 317 = .ok (.return_, 1) := by decide +kernel
abbrev YX12_odds : zY := (yX12_odds, cX12_odds, 6, none, [])
def fX12_odds_311 (F : zFs) (k_244 : Int → zDa → Option zDa) (o1 : Int) (o2 : Int) (v5 : Int) (D : zDa) : Option zDa :=
  if (-2147483648 ≤ v5 + 1 ∧ v5 + 1 ≤ 2147483647) then
    k_244 (v5 + 1) D
  else none
def fX12_odds_244 (F : zFs) (o1 : Int) (o2 : Int)  (k_244 : Int → zDa → Option zDa) (v5 : Int) (D : zDa) : Option zDa :=
  if v5 < 3 then
    if (0 ≤ v5 ∧ v5 < 3) then
      if (D 105 v5.toNat) = 0 then
        fX12_odds_311 F k_244 o1 o2 v5 D
      else
        if (-2147483648 ≤ (D 104 v5.toNat) - 1 ∧ (D 104 v5.toNat) - 1 ≤ 2147483647) then
          zlet (zwr D 104 v5.toNat ((D 104 v5.toNat) - 1)) (fun D_25 =>
            if (-2147483648 ≤ (D_25 91 28) - 1 ∧ (D_25 91 28) - 1 ≤ 2147483647) ∧ (-9223372036854775808 ≤ o1 * (D_25 105 v5.toNat) ∧ o1 * (D_25 105 v5.toNat) ≤ 9223372036854775807) ∧ (-9223372036854775808 ≤ (o1 * (D_25 105 v5.toNat)) * o2 ∧ (o1 * (D_25 105 v5.toNat)) * o2 ≤ 9223372036854775807) then
              (fX12_lots F ((D_25 91 28) - 1) v5 ((o1 * (D_25 105 v5.toNat)) * o2) D_25).bind (fun D_27 =>
                if (-2147483648 ≤ (D_27 104 v5.toNat) + 1 ∧ (D_27 104 v5.toNat) + 1 ≤ 2147483647) then
                  zlet (zwr D_27 104 v5.toNat ((D_27 104 v5.toNat) + 1)) (fun D_28 =>
                    fX12_odds_311 F k_244 o1 o2 v5 D_28)
                else none)
            else none)
        else none
    else none
  else
    some D
def fX12_odds_179 (F : zFs)  (o1 : Int) (o2 : Int) (o3 : Int) (s0 : Int) (D : zDa) : Option zDa :=
  if s0 = 0 then
    (fX12_lots F (D 91 28) (-1) 1 D).bind (fun D_21 =>
      some D_21)
  else
    if (-9223372036854775808 ≤ (D 91 30) * 100 ∧ (D 91 30) * 100 ≤ 9223372036854775807) ∧ (-9223372036854775808 ≤ ((D 91 30) * 100) * o3 ∧ ((D 91 30) * 100) * o3 ≤ 9223372036854775807) ∧ (-9223372036854775808 ≤ (((D 91 30) * 100) * o3) * (D 91 28) ∧ (((D 91 30) * 100) * o3) * (D 91 28) ≤ 9223372036854775807) then
      zlet (zwr D 91 30 ((((D 91 30) * 100) * o3) * (D 91 28))) (fun D_22 =>
        if (-2147483648 ≤ 100 - o1 ∧ 100 - o1 ≤ 2147483647) ∧ (-9223372036854775808 ≤ (100 - o1) * o3 ∧ (100 - o1) * o3 ≤ 9223372036854775807) ∧ (-9223372036854775808 ≤ ((100 - o1) * o3) * (D_22 91 28) ∧ ((100 - o1) * o3) * (D_22 91 28) ≤ 9223372036854775807) then
          (fX12_lots F (D_22 91 28) (-1) (((100 - o1) * o3) * (D_22 91 28)) D_22).bind (fun D_24 =>
            zfix (fun _ _ => none) (fX12_odds_244 F o1 o2) zfu 0 D_24)
        else none)
    else none
def fX12_odds_178 (F : zFs)  (o1 : Int) (o2 : Int) (o3 : Int) (D : zDa) : Option zDa :=
  fX12_odds_179 F o1 o2 o3 0 D
def fX12_odds_130 (F : zFs) (o1 : Int) (o2 : Int) (o3 : Int)  (k_130 : Int → zDa → Option zDa) (v4 : Int) (D : zDa) : Option zDa :=
  if v4 < (D 91 29) then
    if (-9223372036854775808 ≤ (D 91 30) * 100 ∧ (D 91 30) * 100 ≤ 9223372036854775807) then
      zlet (zwr D 91 30 ((D 91 30) * 100)) (fun D_17 =>
        if (-2147483648 ≤ v4 + 1 ∧ v4 + 1 ≤ 2147483647) then
          k_130 (v4 + 1) D_17
        else none)
    else none
  else
    if 0 < o1 then
      if 0 < o3 then
        (fX12_term F 0 D).bind (fun (r_18, D_19) =>
          if r_18 < o2 then
            fX12_odds_179 F o1 o2 o3 1 D_19
          else
            fX12_odds_178 F o1 o2 o3 D_19)
      else
        fX12_odds_178 F o1 o2 o3 D
    else
      fX12_odds_178 F o1 o2 o3 D
def fX12_odds_95 (F : zFs) (o1 : Int) (o2 : Int) (o3 : Int)  (k_95 : Int → zDa → Option zDa) (v4 : Int) (D : zDa) : Option zDa :=
  if v4 < 4 then
    if (0 ≤ v4 ∧ v4 < 4) then
      zlet (zwr D 108 v4.toNat 0) (fun D_13 =>
        if (-2147483648 ≤ v4 + 1 ∧ v4 + 1 ≤ 2147483647) then
          k_95 (v4 + 1) D_13
        else none)
    else none
  else
    (fX12_choose F o2 (D 91 28) D).bind (fun (r_14, D_15) =>
      zlet (zwr D_15 91 30 r_14) (fun D_16 =>
        zfix (fun _ _ => none) (fX12_odds_130 F o1 o2 o3) zfu 0 D_16))
def fX12_odds_89 (F : zFs)  (v1 : Int) (v2 : Int) (v3 : Int) (s0 : Int) (D : zDa) : Option zDa :=
  zlet (zwr D 91 29 s0) (fun D_12 =>
    zfix (fun _ _ => none) (fX12_odds_95 F v1 v2 v3) zfu 0 D_12)
def fX12_odds_61 (F : zFs)  (v1 : Int) (v2 : Int) (v3 : Int) (s0 : Int) (D : zDa) : Option zDa :=
  zlet (zwr D 91 28 s0) (fun D_7 =>
    (fX12_term F 1 D_7).bind (fun (r_8, D_9) =>
      if r_8 < (D_9 91 28) then
        (fX12_term F 1 D_9).bind (fun (r_10, D_11) =>
          fX12_odds_89 F v1 v2 v3 r_10 D_11)
      else
        fX12_odds_89 F v1 v2 v3 (D_9 91 28) D_9))
def fX12_odds (F : zFs) (v1 : Int) (D : zDa) : Option zDa :=
  if (-2147483648 ≤ (D 104 0) + (D 104 1) ∧ (D 104 0) + (D 104 1) ≤ 2147483647) ∧ (-2147483648 ≤ ((D 104 0) + (D 104 1)) + (D 104 2) ∧ ((D 104 0) + (D 104 1)) + (D 104 2) ≤ 2147483647) then
    zlet ((((D 104 0) + (D 104 1)) + (D 104 2))) (fun x2_1 =>
      if (-2147483648 ≤ (D 105 0) + (D 105 1) ∧ (D 105 0) + (D 105 1) ≤ 2147483647) ∧ (-2147483648 ≤ ((D 105 0) + (D 105 1)) + (D 105 2) ∧ ((D 105 0) + (D 105 1)) + (D 105 2) ≤ 2147483647) then
        zlet ((((D 105 0) + (D 105 1)) + (D 105 2))) (fun x3_2 =>
          (fX12_term F 0 D).bind (fun (r_3, D_4) =>
            if r_3 < x2_1 then
              (fX12_term F 0 D_4).bind (fun (r_5, D_6) =>
                fX12_odds_61 F v1 x2_1 x3_2 r_5 D_6)
            else
              fX12_odds_61 F v1 x2_1 x3_2 x2_1 D_4))
      else none)
  else none
set_option maxHeartbeats 20000000 in
theorem sX12_odds_311 {l : Launch} {E : zE} {d : Nat} {F : zFs} {n sl : Nat} (hG : zG F)  (o1 : Int) (o2 : Int) (v5 : Int) (k_244 : Int → zDa → Option zDa) (hk_244 : ∀ (u5 : Int) (D : zDa), zO l E (d + 2) YX12_odds 244 [(0, zR 91), (1, zI o1), (2, zI o2), (5, zI u5)] [] (F, D, n, sl) (zcV F n sl) (k_244 u5 D)) (D : zDa) : zO l E (d + 2) YX12_odds 311 [(0, zR 91), (1, zI o1), (2, zI o2), (5, zI v5)] [] (F, D, n, sl) (zcV F n sl) (fX12_odds_311 F k_244 o1 o2 v5 D) := by
  unfold fX12_odds_311
  refine zO_chk (fun h10 => ?_)
  refine zO_iinc dX12_odds_311 rfl h10 (by decide) ?_
  refine zO_ls (ls' := [(0, zR 91), (1, zI o1), (2, zI o2), (5, zI (v5 + 1))]) rfl ?_
  refine zO_goto (tgt := 244) dX12_odds_314 rfl ?_
  refine zO_live [0, 1, 2, 5] ?_
  exact hk_244 (v5 + 1) D
set_option maxHeartbeats 20000000 in
theorem sX12_odds_244 {l : Launch} {E : zE} {d : Nat} {F : zFs} {n sl : Nat} (hG : zG F)  (o1 : Int) (o2 : Int)   : ∀ (N : Nat) (v5 : Int) (D : zDa), zO l E (d + 2) YX12_odds 244 [(0, zR 91), (1, zI o1), (2, zI o2), (5, zI v5)] [] (F, D, n, sl) (zcV F n sl) (zfix (fun _ _ => none) (fX12_odds_244 F o1 o2) N v5 D) := by
  intro N
  induction N with
  | zero => intro v5 D; exact zO_none
  | succ N hk_244 =>
    intro v5 D
    show zO _ _ _ _ _ _ _ _ _ ((fX12_odds_244 F o1 o2) (zfix (fun _ _ => none) (fX12_odds_244 F o1 o2) N) v5 D)
    unfold fX12_odds_244
    refine zO_iload dX12_odds_244 rfl ?_
    refine zO_iconst dX12_odds_246 (by decide) ?_
    refine zO_icmp_ge (tgt := 317) dX12_odds_247 rfl (fun c247 => ?_) (fun c247 => ?_)
    · refine zO_chk (fun h9 => ?_)
      refine zO_aload_n dX12_odds_250 rfl (zR_P _) ?_
      refine gt12 (k := 24) dX12_odds_251 wF_X12_61 (by decide) (gk_91 hG) (zgv (c := 12) (k := 24) rfl (Or.inl ⟨_, rfl⟩) (gf_91_24 hG)) ?_
      refine zO_iload dX12_odds_254 rfl ?_
      refine zO_iald dX12_odds_256 (gk_105 hG) (gl_in (gl_105 hG) h9) ?_
      refine zO_if_ne (tgt := 263) dX12_odds_257 rfl (fun c257 => ?_) (fun c257 => ?_)
      · refine zO_goto (tgt := 311) dX12_odds_260 rfl ?_
        refine zO_live [0, 1, 2, 5] ?_
        exact sX12_odds_311 hG o1 o2 v5 _ hk_244 D
      · refine zO_chk (fun h11 => ?_)
        refine zO_aload_n dX12_odds_263 rfl (zR_P _) ?_
        refine gt12 (k := 23) dX12_odds_264 wF_X12_58 (by decide) (gk_91 hG) (zgv (c := 12) (k := 23) rfl (Or.inl ⟨_, rfl⟩) (gf_91_23 hG)) ?_
        refine zO_iload dX12_odds_267 rfl ?_
        refine zO_dup2a dX12_odds_269 (rfl) (rfl) ?_
        refine zO_iald dX12_odds_270 (gk_104 hG) (gl_in (gl_104 hG) h9) ?_
        refine zO_iconst dX12_odds_271 (by decide) ?_
        refine zO_isub dX12_odds_272 h11 ?_
        refine zO_iast dX12_odds_273 (gk_104 hG) (gl_in (gl_104 hG) h9) ?_
        refine zO_letD (fun D_25 eD_25 => ?_)
        refine zO_chk (fun h12 => ?_)
        refine zO_aload_n dX12_odds_274 rfl (zR_P _) ?_
        refine zO_aload_n dX12_odds_275 rfl (zR_P _) ?_
        refine gt12 (k := 28) (v := zI (D_25 91 28)) dX12_odds_276 wF_X12_321 (by decide) (gk_91 hG) rfl ?_
        refine zO_iconst dX12_odds_279 (by decide) ?_
        refine zO_isub dX12_odds_280 h12.1 ?_
        refine zO_iload dX12_odds_281 rfl ?_
        refine zO_iload_n dX12_odds_283 rfl ?_
        refine zO_i2l dX12_odds_284 ?_
        refine zO_aload_n dX12_odds_285 rfl (zR_P _) ?_
        refine gt12 (k := 24) dX12_odds_286 wF_X12_61 (by decide) (gk_91 hG) (zgv (c := 12) (k := 24) rfl (Or.inl ⟨_, rfl⟩) (gf_91_24 hG)) ?_
        refine zO_iload dX12_odds_289 rfl ?_
        refine zO_iald dX12_odds_291 (gk_105 hG) (gl_in (gl_105 hG) h9) ?_
        refine zO_i2l dX12_odds_292 ?_
        refine zO_lmul dX12_odds_293 h12.2.1 ?_
        refine zO_iload_n dX12_odds_294 rfl ?_
        refine zO_i2l dX12_odds_295 ?_
        refine zO_lmul dX12_odds_296 h12.2.2 ?_
        refine zO_callV (Y' := YX12_lots) (cw := zcV F n sl) (as := [zI ((D_25 91 28) - 1), zI v5, zL ((o1 * (D_25 105 v5.toNat)) * o2)]) (rest := []) (na := 3) (ci := 12) rfl dX12_odds_297 wC_X12_lots wN_X12 wM_X12_330 wI_X12_lots wV_X12_lots (by decide) (by decide) rfl rfl (Nat.le_of_ble_eq_true rfl) rfl (by decide) (gk_91 hG) (fun r hr => zMet_cast (Nat.add_assoc d 0 1) (mX12_lots (d := d + 0) hG ((D_25 91 28) - 1) v5 ((o1 * (D_25 105 v5.toNat)) * o2) r hr)) ?_
        intro D_27 _
        show zO _ _ _ _ _ _ [] (F, D_27, n, sl) _ _
        refine zO_chk (fun h13 => ?_)
        refine zO_aload_n dX12_odds_300 rfl (zR_P _) ?_
        refine gt12 (k := 23) dX12_odds_301 wF_X12_58 (by decide) (gk_91 hG) (zgv (c := 12) (k := 23) rfl (Or.inl ⟨_, rfl⟩) (gf_91_23 hG)) ?_
        refine zO_iload dX12_odds_304 rfl ?_
        refine zO_dup2a dX12_odds_306 (rfl) (rfl) ?_
        refine zO_iald dX12_odds_307 (gk_104 hG) (gl_in (gl_104 hG) h9) ?_
        refine zO_iconst dX12_odds_308 (by decide) ?_
        refine zO_iadd dX12_odds_309 h13 ?_
        refine zO_iast dX12_odds_310 (gk_104 hG) (gl_in (gl_104 hG) h9) ?_
        refine zO_letD (fun D_28 eD_28 => ?_)
        refine zO_live [0, 1, 2, 5] ?_
        exact sX12_odds_311 hG o1 o2 v5 _ hk_244 D_28
    · exact zO_ret (rv := none) dX12_odds_317 rfl trivial rfl
set_option maxHeartbeats 20000000 in
theorem sX12_odds_179 {l : Launch} {E : zE} {d : Nat} {F : zFs} {n sl : Nat} (hG : zG F)  (o1 : Int) (o2 : Int) (o3 : Int) (s0 : Int)   (D : zDa) : zO l E (d + 2) YX12_odds 179 [(0, zR 91), (1, zI o1), (2, zI o2), (3, zI o3)] [zI s0] (F, D, n, sl) (zcV F n sl) (fX12_odds_179 F o1 o2 o3 s0 D) := by
  unfold fX12_odds_179
  refine zO_istore dX12_odds_179 (by decide) ?_
  refine zO_ls (ls' := [(0, zR 91), (1, zI o1), (2, zI o2), (3, zI o3), (4, zI s0)]) rfl ?_
  refine zO_iload dX12_odds_181 rfl ?_
  refine zO_if_ne (tgt := 197) dX12_odds_183 rfl (fun c183 => ?_) (fun c183 => ?_)
  · refine zO_aload_n dX12_odds_186 rfl (zR_P _) ?_
    refine zO_aload_n dX12_odds_187 rfl (zR_P _) ?_
    refine gt12 (k := 28) (v := zI (D 91 28)) dX12_odds_188 wF_X12_321 (by decide) (gk_91 hG) rfl ?_
    refine zO_iconst dX12_odds_191 (by decide) ?_
    refine zO_lconst dX12_odds_192 ?_
    refine zO_callV (Y' := YX12_lots) (cw := zcV F n sl) (as := [zI (D 91 28), zI (-1), zL 1]) (rest := []) (na := 3) (ci := 12) rfl dX12_odds_193 wC_X12_lots wN_X12 wM_X12_330 wI_X12_lots wV_X12_lots (by decide) (by decide) rfl rfl (Nat.le_of_ble_eq_true rfl) rfl (by decide) (gk_91 hG) (fun r hr => zMet_cast (Nat.add_assoc d 0 1) (mX12_lots (d := d + 0) hG (D 91 28) (-1) 1 r hr)) ?_
    intro D_21 _
    show zO _ _ _ _ _ _ [] (F, D_21, n, sl) _ _
    exact zO_ret (rv := none) dX12_odds_196 rfl trivial rfl
  · refine zO_chk (fun h7 => ?_)
    refine zO_aload_n dX12_odds_197 rfl (zR_P _) ?_
    refine zO_aload_n dX12_odds_198 rfl (zR_P _) ?_
    refine gt12 (k := 30) (v := zL (D 91 30)) dX12_odds_199 wF_X12_324 (by decide) (gk_91 hG) rfl ?_
    refine zO_ldc2 (n := 100) dX12_odds_202 wK_X12_328 (by decide) ?_
    refine zO_lmul dX12_odds_205 h7.1 ?_
    refine zO_iload_n dX12_odds_206 rfl ?_
    refine zO_i2l dX12_odds_207 ?_
    refine zO_lmul dX12_odds_208 h7.2.1 ?_
    refine zO_aload_n dX12_odds_209 rfl (zR_P _) ?_
    refine gt12 (k := 28) (v := zI (D 91 28)) dX12_odds_210 wF_X12_321 (by decide) (gk_91 hG) rfl ?_
    refine zO_i2l dX12_odds_213 ?_
    refine zO_lmul dX12_odds_214 h7.2.2 ?_
    refine ptJ12 (k := 30) (z := ((((D 91 30) * 100) * o3) * (D 91 28))) dX12_odds_215 wF_X12_324 (by decide) rfl (gk_91 hG) rfl ?_
    refine zO_letD (fun D_22 eD_22 => ?_)
    refine zO_chk (fun h8 => ?_)
    refine zO_aload_n dX12_odds_218 rfl (zR_P _) ?_
    refine zO_aload_n dX12_odds_219 rfl (zR_P _) ?_
    refine gt12 (k := 28) (v := zI (D_22 91 28)) dX12_odds_220 wF_X12_321 (by decide) (gk_91 hG) rfl ?_
    refine zO_iconst dX12_odds_223 (by decide) ?_
    refine zO_bipush dX12_odds_224 (by decide) ?_
    refine zO_iload_n dX12_odds_226 rfl ?_
    refine zO_isub dX12_odds_227 h8.1 ?_
    refine zO_i2l dX12_odds_228 ?_
    refine zO_iload_n dX12_odds_229 rfl ?_
    refine zO_i2l dX12_odds_230 ?_
    refine zO_lmul dX12_odds_231 h8.2.1 ?_
    refine zO_aload_n dX12_odds_232 rfl (zR_P _) ?_
    refine gt12 (k := 28) (v := zI (D_22 91 28)) dX12_odds_233 wF_X12_321 (by decide) (gk_91 hG) rfl ?_
    refine zO_i2l dX12_odds_236 ?_
    refine zO_lmul dX12_odds_237 h8.2.2 ?_
    refine zO_callV (Y' := YX12_lots) (cw := zcV F n sl) (as := [zI (D_22 91 28), zI (-1), zL (((100 - o1) * o3) * (D_22 91 28))]) (rest := []) (na := 3) (ci := 12) rfl dX12_odds_238 wC_X12_lots wN_X12 wM_X12_330 wI_X12_lots wV_X12_lots (by decide) (by decide) rfl rfl (Nat.le_of_ble_eq_true rfl) rfl (by decide) (gk_91 hG) (fun r hr => zMet_cast (Nat.add_assoc d 0 1) (mX12_lots (d := d + 0) hG (D_22 91 28) (-1) (((100 - o1) * o3) * (D_22 91 28)) r hr)) ?_
    intro D_24 _
    show zO _ _ _ _ _ _ [] (F, D_24, n, sl) _ _
    refine zO_iconst dX12_odds_241 (by decide) ?_
    refine zO_istore dX12_odds_242 (by decide) ?_
    refine zO_ls (ls' := [(0, zR 91), (1, zI o1), (2, zI o2), (3, zI o3), (4, zI s0), (5, zI 0)]) rfl ?_
    refine zO_live [0, 1, 2, 5] ?_
    exact sX12_odds_244 hG o1 o2 zfu 0 D_24
set_option maxHeartbeats 20000000 in
theorem sX12_odds_178 {l : Launch} {E : zE} {d : Nat} {F : zFs} {n sl : Nat} (hG : zG F)  (o1 : Int) (o2 : Int) (o3 : Int)   (D : zDa) : zO l E (d + 2) YX12_odds 178 [(0, zR 91), (1, zI o1), (2, zI o2), (3, zI o3)] [] (F, D, n, sl) (zcV F n sl) (fX12_odds_178 F o1 o2 o3 D) := by
  unfold fX12_odds_178
  refine zO_iconst dX12_odds_178 (by decide) ?_
  refine zO_live [0, 1, 2, 3] ?_
  exact sX12_odds_179 hG o1 o2 o3 0 D
set_option maxHeartbeats 20000000 in
theorem sX12_odds_130 {l : Launch} {E : zE} {d : Nat} {F : zFs} {n sl : Nat} (hG : zG F)  (o1 : Int) (o2 : Int) (o3 : Int)   : ∀ (N : Nat) (v4 : Int) (D : zDa), zO l E (d + 2) YX12_odds 130 [(0, zR 91), (1, zI o1), (2, zI o2), (3, zI o3), (4, zI v4)] [] (F, D, n, sl) (zcV F n sl) (zfix (fun _ _ => none) (fX12_odds_130 F o1 o2 o3) N v4 D) := by
  intro N
  induction N with
  | zero => intro v4 D; exact zO_none
  | succ N hk_130 =>
    intro v4 D
    show zO _ _ _ _ _ _ _ _ _ ((fX12_odds_130 F o1 o2 o3) (zfix (fun _ _ => none) (fX12_odds_130 F o1 o2 o3) N) v4 D)
    unfold fX12_odds_130
    refine zO_iload dX12_odds_130 rfl ?_
    refine zO_aload_n dX12_odds_132 rfl (zR_P _) ?_
    refine gt12 (k := 29) (v := zI (D 91 29)) dX12_odds_133 wF_X12_308 (by decide) (gk_91 hG) rfl ?_
    refine zO_icmp_ge (tgt := 157) dX12_odds_136 rfl (fun c136 => ?_) (fun c136 => ?_)
    · refine zO_chk (fun h5 => ?_)
      refine zO_aload_n dX12_odds_139 rfl (zR_P _) ?_
      refine zO_aload_n dX12_odds_140 rfl (zR_P _) ?_
      refine gt12 (k := 30) (v := zL (D 91 30)) dX12_odds_141 wF_X12_324 (by decide) (gk_91 hG) rfl ?_
      refine zO_ldc2 (n := 100) dX12_odds_144 wK_X12_328 (by decide) ?_
      refine zO_lmul dX12_odds_147 h5 ?_
      refine ptJ12 (k := 30) (z := ((D 91 30) * 100)) dX12_odds_148 wF_X12_324 (by decide) rfl (gk_91 hG) rfl ?_
      refine zO_letD (fun D_17 eD_17 => ?_)
      refine zO_chk (fun h6 => ?_)
      refine zO_iinc dX12_odds_151 rfl h6 (by decide) ?_
      refine zO_ls (ls' := [(0, zR 91), (1, zI o1), (2, zI o2), (3, zI o3), (4, zI (v4 + 1))]) rfl ?_
      refine zO_goto (tgt := 130) dX12_odds_154 rfl ?_
      refine zO_live [0, 1, 2, 3, 4] ?_
      exact hk_130 (v4 + 1) D_17
    · refine zO_iload_n dX12_odds_157 rfl ?_
      refine zO_if_le (tgt := 178) dX12_odds_158 rfl (fun c158 => ?_) (fun c158 => ?_)
      · refine zO_iload_n dX12_odds_161 rfl ?_
        refine zO_if_le (tgt := 178) dX12_odds_162 rfl (fun c162 => ?_) (fun c162 => ?_)
        · refine zO_aload_n dX12_odds_165 rfl (zR_P _) ?_
          refine zO_iconst dX12_odds_166 (by decide) ?_
          refine zO_callV (Y' := YX12_term) (cw := zcI F n sl) (as := [zI 0]) (rest := []) (na := 1) (ci := 12) rfl dX12_odds_167 wC_X12_term wN_X12 wM_X12_318 wI_X12_term wV_X12_term (by decide) (by decide) rfl rfl (Nat.le_of_ble_eq_true rfl) rfl (by decide) (gk_91 hG) (fun r hr => zMet_cast (Nat.add_assoc d 1 0) (mX12_term (d := d + 1) hG 0 r hr)) ?_
          rintro ⟨r_18, D_19⟩ -
          show zO _ _ _ _ _ _ [zI r_18] (F, D_19, n, sl) _ _
          refine zO_iload_n dX12_odds_170 rfl ?_
          refine zO_icmp_ge (tgt := 178) dX12_odds_171 rfl (fun c171 => ?_) (fun c171 => ?_)
          · refine zO_iconst dX12_odds_174 (by decide) ?_
            refine zO_goto (tgt := 179) dX12_odds_175 rfl ?_
            refine zO_live [0, 1, 2, 3] ?_
            exact sX12_odds_179 hG o1 o2 o3 1 D_19
          · refine zO_live [0, 1, 2, 3] ?_
            exact sX12_odds_178 hG o1 o2 o3 D_19
        · refine zO_live [0, 1, 2, 3] ?_
          exact sX12_odds_178 hG o1 o2 o3 D
      · refine zO_live [0, 1, 2, 3] ?_
        exact sX12_odds_178 hG o1 o2 o3 D
set_option maxHeartbeats 20000000 in
theorem sX12_odds_95 {l : Launch} {E : zE} {d : Nat} {F : zFs} {n sl : Nat} (hG : zG F)  (o1 : Int) (o2 : Int) (o3 : Int)   : ∀ (N : Nat) (v4 : Int) (D : zDa), zO l E (d + 2) YX12_odds 95 [(0, zR 91), (1, zI o1), (2, zI o2), (3, zI o3), (4, zI v4)] [] (F, D, n, sl) (zcV F n sl) (zfix (fun _ _ => none) (fX12_odds_95 F o1 o2 o3) N v4 D) := by
  intro N
  induction N with
  | zero => intro v4 D; exact zO_none
  | succ N hk_95 =>
    intro v4 D
    show zO _ _ _ _ _ _ _ _ _ ((fX12_odds_95 F o1 o2 o3) (zfix (fun _ _ => none) (fX12_odds_95 F o1 o2 o3) N) v4 D)
    unfold fX12_odds_95
    refine zO_iload dX12_odds_95 rfl ?_
    refine zO_iconst dX12_odds_97 (by decide) ?_
    refine zO_icmp_ge (tgt := 115) dX12_odds_98 rfl (fun c98 => ?_) (fun c98 => ?_)
    · refine zO_chk (fun h3 => ?_)
      refine zO_aload_n dX12_odds_101 rfl (zR_P _) ?_
      refine gt12 (k := 27) dX12_odds_102 wF_X12_71 (by decide) (gk_91 hG) (zgv (c := 12) (k := 27) rfl (Or.inl ⟨_, rfl⟩) (gf_91_27 hG)) ?_
      refine zO_iload dX12_odds_105 rfl ?_
      refine zO_lconst dX12_odds_107 ?_
      refine zO_last dX12_odds_108 (gk_108 hG) (gl_in (gl_108 hG) h3) ?_
      refine zO_letD (fun D_13 eD_13 => ?_)
      refine zO_chk (fun h4 => ?_)
      refine zO_iinc dX12_odds_109 rfl h4 (by decide) ?_
      refine zO_ls (ls' := [(0, zR 91), (1, zI o1), (2, zI o2), (3, zI o3), (4, zI (v4 + 1))]) rfl ?_
      refine zO_goto (tgt := 95) dX12_odds_112 rfl ?_
      refine zO_live [0, 1, 2, 3, 4] ?_
      exact hk_95 (v4 + 1) D_13
    · refine zO_aload_n dX12_odds_115 rfl (zR_P _) ?_
      refine zO_iload_n dX12_odds_116 rfl ?_
      refine zO_aload_n dX12_odds_117 rfl (zR_P _) ?_
      refine gt12 (k := 28) (v := zI (D 91 28)) dX12_odds_118 wF_X12_321 (by decide) (gk_91 hG) rfl ?_
      refine zO_callS (Y' := YX12_choose) (cw := zcJ F n sl) (as := [zI o2, zI (D 91 28)]) (rest := [zR 91]) (na := 2) dX12_odds_121 wC_X12_choose wN_X12 wM_X12_311 wS_X12_choose (by decide) (by decide) rfl rfl (Nat.le_of_ble_eq_true rfl) (fun r hr => zMet_cast (Nat.add_assoc d 1 0) (mX12_choose (d := d + 1) hG o2 (D 91 28) r hr)) ?_
      rintro ⟨r_14, D_15⟩ -
      show zO _ _ _ _ _ _ [zL r_14, zR 91] (F, D_15, n, sl) _ _
      refine ptJ12 (k := 30) (z := r_14) dX12_odds_124 wF_X12_324 (by decide) rfl (gk_91 hG) rfl ?_
      refine zO_letD (fun D_16 eD_16 => ?_)
      refine zO_iconst dX12_odds_127 (by decide) ?_
      refine zO_istore dX12_odds_128 (by decide) ?_
      refine zO_ls (ls' := [(0, zR 91), (1, zI o1), (2, zI o2), (3, zI o3), (4, zI 0)]) rfl ?_
      refine zO_live [0, 1, 2, 3, 4] ?_
      exact sX12_odds_130 hG o1 o2 o3 zfu 0 D_16
set_option maxHeartbeats 20000000 in
theorem sX12_odds_89 {l : Launch} {E : zE} {d : Nat} {F : zFs} {n sl : Nat} (hG : zG F)  (v1 : Int) (v2 : Int) (v3 : Int) (s0 : Int)   (D : zDa) : zO l E (d + 2) YX12_odds 89 [(0, zR 91), (1, zI v1), (2, zI v2), (3, zI v3)] [zI s0, zR 91] (F, D, n, sl) (zcV F n sl) (fX12_odds_89 F v1 v2 v3 s0 D) := by
  unfold fX12_odds_89
  refine ptI12 (k := 29) (z := s0) dX12_odds_89 wF_X12_308 (by decide) rfl (gk_91 hG) rfl ?_
  refine zO_letD (fun D_12 eD_12 => ?_)
  refine zO_iconst dX12_odds_92 (by decide) ?_
  refine zO_istore dX12_odds_93 (by decide) ?_
  refine zO_ls (ls' := [(0, zR 91), (1, zI v1), (2, zI v2), (3, zI v3), (4, zI 0)]) rfl ?_
  refine zO_live [0, 1, 2, 3, 4] ?_
  exact sX12_odds_95 hG v1 v2 v3 zfu 0 D_12
set_option maxHeartbeats 20000000 in
theorem sX12_odds_61 {l : Launch} {E : zE} {d : Nat} {F : zFs} {n sl : Nat} (hG : zG F)  (v1 : Int) (v2 : Int) (v3 : Int) (s0 : Int)   (D : zDa) : zO l E (d + 2) YX12_odds 61 [(0, zR 91), (1, zI v1), (2, zI v2), (3, zI v3)] [zI s0, zR 91] (F, D, n, sl) (zcV F n sl) (fX12_odds_61 F v1 v2 v3 s0 D) := by
  unfold fX12_odds_61
  refine ptI12 (k := 28) (z := s0) dX12_odds_61 wF_X12_321 (by decide) rfl (gk_91 hG) rfl ?_
  refine zO_letD (fun D_7 eD_7 => ?_)
  refine zO_aload_n dX12_odds_64 rfl (zR_P _) ?_
  refine zO_aload_n dX12_odds_65 rfl (zR_P _) ?_
  refine zO_iconst dX12_odds_66 (by decide) ?_
  refine zO_callV (Y' := YX12_term) (cw := zcI F n sl) (as := [zI 1]) (rest := [zR 91]) (na := 1) (ci := 12) rfl dX12_odds_67 wC_X12_term wN_X12 wM_X12_318 wI_X12_term wV_X12_term (by decide) (by decide) rfl rfl (Nat.le_of_ble_eq_true rfl) rfl (by decide) (gk_91 hG) (fun r hr => zMet_cast (Nat.add_assoc d 1 0) (mX12_term (d := d + 1) hG 1 r hr)) ?_
  rintro ⟨r_8, D_9⟩ -
  show zO _ _ _ _ _ _ [zI r_8, zR 91] (F, D_9, n, sl) _ _
  refine zO_aload_n dX12_odds_70 rfl (zR_P _) ?_
  refine gt12 (k := 28) (v := zI (D_9 91 28)) dX12_odds_71 wF_X12_321 (by decide) (gk_91 hG) rfl ?_
  refine zO_icmp_ge (tgt := 85) dX12_odds_74 rfl (fun c74 => ?_) (fun c74 => ?_)
  · refine zO_aload_n dX12_odds_77 rfl (zR_P _) ?_
    refine zO_iconst dX12_odds_78 (by decide) ?_
    refine zO_callV (Y' := YX12_term) (cw := zcI F n sl) (as := [zI 1]) (rest := [zR 91]) (na := 1) (ci := 12) rfl dX12_odds_79 wC_X12_term wN_X12 wM_X12_318 wI_X12_term wV_X12_term (by decide) (by decide) rfl rfl (Nat.le_of_ble_eq_true rfl) rfl (by decide) (gk_91 hG) (fun r hr => zMet_cast (Nat.add_assoc d 1 0) (mX12_term (d := d + 1) hG 1 r hr)) ?_
    rintro ⟨r_10, D_11⟩ -
    show zO _ _ _ _ _ _ [zI r_10, zR 91] (F, D_11, n, sl) _ _
    refine zO_goto (tgt := 89) dX12_odds_82 rfl ?_
    refine zO_live [0, 1, 2, 3] ?_
    exact sX12_odds_89 hG v1 v2 v3 r_10 D_11
  · refine zO_aload_n dX12_odds_85 rfl (zR_P _) ?_
    refine gt12 (k := 28) (v := zI (D_9 91 28)) dX12_odds_86 wF_X12_321 (by decide) (gk_91 hG) rfl ?_
    refine zO_live [0, 1, 2, 3] ?_
    exact sX12_odds_89 hG v1 v2 v3 (D_9 91 28) D_9
set_option maxHeartbeats 20000000 in
theorem mX12_odds {l : Launch} {E : zE} {d : Nat} {F : zFs} {n sl : Nat} (hG : zG F) (v1 : Int) {D : zDa} : ∀ r, fX12_odds F  v1 D = some r → zMet l E (d + 2) YX12_odds [zR 91, zI v1] (F, D, n, sl) (zcV F n sl r) := by
  intro r hr
  refine zMet_of (plainFor_of_name (by decide)) (fun _ h => (nomatch h)) (Nat.le_of_ble_eq_true rfl) ?_
  have hz : zO l E (d + 2) YX12_odds 0 [(0, zR 91), (1, zI v1)] [] (F, D, n, sl) (zcV F n sl) (fX12_odds F  v1 D) := by
    unfold fX12_odds
    refine zO_chk (fun h1 => ?_)
    refine zO_aload_n dX12_odds_0 rfl (zR_P _) ?_
    refine gt12 (k := 23) dX12_odds_1 wF_X12_58 (by decide) (gk_91 hG) (zgv (c := 12) (k := 23) rfl (Or.inl ⟨_, rfl⟩) (gf_91_23 hG)) ?_
    refine zO_iconst dX12_odds_4 (by decide) ?_
    refine zO_iald dX12_odds_5 (gk_104 hG) (gl_in (gl_104 hG) (by decide)) ?_
    refine zO_aload_n dX12_odds_6 rfl (zR_P _) ?_
    refine gt12 (k := 23) dX12_odds_7 wF_X12_58 (by decide) (gk_91 hG) (zgv (c := 12) (k := 23) rfl (Or.inl ⟨_, rfl⟩) (gf_91_23 hG)) ?_
    refine zO_iconst dX12_odds_10 (by decide) ?_
    refine zO_iald dX12_odds_11 (gk_104 hG) (gl_in (gl_104 hG) (by decide)) ?_
    refine zO_iadd dX12_odds_12 h1.1 ?_
    refine zO_aload_n dX12_odds_13 rfl (zR_P _) ?_
    refine gt12 (k := 23) dX12_odds_14 wF_X12_58 (by decide) (gk_91 hG) (zgv (c := 12) (k := 23) rfl (Or.inl ⟨_, rfl⟩) (gf_91_23 hG)) ?_
    refine zO_iconst dX12_odds_17 (by decide) ?_
    refine zO_iald dX12_odds_18 (gk_104 hG) (gl_in (gl_104 hG) (by decide)) ?_
    refine zO_iadd dX12_odds_19 h1.2 ?_
    refine zO_letI (fun x2_1 ex2_1 => ?_)
    refine zO_istore_n dX12_odds_20 (by decide) ?_
    refine zO_ls (ls' := [(0, zR 91), (1, zI v1), (2, zI x2_1)]) rfl ?_
    refine zO_chk (fun h2 => ?_)
    refine zO_aload_n dX12_odds_21 rfl (zR_P _) ?_
    refine gt12 (k := 24) dX12_odds_22 wF_X12_61 (by decide) (gk_91 hG) (zgv (c := 12) (k := 24) rfl (Or.inl ⟨_, rfl⟩) (gf_91_24 hG)) ?_
    refine zO_iconst dX12_odds_25 (by decide) ?_
    refine zO_iald dX12_odds_26 (gk_105 hG) (gl_in (gl_105 hG) (by decide)) ?_
    refine zO_aload_n dX12_odds_27 rfl (zR_P _) ?_
    refine gt12 (k := 24) dX12_odds_28 wF_X12_61 (by decide) (gk_91 hG) (zgv (c := 12) (k := 24) rfl (Or.inl ⟨_, rfl⟩) (gf_91_24 hG)) ?_
    refine zO_iconst dX12_odds_31 (by decide) ?_
    refine zO_iald dX12_odds_32 (gk_105 hG) (gl_in (gl_105 hG) (by decide)) ?_
    refine zO_iadd dX12_odds_33 h2.1 ?_
    refine zO_aload_n dX12_odds_34 rfl (zR_P _) ?_
    refine gt12 (k := 24) dX12_odds_35 wF_X12_61 (by decide) (gk_91 hG) (zgv (c := 12) (k := 24) rfl (Or.inl ⟨_, rfl⟩) (gf_91_24 hG)) ?_
    refine zO_iconst dX12_odds_38 (by decide) ?_
    refine zO_iald dX12_odds_39 (gk_105 hG) (gl_in (gl_105 hG) (by decide)) ?_
    refine zO_iadd dX12_odds_40 h2.2 ?_
    refine zO_letI (fun x3_2 ex3_2 => ?_)
    refine zO_istore_n dX12_odds_41 (by decide) ?_
    refine zO_ls (ls' := [(0, zR 91), (1, zI v1), (2, zI x2_1), (3, zI x3_2)]) rfl ?_
    refine zO_aload_n dX12_odds_42 rfl (zR_P _) ?_
    refine zO_aload_n dX12_odds_43 rfl (zR_P _) ?_
    refine zO_iconst dX12_odds_44 (by decide) ?_
    refine zO_callV (Y' := YX12_term) (cw := zcI F n sl) (as := [zI 0]) (rest := [zR 91]) (na := 1) (ci := 12) rfl dX12_odds_45 wC_X12_term wN_X12 wM_X12_318 wI_X12_term wV_X12_term (by decide) (by decide) rfl rfl (Nat.le_of_ble_eq_true rfl) rfl (by decide) (gk_91 hG) (fun r hr => zMet_cast (Nat.add_assoc d 1 0) (mX12_term (d := d + 1) hG 0 r hr)) ?_
    rintro ⟨r_3, D_4⟩ -
    show zO _ _ _ _ _ _ [zI r_3, zR 91] (F, D_4, n, sl) _ _
    refine zO_iload_n dX12_odds_48 rfl ?_
    refine zO_icmp_ge (tgt := 60) dX12_odds_49 rfl (fun c49 => ?_) (fun c49 => ?_)
    · refine zO_aload_n dX12_odds_52 rfl (zR_P _) ?_
      refine zO_iconst dX12_odds_53 (by decide) ?_
      refine zO_callV (Y' := YX12_term) (cw := zcI F n sl) (as := [zI 0]) (rest := [zR 91]) (na := 1) (ci := 12) rfl dX12_odds_54 wC_X12_term wN_X12 wM_X12_318 wI_X12_term wV_X12_term (by decide) (by decide) rfl rfl (Nat.le_of_ble_eq_true rfl) rfl (by decide) (gk_91 hG) (fun r hr => zMet_cast (Nat.add_assoc d 1 0) (mX12_term (d := d + 1) hG 0 r hr)) ?_
      rintro ⟨r_5, D_6⟩ -
      show zO _ _ _ _ _ _ [zI r_5, zR 91] (F, D_6, n, sl) _ _
      refine zO_goto (tgt := 61) dX12_odds_57 rfl ?_
      refine zO_live [0, 1, 2, 3] ?_
      exact sX12_odds_61 hG v1 x2_1 x3_2 r_5 D_6
    · refine zO_iload_n dX12_odds_60 rfl ?_
      refine zO_live [0, 1, 2, 3] ?_
      exact sX12_odds_61 hG v1 x2_1 x3_2 x2_1 D_4
  exact hz r hr
theorem dX12_known_0 : decode cX12_known 0 = .ok (.aload_n 0, 1) := by decide +kernel
theorem dX12_known_1 : decode cX12_known 1 = .ok (.invokevirtual 334, 3) := by decide +kernel
theorem dX12_known_4 : decode cX12_known 4 = .ok (.iconst 0, 1) := by decide +kernel
theorem dX12_known_5 : decode cX12_known 5 = .ok (.istore_n 3, 1) := by decide +kernel
theorem dX12_known_6 : decode cX12_known 6 = .ok (.iload_n 3, 1) := by decide +kernel
theorem dX12_known_7 : decode cX12_known 7 = .ok (.iconst 3, 1) := by decide +kernel
theorem dX12_known_8 : decode cX12_known 8 = .ok (.if_icmp .ge 23, 3) := by decide +kernel
theorem dX12_known_11 : decode cX12_known 11 = .ok (.aload_n 0, 1) := by decide +kernel
theorem dX12_known_12 : decode cX12_known 12 = .ok (.getfield 58, 3) := by decide +kernel
theorem dX12_known_15 : decode cX12_known 15 = .ok (.iload_n 3, 1) := by decide +kernel
theorem dX12_known_16 : decode cX12_known 16 = .ok (.iconst 0, 1) := by decide +kernel
theorem dX12_known_17 : decode cX12_known 17 = .ok (.iastore, 1) := by decide +kernel
theorem dX12_known_18 : decode cX12_known 18 = .ok (.aload_n 0, 1) := by decide +kernel
theorem dX12_known_19 : decode cX12_known 19 = .ok (.getfield 61, 3) := by decide +kernel
theorem dX12_known_22 : decode cX12_known 22 = .ok (.iload_n 3, 1) := by decide +kernel
theorem dX12_known_23 : decode cX12_known 23 = .ok (.iconst 0, 1) := by decide +kernel
theorem dX12_known_24 : decode cX12_known 24 = .ok (.iastore, 1) := by decide +kernel
theorem dX12_known_25 : decode cX12_known 25 = .ok (.iinc 3 1, 3) := by decide +kernel
theorem dX12_known_28 : decode cX12_known 28 = .ok (.goto (-22), 3) := by decide +kernel
theorem dX12_known_31 : decode cX12_known 31 = .ok (.iconst 0, 1) := by decide +kernel
theorem dX12_known_32 : decode cX12_known 32 = .ok (.istore_n 3, 1) := by decide +kernel
theorem dX12_known_33 : decode cX12_known 33 = .ok (.iload_n 3, 1) := by decide +kernel
theorem dX12_known_34 : decode cX12_known 34 = .ok (.aload_n 0, 1) := by decide +kernel
theorem dX12_known_35 : decode cX12_known 35 = .ok (.invokevirtual 146, 3) := by decide +kernel
theorem dX12_known_38 : decode cX12_known 38 = .ok (.if_icmp .ge 64, 3) := by decide +kernel
theorem dX12_known_41 : decode cX12_known 41 = .ok (.aload_n 0, 1) := by decide +kernel
theorem dX12_known_42 : decode cX12_known 42 = .ok (.iload_n 3, 1) := by decide +kernel
theorem dX12_known_43 : decode cX12_known 43 = .ok (.invokevirtual 154, 3) := by decide +kernel
theorem dX12_known_46 : decode cX12_known 46 = .ok (.ifCond .ne 6, 3) := by decide +kernel
theorem dX12_known_49 : decode cX12_known 49 = .ok (.goto 47, 3) := by decide +kernel
theorem dX12_known_52 : decode cX12_known 52 = .ok (.iload_n 3, 1) := by decide +kernel
theorem dX12_known_53 : decode cX12_known 53 = .ok (.iload_n 1, 1) := by decide +kernel
theorem dX12_known_54 : decode cX12_known 54 = .ok (.if_icmp .ne 7, 3) := by decide +kernel
theorem dX12_known_57 : decode cX12_known 57 = .ok (.iload_n 2, 1) := by decide +kernel
theorem dX12_known_58 : decode cX12_known 58 = .ok (.goto 9, 3) := by decide +kernel
theorem dX12_known_61 : decode cX12_known 61 = .ok (.aload_n 0, 1) := by decide +kernel
theorem dX12_known_62 : decode cX12_known 62 = .ok (.iload_n 3, 1) := by decide +kernel
theorem dX12_known_63 : decode cX12_known 63 = .ok (.iconst 2, 1) := by decide +kernel
theorem dX12_known_64 : decode cX12_known 64 = .ok (.invokevirtual 150, 3) := by decide +kernel
theorem dX12_known_67 : decode cX12_known 67 = .ok (.istore 4, 2) := by decide +kernel
theorem dX12_known_69 : decode cX12_known 69 = .ok (.aload_n 0, 1) := by decide +kernel
theorem dX12_known_70 : decode cX12_known 70 = .ok (.getfield 58, 3) := by decide +kernel
theorem dX12_known_73 : decode cX12_known 73 = .ok (.iload 4, 2) := by decide +kernel
theorem dX12_known_75 : decode cX12_known 75 = .ok (.dup2, 1) := by decide +kernel
theorem dX12_known_76 : decode cX12_known 76 = .ok (.iaload, 1) := by decide +kernel
theorem dX12_known_77 : decode cX12_known 77 = .ok (.iconst 1, 1) := by decide +kernel
theorem dX12_known_78 : decode cX12_known 78 = .ok (.iadd, 1) := by decide +kernel
theorem dX12_known_79 : decode cX12_known 79 = .ok (.iastore, 1) := by decide +kernel
theorem dX12_known_80 : decode cX12_known 80 = .ok (.aload_n 0, 1) := by decide +kernel
theorem dX12_known_81 : decode cX12_known 81 = .ok (.getfield 61, 3) := by decide +kernel
theorem dX12_known_84 : decode cX12_known 84 = .ok (.iload 4, 2) := by decide +kernel
theorem dX12_known_86 : decode cX12_known 86 = .ok (.dup2, 1) := by decide +kernel
theorem dX12_known_87 : decode cX12_known 87 = .ok (.iaload, 1) := by decide +kernel
theorem dX12_known_88 : decode cX12_known 88 = .ok (.aload_n 0, 1) := by decide +kernel
theorem dX12_known_89 : decode cX12_known 89 = .ok (.iload_n 3, 1) := by decide +kernel
theorem dX12_known_90 : decode cX12_known 90 = .ok (.iconst 3, 1) := by decide +kernel
theorem dX12_known_91 : decode cX12_known 91 = .ok (.invokevirtual 150, 3) := by decide +kernel
theorem dX12_known_94 : decode cX12_known 94 = .ok (.iadd, 1) := by decide +kernel
theorem dX12_known_95 : decode cX12_known 95 = .ok (.iastore, 1) := by decide +kernel
theorem dX12_known_96 : decode cX12_known 96 = .ok (.iinc 3 1, 3) := by decide +kernel
theorem dX12_known_99 : decode cX12_known 99 = .ok (.goto (-66), 3) := by decide +kernel
theorem dX12_known_102 : decode cX12_known 102 = .ok (.aload_n 0, 1) := by decide +kernel
theorem dX12_known_103 : decode cX12_known 103 = .ok (.aload_n 0, 1) := by decide +kernel
theorem dX12_known_104 : decode cX12_known 104 = .ok (.iconst 3, 1) := by decide +kernel
theorem dX12_known_105 : decode cX12_known 105 = .ok (.invokevirtual 318, 3) := by decide +kernel
theorem dX12_known_108 : decode cX12_known 108 = .ok (.invokevirtual 337, 3) := by decide +kernel
theorem dX12_known_111 : decode cX12_known 111 = .ok (.return_, 1) := by decide +kernel
abbrev YX12_known : zY := (yX12_known, cX12_known, 5, none, [])
def fX12_known_96 (F : zFs) (k_33 : Int → zDa → Option zDa) (o1 : Int) (o2 : Int) (v3 : Int) (D : zDa) : Option zDa :=
  if (-2147483648 ≤ v3 + 1 ∧ v3 + 1 ≤ 2147483647) then
    k_33 (v3 + 1) D
  else none
def fX12_known_67 (F : zFs) (k_33 : Int → zDa → Option zDa) (o1 : Int) (o2 : Int) (v3 : Int) (s0 : Int) (D : zDa) : Option zDa :=
  if (0 ≤ s0 ∧ s0 < 3) ∧ (-2147483648 ≤ (D 104 s0.toNat) + 1 ∧ (D 104 s0.toNat) + 1 ≤ 2147483647) then
    zlet (zwr D 104 s0.toNat ((D 104 s0.toNat) + 1)) (fun D_9 =>
      (fX12_factOf F v3 3 D_9).bind (fun (r_10, D_11) =>
        if (-2147483648 ≤ (D_9 105 s0.toNat) + r_10 ∧ (D_9 105 s0.toNat) + r_10 ≤ 2147483647) then
          zlet (zwr D_11 105 s0.toNat ((D_9 105 s0.toNat) + r_10)) (fun D_12 =>
            fX12_known_96 F k_33 o1 o2 v3 D_12)
        else none))
  else none
def fX12_known_33 (F : zFs) (o1 : Int) (o2 : Int)  (k_33 : Int → zDa → Option zDa) (v3 : Int) (D : zDa) : Option zDa :=
  (fX12_questions F D).bind (fun (r_5, D_6) =>
    if v3 < r_5 then
      (fX12_isBowl F v3 D_6).bind (fun (r_7, D_8) =>
        if r_7 = 0 then
          fX12_known_96 F k_33 o1 o2 v3 D_8
        else
          if v3 = o1 then
            fX12_known_67 F k_33 o1 o2 v3 o2 D_8
          else
            (fX12_factOf F v3 2 D_8).bind (fun (r_13, D_14) =>
              fX12_known_67 F k_33 o1 o2 v3 r_13 D_14))
    else
      (fX12_term F 3 D_6).bind (fun (r_15, D_16) =>
        (fX12_odds F r_15 D_16).bind (fun D_18 =>
          some D_18)))
def fX12_known_6 (F : zFs) (o1 : Int) (o2 : Int)  (k_6 : Int → zDa → Option zDa) (v3 : Int) (D : zDa) : Option zDa :=
  if v3 < 3 then
    if (0 ≤ v3 ∧ v3 < 3) then
      zlet (zwr D 104 v3.toNat 0) (fun D_3 =>
        zlet (zwr D_3 105 v3.toNat 0) (fun D_4 =>
          if (-2147483648 ≤ v3 + 1 ∧ v3 + 1 ≤ 2147483647) then
            k_6 (v3 + 1) D_4
          else none))
    else none
  else
    zfix (fun _ _ => none) (fX12_known_33 F o1 o2) zfu 0 D
def fX12_known (F : zFs) (v1 : Int) (v2 : Int) (D : zDa) : Option zDa :=
  (fX12_laysChances F D).bind (fun D_2 =>
    zfix (fun _ _ => none) (fX12_known_6 F v1 v2) zfu 0 D_2)
set_option maxHeartbeats 20000000 in
theorem sX12_known_96 {l : Launch} {E : zE} {d : Nat} {F : zFs} {n sl : Nat} (hG : zG F)  (o1 : Int) (o2 : Int) (v3 : Int) (k_33 : Int → zDa → Option zDa) (hk_33 : ∀ (u3 : Int) (D : zDa), zO l E (d + 89) YX12_known 33 [(0, zR 91), (1, zI o1), (2, zI o2), (3, zI u3)] [] (F, D, n, sl) (zcV F n sl) (k_33 u3 D)) (D : zDa) : zO l E (d + 89) YX12_known 96 [(0, zR 91), (1, zI o1), (2, zI o2), (3, zI v3)] [] (F, D, n, sl) (zcV F n sl) (fX12_known_96 F k_33 o1 o2 v3 D) := by
  unfold fX12_known_96
  refine zO_chk (fun h3 => ?_)
  refine zO_iinc dX12_known_96 rfl h3 (by decide) ?_
  refine zO_ls (ls' := [(0, zR 91), (1, zI o1), (2, zI o2), (3, zI (v3 + 1))]) rfl ?_
  refine zO_goto (tgt := 33) dX12_known_99 rfl ?_
  refine zO_live [0, 1, 2, 3] ?_
  exact hk_33 (v3 + 1) D
set_option maxHeartbeats 20000000 in
theorem sX12_known_67 {l : Launch} {E : zE} {d : Nat} {F : zFs} {n sl : Nat} (hG : zG F)  (o1 : Int) (o2 : Int) (v3 : Int) (s0 : Int) (k_33 : Int → zDa → Option zDa) (hk_33 : ∀ (u3 : Int) (D : zDa), zO l E (d + 89) YX12_known 33 [(0, zR 91), (1, zI o1), (2, zI o2), (3, zI u3)] [] (F, D, n, sl) (zcV F n sl) (k_33 u3 D)) (D : zDa) : zO l E (d + 89) YX12_known 67 [(0, zR 91), (1, zI o1), (2, zI o2), (3, zI v3)] [zI s0] (F, D, n, sl) (zcV F n sl) (fX12_known_67 F k_33 o1 o2 v3 s0 D) := by
  unfold fX12_known_67
  refine zO_chk (fun h4 => ?_)
  refine zO_istore dX12_known_67 (by decide) ?_
  refine zO_ls (ls' := [(0, zR 91), (1, zI o1), (2, zI o2), (3, zI v3), (4, zI s0)]) rfl ?_
  refine zO_aload_n dX12_known_69 rfl (zR_P _) ?_
  refine gt12 (k := 23) dX12_known_70 wF_X12_58 (by decide) (gk_91 hG) (zgv (c := 12) (k := 23) rfl (Or.inl ⟨_, rfl⟩) (gf_91_23 hG)) ?_
  refine zO_iload dX12_known_73 rfl ?_
  refine zO_dup2a dX12_known_75 (rfl) (rfl) ?_
  refine zO_iald dX12_known_76 (gk_104 hG) (gl_in (gl_104 hG) h4.1) ?_
  refine zO_iconst dX12_known_77 (by decide) ?_
  refine zO_iadd dX12_known_78 h4.2 ?_
  refine zO_iast dX12_known_79 (gk_104 hG) (gl_in (gl_104 hG) h4.1) ?_
  refine zO_letD (fun D_9 eD_9 => ?_)
  refine zO_aload_n dX12_known_80 rfl (zR_P _) ?_
  refine gt12 (k := 24) dX12_known_81 wF_X12_61 (by decide) (gk_91 hG) (zgv (c := 12) (k := 24) rfl (Or.inl ⟨_, rfl⟩) (gf_91_24 hG)) ?_
  refine zO_iload dX12_known_84 rfl ?_
  refine zO_dup2a dX12_known_86 (rfl) (rfl) ?_
  refine zO_iald dX12_known_87 (gk_105 hG) (gl_in (gl_105 hG) h4.1) ?_
  refine zO_aload_n dX12_known_88 rfl (zR_P _) ?_
  refine zO_iload_n dX12_known_89 rfl ?_
  refine zO_iconst dX12_known_90 (by decide) ?_
  refine zO_callV (Y' := YX12_factOf) (cw := zcI F n sl) (as := [zI v3, zI 3]) (rest := [zI (D_9 105 s0.toNat), zI s0, zR 105]) (na := 2) (ci := 12) rfl dX12_known_91 wC_X12_factOf wN_X12 wM_X12_150 wI_X12_factOf wV_X12_factOf (by decide) (by decide) rfl rfl (Nat.le_of_ble_eq_true rfl) rfl (by decide) (gk_91 hG) (fun r hr => zMet_cast (Nat.add_assoc d 88 0) (mX12_factOf (d := d + 88) hG v3 3 r hr)) ?_
  rintro ⟨r_10, D_11⟩ -
  show zO _ _ _ _ _ _ [zI r_10, zI (D_9 105 s0.toNat), zI s0, zR 105] (F, D_11, n, sl) _ _
  refine zO_chk (fun h5 => ?_)
  refine zO_iadd dX12_known_94 h5 ?_
  refine zO_iast dX12_known_95 (gk_105 hG) (gl_in (gl_105 hG) h4.1) ?_
  refine zO_letD (fun D_12 eD_12 => ?_)
  refine zO_live [0, 1, 2, 3] ?_
  exact sX12_known_96 hG o1 o2 v3 _ hk_33 D_12
set_option maxHeartbeats 20000000 in
theorem sX12_known_33 {l : Launch} {E : zE} {d : Nat} {F : zFs} {n sl : Nat} (hG : zG F)  (o1 : Int) (o2 : Int)   : ∀ (N : Nat) (v3 : Int) (D : zDa), zO l E (d + 89) YX12_known 33 [(0, zR 91), (1, zI o1), (2, zI o2), (3, zI v3)] [] (F, D, n, sl) (zcV F n sl) (zfix (fun _ _ => none) (fX12_known_33 F o1 o2) N v3 D) := by
  intro N
  induction N with
  | zero => intro v3 D; exact zO_none
  | succ N hk_33 =>
    intro v3 D
    show zO _ _ _ _ _ _ _ _ _ ((fX12_known_33 F o1 o2) (zfix (fun _ _ => none) (fX12_known_33 F o1 o2) N) v3 D)
    unfold fX12_known_33
    refine zO_iload_n dX12_known_33 rfl ?_
    refine zO_aload_n dX12_known_34 rfl (zR_P _) ?_
    refine zO_callV (Y' := YX12_questions) (cw := zcI F n sl) (as := []) (rest := [zI v3]) (na := 0) (ci := 12) rfl dX12_known_35 wC_X12_questions wN_X12 wM_X12_146 wI_X12_questions wV_X12_questions (by decide) (by decide) rfl rfl (Nat.le_of_ble_eq_true rfl) rfl (by decide) (gk_91 hG) (fun r hr => zMet_cast (Nat.add_assoc d 88 0) (mX12_questions (d := d + 88) hG  r hr)) ?_
    rintro ⟨r_5, D_6⟩ -
    show zO _ _ _ _ _ _ [zI r_5, zI v3] (F, D_6, n, sl) _ _
    refine zO_icmp_ge (tgt := 102) dX12_known_38 rfl (fun c38 => ?_) (fun c38 => ?_)
    · refine zO_aload_n dX12_known_41 rfl (zR_P _) ?_
      refine zO_iload_n dX12_known_42 rfl ?_
      refine zO_callV (Y' := YX12_isBowl) (cw := zcI F n sl) (as := [zI v3]) (rest := []) (na := 1) (ci := 12) rfl dX12_known_43 wC_X12_isBowl wN_X12 wM_X12_154 wI_X12_isBowl wV_X12_isBowl (by decide) (by decide) rfl rfl (Nat.le_of_ble_eq_true rfl) rfl (by decide) (gk_91 hG) (fun r hr => zMet_cast (Nat.add_assoc d 87 1) (mX12_isBowl (d := d + 87) hG v3 r hr)) ?_
      rintro ⟨r_7, D_8⟩ -
      show zO _ _ _ _ _ _ [zI r_7] (F, D_8, n, sl) _ _
      refine zO_if_ne (tgt := 52) dX12_known_46 rfl (fun c46 => ?_) (fun c46 => ?_)
      · refine zO_goto (tgt := 96) dX12_known_49 rfl ?_
        refine zO_live [0, 1, 2, 3] ?_
        exact sX12_known_96 hG o1 o2 v3 _ hk_33 D_8
      · refine zO_iload_n dX12_known_52 rfl ?_
        refine zO_iload_n dX12_known_53 rfl ?_
        refine zO_icmp_ne (tgt := 61) dX12_known_54 rfl (fun c54 => ?_) (fun c54 => ?_)
        · refine zO_iload_n dX12_known_57 rfl ?_
          refine zO_goto (tgt := 67) dX12_known_58 rfl ?_
          refine zO_live [0, 1, 2, 3] ?_
          exact sX12_known_67 hG o1 o2 v3 o2 _ hk_33 D_8
        · refine zO_aload_n dX12_known_61 rfl (zR_P _) ?_
          refine zO_iload_n dX12_known_62 rfl ?_
          refine zO_iconst dX12_known_63 (by decide) ?_
          refine zO_callV (Y' := YX12_factOf) (cw := zcI F n sl) (as := [zI v3, zI 2]) (rest := []) (na := 2) (ci := 12) rfl dX12_known_64 wC_X12_factOf wN_X12 wM_X12_150 wI_X12_factOf wV_X12_factOf (by decide) (by decide) rfl rfl (Nat.le_of_ble_eq_true rfl) rfl (by decide) (gk_91 hG) (fun r hr => zMet_cast (Nat.add_assoc d 88 0) (mX12_factOf (d := d + 88) hG v3 2 r hr)) ?_
          rintro ⟨r_13, D_14⟩ -
          show zO _ _ _ _ _ _ [zI r_13] (F, D_14, n, sl) _ _
          refine zO_live [0, 1, 2, 3] ?_
          exact sX12_known_67 hG o1 o2 v3 r_13 _ hk_33 D_14
    · refine zO_aload_n dX12_known_102 rfl (zR_P _) ?_
      refine zO_aload_n dX12_known_103 rfl (zR_P _) ?_
      refine zO_iconst dX12_known_104 (by decide) ?_
      refine zO_callV (Y' := YX12_term) (cw := zcI F n sl) (as := [zI 3]) (rest := [zR 91]) (na := 1) (ci := 12) rfl dX12_known_105 wC_X12_term wN_X12 wM_X12_318 wI_X12_term wV_X12_term (by decide) (by decide) rfl rfl (Nat.le_of_ble_eq_true rfl) rfl (by decide) (gk_91 hG) (fun r hr => zMet_cast (Nat.add_assoc d 88 0) (mX12_term (d := d + 88) hG 3 r hr)) ?_
      rintro ⟨r_15, D_16⟩ -
      show zO _ _ _ _ _ _ [zI r_15, zR 91] (F, D_16, n, sl) _ _
      refine zO_callV (Y' := YX12_odds) (cw := zcV F n sl) (as := [zI r_15]) (rest := []) (na := 1) (ci := 12) rfl dX12_known_108 wC_X12_odds wN_X12 wM_X12_337 wI_X12_odds wV_X12_odds (by decide) (by decide) rfl rfl (Nat.le_of_ble_eq_true rfl) rfl (by decide) (gk_91 hG) (fun r hr => zMet_cast (Nat.add_assoc d 86 2) (mX12_odds (d := d + 86) hG r_15 r hr)) ?_
      intro D_18 _
      show zO _ _ _ _ _ _ [] (F, D_18, n, sl) _ _
      exact zO_ret (rv := none) dX12_known_111 rfl trivial rfl
set_option maxHeartbeats 20000000 in
theorem sX12_known_6 {l : Launch} {E : zE} {d : Nat} {F : zFs} {n sl : Nat} (hG : zG F)  (o1 : Int) (o2 : Int)   : ∀ (N : Nat) (v3 : Int) (D : zDa), zO l E (d + 89) YX12_known 6 [(0, zR 91), (1, zI o1), (2, zI o2), (3, zI v3)] [] (F, D, n, sl) (zcV F n sl) (zfix (fun _ _ => none) (fX12_known_6 F o1 o2) N v3 D) := by
  intro N
  induction N with
  | zero => intro v3 D; exact zO_none
  | succ N hk_6 =>
    intro v3 D
    show zO _ _ _ _ _ _ _ _ _ ((fX12_known_6 F o1 o2) (zfix (fun _ _ => none) (fX12_known_6 F o1 o2) N) v3 D)
    unfold fX12_known_6
    refine zO_iload_n dX12_known_6 rfl ?_
    refine zO_iconst dX12_known_7 (by decide) ?_
    refine zO_icmp_ge (tgt := 31) dX12_known_8 rfl (fun c8 => ?_) (fun c8 => ?_)
    · refine zO_chk (fun h1 => ?_)
      refine zO_aload_n dX12_known_11 rfl (zR_P _) ?_
      refine gt12 (k := 23) dX12_known_12 wF_X12_58 (by decide) (gk_91 hG) (zgv (c := 12) (k := 23) rfl (Or.inl ⟨_, rfl⟩) (gf_91_23 hG)) ?_
      refine zO_iload_n dX12_known_15 rfl ?_
      refine zO_iconst dX12_known_16 (by decide) ?_
      refine zO_iast dX12_known_17 (gk_104 hG) (gl_in (gl_104 hG) h1) ?_
      refine zO_letD (fun D_3 eD_3 => ?_)
      refine zO_aload_n dX12_known_18 rfl (zR_P _) ?_
      refine gt12 (k := 24) dX12_known_19 wF_X12_61 (by decide) (gk_91 hG) (zgv (c := 12) (k := 24) rfl (Or.inl ⟨_, rfl⟩) (gf_91_24 hG)) ?_
      refine zO_iload_n dX12_known_22 rfl ?_
      refine zO_iconst dX12_known_23 (by decide) ?_
      refine zO_iast dX12_known_24 (gk_105 hG) (gl_in (gl_105 hG) h1) ?_
      refine zO_letD (fun D_4 eD_4 => ?_)
      refine zO_chk (fun h2 => ?_)
      refine zO_iinc dX12_known_25 rfl h2 (by decide) ?_
      refine zO_ls (ls' := [(0, zR 91), (1, zI o1), (2, zI o2), (3, zI (v3 + 1))]) rfl ?_
      refine zO_goto (tgt := 6) dX12_known_28 rfl ?_
      refine zO_live [0, 1, 2, 3] ?_
      exact hk_6 (v3 + 1) D_4
    · refine zO_iconst dX12_known_31 (by decide) ?_
      refine zO_istore_n dX12_known_32 (by decide) ?_
      refine zO_ls (ls' := [(0, zR 91), (1, zI o1), (2, zI o2), (3, zI 0)]) rfl ?_
      refine zO_live [0, 1, 2, 3] ?_
      exact sX12_known_33 hG o1 o2 zfu 0 D
set_option maxHeartbeats 20000000 in
theorem mX12_known {l : Launch} {E : zE} {d : Nat} {F : zFs} {n sl : Nat} (hG : zG F) (v1 : Int) (v2 : Int) {D : zDa} : ∀ r, fX12_known F  v1 v2 D = some r → zMet l E (d + 89) YX12_known [zR 91, zI v1, zI v2] (F, D, n, sl) (zcV F n sl r) := by
  intro r hr
  refine zMet_of (plainFor_of_name (by decide)) (fun _ h => (nomatch h)) (Nat.le_of_ble_eq_true rfl) ?_
  have hz : zO l E (d + 89) YX12_known 0 [(0, zR 91), (1, zI v1), (2, zI v2)] [] (F, D, n, sl) (zcV F n sl) (fX12_known F  v1 v2 D) := by
    unfold fX12_known
    refine zO_aload_n dX12_known_0 rfl (zR_P _) ?_
    refine zO_callV (Y' := YX12_laysChances) (cw := zcV F n sl) (as := []) (rest := []) (na := 0) (ci := 12) rfl dX12_known_1 wC_X12_laysChances wN_X12 wM_X12_334 wI_X12_laysChances wV_X12_laysChances (by decide) (by decide) rfl rfl (Nat.le_of_ble_eq_true rfl) rfl (by decide) (gk_91 hG) (fun r hr => zMet_cast (Nat.add_assoc d 0 88) (mX12_laysChances (d := d + 0) hG  r hr)) ?_
    intro D_2 _
    show zO _ _ _ _ _ _ [] (F, D_2, n, sl) _ _
    refine zO_iconst dX12_known_4 (by decide) ?_
    refine zO_istore_n dX12_known_5 (by decide) ?_
    refine zO_ls (ls' := [(0, zR 91), (1, zI v1), (2, zI v2), (3, zI 0)]) rfl ?_
    refine zO_live [0, 1, 2, 3] ?_
    exact sX12_known_6 hG v1 v2 zfu 0 D_2
  exact hz r hr
theorem dX12_common_0 : decode cX12_common 0 = .ok (.lload_n 0, 1) := by decide +kernel
theorem dX12_common_1 : decode cX12_common 1 = .ok (.lstore 4, 2) := by decide +kernel
theorem dX12_common_3 : decode cX12_common 3 = .ok (.lload_n 2, 1) := by decide +kernel
theorem dX12_common_4 : decode cX12_common 4 = .ok (.lstore 6, 2) := by decide +kernel
theorem dX12_common_6 : decode cX12_common 6 = .ok (.lload 6, 2) := by decide +kernel
theorem dX12_common_8 : decode cX12_common 8 = .ok (.lconst 0, 1) := by decide +kernel
theorem dX12_common_9 : decode cX12_common 9 = .ok (.lcmp, 1) := by decide +kernel
theorem dX12_common_10 : decode cX12_common 10 = .ok (.ifCond .eq 21, 3) := by decide +kernel
theorem dX12_common_13 : decode cX12_common 13 = .ok (.lload 4, 2) := by decide +kernel
theorem dX12_common_15 : decode cX12_common 15 = .ok (.lload 6, 2) := by decide +kernel
theorem dX12_common_17 : decode cX12_common 17 = .ok (.lrem, 1) := by decide +kernel
theorem dX12_common_18 : decode cX12_common 18 = .ok (.lstore 8, 2) := by decide +kernel
theorem dX12_common_20 : decode cX12_common 20 = .ok (.lload 6, 2) := by decide +kernel
theorem dX12_common_22 : decode cX12_common 22 = .ok (.lstore 4, 2) := by decide +kernel
theorem dX12_common_24 : decode cX12_common 24 = .ok (.lload 8, 2) := by decide +kernel
theorem dX12_common_26 : decode cX12_common 26 = .ok (.lstore 6, 2) := by decide +kernel
theorem dX12_common_28 : decode cX12_common 28 = .ok (.goto (-22), 3) := by decide +kernel
theorem dX12_common_31 : decode cX12_common 31 = .ok (.lload 4, 2) := by decide +kernel
theorem dX12_common_33 : decode cX12_common 33 = .ok (.lreturn, 1) := by decide +kernel
abbrev YX12_common : zY := (yX12_common, cX12_common, 10, (Option.some Jvm.ClassFile.FieldType.long), [])
def fX12_common_6 (F : zFs)   (k_6 : Int → Int → zDa → Option (Int × zDa)) (v4 : Int) (v6 : Int) (D : zDa) : Option (Int × zDa) :=
  if v6 = 0 then
    some (v4, D)
  else
    if (v6 ≠ 0) then
      zlet ((Int.tmod v4 v6)) (fun x8_1 =>
        k_6 v6 x8_1 D)
    else none
def fX12_common (F : zFs) (v0 : Int) (v2 : Int) (D : zDa) : Option (Int × zDa) :=
  zfix (fun _ _ _ => none) (fX12_common_6 F) zfu v0 v2 D
set_option maxHeartbeats 20000000 in
theorem sX12_common_6 {l : Launch} {E : zE} {d : Nat} {F : zFs} {n sl : Nat} (hG : zG F)     : ∀ (N : Nat) (v4 : Int) (v6 : Int) (D : zDa), zO l E (d + 0) YX12_common 6 [(4, zL v4), (6, zL v6)] [] (F, D, n, sl) (zcJ F n sl) (zfix (fun _ _ _ => none) (fX12_common_6 F) N v4 v6 D) := by
  intro N
  induction N with
  | zero => intro v4 v6 D; exact zO_none
  | succ N hk_6 =>
    intro v4 v6 D
    show zO _ _ _ _ _ _ _ _ _ ((fX12_common_6 F) (zfix (fun _ _ _ => none) (fX12_common_6 F) N) v4 v6 D)
    unfold fX12_common_6
    refine zO_lload dX12_common_6 rfl ?_
    refine zO_lconst dX12_common_8 ?_
    refine zO_lif_eq (tgt := 31) dX12_common_9 dX12_common_10 rfl (fun c9 => ?_) (fun c9 => ?_)
    · refine zO_lload dX12_common_31 rfl ?_
      exact zO_ret (rv := some (zL v4)) dX12_common_33 rfl trivial rfl
    · refine zO_chk (fun h1 => ?_)
      refine zO_lload dX12_common_13 rfl ?_
      refine zO_lload dX12_common_15 rfl ?_
      refine zO_lrem dX12_common_17 h1 ?_
      refine zO_letJ (fun x8_1 ex8_1 => ?_)
      refine zO_lstore dX12_common_18 (by decide) ?_
      refine zO_ls (ls' := [(4, zL v4), (6, zL v6), (8, zL x8_1)]) rfl ?_
      refine zO_lload dX12_common_20 rfl ?_
      refine zO_lstore dX12_common_22 (by decide) ?_
      refine zO_ls (ls' := [(4, zL v6), (6, zL v6), (8, zL x8_1)]) rfl ?_
      refine zO_lload dX12_common_24 rfl ?_
      refine zO_lstore dX12_common_26 (by decide) ?_
      refine zO_ls (ls' := [(4, zL v6), (6, zL x8_1), (8, zL x8_1)]) rfl ?_
      refine zO_goto (tgt := 6) dX12_common_28 rfl ?_
      refine zO_live [4, 6] ?_
      exact hk_6 v6 x8_1 D
set_option maxHeartbeats 20000000 in
theorem mX12_common {l : Launch} {E : zE} {d : Nat} {F : zFs} {n sl : Nat} (hG : zG F) (v0 : Int) (v2 : Int) {D : zDa} : ∀ r, fX12_common F  v0 v2 D = some r → zMet l E (d + 0) YX12_common [zL v0, zL v2] (F, D, n, sl) (zcJ F n sl r) := by
  intro r hr
  refine zMet_of (plainFor_of_name (by decide)) (fun _ h => (nomatch h)) (Nat.le_of_ble_eq_true rfl) ?_
  have hz : zO l E (d + 0) YX12_common 0 [(0, zL v0), (2, zL v2)] [] (F, D, n, sl) (zcJ F n sl) (fX12_common F  v0 v2 D) := by
    unfold fX12_common
    refine zO_lload_n dX12_common_0 rfl ?_
    refine zO_lstore dX12_common_1 (by decide) ?_
    refine zO_ls (ls' := [(0, zL v0), (2, zL v2), (4, zL v0)]) rfl ?_
    refine zO_lload_n dX12_common_3 rfl ?_
    refine zO_lstore dX12_common_4 (by decide) ?_
    refine zO_ls (ls' := [(0, zL v0), (2, zL v2), (4, zL v0), (6, zL v2)]) rfl ?_
    refine zO_live [4, 6] ?_
    exact sX12_common_6 hG zfu v0 v2 D
  exact hz r hr
theorem dX12_reduced_0 : decode cX12_reduced 0 = .ok (.lload_n 0, 1) := by decide +kernel
theorem dX12_reduced_1 : decode cX12_reduced 1 = .ok (.lload_n 2, 1) := by decide +kernel
theorem dX12_reduced_2 : decode cX12_reduced 2 = .ok (.invokestatic 340, 3) := by decide +kernel
theorem dX12_reduced_5 : decode cX12_reduced 5 = .ok (.lstore 5, 2) := by decide +kernel
theorem dX12_reduced_7 : decode cX12_reduced 7 = .ok (.iload 4, 2) := by decide +kernel
theorem dX12_reduced_9 : decode cX12_reduced 9 = .ok (.ifCond .ne 10, 3) := by decide +kernel
theorem dX12_reduced_12 : decode cX12_reduced 12 = .ok (.lload_n 0, 1) := by decide +kernel
theorem dX12_reduced_13 : decode cX12_reduced 13 = .ok (.lload 5, 2) := by decide +kernel
theorem dX12_reduced_15 : decode cX12_reduced 15 = .ok (.ldiv, 1) := by decide +kernel
theorem dX12_reduced_16 : decode cX12_reduced 16 = .ok (.goto 7, 3) := by decide +kernel
theorem dX12_reduced_19 : decode cX12_reduced 19 = .ok (.lload_n 2, 1) := by decide +kernel
theorem dX12_reduced_20 : decode cX12_reduced 20 = .ok (.lload 5, 2) := by decide +kernel
theorem dX12_reduced_22 : decode cX12_reduced 22 = .ok (.ldiv, 1) := by decide +kernel
theorem dX12_reduced_23 : decode cX12_reduced 23 = .ok (.lreturn, 1) := by decide +kernel
abbrev YX12_reduced : zY := (yX12_reduced, cX12_reduced, 7, (Option.some Jvm.ClassFile.FieldType.long), [])
def fX12_reduced (F : zFs) (v0 : Int) (v2 : Int) (v4 : Int) (D : zDa) : Option (Int × zDa) :=
  (fX12_common F v0 v2 D).bind (fun (r_1, D_2) =>
    if v4 = 0 then
      if (r_1 ≠ 0) ∧ (¬ (v0 = -9223372036854775808 ∧ r_1 = -1)) then
        some ((Int.tdiv v0 r_1), D_2)
      else none
    else
      if (r_1 ≠ 0) ∧ (¬ (v2 = -9223372036854775808 ∧ r_1 = -1)) then
        some ((Int.tdiv v2 r_1), D_2)
      else none)
set_option maxHeartbeats 20000000 in
theorem mX12_reduced {l : Launch} {E : zE} {d : Nat} {F : zFs} {n sl : Nat} (hG : zG F) (v0 : Int) (v2 : Int) (v4 : Int) {D : zDa} : ∀ r, fX12_reduced F  v0 v2 v4 D = some r → zMet l E (d + 1) YX12_reduced [zL v0, zL v2, zI v4] (F, D, n, sl) (zcJ F n sl r) := by
  intro r hr
  refine zMet_of (plainFor_of_name (by decide)) (fun _ h => (nomatch h)) (Nat.le_of_ble_eq_true rfl) ?_
  have hz : zO l E (d + 1) YX12_reduced 0 [(0, zL v0), (2, zL v2), (4, zI v4)] [] (F, D, n, sl) (zcJ F n sl) (fX12_reduced F  v0 v2 v4 D) := by
    unfold fX12_reduced
    refine zO_lload_n dX12_reduced_0 rfl ?_
    refine zO_lload_n dX12_reduced_1 rfl ?_
    refine zO_callS (Y' := YX12_common) (cw := zcJ F n sl) (as := [zL v0, zL v2]) (rest := []) (na := 2) dX12_reduced_2 wC_X12_common wN_X12 wM_X12_340 wS_X12_common (by decide) (by decide) rfl rfl (Nat.le_of_ble_eq_true rfl) (fun r hr => zMet_cast (Nat.add_assoc d 0 0) (mX12_common (d := d + 0) hG v0 v2 r hr)) ?_
    rintro ⟨r_1, D_2⟩ -
    show zO _ _ _ _ _ _ [zL r_1] (F, D_2, n, sl) _ _
    refine zO_lstore dX12_reduced_5 (by decide) ?_
    refine zO_ls (ls' := [(0, zL v0), (2, zL v2), (4, zI v4), (5, zL r_1)]) rfl ?_
    refine zO_iload dX12_reduced_7 rfl ?_
    refine zO_if_ne (tgt := 19) dX12_reduced_9 rfl (fun c9 => ?_) (fun c9 => ?_)
    · refine zO_chk (fun h1 => ?_)
      refine zO_lload_n dX12_reduced_12 rfl ?_
      refine zO_lload dX12_reduced_13 rfl ?_
      refine zO_ldiv dX12_reduced_15 h1.1 h1.2 ?_
      refine zO_goto (tgt := 23) dX12_reduced_16 rfl ?_
      exact zO_ret (rv := some (zL (Int.tdiv v0 r_1))) dX12_reduced_23 rfl trivial rfl
    · refine zO_chk (fun h2 => ?_)
      refine zO_lload_n dX12_reduced_19 rfl ?_
      refine zO_lload dX12_reduced_20 rfl ?_
      refine zO_ldiv dX12_reduced_22 h2.1 h2.2 ?_
      exact zO_ret (rv := some (zL (Int.tdiv v2 r_1))) dX12_reduced_23 rfl trivial rfl
  exact hz r hr
theorem dX12_passes_0 : decode cX12_passes 0 = .ok (.lconst 0, 1) := by decide +kernel
theorem dX12_passes_1 : decode cX12_passes 1 = .ok (.lstore_n 1, 1) := by decide +kernel
theorem dX12_passes_2 : decode cX12_passes 2 = .ok (.aload_n 0, 1) := by decide +kernel
theorem dX12_passes_3 : decode cX12_passes 3 = .ok (.iconst 2, 1) := by decide +kernel
theorem dX12_passes_4 : decode cX12_passes 4 = .ok (.invokevirtual 318, 3) := by decide +kernel
theorem dX12_passes_7 : decode cX12_passes 7 = .ok (.istore_n 3, 1) := by decide +kernel
theorem dX12_passes_8 : decode cX12_passes 8 = .ok (.iload_n 3, 1) := by decide +kernel
theorem dX12_passes_9 : decode cX12_passes 9 = .ok (.iconst 4, 1) := by decide +kernel
theorem dX12_passes_10 : decode cX12_passes 10 = .ok (.if_icmp .ge 18, 3) := by decide +kernel
theorem dX12_passes_13 : decode cX12_passes 13 = .ok (.lload_n 1, 1) := by decide +kernel
theorem dX12_passes_14 : decode cX12_passes 14 = .ok (.aload_n 0, 1) := by decide +kernel
theorem dX12_passes_15 : decode cX12_passes 15 = .ok (.getfield 71, 3) := by decide +kernel
theorem dX12_passes_18 : decode cX12_passes 18 = .ok (.iload_n 3, 1) := by decide +kernel
theorem dX12_passes_19 : decode cX12_passes 19 = .ok (.laload, 1) := by decide +kernel
theorem dX12_passes_20 : decode cX12_passes 20 = .ok (.ladd, 1) := by decide +kernel
theorem dX12_passes_21 : decode cX12_passes 21 = .ok (.lstore_n 1, 1) := by decide +kernel
theorem dX12_passes_22 : decode cX12_passes 22 = .ok (.iinc 3 1, 3) := by decide +kernel
theorem dX12_passes_25 : decode cX12_passes 25 = .ok (.goto (-17), 3) := by decide +kernel
theorem dX12_passes_28 : decode cX12_passes 28 = .ok (.lload_n 1, 1) := by decide +kernel
theorem dX12_passes_29 : decode cX12_passes 29 = .ok (.lreturn, 1) := by decide +kernel
abbrev YX12_passes : zY := (yX12_passes, cX12_passes, 4, (Option.some Jvm.ClassFile.FieldType.long), [])
def fX12_passes_8 (F : zFs)   (k_8 : Int → Int → zDa → Option (Int × zDa)) (v1 : Int) (v3 : Int) (D : zDa) : Option (Int × zDa) :=
  if v3 < 4 then
    if (0 ≤ v3 ∧ v3 < 4) ∧ (-9223372036854775808 ≤ v1 + (D 108 v3.toNat) ∧ v1 + (D 108 v3.toNat) ≤ 9223372036854775807) then
      zlet ((v1 + (D 108 v3.toNat))) (fun x1_3 =>
        if (-2147483648 ≤ v3 + 1 ∧ v3 + 1 ≤ 2147483647) then
          k_8 x1_3 (v3 + 1) D
        else none)
    else none
  else
    some (v1, D)
def fX12_passes (F : zFs)  (D : zDa) : Option (Int × zDa) :=
  (fX12_term F 2 D).bind (fun (r_1, D_2) =>
    zfix (fun _ _ _ => none) (fX12_passes_8 F) zfu 0 r_1 D_2)
set_option maxHeartbeats 20000000 in
theorem sX12_passes_8 {l : Launch} {E : zE} {d : Nat} {F : zFs} {n sl : Nat} (hG : zG F)     : ∀ (N : Nat) (v1 : Int) (v3 : Int) (D : zDa), zO l E (d + 1) YX12_passes 8 [(0, zR 91), (1, zL v1), (3, zI v3)] [] (F, D, n, sl) (zcJ F n sl) (zfix (fun _ _ _ => none) (fX12_passes_8 F) N v1 v3 D) := by
  intro N
  induction N with
  | zero => intro v1 v3 D; exact zO_none
  | succ N hk_8 =>
    intro v1 v3 D
    show zO _ _ _ _ _ _ _ _ _ ((fX12_passes_8 F) (zfix (fun _ _ _ => none) (fX12_passes_8 F) N) v1 v3 D)
    unfold fX12_passes_8
    refine zO_iload_n dX12_passes_8 rfl ?_
    refine zO_iconst dX12_passes_9 (by decide) ?_
    refine zO_icmp_ge (tgt := 28) dX12_passes_10 rfl (fun c10 => ?_) (fun c10 => ?_)
    · refine zO_chk (fun h1 => ?_)
      refine zO_lload_n dX12_passes_13 rfl ?_
      refine zO_aload_n dX12_passes_14 rfl (zR_P _) ?_
      refine gt12 (k := 27) dX12_passes_15 wF_X12_71 (by decide) (gk_91 hG) (zgv (c := 12) (k := 27) rfl (Or.inl ⟨_, rfl⟩) (gf_91_27 hG)) ?_
      refine zO_iload_n dX12_passes_18 rfl ?_
      refine zO_lald dX12_passes_19 (gk_108 hG) (gl_in (gl_108 hG) h1.1) ?_
      refine zO_ladd dX12_passes_20 h1.2 ?_
      refine zO_letJ (fun x1_3 ex1_3 => ?_)
      refine zO_lstore_n dX12_passes_21 (by decide) ?_
      refine zO_ls (ls' := [(0, zR 91), (1, zL x1_3), (3, zI v3)]) rfl ?_
      refine zO_chk (fun h2 => ?_)
      refine zO_iinc dX12_passes_22 rfl h2 (by decide) ?_
      refine zO_ls (ls' := [(0, zR 91), (1, zL x1_3), (3, zI (v3 + 1))]) rfl ?_
      refine zO_goto (tgt := 8) dX12_passes_25 rfl ?_
      refine zO_live [0, 1, 3] ?_
      exact hk_8 x1_3 (v3 + 1) D
    · refine zO_lload_n dX12_passes_28 rfl ?_
      exact zO_ret (rv := some (zL v1)) dX12_passes_29 rfl trivial rfl
set_option maxHeartbeats 20000000 in
theorem mX12_passes {l : Launch} {E : zE} {d : Nat} {F : zFs} {n sl : Nat} (hG : zG F)  {D : zDa} : ∀ r, fX12_passes F   D = some r → zMet l E (d + 1) YX12_passes [zR 91] (F, D, n, sl) (zcJ F n sl r) := by
  intro r hr
  refine zMet_of (plainFor_of_name (by decide)) (fun _ h => (nomatch h)) (Nat.le_of_ble_eq_true rfl) ?_
  have hz : zO l E (d + 1) YX12_passes 0 [(0, zR 91)] [] (F, D, n, sl) (zcJ F n sl) (fX12_passes F   D) := by
    unfold fX12_passes
    refine zO_lconst dX12_passes_0 ?_
    refine zO_lstore_n dX12_passes_1 (by decide) ?_
    refine zO_ls (ls' := [(0, zR 91), (1, zL 0)]) rfl ?_
    refine zO_aload_n dX12_passes_2 rfl (zR_P _) ?_
    refine zO_iconst dX12_passes_3 (by decide) ?_
    refine zO_callV (Y' := YX12_term) (cw := zcI F n sl) (as := [zI 2]) (rest := []) (na := 1) (ci := 12) rfl dX12_passes_4 wC_X12_term wN_X12 wM_X12_318 wI_X12_term wV_X12_term (by decide) (by decide) rfl rfl (Nat.le_of_ble_eq_true rfl) rfl (by decide) (gk_91 hG) (fun r hr => zMet_cast (Nat.add_assoc d 0 0) (mX12_term (d := d + 0) hG 2 r hr)) ?_
    rintro ⟨r_1, D_2⟩ -
    show zO _ _ _ _ _ _ [zI r_1] (F, D_2, n, sl) _ _
    refine zO_istore_n dX12_passes_7 (by decide) ?_
    refine zO_ls (ls' := [(0, zR 91), (1, zL 0), (3, zI r_1)]) rfl ?_
    refine zO_live [0, 1, 3] ?_
    exact sX12_passes_8 hG zfu 0 r_1 D_2
  exact hz r hr
theorem dX12_pass_0 : decode cX12_pass 0 = .ok (.iload_n 1, 1) := by decide +kernel
theorem dX12_pass_1 : decode cX12_pass 1 = .ok (.iconst 0, 1) := by decide +kernel
theorem dX12_pass_2 : decode cX12_pass 2 = .ok (.iconst 1, 1) := by decide +kernel
theorem dX12_pass_3 : decode cX12_pass 3 = .ok (.invokestatic 135, 3) := by decide +kernel
theorem dX12_pass_6 : decode cX12_pass 6 = .ok (.ifCond .ne 7, 3) := by decide +kernel
theorem dX12_pass_9 : decode cX12_pass 9 = .ok (.ldc2_w 344, 3) := by decide +kernel
theorem dX12_pass_12 : decode cX12_pass 12 = .ok (.lreturn, 1) := by decide +kernel
theorem dX12_pass_13 : decode cX12_pass 13 = .ok (.aload_n 0, 1) := by decide +kernel
theorem dX12_pass_14 : decode cX12_pass 14 = .ok (.iconst (-1), 1) := by decide +kernel
theorem dX12_pass_15 : decode cX12_pass 15 = .ok (.iconst 0, 1) := by decide +kernel
theorem dX12_pass_16 : decode cX12_pass 16 = .ok (.invokevirtual 346, 3) := by decide +kernel
theorem dX12_pass_19 : decode cX12_pass 19 = .ok (.aload_n 0, 1) := by decide +kernel
theorem dX12_pass_20 : decode cX12_pass 20 = .ok (.invokevirtual 350, 3) := by decide +kernel
theorem dX12_pass_23 : decode cX12_pass 23 = .ok (.aload_n 0, 1) := by decide +kernel
theorem dX12_pass_24 : decode cX12_pass 24 = .ok (.getfield 324, 3) := by decide +kernel
theorem dX12_pass_27 : decode cX12_pass 27 = .ok (.iload_n 1, 1) := by decide +kernel
theorem dX12_pass_28 : decode cX12_pass 28 = .ok (.invokestatic 354, 3) := by decide +kernel
theorem dX12_pass_31 : decode cX12_pass 31 = .ok (.lreturn, 1) := by decide +kernel
abbrev YX12_pass : zY := (yX12_pass, cX12_pass, 2, (Option.some Jvm.ClassFile.FieldType.long), [])
def fX12_pass (F : zFs) (v1 : Int) (D : zDa) : Option (Int × zDa) :=
  (fX12_lies F v1 0 1 D).bind (fun (r_1, D_2) =>
    if r_1 = 0 then
      some ((-1), D_2)
    else
      (fX12_known F (-1) 0 D_2).bind (fun D_4 =>
        (fX12_passes F D_4).bind (fun (r_5, D_6) =>
          (fX12_reduced F r_5 (D_6 91 30) v1 D_6).bind (fun (r_7, D_8) =>
            some (r_7, D_8)))))
set_option maxHeartbeats 20000000 in
theorem mX12_pass {l : Launch} {E : zE} {d : Nat} {F : zFs} {n sl : Nat} (hG : zG F) (v1 : Int) {D : zDa} : ∀ r, fX12_pass F  v1 D = some r → zMet l E (d + 90) YX12_pass [zR 91, zI v1] (F, D, n, sl) (zcJ F n sl r) := by
  intro r hr
  refine zMet_of (plainFor_of_name (by decide)) (fun _ h => (nomatch h)) (Nat.le_of_ble_eq_true rfl) ?_
  have hz : zO l E (d + 90) YX12_pass 0 [(0, zR 91), (1, zI v1)] [] (F, D, n, sl) (zcJ F n sl) (fX12_pass F  v1 D) := by
    unfold fX12_pass
    refine zO_iload_n dX12_pass_0 rfl ?_
    refine zO_iconst dX12_pass_1 (by decide) ?_
    refine zO_iconst dX12_pass_2 (by decide) ?_
    refine zO_callS (Y' := YX12_lies) (cw := zcI F n sl) (as := [zI v1, zI 0, zI 1]) (rest := []) (na := 3) dX12_pass_3 wC_X12_lies wN_X12 wM_X12_135 wS_X12_lies (by decide) (by decide) rfl rfl (Nat.le_of_ble_eq_true rfl) (fun r hr => zMet_cast (Nat.add_assoc d 89 0) (mX12_lies (d := d + 89) hG v1 0 1 r hr)) ?_
    rintro ⟨r_1, D_2⟩ -
    show zO _ _ _ _ _ _ [zI r_1] (F, D_2, n, sl) _ _
    refine zO_if_ne (tgt := 13) dX12_pass_6 rfl (fun c6 => ?_) (fun c6 => ?_)
    · refine zO_ldc2 (n := -1) dX12_pass_9 wK_X12_344 (by decide) ?_
      exact zO_ret (rv := some (zL (-1))) dX12_pass_12 rfl trivial rfl
    · refine zO_aload_n dX12_pass_13 rfl (zR_P _) ?_
      refine zO_iconst dX12_pass_14 (by decide) ?_
      refine zO_iconst dX12_pass_15 (by decide) ?_
      refine zO_callV (Y' := YX12_known) (cw := zcV F n sl) (as := [zI (-1), zI 0]) (rest := []) (na := 2) (ci := 12) rfl dX12_pass_16 wC_X12_known wN_X12 wM_X12_346 wI_X12_known wV_X12_known (by decide) (by decide) rfl rfl (Nat.le_of_ble_eq_true rfl) rfl (by decide) (gk_91 hG) (fun r hr => zMet_cast (Nat.add_assoc d 0 89) (mX12_known (d := d + 0) hG (-1) 0 r hr)) ?_
      intro D_4 _
      show zO _ _ _ _ _ _ [] (F, D_4, n, sl) _ _
      refine zO_aload_n dX12_pass_19 rfl (zR_P _) ?_
      refine zO_callV (Y' := YX12_passes) (cw := zcJ F n sl) (as := []) (rest := []) (na := 0) (ci := 12) rfl dX12_pass_20 wC_X12_passes wN_X12 wM_X12_350 wI_X12_passes wV_X12_passes (by decide) (by decide) rfl rfl (Nat.le_of_ble_eq_true rfl) rfl (by decide) (gk_91 hG) (fun r hr => zMet_cast (Nat.add_assoc d 88 1) (mX12_passes (d := d + 88) hG  r hr)) ?_
      rintro ⟨r_5, D_6⟩ -
      show zO _ _ _ _ _ _ [zL r_5] (F, D_6, n, sl) _ _
      refine zO_aload_n dX12_pass_23 rfl (zR_P _) ?_
      refine gt12 (k := 30) (v := zL (D_6 91 30)) dX12_pass_24 wF_X12_324 (by decide) (gk_91 hG) rfl ?_
      refine zO_iload_n dX12_pass_27 rfl ?_
      refine zO_callS (Y' := YX12_reduced) (cw := zcJ F n sl) (as := [zL r_5, zL (D_6 91 30), zI v1]) (rest := []) (na := 3) dX12_pass_28 wC_X12_reduced wN_X12 wM_X12_354 wS_X12_reduced (by decide) (by decide) rfl rfl (Nat.le_of_ble_eq_true rfl) (fun r hr => zMet_cast (Nat.add_assoc d 88 1) (mX12_reduced (d := d + 88) hG r_5 (D_6 91 30) v1 r hr)) ?_
      rintro ⟨r_7, D_8⟩ -
      show zO _ _ _ _ _ _ [zL r_7] (F, D_8, n, sl) _ _
      exact zO_ret (rv := some (zL r_7)) dX12_pass_31 rfl trivial rfl
  exact hz r hr
theorem dX12_right_0 : decode cX12_right 0 = .ok (.iload_n 1, 1) := by decide +kernel
theorem dX12_right_1 : decode cX12_right 1 = .ok (.iconst 0, 1) := by decide +kernel
theorem dX12_right_2 : decode cX12_right 2 = .ok (.iconst 3, 1) := by decide +kernel
theorem dX12_right_3 : decode cX12_right 3 = .ok (.invokestatic 135, 3) := by decide +kernel
theorem dX12_right_6 : decode cX12_right 6 = .ok (.ifCond .eq 12, 3) := by decide +kernel
theorem dX12_right_9 : decode cX12_right 9 = .ok (.iload_n 2, 1) := by decide +kernel
theorem dX12_right_10 : decode cX12_right 10 = .ok (.iconst 0, 1) := by decide +kernel
theorem dX12_right_11 : decode cX12_right 11 = .ok (.iconst 1, 1) := by decide +kernel
theorem dX12_right_12 : decode cX12_right 12 = .ok (.invokestatic 135, 3) := by decide +kernel
theorem dX12_right_15 : decode cX12_right 15 = .ok (.ifCond .ne 7, 3) := by decide +kernel
theorem dX12_right_18 : decode cX12_right 18 = .ok (.ldc2_w 344, 3) := by decide +kernel
theorem dX12_right_21 : decode cX12_right 21 = .ok (.lreturn, 1) := by decide +kernel
theorem dX12_right_22 : decode cX12_right 22 = .ok (.aload_n 0, 1) := by decide +kernel
theorem dX12_right_23 : decode cX12_right 23 = .ok (.iconst (-1), 1) := by decide +kernel
theorem dX12_right_24 : decode cX12_right 24 = .ok (.iconst 0, 1) := by decide +kernel
theorem dX12_right_25 : decode cX12_right 25 = .ok (.invokevirtual 346, 3) := by decide +kernel
theorem dX12_right_28 : decode cX12_right 28 = .ok (.aload_n 0, 1) := by decide +kernel
theorem dX12_right_29 : decode cX12_right 29 = .ok (.getfield 71, 3) := by decide +kernel
theorem dX12_right_32 : decode cX12_right 32 = .ok (.iload_n 1, 1) := by decide +kernel
theorem dX12_right_33 : decode cX12_right 33 = .ok (.laload, 1) := by decide +kernel
theorem dX12_right_34 : decode cX12_right 34 = .ok (.aload_n 0, 1) := by decide +kernel
theorem dX12_right_35 : decode cX12_right 35 = .ok (.getfield 324, 3) := by decide +kernel
theorem dX12_right_38 : decode cX12_right 38 = .ok (.iload_n 2, 1) := by decide +kernel
theorem dX12_right_39 : decode cX12_right 39 = .ok (.invokestatic 354, 3) := by decide +kernel
theorem dX12_right_42 : decode cX12_right 42 = .ok (.lreturn, 1) := by decide +kernel
abbrev YX12_right : zY := (yX12_right, cX12_right, 3, (Option.some Jvm.ClassFile.FieldType.long), [])
def fX12_right (F : zFs) (v1 : Int) (v2 : Int) (D : zDa) : Option (Int × zDa) :=
  (fX12_lies F v1 0 3 D).bind (fun (r_1, D_2) =>
    if r_1 = 0 then
      some ((-1), D_2)
    else
      (fX12_lies F v2 0 1 D_2).bind (fun (r_3, D_4) =>
        if r_3 = 0 then
          some ((-1), D_4)
        else
          (fX12_known F (-1) 0 D_4).bind (fun D_6 =>
            if (0 ≤ v1 ∧ v1 < 4) then
              (fX12_reduced F (D_6 108 v1.toNat) (D_6 91 30) v2 D_6).bind (fun (r_7, D_8) =>
                some (r_7, D_8))
            else none)))
set_option maxHeartbeats 20000000 in
theorem mX12_right {l : Launch} {E : zE} {d : Nat} {F : zFs} {n sl : Nat} (hG : zG F) (v1 : Int) (v2 : Int) {D : zDa} : ∀ r, fX12_right F  v1 v2 D = some r → zMet l E (d + 90) YX12_right [zR 91, zI v1, zI v2] (F, D, n, sl) (zcJ F n sl r) := by
  intro r hr
  refine zMet_of (plainFor_of_name (by decide)) (fun _ h => (nomatch h)) (Nat.le_of_ble_eq_true rfl) ?_
  have hz : zO l E (d + 90) YX12_right 0 [(0, zR 91), (1, zI v1), (2, zI v2)] [] (F, D, n, sl) (zcJ F n sl) (fX12_right F  v1 v2 D) := by
    unfold fX12_right
    refine zO_iload_n dX12_right_0 rfl ?_
    refine zO_iconst dX12_right_1 (by decide) ?_
    refine zO_iconst dX12_right_2 (by decide) ?_
    refine zO_callS (Y' := YX12_lies) (cw := zcI F n sl) (as := [zI v1, zI 0, zI 3]) (rest := []) (na := 3) dX12_right_3 wC_X12_lies wN_X12 wM_X12_135 wS_X12_lies (by decide) (by decide) rfl rfl (Nat.le_of_ble_eq_true rfl) (fun r hr => zMet_cast (Nat.add_assoc d 89 0) (mX12_lies (d := d + 89) hG v1 0 3 r hr)) ?_
    rintro ⟨r_1, D_2⟩ -
    show zO _ _ _ _ _ _ [zI r_1] (F, D_2, n, sl) _ _
    refine zO_if_eq (tgt := 18) dX12_right_6 rfl (fun c6 => ?_) (fun c6 => ?_)
    · refine zO_ldc2 (n := -1) dX12_right_18 wK_X12_344 (by decide) ?_
      exact zO_ret (rv := some (zL (-1))) dX12_right_21 rfl trivial rfl
    · refine zO_iload_n dX12_right_9 rfl ?_
      refine zO_iconst dX12_right_10 (by decide) ?_
      refine zO_iconst dX12_right_11 (by decide) ?_
      refine zO_callS (Y' := YX12_lies) (cw := zcI F n sl) (as := [zI v2, zI 0, zI 1]) (rest := []) (na := 3) dX12_right_12 wC_X12_lies wN_X12 wM_X12_135 wS_X12_lies (by decide) (by decide) rfl rfl (Nat.le_of_ble_eq_true rfl) (fun r hr => zMet_cast (Nat.add_assoc d 89 0) (mX12_lies (d := d + 89) hG v2 0 1 r hr)) ?_
      rintro ⟨r_3, D_4⟩ -
      show zO _ _ _ _ _ _ [zI r_3] (F, D_4, n, sl) _ _
      refine zO_if_ne (tgt := 22) dX12_right_15 rfl (fun c15 => ?_) (fun c15 => ?_)
      · refine zO_ldc2 (n := -1) dX12_right_18 wK_X12_344 (by decide) ?_
        exact zO_ret (rv := some (zL (-1))) dX12_right_21 rfl trivial rfl
      · refine zO_aload_n dX12_right_22 rfl (zR_P _) ?_
        refine zO_iconst dX12_right_23 (by decide) ?_
        refine zO_iconst dX12_right_24 (by decide) ?_
        refine zO_callV (Y' := YX12_known) (cw := zcV F n sl) (as := [zI (-1), zI 0]) (rest := []) (na := 2) (ci := 12) rfl dX12_right_25 wC_X12_known wN_X12 wM_X12_346 wI_X12_known wV_X12_known (by decide) (by decide) rfl rfl (Nat.le_of_ble_eq_true rfl) rfl (by decide) (gk_91 hG) (fun r hr => zMet_cast (Nat.add_assoc d 0 89) (mX12_known (d := d + 0) hG (-1) 0 r hr)) ?_
        intro D_6 _
        show zO _ _ _ _ _ _ [] (F, D_6, n, sl) _ _
        refine zO_chk (fun h1 => ?_)
        refine zO_aload_n dX12_right_28 rfl (zR_P _) ?_
        refine gt12 (k := 27) dX12_right_29 wF_X12_71 (by decide) (gk_91 hG) (zgv (c := 12) (k := 27) rfl (Or.inl ⟨_, rfl⟩) (gf_91_27 hG)) ?_
        refine zO_iload_n dX12_right_32 rfl ?_
        refine zO_lald dX12_right_33 (gk_108 hG) (gl_in (gl_108 hG) h1) ?_
        refine zO_aload_n dX12_right_34 rfl (zR_P _) ?_
        refine gt12 (k := 30) (v := zL (D_6 91 30)) dX12_right_35 wF_X12_324 (by decide) (gk_91 hG) rfl ?_
        refine zO_iload_n dX12_right_38 rfl ?_
        refine zO_callS (Y' := YX12_reduced) (cw := zcJ F n sl) (as := [zL (D_6 108 v1.toNat), zL (D_6 91 30), zI v2]) (rest := []) (na := 3) dX12_right_39 wC_X12_reduced wN_X12 wM_X12_354 wS_X12_reduced (by decide) (by decide) rfl rfl (Nat.le_of_ble_eq_true rfl) (fun r hr => zMet_cast (Nat.add_assoc d 88 1) (mX12_reduced (d := d + 88) hG (D_6 108 v1.toNat) (D_6 91 30) v2 r hr)) ?_
        rintro ⟨r_7, D_8⟩ -
        show zO _ _ _ _ _ _ [zL r_7] (F, D_8, n, sl) _ _
        exact zO_ret (rv := some (zL r_7)) dX12_right_42 rfl trivial rfl
  exact hz r hr
theorem dX12_mean_0 : decode cX12_mean 0 = .ok (.iload_n 1, 1) := by decide +kernel
theorem dX12_mean_1 : decode cX12_mean 1 = .ok (.iconst 0, 1) := by decide +kernel
theorem dX12_mean_2 : decode cX12_mean 2 = .ok (.iconst 1, 1) := by decide +kernel
theorem dX12_mean_3 : decode cX12_mean 3 = .ok (.invokestatic 135, 3) := by decide +kernel
theorem dX12_mean_6 : decode cX12_mean 6 = .ok (.ifCond .ne 7, 3) := by decide +kernel
theorem dX12_mean_9 : decode cX12_mean 9 = .ok (.ldc2_w 344, 3) := by decide +kernel
theorem dX12_mean_12 : decode cX12_mean 12 = .ok (.lreturn, 1) := by decide +kernel
theorem dX12_mean_13 : decode cX12_mean 13 = .ok (.aload_n 0, 1) := by decide +kernel
theorem dX12_mean_14 : decode cX12_mean 14 = .ok (.iconst (-1), 1) := by decide +kernel
theorem dX12_mean_15 : decode cX12_mean 15 = .ok (.iconst 0, 1) := by decide +kernel
theorem dX12_mean_16 : decode cX12_mean 16 = .ok (.invokevirtual 346, 3) := by decide +kernel
theorem dX12_mean_19 : decode cX12_mean 19 = .ok (.aload_n 0, 1) := by decide +kernel
theorem dX12_mean_20 : decode cX12_mean 20 = .ok (.getfield 71, 3) := by decide +kernel
theorem dX12_mean_23 : decode cX12_mean 23 = .ok (.iconst 1, 1) := by decide +kernel
theorem dX12_mean_24 : decode cX12_mean 24 = .ok (.laload, 1) := by decide +kernel
theorem dX12_mean_25 : decode cX12_mean 25 = .ok (.ldc2_w 358, 3) := by decide +kernel
theorem dX12_mean_28 : decode cX12_mean 28 = .ok (.aload_n 0, 1) := by decide +kernel
theorem dX12_mean_29 : decode cX12_mean 29 = .ok (.getfield 71, 3) := by decide +kernel
theorem dX12_mean_32 : decode cX12_mean 32 = .ok (.iconst 2, 1) := by decide +kernel
theorem dX12_mean_33 : decode cX12_mean 33 = .ok (.laload, 1) := by decide +kernel
theorem dX12_mean_34 : decode cX12_mean 34 = .ok (.lmul, 1) := by decide +kernel
theorem dX12_mean_35 : decode cX12_mean 35 = .ok (.ladd, 1) := by decide +kernel
theorem dX12_mean_36 : decode cX12_mean 36 = .ok (.ldc2_w 360, 3) := by decide +kernel
theorem dX12_mean_39 : decode cX12_mean 39 = .ok (.aload_n 0, 1) := by decide +kernel
theorem dX12_mean_40 : decode cX12_mean 40 = .ok (.getfield 71, 3) := by decide +kernel
theorem dX12_mean_43 : decode cX12_mean 43 = .ok (.iconst 3, 1) := by decide +kernel
theorem dX12_mean_44 : decode cX12_mean 44 = .ok (.laload, 1) := by decide +kernel
theorem dX12_mean_45 : decode cX12_mean 45 = .ok (.lmul, 1) := by decide +kernel
theorem dX12_mean_46 : decode cX12_mean 46 = .ok (.ladd, 1) := by decide +kernel
theorem dX12_mean_47 : decode cX12_mean 47 = .ok (.aload_n 0, 1) := by decide +kernel
theorem dX12_mean_48 : decode cX12_mean 48 = .ok (.getfield 324, 3) := by decide +kernel
theorem dX12_mean_51 : decode cX12_mean 51 = .ok (.iload_n 1, 1) := by decide +kernel
theorem dX12_mean_52 : decode cX12_mean 52 = .ok (.invokestatic 354, 3) := by decide +kernel
theorem dX12_mean_55 : decode cX12_mean 55 = .ok (.lreturn, 1) := by decide +kernel
abbrev YX12_mean : zY := (yX12_mean, cX12_mean, 2, (Option.some Jvm.ClassFile.FieldType.long), [])
def fX12_mean (F : zFs) (v1 : Int) (D : zDa) : Option (Int × zDa) :=
  (fX12_lies F v1 0 1 D).bind (fun (r_1, D_2) =>
    if r_1 = 0 then
      some ((-1), D_2)
    else
      (fX12_known F (-1) 0 D_2).bind (fun D_4 =>
        if (-9223372036854775808 ≤ 2 * (D_4 108 2) ∧ 2 * (D_4 108 2) ≤ 9223372036854775807) ∧ (-9223372036854775808 ≤ (D_4 108 1) + (2 * (D_4 108 2)) ∧ (D_4 108 1) + (2 * (D_4 108 2)) ≤ 9223372036854775807) ∧ (-9223372036854775808 ≤ 3 * (D_4 108 3) ∧ 3 * (D_4 108 3) ≤ 9223372036854775807) ∧ (-9223372036854775808 ≤ ((D_4 108 1) + (2 * (D_4 108 2))) + (3 * (D_4 108 3)) ∧ ((D_4 108 1) + (2 * (D_4 108 2))) + (3 * (D_4 108 3)) ≤ 9223372036854775807) then
          (fX12_reduced F (((D_4 108 1) + (2 * (D_4 108 2))) + (3 * (D_4 108 3))) (D_4 91 30) v1 D_4).bind (fun (r_5, D_6) =>
            some (r_5, D_6))
        else none))
set_option maxHeartbeats 20000000 in
theorem mX12_mean {l : Launch} {E : zE} {d : Nat} {F : zFs} {n sl : Nat} (hG : zG F) (v1 : Int) {D : zDa} : ∀ r, fX12_mean F  v1 D = some r → zMet l E (d + 90) YX12_mean [zR 91, zI v1] (F, D, n, sl) (zcJ F n sl r) := by
  intro r hr
  refine zMet_of (plainFor_of_name (by decide)) (fun _ h => (nomatch h)) (Nat.le_of_ble_eq_true rfl) ?_
  have hz : zO l E (d + 90) YX12_mean 0 [(0, zR 91), (1, zI v1)] [] (F, D, n, sl) (zcJ F n sl) (fX12_mean F  v1 D) := by
    unfold fX12_mean
    refine zO_iload_n dX12_mean_0 rfl ?_
    refine zO_iconst dX12_mean_1 (by decide) ?_
    refine zO_iconst dX12_mean_2 (by decide) ?_
    refine zO_callS (Y' := YX12_lies) (cw := zcI F n sl) (as := [zI v1, zI 0, zI 1]) (rest := []) (na := 3) dX12_mean_3 wC_X12_lies wN_X12 wM_X12_135 wS_X12_lies (by decide) (by decide) rfl rfl (Nat.le_of_ble_eq_true rfl) (fun r hr => zMet_cast (Nat.add_assoc d 89 0) (mX12_lies (d := d + 89) hG v1 0 1 r hr)) ?_
    rintro ⟨r_1, D_2⟩ -
    show zO _ _ _ _ _ _ [zI r_1] (F, D_2, n, sl) _ _
    refine zO_if_ne (tgt := 13) dX12_mean_6 rfl (fun c6 => ?_) (fun c6 => ?_)
    · refine zO_ldc2 (n := -1) dX12_mean_9 wK_X12_344 (by decide) ?_
      exact zO_ret (rv := some (zL (-1))) dX12_mean_12 rfl trivial rfl
    · refine zO_aload_n dX12_mean_13 rfl (zR_P _) ?_
      refine zO_iconst dX12_mean_14 (by decide) ?_
      refine zO_iconst dX12_mean_15 (by decide) ?_
      refine zO_callV (Y' := YX12_known) (cw := zcV F n sl) (as := [zI (-1), zI 0]) (rest := []) (na := 2) (ci := 12) rfl dX12_mean_16 wC_X12_known wN_X12 wM_X12_346 wI_X12_known wV_X12_known (by decide) (by decide) rfl rfl (Nat.le_of_ble_eq_true rfl) rfl (by decide) (gk_91 hG) (fun r hr => zMet_cast (Nat.add_assoc d 0 89) (mX12_known (d := d + 0) hG (-1) 0 r hr)) ?_
      intro D_4 _
      show zO _ _ _ _ _ _ [] (F, D_4, n, sl) _ _
      refine zO_chk (fun h1 => ?_)
      refine zO_aload_n dX12_mean_19 rfl (zR_P _) ?_
      refine gt12 (k := 27) dX12_mean_20 wF_X12_71 (by decide) (gk_91 hG) (zgv (c := 12) (k := 27) rfl (Or.inl ⟨_, rfl⟩) (gf_91_27 hG)) ?_
      refine zO_iconst dX12_mean_23 (by decide) ?_
      refine zO_lald dX12_mean_24 (gk_108 hG) (gl_in (gl_108 hG) (by decide)) ?_
      refine zO_ldc2 (n := 2) dX12_mean_25 wK_X12_358 (by decide) ?_
      refine zO_aload_n dX12_mean_28 rfl (zR_P _) ?_
      refine gt12 (k := 27) dX12_mean_29 wF_X12_71 (by decide) (gk_91 hG) (zgv (c := 12) (k := 27) rfl (Or.inl ⟨_, rfl⟩) (gf_91_27 hG)) ?_
      refine zO_iconst dX12_mean_32 (by decide) ?_
      refine zO_lald dX12_mean_33 (gk_108 hG) (gl_in (gl_108 hG) (by decide)) ?_
      refine zO_lmul dX12_mean_34 h1.1 ?_
      refine zO_ladd dX12_mean_35 h1.2.1 ?_
      refine zO_ldc2 (n := 3) dX12_mean_36 wK_X12_360 (by decide) ?_
      refine zO_aload_n dX12_mean_39 rfl (zR_P _) ?_
      refine gt12 (k := 27) dX12_mean_40 wF_X12_71 (by decide) (gk_91 hG) (zgv (c := 12) (k := 27) rfl (Or.inl ⟨_, rfl⟩) (gf_91_27 hG)) ?_
      refine zO_iconst dX12_mean_43 (by decide) ?_
      refine zO_lald dX12_mean_44 (gk_108 hG) (gl_in (gl_108 hG) (by decide)) ?_
      refine zO_lmul dX12_mean_45 h1.2.2.1 ?_
      refine zO_ladd dX12_mean_46 h1.2.2.2 ?_
      refine zO_aload_n dX12_mean_47 rfl (zR_P _) ?_
      refine gt12 (k := 30) (v := zL (D_4 91 30)) dX12_mean_48 wF_X12_324 (by decide) (gk_91 hG) rfl ?_
      refine zO_iload_n dX12_mean_51 rfl ?_
      refine zO_callS (Y' := YX12_reduced) (cw := zcJ F n sl) (as := [zL (((D_4 108 1) + (2 * (D_4 108 2))) + (3 * (D_4 108 3))), zL (D_4 91 30), zI v1]) (rest := []) (na := 3) dX12_mean_52 wC_X12_reduced wN_X12 wM_X12_354 wS_X12_reduced (by decide) (by decide) rfl rfl (Nat.le_of_ble_eq_true rfl) (fun r hr => zMet_cast (Nat.add_assoc d 88 1) (mX12_reduced (d := d + 88) hG (((D_4 108 1) + (2 * (D_4 108 2))) + (3 * (D_4 108 3))) (D_4 91 30) v1 r hr)) ?_
      rintro ⟨r_5, D_6⟩ -
      show zO _ _ _ _ _ _ [zL r_5] (F, D_6, n, sl) _ _
      exact zO_ret (rv := some (zL r_5)) dX12_mean_55 rfl trivial rfl
  exact hz r hr
theorem dX12_passesWith_0 : decode cX12_passesWith 0 = .ok (.aload_n 0, 1) := by decide +kernel
theorem dX12_passesWith_1 : decode cX12_passesWith 1 = .ok (.getfield 58, 3) := by decide +kernel
theorem dX12_passesWith_4 : decode cX12_passesWith 4 = .ok (.iconst 0, 1) := by decide +kernel
theorem dX12_passesWith_5 : decode cX12_passesWith 5 = .ok (.aload_n 0, 1) := by decide +kernel
theorem dX12_passesWith_6 : decode cX12_passesWith 6 = .ok (.invokevirtual 362, 3) := by decide +kernel
theorem dX12_passesWith_9 : decode cX12_passesWith 9 = .ok (.iload_n 1, 1) := by decide +kernel
theorem dX12_passesWith_10 : decode cX12_passesWith 10 = .ok (.isub, 1) := by decide +kernel
theorem dX12_passesWith_11 : decode cX12_passesWith 11 = .ok (.iload_n 2, 1) := by decide +kernel
theorem dX12_passesWith_12 : decode cX12_passesWith 12 = .ok (.isub, 1) := by decide +kernel
theorem dX12_passesWith_13 : decode cX12_passesWith 13 = .ok (.iastore, 1) := by decide +kernel
theorem dX12_passesWith_14 : decode cX12_passesWith 14 = .ok (.aload_n 0, 1) := by decide +kernel
theorem dX12_passesWith_15 : decode cX12_passesWith 15 = .ok (.getfield 58, 3) := by decide +kernel
theorem dX12_passesWith_18 : decode cX12_passesWith 18 = .ok (.iconst 1, 1) := by decide +kernel
theorem dX12_passesWith_19 : decode cX12_passesWith 19 = .ok (.iload_n 1, 1) := by decide +kernel
theorem dX12_passesWith_20 : decode cX12_passesWith 20 = .ok (.iastore, 1) := by decide +kernel
theorem dX12_passesWith_21 : decode cX12_passesWith 21 = .ok (.aload_n 0, 1) := by decide +kernel
theorem dX12_passesWith_22 : decode cX12_passesWith 22 = .ok (.getfield 58, 3) := by decide +kernel
theorem dX12_passesWith_25 : decode cX12_passesWith 25 = .ok (.iconst 2, 1) := by decide +kernel
theorem dX12_passesWith_26 : decode cX12_passesWith 26 = .ok (.iload_n 2, 1) := by decide +kernel
theorem dX12_passesWith_27 : decode cX12_passesWith 27 = .ok (.iastore, 1) := by decide +kernel
theorem dX12_passesWith_28 : decode cX12_passesWith 28 = .ok (.iconst 0, 1) := by decide +kernel
theorem dX12_passesWith_29 : decode cX12_passesWith 29 = .ok (.istore_n 3, 1) := by decide +kernel
theorem dX12_passesWith_30 : decode cX12_passesWith 30 = .ok (.iload_n 3, 1) := by decide +kernel
theorem dX12_passesWith_31 : decode cX12_passesWith 31 = .ok (.iconst 3, 1) := by decide +kernel
theorem dX12_passesWith_32 : decode cX12_passesWith 32 = .ok (.if_icmp .ge 16, 3) := by decide +kernel
theorem dX12_passesWith_35 : decode cX12_passesWith 35 = .ok (.aload_n 0, 1) := by decide +kernel
theorem dX12_passesWith_36 : decode cX12_passesWith 36 = .ok (.getfield 61, 3) := by decide +kernel
theorem dX12_passesWith_39 : decode cX12_passesWith 39 = .ok (.iload_n 3, 1) := by decide +kernel
theorem dX12_passesWith_40 : decode cX12_passesWith 40 = .ok (.iconst 0, 1) := by decide +kernel
theorem dX12_passesWith_41 : decode cX12_passesWith 41 = .ok (.iastore, 1) := by decide +kernel
theorem dX12_passesWith_42 : decode cX12_passesWith 42 = .ok (.iinc 3 1, 3) := by decide +kernel
theorem dX12_passesWith_45 : decode cX12_passesWith 45 = .ok (.goto (-15), 3) := by decide +kernel
theorem dX12_passesWith_48 : decode cX12_passesWith 48 = .ok (.aload_n 0, 1) := by decide +kernel
theorem dX12_passesWith_49 : decode cX12_passesWith 49 = .ok (.iconst 0, 1) := by decide +kernel
theorem dX12_passesWith_50 : decode cX12_passesWith 50 = .ok (.invokevirtual 337, 3) := by decide +kernel
theorem dX12_passesWith_53 : decode cX12_passesWith 53 = .ok (.aload_n 0, 1) := by decide +kernel
theorem dX12_passesWith_54 : decode cX12_passesWith 54 = .ok (.invokevirtual 350, 3) := by decide +kernel
theorem dX12_passesWith_57 : decode cX12_passesWith 57 = .ok (.lreturn, 1) := by decide +kernel
abbrev YX12_passesWith : zY := (yX12_passesWith, cX12_passesWith, 4, (Option.some Jvm.ClassFile.FieldType.long), [])
def fX12_passesWith_30 (F : zFs)   (k_30 : Int → zDa → Option (Int × zDa)) (v3 : Int) (D : zDa) : Option (Int × zDa) :=
  if v3 < 3 then
    if (0 ≤ v3 ∧ v3 < 3) then
      zlet (zwr D 105 v3.toNat 0) (fun D_6 =>
        if (-2147483648 ≤ v3 + 1 ∧ v3 + 1 ≤ 2147483647) then
          k_30 (v3 + 1) D_6
        else none)
    else none
  else
    (fX12_odds F 0 D).bind (fun D_8 =>
      (fX12_passes F D_8).bind (fun (r_9, D_10) =>
        some (r_9, D_10)))
def fX12_passesWith (F : zFs) (v1 : Int) (v2 : Int) (D : zDa) : Option (Int × zDa) :=
  (fX12_bowl F D).bind (fun (r_1, D_2) =>
    if (-2147483648 ≤ r_1 - v1 ∧ r_1 - v1 ≤ 2147483647) ∧ (-2147483648 ≤ (r_1 - v1) - v2 ∧ (r_1 - v1) - v2 ≤ 2147483647) then
      zlet (zwr D_2 104 0 ((r_1 - v1) - v2)) (fun D_3 =>
        zlet (zwr D_3 104 1 v1) (fun D_4 =>
          zlet (zwr D_4 104 2 v2) (fun D_5 =>
            zfix (fun _ _ => none) (fX12_passesWith_30 F) zfu 0 D_5)))
    else none)
set_option maxHeartbeats 20000000 in
theorem sX12_passesWith_30 {l : Launch} {E : zE} {d : Nat} {F : zFs} {n sl : Nat} (hG : zG F)     : ∀ (N : Nat) (v3 : Int) (D : zDa), zO l E (d + 3) YX12_passesWith 30 [(0, zR 91), (3, zI v3)] [] (F, D, n, sl) (zcJ F n sl) (zfix (fun _ _ => none) (fX12_passesWith_30 F) N v3 D) := by
  intro N
  induction N with
  | zero => intro v3 D; exact zO_none
  | succ N hk_30 =>
    intro v3 D
    show zO _ _ _ _ _ _ _ _ _ ((fX12_passesWith_30 F) (zfix (fun _ _ => none) (fX12_passesWith_30 F) N) v3 D)
    unfold fX12_passesWith_30
    refine zO_iload_n dX12_passesWith_30 rfl ?_
    refine zO_iconst dX12_passesWith_31 (by decide) ?_
    refine zO_icmp_ge (tgt := 48) dX12_passesWith_32 rfl (fun c32 => ?_) (fun c32 => ?_)
    · refine zO_chk (fun h2 => ?_)
      refine zO_aload_n dX12_passesWith_35 rfl (zR_P _) ?_
      refine gt12 (k := 24) dX12_passesWith_36 wF_X12_61 (by decide) (gk_91 hG) (zgv (c := 12) (k := 24) rfl (Or.inl ⟨_, rfl⟩) (gf_91_24 hG)) ?_
      refine zO_iload_n dX12_passesWith_39 rfl ?_
      refine zO_iconst dX12_passesWith_40 (by decide) ?_
      refine zO_iast dX12_passesWith_41 (gk_105 hG) (gl_in (gl_105 hG) h2) ?_
      refine zO_letD (fun D_6 eD_6 => ?_)
      refine zO_chk (fun h3 => ?_)
      refine zO_iinc dX12_passesWith_42 rfl h3 (by decide) ?_
      refine zO_ls (ls' := [(0, zR 91), (3, zI (v3 + 1))]) rfl ?_
      refine zO_goto (tgt := 30) dX12_passesWith_45 rfl ?_
      refine zO_live [0, 3] ?_
      exact hk_30 (v3 + 1) D_6
    · refine zO_aload_n dX12_passesWith_48 rfl (zR_P _) ?_
      refine zO_iconst dX12_passesWith_49 (by decide) ?_
      refine zO_callV (Y' := YX12_odds) (cw := zcV F n sl) (as := [zI 0]) (rest := []) (na := 1) (ci := 12) rfl dX12_passesWith_50 wC_X12_odds wN_X12 wM_X12_337 wI_X12_odds wV_X12_odds (by decide) (by decide) rfl rfl (Nat.le_of_ble_eq_true rfl) rfl (by decide) (gk_91 hG) (fun r hr => zMet_cast (Nat.add_assoc d 0 2) (mX12_odds (d := d + 0) hG 0 r hr)) ?_
      intro D_8 _
      show zO _ _ _ _ _ _ [] (F, D_8, n, sl) _ _
      refine zO_aload_n dX12_passesWith_53 rfl (zR_P _) ?_
      refine zO_callV (Y' := YX12_passes) (cw := zcJ F n sl) (as := []) (rest := []) (na := 0) (ci := 12) rfl dX12_passesWith_54 wC_X12_passes wN_X12 wM_X12_350 wI_X12_passes wV_X12_passes (by decide) (by decide) rfl rfl (Nat.le_of_ble_eq_true rfl) rfl (by decide) (gk_91 hG) (fun r hr => zMet_cast (Nat.add_assoc d 1 1) (mX12_passes (d := d + 1) hG  r hr)) ?_
      rintro ⟨r_9, D_10⟩ -
      show zO _ _ _ _ _ _ [zL r_9] (F, D_10, n, sl) _ _
      exact zO_ret (rv := some (zL r_9)) dX12_passesWith_57 rfl trivial rfl
set_option maxHeartbeats 20000000 in
theorem mX12_passesWith {l : Launch} {E : zE} {d : Nat} {F : zFs} {n sl : Nat} (hG : zG F) (v1 : Int) (v2 : Int) {D : zDa} : ∀ r, fX12_passesWith F  v1 v2 D = some r → zMet l E (d + 3) YX12_passesWith [zR 91, zI v1, zI v2] (F, D, n, sl) (zcJ F n sl r) := by
  intro r hr
  refine zMet_of (plainFor_of_name (by decide)) (fun _ h => (nomatch h)) (Nat.le_of_ble_eq_true rfl) ?_
  have hz : zO l E (d + 3) YX12_passesWith 0 [(0, zR 91), (1, zI v1), (2, zI v2)] [] (F, D, n, sl) (zcJ F n sl) (fX12_passesWith F  v1 v2 D) := by
    unfold fX12_passesWith
    refine zO_aload_n dX12_passesWith_0 rfl (zR_P _) ?_
    refine gt12 (k := 23) dX12_passesWith_1 wF_X12_58 (by decide) (gk_91 hG) (zgv (c := 12) (k := 23) rfl (Or.inl ⟨_, rfl⟩) (gf_91_23 hG)) ?_
    refine zO_iconst dX12_passesWith_4 (by decide) ?_
    refine zO_aload_n dX12_passesWith_5 rfl (zR_P _) ?_
    refine zO_callV (Y' := YX12_bowl) (cw := zcI F n sl) (as := []) (rest := [zI 0, zR 104]) (na := 0) (ci := 12) rfl dX12_passesWith_6 wC_X12_bowl wN_X12 wM_X12_362 wI_X12_bowl wV_X12_bowl (by decide) (by decide) rfl rfl (Nat.le_of_ble_eq_true rfl) rfl (by decide) (gk_91 hG) (fun r hr => zMet_cast (Nat.add_assoc d 0 2) (mX12_bowl (d := d + 0) hG  r hr)) ?_
    rintro ⟨r_1, D_2⟩ -
    show zO _ _ _ _ _ _ [zI r_1, zI 0, zR 104] (F, D_2, n, sl) _ _
    refine zO_chk (fun h1 => ?_)
    refine zO_iload_n dX12_passesWith_9 rfl ?_
    refine zO_isub dX12_passesWith_10 h1.1 ?_
    refine zO_iload_n dX12_passesWith_11 rfl ?_
    refine zO_isub dX12_passesWith_12 h1.2 ?_
    refine zO_iast dX12_passesWith_13 (gk_104 hG) (gl_in (gl_104 hG) (by decide)) ?_
    refine zO_letD (fun D_3 eD_3 => ?_)
    refine zO_aload_n dX12_passesWith_14 rfl (zR_P _) ?_
    refine gt12 (k := 23) dX12_passesWith_15 wF_X12_58 (by decide) (gk_91 hG) (zgv (c := 12) (k := 23) rfl (Or.inl ⟨_, rfl⟩) (gf_91_23 hG)) ?_
    refine zO_iconst dX12_passesWith_18 (by decide) ?_
    refine zO_iload_n dX12_passesWith_19 rfl ?_
    refine zO_iast dX12_passesWith_20 (gk_104 hG) (gl_in (gl_104 hG) (by decide)) ?_
    refine zO_letD (fun D_4 eD_4 => ?_)
    refine zO_aload_n dX12_passesWith_21 rfl (zR_P _) ?_
    refine gt12 (k := 23) dX12_passesWith_22 wF_X12_58 (by decide) (gk_91 hG) (zgv (c := 12) (k := 23) rfl (Or.inl ⟨_, rfl⟩) (gf_91_23 hG)) ?_
    refine zO_iconst dX12_passesWith_25 (by decide) ?_
    refine zO_iload_n dX12_passesWith_26 rfl ?_
    refine zO_iast dX12_passesWith_27 (gk_104 hG) (gl_in (gl_104 hG) (by decide)) ?_
    refine zO_letD (fun D_5 eD_5 => ?_)
    refine zO_iconst dX12_passesWith_28 (by decide) ?_
    refine zO_istore_n dX12_passesWith_29 (by decide) ?_
    refine zO_ls (ls' := [(0, zR 91), (1, zI v1), (2, zI v2), (3, zI 0)]) rfl ?_
    refine zO_live [0, 3] ?_
    exact sX12_passesWith_30 hG zfu 0 D_5
  exact hz r hr
