/-! printed by wip/gen/emit_all.py: X12_firsts X12_level X12_enough X12_lesson X12_clear X12_isHelped X12_learns X12_lives X12_behind -/
theorem dX12_firsts_0 : decode cX12_firsts 0 = .ok (.aload_n 0, 1) := by decide +kernel
theorem dX12_firsts_1 : decode cX12_firsts 1 = .ok (.iload_n 1, 1) := by decide +kernel
theorem dX12_firsts_2 : decode cX12_firsts 2 = .ok (.invokevirtual 406, 3) := by decide +kernel
theorem dX12_firsts_5 : decode cX12_firsts 5 = .ok (.iconst 0, 1) := by decide +kernel
theorem dX12_firsts_6 : decode cX12_firsts 6 = .ok (.istore_n 2, 1) := by decide +kernel
theorem dX12_firsts_7 : decode cX12_firsts 7 = .ok (.iconst 0, 1) := by decide +kernel
theorem dX12_firsts_8 : decode cX12_firsts 8 = .ok (.istore_n 3, 1) := by decide +kernel
theorem dX12_firsts_9 : decode cX12_firsts 9 = .ok (.iconst 0, 1) := by decide +kernel
theorem dX12_firsts_10 : decode cX12_firsts 10 = .ok (.istore 4, 2) := by decide +kernel
theorem dX12_firsts_12 : decode cX12_firsts 12 = .ok (.aload_n 0, 1) := by decide +kernel
theorem dX12_firsts_13 : decode cX12_firsts 13 = .ok (.getfield 403, 3) := by decide +kernel
theorem dX12_firsts_16 : decode cX12_firsts 16 = .ok (.istore 5, 2) := by decide +kernel
theorem dX12_firsts_18 : decode cX12_firsts 18 = .ok (.iconst 0, 1) := by decide +kernel
theorem dX12_firsts_19 : decode cX12_firsts 19 = .ok (.istore 6, 2) := by decide +kernel
theorem dX12_firsts_21 : decode cX12_firsts 21 = .ok (.iload 6, 2) := by decide +kernel
theorem dX12_firsts_23 : decode cX12_firsts 23 = .ok (.aload_n 0, 1) := by decide +kernel
theorem dX12_firsts_24 : decode cX12_firsts 24 = .ok (.invokevirtual 146, 3) := by decide +kernel
theorem dX12_firsts_27 : decode cX12_firsts 27 = .ok (.if_icmp .ge 234, 3) := by decide +kernel
theorem dX12_firsts_30 : decode cX12_firsts 30 = .ok (.aload_n 0, 1) := by decide +kernel
theorem dX12_firsts_31 : decode cX12_firsts 31 = .ok (.getfield 87, 3) := by decide +kernel
theorem dX12_firsts_34 : decode cX12_firsts 34 = .ok (.iload 6, 2) := by decide +kernel
theorem dX12_firsts_36 : decode cX12_firsts 36 = .ok (.iconst (-1), 1) := by decide +kernel
theorem dX12_firsts_37 : decode cX12_firsts 37 = .ok (.iastore, 1) := by decide +kernel
theorem dX12_firsts_38 : decode cX12_firsts 38 = .ok (.aload_n 0, 1) := by decide +kernel
theorem dX12_firsts_39 : decode cX12_firsts 39 = .ok (.iload 6, 2) := by decide +kernel
theorem dX12_firsts_41 : decode cX12_firsts 41 = .ok (.invokevirtual 154, 3) := by decide +kernel
theorem dX12_firsts_44 : decode cX12_firsts 44 = .ok (.ifCond .ne 6, 3) := by decide +kernel
theorem dX12_firsts_47 : decode cX12_firsts 47 = .ok (.goto 208, 3) := by decide +kernel
theorem dX12_firsts_50 : decode cX12_firsts 50 = .ok (.iconst 0, 1) := by decide +kernel
theorem dX12_firsts_51 : decode cX12_firsts 51 = .ok (.istore 7, 2) := by decide +kernel
theorem dX12_firsts_53 : decode cX12_firsts 53 = .ok (.iload 7, 2) := by decide +kernel
theorem dX12_firsts_55 : decode cX12_firsts 55 = .ok (.iconst 3, 1) := by decide +kernel
theorem dX12_firsts_56 : decode cX12_firsts 56 = .ok (.if_icmp .ge 112, 3) := by decide +kernel
theorem dX12_firsts_59 : decode cX12_firsts 59 = .ok (.aload_n 0, 1) := by decide +kernel
theorem dX12_firsts_60 : decode cX12_firsts 60 = .ok (.getfield 87, 3) := by decide +kernel
theorem dX12_firsts_63 : decode cX12_firsts 63 = .ok (.iload 6, 2) := by decide +kernel
theorem dX12_firsts_65 : decode cX12_firsts 65 = .ok (.iaload, 1) := by decide +kernel
theorem dX12_firsts_66 : decode cX12_firsts 66 = .ok (.iconst (-1), 1) := by decide +kernel
theorem dX12_firsts_67 : decode cX12_firsts 67 = .ok (.if_icmp .ne 101, 3) := by decide +kernel
theorem dX12_firsts_70 : decode cX12_firsts 70 = .ok (.aload_n 0, 1) := by decide +kernel
theorem dX12_firsts_71 : decode cX12_firsts 71 = .ok (.iload 6, 2) := by decide +kernel
theorem dX12_firsts_73 : decode cX12_firsts 73 = .ok (.iload 7, 2) := by decide +kernel
theorem dX12_firsts_75 : decode cX12_firsts 75 = .ok (.aload_n 0, 1) := by decide +kernel
theorem dX12_firsts_76 : decode cX12_firsts 76 = .ok (.iload 6, 2) := by decide +kernel
theorem dX12_firsts_78 : decode cX12_firsts 78 = .ok (.iload_n 2, 1) := by decide +kernel
theorem dX12_firsts_79 : decode cX12_firsts 79 = .ok (.invokevirtual 384, 3) := by decide +kernel
theorem dX12_firsts_82 : decode cX12_firsts 82 = .ok (.invokevirtual 390, 3) := by decide +kernel
theorem dX12_firsts_85 : decode cX12_firsts 85 = .ok (.istore 8, 2) := by decide +kernel
theorem dX12_firsts_87 : decode cX12_firsts 87 = .ok (.iload 8, 2) := by decide +kernel
theorem dX12_firsts_89 : decode cX12_firsts 89 = .ok (.iload 5, 2) := by decide +kernel
theorem dX12_firsts_91 : decode cX12_firsts 91 = .ok (.if_icmp .gt 71, 3) := by decide +kernel
theorem dX12_firsts_94 : decode cX12_firsts 94 = .ok (.aload_n 0, 1) := by decide +kernel
theorem dX12_firsts_95 : decode cX12_firsts 95 = .ok (.iload 6, 2) := by decide +kernel
theorem dX12_firsts_97 : decode cX12_firsts 97 = .ok (.iconst 1, 1) := by decide +kernel
theorem dX12_firsts_98 : decode cX12_firsts 98 = .ok (.iadd, 1) := by decide +kernel
theorem dX12_firsts_99 : decode cX12_firsts 99 = .ok (.iload 7, 2) := by decide +kernel
theorem dX12_firsts_101 : decode cX12_firsts 101 = .ok (.ifCond .ne 7, 3) := by decide +kernel
theorem dX12_firsts_104 : decode cX12_firsts 104 = .ok (.iload_n 2, 1) := by decide +kernel
theorem dX12_firsts_105 : decode cX12_firsts 105 = .ok (.goto 10, 3) := by decide +kernel
theorem dX12_firsts_108 : decode cX12_firsts 108 = .ok (.aload_n 0, 1) := by decide +kernel
theorem dX12_firsts_109 : decode cX12_firsts 109 = .ok (.iload 6, 2) := by decide +kernel
theorem dX12_firsts_111 : decode cX12_firsts 111 = .ok (.iload_n 2, 1) := by decide +kernel
theorem dX12_firsts_112 : decode cX12_firsts 112 = .ok (.invokevirtual 387, 3) := by decide +kernel
theorem dX12_firsts_115 : decode cX12_firsts 115 = .ok (.iload_n 3, 1) := by decide +kernel
theorem dX12_firsts_116 : decode cX12_firsts 116 = .ok (.iload 7, 2) := by decide +kernel
theorem dX12_firsts_118 : decode cX12_firsts 118 = .ok (.iconst 1, 1) := by decide +kernel
theorem dX12_firsts_119 : decode cX12_firsts 119 = .ok (.if_icmp .ne 7, 3) := by decide +kernel
theorem dX12_firsts_122 : decode cX12_firsts 122 = .ok (.iconst 1, 1) := by decide +kernel
theorem dX12_firsts_123 : decode cX12_firsts 123 = .ok (.goto 4, 3) := by decide +kernel
theorem dX12_firsts_126 : decode cX12_firsts 126 = .ok (.iconst 0, 1) := by decide +kernel
theorem dX12_firsts_127 : decode cX12_firsts 127 = .ok (.iadd, 1) := by decide +kernel
theorem dX12_firsts_128 : decode cX12_firsts 128 = .ok (.iload 4, 2) := by decide +kernel
theorem dX12_firsts_130 : decode cX12_firsts 130 = .ok (.iload 7, 2) := by decide +kernel
theorem dX12_firsts_132 : decode cX12_firsts 132 = .ok (.iconst 2, 1) := by decide +kernel
theorem dX12_firsts_133 : decode cX12_firsts 133 = .ok (.if_icmp .ne 7, 3) := by decide +kernel
theorem dX12_firsts_136 : decode cX12_firsts 136 = .ok (.iconst 1, 1) := by decide +kernel
theorem dX12_firsts_137 : decode cX12_firsts 137 = .ok (.goto 4, 3) := by decide +kernel
theorem dX12_firsts_140 : decode cX12_firsts 140 = .ok (.iconst 0, 1) := by decide +kernel
theorem dX12_firsts_141 : decode cX12_firsts 141 = .ok (.iadd, 1) := by decide +kernel
theorem dX12_firsts_142 : decode cX12_firsts 142 = .ok (.iload 5, 2) := by decide +kernel
theorem dX12_firsts_144 : decode cX12_firsts 144 = .ok (.iload 8, 2) := by decide +kernel
theorem dX12_firsts_146 : decode cX12_firsts 146 = .ok (.isub, 1) := by decide +kernel
theorem dX12_firsts_147 : decode cX12_firsts 147 = .ok (.invokevirtual 409, 3) := by decide +kernel
theorem dX12_firsts_150 : decode cX12_firsts 150 = .ok (.ifCond .eq 12, 3) := by decide +kernel
theorem dX12_firsts_153 : decode cX12_firsts 153 = .ok (.aload_n 0, 1) := by decide +kernel
theorem dX12_firsts_154 : decode cX12_firsts 154 = .ok (.getfield 87, 3) := by decide +kernel
theorem dX12_firsts_157 : decode cX12_firsts 157 = .ok (.iload 6, 2) := by decide +kernel
theorem dX12_firsts_159 : decode cX12_firsts 159 = .ok (.iload 7, 2) := by decide +kernel
theorem dX12_firsts_161 : decode cX12_firsts 161 = .ok (.iastore, 1) := by decide +kernel
theorem dX12_firsts_162 : decode cX12_firsts 162 = .ok (.iinc 7 1, 3) := by decide +kernel
theorem dX12_firsts_165 : decode cX12_firsts 165 = .ok (.goto (-112), 3) := by decide +kernel
theorem dX12_firsts_168 : decode cX12_firsts 168 = .ok (.iload 5, 2) := by decide +kernel
theorem dX12_firsts_170 : decode cX12_firsts 170 = .ok (.aload_n 0, 1) := by decide +kernel
theorem dX12_firsts_171 : decode cX12_firsts 171 = .ok (.iload 6, 2) := by decide +kernel
theorem dX12_firsts_173 : decode cX12_firsts 173 = .ok (.aload_n 0, 1) := by decide +kernel
theorem dX12_firsts_174 : decode cX12_firsts 174 = .ok (.getfield 87, 3) := by decide +kernel
theorem dX12_firsts_177 : decode cX12_firsts 177 = .ok (.iload 6, 2) := by decide +kernel
theorem dX12_firsts_179 : decode cX12_firsts 179 = .ok (.iaload, 1) := by decide +kernel
theorem dX12_firsts_180 : decode cX12_firsts 180 = .ok (.aload_n 0, 1) := by decide +kernel
theorem dX12_firsts_181 : decode cX12_firsts 181 = .ok (.iload 6, 2) := by decide +kernel
theorem dX12_firsts_183 : decode cX12_firsts 183 = .ok (.iload_n 2, 1) := by decide +kernel
theorem dX12_firsts_184 : decode cX12_firsts 184 = .ok (.invokevirtual 384, 3) := by decide +kernel
theorem dX12_firsts_187 : decode cX12_firsts 187 = .ok (.invokevirtual 390, 3) := by decide +kernel
theorem dX12_firsts_190 : decode cX12_firsts 190 = .ok (.isub, 1) := by decide +kernel
theorem dX12_firsts_191 : decode cX12_firsts 191 = .ok (.istore 5, 2) := by decide +kernel
theorem dX12_firsts_193 : decode cX12_firsts 193 = .ok (.aload_n 0, 1) := by decide +kernel
theorem dX12_firsts_194 : decode cX12_firsts 194 = .ok (.getfield 87, 3) := by decide +kernel
theorem dX12_firsts_197 : decode cX12_firsts 197 = .ok (.iload 6, 2) := by decide +kernel
theorem dX12_firsts_199 : decode cX12_firsts 199 = .ok (.iaload, 1) := by decide +kernel
theorem dX12_firsts_200 : decode cX12_firsts 200 = .ok (.ifCond .ne 7, 3) := by decide +kernel
theorem dX12_firsts_203 : decode cX12_firsts 203 = .ok (.iload_n 2, 1) := by decide +kernel
theorem dX12_firsts_204 : decode cX12_firsts 204 = .ok (.goto 10, 3) := by decide +kernel
theorem dX12_firsts_207 : decode cX12_firsts 207 = .ok (.aload_n 0, 1) := by decide +kernel
theorem dX12_firsts_208 : decode cX12_firsts 208 = .ok (.iload 6, 2) := by decide +kernel
theorem dX12_firsts_210 : decode cX12_firsts 210 = .ok (.iload_n 2, 1) := by decide +kernel
theorem dX12_firsts_211 : decode cX12_firsts 211 = .ok (.invokevirtual 387, 3) := by decide +kernel
theorem dX12_firsts_214 : decode cX12_firsts 214 = .ok (.istore_n 2, 1) := by decide +kernel
theorem dX12_firsts_215 : decode cX12_firsts 215 = .ok (.iload_n 3, 1) := by decide +kernel
theorem dX12_firsts_216 : decode cX12_firsts 216 = .ok (.aload_n 0, 1) := by decide +kernel
theorem dX12_firsts_217 : decode cX12_firsts 217 = .ok (.getfield 87, 3) := by decide +kernel
theorem dX12_firsts_220 : decode cX12_firsts 220 = .ok (.iload 6, 2) := by decide +kernel
theorem dX12_firsts_222 : decode cX12_firsts 222 = .ok (.iaload, 1) := by decide +kernel
theorem dX12_firsts_223 : decode cX12_firsts 223 = .ok (.iconst 1, 1) := by decide +kernel
theorem dX12_firsts_224 : decode cX12_firsts 224 = .ok (.if_icmp .ne 7, 3) := by decide +kernel
theorem dX12_firsts_227 : decode cX12_firsts 227 = .ok (.iconst 1, 1) := by decide +kernel
theorem dX12_firsts_228 : decode cX12_firsts 228 = .ok (.goto 4, 3) := by decide +kernel
theorem dX12_firsts_231 : decode cX12_firsts 231 = .ok (.iconst 0, 1) := by decide +kernel
theorem dX12_firsts_232 : decode cX12_firsts 232 = .ok (.iadd, 1) := by decide +kernel
theorem dX12_firsts_233 : decode cX12_firsts 233 = .ok (.istore_n 3, 1) := by decide +kernel
theorem dX12_firsts_234 : decode cX12_firsts 234 = .ok (.iload 4, 2) := by decide +kernel
theorem dX12_firsts_236 : decode cX12_firsts 236 = .ok (.aload_n 0, 1) := by decide +kernel
theorem dX12_firsts_237 : decode cX12_firsts 237 = .ok (.getfield 87, 3) := by decide +kernel
theorem dX12_firsts_240 : decode cX12_firsts 240 = .ok (.iload 6, 2) := by decide +kernel
theorem dX12_firsts_242 : decode cX12_firsts 242 = .ok (.iaload, 1) := by decide +kernel
theorem dX12_firsts_243 : decode cX12_firsts 243 = .ok (.iconst 2, 1) := by decide +kernel
theorem dX12_firsts_244 : decode cX12_firsts 244 = .ok (.if_icmp .ne 7, 3) := by decide +kernel
theorem dX12_firsts_247 : decode cX12_firsts 247 = .ok (.iconst 1, 1) := by decide +kernel
theorem dX12_firsts_248 : decode cX12_firsts 248 = .ok (.goto 4, 3) := by decide +kernel
theorem dX12_firsts_251 : decode cX12_firsts 251 = .ok (.iconst 0, 1) := by decide +kernel
theorem dX12_firsts_252 : decode cX12_firsts 252 = .ok (.iadd, 1) := by decide +kernel
theorem dX12_firsts_253 : decode cX12_firsts 253 = .ok (.istore 4, 2) := by decide +kernel
theorem dX12_firsts_255 : decode cX12_firsts 255 = .ok (.iinc 6 1, 3) := by decide +kernel
theorem dX12_firsts_258 : decode cX12_firsts 258 = .ok (.goto (-237), 3) := by decide +kernel
theorem dX12_firsts_261 : decode cX12_firsts 261 = .ok (.return_, 1) := by decide +kernel
abbrev YX12_firsts : zY := (yX12_firsts, cX12_firsts, 9, none, [])
def fX12_firsts_255 (F : zFs) (k_21 : Int → Int → Int → Int → Int → zDa → Option zDa) (v2 : Int) (v3 : Int) (v4 : Int) (v5 : Int) (v6 : Int) (D : zDa) : Option zDa :=
  if (-2147483648 ≤ v6 + 1 ∧ v6 + 1 ≤ 2147483647) then
    k_21 v2 v3 v4 v5 (v6 + 1) D
  else none
def fX12_firsts_162 (F : zFs) (k_21 : Int → Int → Int → Int → Int → zDa → Option zDa) (k_53 : Int → zDa → Option zDa) (o2 : Int) (o3 : Int) (o4 : Int) (o5 : Int) (o6 : Int) (v7 : Int) (D : zDa) : Option zDa :=
  if (-2147483648 ≤ v7 + 1 ∧ v7 + 1 ≤ 2147483647) then
    k_53 (v7 + 1) D
  else none
def fX12_firsts_141 (F : zFs) (k_21 : Int → Int → Int → Int → Int → zDa → Option zDa) (k_53 : Int → zDa → Option zDa) (o2 : Int) (o3 : Int) (o4 : Int) (o5 : Int) (o6 : Int) (v7 : Int) (v8 : Int) (s0 : Int) (s1 : Int) (s2 : Int) (s3 : Int) (s4 : Int) (D : zDa) : Option zDa :=
  if (-2147483648 ≤ s1 + s0 ∧ s1 + s0 ≤ 2147483647) ∧ (-2147483648 ≤ o5 - v8 ∧ o5 - v8 ≤ 2147483647) then
    (fX12_canBe F s4 s3 s2 (s1 + s0) (o5 - v8) D).bind (fun (r_13, D_14) =>
      if r_13 = 0 then
        fX12_firsts_162 F k_21 k_53 o2 o3 o4 o5 o6 v7 D_14
      else
        if (0 ≤ o6 ∧ o6 < 20) then
          zlet (zwr D_14 112 o6.toNat v7) (fun D_15 =>
            fX12_firsts_162 F k_21 k_53 o2 o3 o4 o5 o6 v7 D_15)
        else none)
  else none
def fX12_firsts_127 (F : zFs) (k_21 : Int → Int → Int → Int → Int → zDa → Option zDa) (k_53 : Int → zDa → Option zDa) (o2 : Int) (o3 : Int) (o4 : Int) (o5 : Int) (o6 : Int) (v7 : Int) (v8 : Int) (s0 : Int) (s1 : Int) (s2 : Int) (s3 : Int) (D : zDa) : Option zDa :=
  if (-2147483648 ≤ s1 + s0 ∧ s1 + s0 ≤ 2147483647) then
    if v7 = 2 then
      fX12_firsts_141 F k_21 k_53 o2 o3 o4 o5 o6 v7 v8 1 o4 (s1 + s0) s2 s3 D
    else
      fX12_firsts_141 F k_21 k_53 o2 o3 o4 o5 o6 v7 v8 0 o4 (s1 + s0) s2 s3 D
  else none
def fX12_firsts_115 (F : zFs) (k_21 : Int → Int → Int → Int → Int → zDa → Option zDa) (k_53 : Int → zDa → Option zDa) (o2 : Int) (o3 : Int) (o4 : Int) (o5 : Int) (o6 : Int) (v7 : Int) (v8 : Int) (s0 : Int) (s1 : Int) (D : zDa) : Option zDa :=
  if v7 = 1 then
    fX12_firsts_127 F k_21 k_53 o2 o3 o4 o5 o6 v7 v8 1 o3 s0 s1 D
  else
    fX12_firsts_127 F k_21 k_53 o2 o3 o4 o5 o6 v7 v8 0 o3 s0 s1 D
def fX12_firsts_252 (F : zFs) (k_21 : Int → Int → Int → Int → Int → zDa → Option zDa) (v2 : Int) (v3 : Int) (v5 : Int) (o6 : Int) (s0 : Int) (s1 : Int) (D : zDa) : Option zDa :=
  if (-2147483648 ≤ s1 + s0 ∧ s1 + s0 ≤ 2147483647) then
    zlet ((s1 + s0)) (fun x4_24 =>
      fX12_firsts_255 F k_21 v2 v3 x4_24 v5 o6 D)
  else none
def fX12_firsts_232 (F : zFs) (k_21 : Int → Int → Int → Int → Int → zDa → Option zDa) (v2 : Int) (o4 : Int) (v5 : Int) (o6 : Int) (s0 : Int) (s1 : Int) (D : zDa) : Option zDa :=
  if (-2147483648 ≤ s1 + s0 ∧ s1 + s0 ≤ 2147483647) then
    zlet ((s1 + s0)) (fun x3_23 =>
      if (0 ≤ o6 ∧ o6 < 20) then
        if (D 112 o6.toNat) = 2 then
          fX12_firsts_252 F k_21 v2 x3_23 v5 o6 1 o4 D
        else
          fX12_firsts_252 F k_21 v2 x3_23 v5 o6 0 o4 D
      else none)
  else none
def fX12_firsts_214 (F : zFs) (k_21 : Int → Int → Int → Int → Int → zDa → Option zDa) (o3 : Int) (o4 : Int) (v5 : Int) (o6 : Int) (s0 : Int) (D : zDa) : Option zDa :=
  if (0 ≤ o6 ∧ o6 < 20) then
    if (D 112 o6.toNat) = 1 then
      fX12_firsts_232 F k_21 s0 o4 v5 o6 1 o3 D
    else
      fX12_firsts_232 F k_21 s0 o4 v5 o6 0 o3 D
  else none
def fX12_firsts_168 (F : zFs) (k_21 : Int → Int → Int → Int → Int → zDa → Option zDa) (o2 : Int) (o3 : Int) (o4 : Int) (o5 : Int) (o6 : Int) (D : zDa) : Option zDa :=
  if (0 ≤ o6 ∧ o6 < 20) then
    (fX12_helpedBy F o6 o2 D).bind (fun (r_18, D_19) =>
      (fX12_costOf F o6 (D 112 o6.toNat) r_18 D_19).bind (fun (r_20, D_21) =>
        if (-2147483648 ≤ o5 - r_20 ∧ o5 - r_20 ≤ 2147483647) then
          zlet ((o5 - r_20)) (fun x5_22 =>
            if (D_21 112 o6.toNat) = 0 then
              fX12_firsts_214 F k_21 o3 o4 x5_22 o6 o2 D_21
            else
              (fX12_kingsWith F o6 o2 D_21).bind (fun (r_25, D_26) =>
                fX12_firsts_214 F k_21 o3 o4 x5_22 o6 r_25 D_26))
        else none))
  else none
def fX12_firsts_53 (F : zFs) (o2 : Int) (o3 : Int) (o4 : Int) (o5 : Int) (o6 : Int) (k_21 : Int → Int → Int → Int → Int → zDa → Option zDa) (k_53 : Int → zDa → Option zDa) (v7 : Int) (D : zDa) : Option zDa :=
  if v7 < 3 then
    if (0 ≤ o6 ∧ o6 < 20) then
      if (D 112 o6.toNat) = (-1) then
        (fX12_helpedBy F o6 o2 D).bind (fun (r_9, D_10) =>
          (fX12_costOf F o6 v7 r_9 D_10).bind (fun (r_11, D_12) =>
            if o5 < r_11 then
              fX12_firsts_162 F k_21 k_53 o2 o3 o4 o5 o6 v7 D_12
            else
              if (-2147483648 ≤ o6 + 1 ∧ o6 + 1 ≤ 2147483647) then
                if v7 = 0 then
                  fX12_firsts_115 F k_21 k_53 o2 o3 o4 o5 o6 v7 r_11 o2 (o6 + 1) D_12
                else
                  (fX12_kingsWith F o6 o2 D_12).bind (fun (r_16, D_17) =>
                    fX12_firsts_115 F k_21 k_53 o2 o3 o4 o5 o6 v7 r_11 r_16 (o6 + 1) D_17)
              else none))
      else
        fX12_firsts_168 F k_21 o2 o3 o4 o5 o6 D
    else none
  else
    fX12_firsts_168 F k_21 o2 o3 o4 o5 o6 D
def fX12_firsts_21 (F : zFs)   (k_21 : Int → Int → Int → Int → Int → zDa → Option zDa) (v2 : Int) (v3 : Int) (v4 : Int) (v5 : Int) (v6 : Int) (D : zDa) : Option zDa :=
  (fX12_questions F D).bind (fun (r_4, D_5) =>
    if v6 < r_4 then
      if (0 ≤ v6 ∧ v6 < 20) then
        zlet (zwr D_5 112 v6.toNat (-1)) (fun D_6 =>
          (fX12_isBowl F v6 D_6).bind (fun (r_7, D_8) =>
            if r_7 = 0 then
              fX12_firsts_255 F k_21 v2 v3 v4 v5 v6 D_8
            else
              zfix (fun _ _ => none) (fX12_firsts_53 F v2 v3 v4 v5 v6 k_21) zfu 0 D_8))
      else none
    else
      some D_5)
def fX12_firsts (F : zFs) (v1 : Int) (D : zDa) : Option zDa :=
  (fX12_bests F v1 D).bind (fun D_2 =>
    zlet ((D_2 91 37)) (fun x5_3 =>
      zfix (fun _ _ _ _ _ _ => none) (fX12_firsts_21 F) zfu 0 0 0 x5_3 0 D_2))
set_option maxHeartbeats 20000000 in
theorem sX12_firsts_255 {l : Launch} {E : zE} {d : Nat} {F : zFs} {n sl : Nat} (hG : zG F)  (v2 : Int) (v3 : Int) (v4 : Int) (v5 : Int) (v6 : Int) (k_21 : Int → Int → Int → Int → Int → zDa → Option zDa) (hk_21 : ∀ (u2 : Int) (u3 : Int) (u4 : Int) (u5 : Int) (u6 : Int) (D : zDa), zO l E (d + 91) YX12_firsts 21 [(0, zR 91), (2, zI u2), (3, zI u3), (4, zI u4), (5, zI u5), (6, zI u6)] [] (F, D, n, sl) (zcV F n sl) (k_21 u2 u3 u4 u5 u6 D)) (D : zDa) : zO l E (d + 91) YX12_firsts 255 [(0, zR 91), (2, zI v2), (3, zI v3), (4, zI v4), (5, zI v5), (6, zI v6)] [] (F, D, n, sl) (zcV F n sl) (fX12_firsts_255 F k_21 v2 v3 v4 v5 v6 D) := by
  unfold fX12_firsts_255
  refine zO_chk (fun h2 => ?_)
  refine zO_iinc dX12_firsts_255 rfl h2 (by decide) ?_
  refine zO_ls (ls' := [(0, zR 91), (2, zI v2), (3, zI v3), (4, zI v4), (5, zI v5), (6, zI (v6 + 1))]) rfl ?_
  refine zO_goto (tgt := 21) dX12_firsts_258 rfl ?_
  refine zO_live [0, 2, 3, 4, 5, 6] ?_
  exact hk_21 v2 v3 v4 v5 (v6 + 1) D
set_option maxHeartbeats 20000000 in
theorem sX12_firsts_162 {l : Launch} {E : zE} {d : Nat} {F : zFs} {n sl : Nat} (hG : zG F)  (o2 : Int) (o3 : Int) (o4 : Int) (o5 : Int) (o6 : Int) (v7 : Int) (k_21 : Int → Int → Int → Int → Int → zDa → Option zDa) (k_53 : Int → zDa → Option zDa) (hk_21 : ∀ (u2 : Int) (u3 : Int) (u4 : Int) (u5 : Int) (u6 : Int) (D : zDa), zO l E (d + 91) YX12_firsts 21 [(0, zR 91), (2, zI u2), (3, zI u3), (4, zI u4), (5, zI u5), (6, zI u6)] [] (F, D, n, sl) (zcV F n sl) (k_21 u2 u3 u4 u5 u6 D)) (hk_53 : ∀ (u7 : Int) (D : zDa), zO l E (d + 91) YX12_firsts 53 [(0, zR 91), (2, zI o2), (3, zI o3), (4, zI o4), (5, zI o5), (6, zI o6), (7, zI u7)] [] (F, D, n, sl) (zcV F n sl) (k_53 u7 D)) (D : zDa) : zO l E (d + 91) YX12_firsts 162 [(0, zR 91), (2, zI o2), (3, zI o3), (4, zI o4), (5, zI o5), (6, zI o6), (7, zI v7)] [] (F, D, n, sl) (zcV F n sl) (fX12_firsts_162 F k_21 k_53 o2 o3 o4 o5 o6 v7 D) := by
  unfold fX12_firsts_162
  refine zO_chk (fun h4 => ?_)
  refine zO_iinc dX12_firsts_162 rfl h4 (by decide) ?_
  refine zO_ls (ls' := [(0, zR 91), (2, zI o2), (3, zI o3), (4, zI o4), (5, zI o5), (6, zI o6), (7, zI (v7 + 1))]) rfl ?_
  refine zO_goto (tgt := 53) dX12_firsts_165 rfl ?_
  refine zO_live [0, 2, 3, 4, 5, 6, 7] ?_
  exact hk_53 (v7 + 1) D
set_option maxHeartbeats 20000000 in
theorem sX12_firsts_141 {l : Launch} {E : zE} {d : Nat} {F : zFs} {n sl : Nat} (hG : zG F)  (o2 : Int) (o3 : Int) (o4 : Int) (o5 : Int) (o6 : Int) (v7 : Int) (v8 : Int) (s0 : Int) (s1 : Int) (s2 : Int) (s3 : Int) (s4 : Int) (k_21 : Int → Int → Int → Int → Int → zDa → Option zDa) (k_53 : Int → zDa → Option zDa) (hk_21 : ∀ (u2 : Int) (u3 : Int) (u4 : Int) (u5 : Int) (u6 : Int) (D : zDa), zO l E (d + 91) YX12_firsts 21 [(0, zR 91), (2, zI u2), (3, zI u3), (4, zI u4), (5, zI u5), (6, zI u6)] [] (F, D, n, sl) (zcV F n sl) (k_21 u2 u3 u4 u5 u6 D)) (hk_53 : ∀ (u7 : Int) (D : zDa), zO l E (d + 91) YX12_firsts 53 [(0, zR 91), (2, zI o2), (3, zI o3), (4, zI o4), (5, zI o5), (6, zI o6), (7, zI u7)] [] (F, D, n, sl) (zcV F n sl) (k_53 u7 D)) (D : zDa) : zO l E (d + 91) YX12_firsts 141 [(0, zR 91), (2, zI o2), (3, zI o3), (4, zI o4), (5, zI o5), (6, zI o6), (7, zI v7), (8, zI v8)] [zI s0, zI s1, zI s2, zI s3, zI s4, zR 91] (F, D, n, sl) (zcV F n sl) (fX12_firsts_141 F k_21 k_53 o2 o3 o4 o5 o6 v7 v8 s0 s1 s2 s3 s4 D) := by
  unfold fX12_firsts_141
  refine zO_chk (fun h7 => ?_)
  refine zO_iadd dX12_firsts_141 h7.1 ?_
  refine zO_iload dX12_firsts_142 rfl ?_
  refine zO_iload dX12_firsts_144 rfl ?_
  refine zO_isub dX12_firsts_146 h7.2 ?_
  refine zO_callV (Y' := YX12_canBe) (cw := zcI F n sl) (as := [zI s4, zI s3, zI s2, zI (s1 + s0), zI (o5 - v8)]) (rest := []) (na := 5) (ci := 12) rfl dX12_firsts_147 wC_X12_canBe wN_X12 wM_X12_409 wI_X12_canBe wV_X12_canBe (by decide) (by decide) rfl rfl (Nat.le_of_ble_eq_true rfl) rfl (by decide) (gk_91 hG) (fun r hr => zMet_cast (Nat.add_assoc d 87 3) (mX12_canBe (d := d + 87) hG s4 s3 s2 (s1 + s0) (o5 - v8) r hr)) ?_
  rintro ⟨r_13, D_14⟩ -
  show zO _ _ _ _ _ _ [zI r_13] (F, D_14, n, sl) _ _
  refine zO_if_eq (tgt := 162) dX12_firsts_150 rfl (fun c150 => ?_) (fun c150 => ?_)
  · refine zO_live [0, 2, 3, 4, 5, 6, 7] ?_
    exact sX12_firsts_162 hG o2 o3 o4 o5 o6 v7 _ _ hk_21 hk_53 D_14
  · refine zO_chk (fun h8 => ?_)
    refine zO_aload_n dX12_firsts_153 rfl (zR_P _) ?_
    refine gt12 (k := 38) dX12_firsts_154 wF_X12_87 (by decide) (gk_91 hG) (zgv (c := 12) (k := 38) rfl (Or.inl ⟨_, rfl⟩) (gf_91_38 hG)) ?_
    refine zO_iload dX12_firsts_157 rfl ?_
    refine zO_iload dX12_firsts_159 rfl ?_
    refine zO_iast dX12_firsts_161 (gk_112 hG) (gl_in (gl_112 hG) h8) ?_
    refine zO_letD (fun D_15 eD_15 => ?_)
    refine zO_live [0, 2, 3, 4, 5, 6, 7] ?_
    exact sX12_firsts_162 hG o2 o3 o4 o5 o6 v7 _ _ hk_21 hk_53 D_15
set_option maxHeartbeats 20000000 in
theorem sX12_firsts_127 {l : Launch} {E : zE} {d : Nat} {F : zFs} {n sl : Nat} (hG : zG F)  (o2 : Int) (o3 : Int) (o4 : Int) (o5 : Int) (o6 : Int) (v7 : Int) (v8 : Int) (s0 : Int) (s1 : Int) (s2 : Int) (s3 : Int) (k_21 : Int → Int → Int → Int → Int → zDa → Option zDa) (k_53 : Int → zDa → Option zDa) (hk_21 : ∀ (u2 : Int) (u3 : Int) (u4 : Int) (u5 : Int) (u6 : Int) (D : zDa), zO l E (d + 91) YX12_firsts 21 [(0, zR 91), (2, zI u2), (3, zI u3), (4, zI u4), (5, zI u5), (6, zI u6)] [] (F, D, n, sl) (zcV F n sl) (k_21 u2 u3 u4 u5 u6 D)) (hk_53 : ∀ (u7 : Int) (D : zDa), zO l E (d + 91) YX12_firsts 53 [(0, zR 91), (2, zI o2), (3, zI o3), (4, zI o4), (5, zI o5), (6, zI o6), (7, zI u7)] [] (F, D, n, sl) (zcV F n sl) (k_53 u7 D)) (D : zDa) : zO l E (d + 91) YX12_firsts 127 [(0, zR 91), (2, zI o2), (3, zI o3), (4, zI o4), (5, zI o5), (6, zI o6), (7, zI v7), (8, zI v8)] [zI s0, zI s1, zI s2, zI s3, zR 91] (F, D, n, sl) (zcV F n sl) (fX12_firsts_127 F k_21 k_53 o2 o3 o4 o5 o6 v7 v8 s0 s1 s2 s3 D) := by
  unfold fX12_firsts_127
  refine zO_chk (fun h6 => ?_)
  refine zO_iadd dX12_firsts_127 h6 ?_
  refine zO_iload dX12_firsts_128 rfl ?_
  refine zO_iload dX12_firsts_130 rfl ?_
  refine zO_iconst dX12_firsts_132 (by decide) ?_
  refine zO_icmp_ne (tgt := 140) dX12_firsts_133 rfl (fun c133 => ?_) (fun c133 => ?_)
  · refine zO_iconst dX12_firsts_136 (by decide) ?_
    refine zO_goto (tgt := 141) dX12_firsts_137 rfl ?_
    refine zO_live [0, 2, 3, 4, 5, 6, 7, 8] ?_
    exact sX12_firsts_141 hG o2 o3 o4 o5 o6 v7 v8 1 o4 (s1 + s0) s2 s3 _ _ hk_21 hk_53 D
  · refine zO_iconst dX12_firsts_140 (by decide) ?_
    refine zO_live [0, 2, 3, 4, 5, 6, 7, 8] ?_
    exact sX12_firsts_141 hG o2 o3 o4 o5 o6 v7 v8 0 o4 (s1 + s0) s2 s3 _ _ hk_21 hk_53 D
set_option maxHeartbeats 20000000 in
theorem sX12_firsts_115 {l : Launch} {E : zE} {d : Nat} {F : zFs} {n sl : Nat} (hG : zG F)  (o2 : Int) (o3 : Int) (o4 : Int) (o5 : Int) (o6 : Int) (v7 : Int) (v8 : Int) (s0 : Int) (s1 : Int) (k_21 : Int → Int → Int → Int → Int → zDa → Option zDa) (k_53 : Int → zDa → Option zDa) (hk_21 : ∀ (u2 : Int) (u3 : Int) (u4 : Int) (u5 : Int) (u6 : Int) (D : zDa), zO l E (d + 91) YX12_firsts 21 [(0, zR 91), (2, zI u2), (3, zI u3), (4, zI u4), (5, zI u5), (6, zI u6)] [] (F, D, n, sl) (zcV F n sl) (k_21 u2 u3 u4 u5 u6 D)) (hk_53 : ∀ (u7 : Int) (D : zDa), zO l E (d + 91) YX12_firsts 53 [(0, zR 91), (2, zI o2), (3, zI o3), (4, zI o4), (5, zI o5), (6, zI o6), (7, zI u7)] [] (F, D, n, sl) (zcV F n sl) (k_53 u7 D)) (D : zDa) : zO l E (d + 91) YX12_firsts 115 [(0, zR 91), (2, zI o2), (3, zI o3), (4, zI o4), (5, zI o5), (6, zI o6), (7, zI v7), (8, zI v8)] [zI s0, zI s1, zR 91] (F, D, n, sl) (zcV F n sl) (fX12_firsts_115 F k_21 k_53 o2 o3 o4 o5 o6 v7 v8 s0 s1 D) := by
  unfold fX12_firsts_115
  refine zO_iload_n dX12_firsts_115 rfl ?_
  refine zO_iload dX12_firsts_116 rfl ?_
  refine zO_iconst dX12_firsts_118 (by decide) ?_
  refine zO_icmp_ne (tgt := 126) dX12_firsts_119 rfl (fun c119 => ?_) (fun c119 => ?_)
  · refine zO_iconst dX12_firsts_122 (by decide) ?_
    refine zO_goto (tgt := 127) dX12_firsts_123 rfl ?_
    refine zO_live [0, 2, 3, 4, 5, 6, 7, 8] ?_
    exact sX12_firsts_127 hG o2 o3 o4 o5 o6 v7 v8 1 o3 s0 s1 _ _ hk_21 hk_53 D
  · refine zO_iconst dX12_firsts_126 (by decide) ?_
    refine zO_live [0, 2, 3, 4, 5, 6, 7, 8] ?_
    exact sX12_firsts_127 hG o2 o3 o4 o5 o6 v7 v8 0 o3 s0 s1 _ _ hk_21 hk_53 D
set_option maxHeartbeats 20000000 in
theorem sX12_firsts_252 {l : Launch} {E : zE} {d : Nat} {F : zFs} {n sl : Nat} (hG : zG F)  (v2 : Int) (v3 : Int) (v5 : Int) (o6 : Int) (s0 : Int) (s1 : Int) (k_21 : Int → Int → Int → Int → Int → zDa → Option zDa) (hk_21 : ∀ (u2 : Int) (u3 : Int) (u4 : Int) (u5 : Int) (u6 : Int) (D : zDa), zO l E (d + 91) YX12_firsts 21 [(0, zR 91), (2, zI u2), (3, zI u3), (4, zI u4), (5, zI u5), (6, zI u6)] [] (F, D, n, sl) (zcV F n sl) (k_21 u2 u3 u4 u5 u6 D)) (D : zDa) : zO l E (d + 91) YX12_firsts 252 [(0, zR 91), (2, zI v2), (3, zI v3), (5, zI v5), (6, zI o6)] [zI s0, zI s1] (F, D, n, sl) (zcV F n sl) (fX12_firsts_252 F k_21 v2 v3 v5 o6 s0 s1 D) := by
  unfold fX12_firsts_252
  refine zO_chk (fun h14 => ?_)
  refine zO_iadd dX12_firsts_252 h14 ?_
  refine zO_letI (fun x4_24 ex4_24 => ?_)
  refine zO_istore dX12_firsts_253 (by decide) ?_
  refine zO_ls (ls' := [(0, zR 91), (2, zI v2), (3, zI v3), (4, zI x4_24), (5, zI v5), (6, zI o6)]) rfl ?_
  refine zO_live [0, 2, 3, 4, 5, 6] ?_
  exact sX12_firsts_255 hG v2 v3 x4_24 v5 o6 _ hk_21 D
set_option maxHeartbeats 20000000 in
theorem sX12_firsts_232 {l : Launch} {E : zE} {d : Nat} {F : zFs} {n sl : Nat} (hG : zG F)  (v2 : Int) (o4 : Int) (v5 : Int) (o6 : Int) (s0 : Int) (s1 : Int) (k_21 : Int → Int → Int → Int → Int → zDa → Option zDa) (hk_21 : ∀ (u2 : Int) (u3 : Int) (u4 : Int) (u5 : Int) (u6 : Int) (D : zDa), zO l E (d + 91) YX12_firsts 21 [(0, zR 91), (2, zI u2), (3, zI u3), (4, zI u4), (5, zI u5), (6, zI u6)] [] (F, D, n, sl) (zcV F n sl) (k_21 u2 u3 u4 u5 u6 D)) (D : zDa) : zO l E (d + 91) YX12_firsts 232 [(0, zR 91), (2, zI v2), (4, zI o4), (5, zI v5), (6, zI o6)] [zI s0, zI s1] (F, D, n, sl) (zcV F n sl) (fX12_firsts_232 F k_21 v2 o4 v5 o6 s0 s1 D) := by
  unfold fX12_firsts_232
  refine zO_chk (fun h12 => ?_)
  refine zO_iadd dX12_firsts_232 h12 ?_
  refine zO_letI (fun x3_23 ex3_23 => ?_)
  refine zO_istore_n dX12_firsts_233 (by decide) ?_
  refine zO_ls (ls' := [(0, zR 91), (2, zI v2), (3, zI x3_23), (4, zI o4), (5, zI v5), (6, zI o6)]) rfl ?_
  refine zO_chk (fun h13 => ?_)
  refine zO_iload dX12_firsts_234 rfl ?_
  refine zO_aload_n dX12_firsts_236 rfl (zR_P _) ?_
  refine gt12 (k := 38) dX12_firsts_237 wF_X12_87 (by decide) (gk_91 hG) (zgv (c := 12) (k := 38) rfl (Or.inl ⟨_, rfl⟩) (gf_91_38 hG)) ?_
  refine zO_iload dX12_firsts_240 rfl ?_
  refine zO_iald dX12_firsts_242 (gk_112 hG) (gl_in (gl_112 hG) h13) ?_
  refine zO_iconst dX12_firsts_243 (by decide) ?_
  refine zO_icmp_ne (tgt := 251) dX12_firsts_244 rfl (fun c244 => ?_) (fun c244 => ?_)
  · refine zO_iconst dX12_firsts_247 (by decide) ?_
    refine zO_goto (tgt := 252) dX12_firsts_248 rfl ?_
    refine zO_live [0, 2, 3, 5, 6] ?_
    exact sX12_firsts_252 hG v2 x3_23 v5 o6 1 o4 _ hk_21 D
  · refine zO_iconst dX12_firsts_251 (by decide) ?_
    refine zO_live [0, 2, 3, 5, 6] ?_
    exact sX12_firsts_252 hG v2 x3_23 v5 o6 0 o4 _ hk_21 D
set_option maxHeartbeats 20000000 in
theorem sX12_firsts_214 {l : Launch} {E : zE} {d : Nat} {F : zFs} {n sl : Nat} (hG : zG F)  (o3 : Int) (o4 : Int) (v5 : Int) (o6 : Int) (s0 : Int) (k_21 : Int → Int → Int → Int → Int → zDa → Option zDa) (hk_21 : ∀ (u2 : Int) (u3 : Int) (u4 : Int) (u5 : Int) (u6 : Int) (D : zDa), zO l E (d + 91) YX12_firsts 21 [(0, zR 91), (2, zI u2), (3, zI u3), (4, zI u4), (5, zI u5), (6, zI u6)] [] (F, D, n, sl) (zcV F n sl) (k_21 u2 u3 u4 u5 u6 D)) (D : zDa) : zO l E (d + 91) YX12_firsts 214 [(0, zR 91), (3, zI o3), (4, zI o4), (5, zI v5), (6, zI o6)] [zI s0] (F, D, n, sl) (zcV F n sl) (fX12_firsts_214 F k_21 o3 o4 v5 o6 s0 D) := by
  unfold fX12_firsts_214
  refine zO_chk (fun h11 => ?_)
  refine zO_istore_n dX12_firsts_214 (by decide) ?_
  refine zO_ls (ls' := [(0, zR 91), (2, zI s0), (3, zI o3), (4, zI o4), (5, zI v5), (6, zI o6)]) rfl ?_
  refine zO_iload_n dX12_firsts_215 rfl ?_
  refine zO_aload_n dX12_firsts_216 rfl (zR_P _) ?_
  refine gt12 (k := 38) dX12_firsts_217 wF_X12_87 (by decide) (gk_91 hG) (zgv (c := 12) (k := 38) rfl (Or.inl ⟨_, rfl⟩) (gf_91_38 hG)) ?_
  refine zO_iload dX12_firsts_220 rfl ?_
  refine zO_iald dX12_firsts_222 (gk_112 hG) (gl_in (gl_112 hG) h11) ?_
  refine zO_iconst dX12_firsts_223 (by decide) ?_
  refine zO_icmp_ne (tgt := 231) dX12_firsts_224 rfl (fun c224 => ?_) (fun c224 => ?_)
  · refine zO_iconst dX12_firsts_227 (by decide) ?_
    refine zO_goto (tgt := 232) dX12_firsts_228 rfl ?_
    refine zO_live [0, 2, 4, 5, 6] ?_
    exact sX12_firsts_232 hG s0 o4 v5 o6 1 o3 _ hk_21 D
  · refine zO_iconst dX12_firsts_231 (by decide) ?_
    refine zO_live [0, 2, 4, 5, 6] ?_
    exact sX12_firsts_232 hG s0 o4 v5 o6 0 o3 _ hk_21 D
set_option maxHeartbeats 20000000 in
theorem sX12_firsts_168 {l : Launch} {E : zE} {d : Nat} {F : zFs} {n sl : Nat} (hG : zG F)  (o2 : Int) (o3 : Int) (o4 : Int) (o5 : Int) (o6 : Int) (k_21 : Int → Int → Int → Int → Int → zDa → Option zDa) (hk_21 : ∀ (u2 : Int) (u3 : Int) (u4 : Int) (u5 : Int) (u6 : Int) (D : zDa), zO l E (d + 91) YX12_firsts 21 [(0, zR 91), (2, zI u2), (3, zI u3), (4, zI u4), (5, zI u5), (6, zI u6)] [] (F, D, n, sl) (zcV F n sl) (k_21 u2 u3 u4 u5 u6 D)) (D : zDa) : zO l E (d + 91) YX12_firsts 168 [(0, zR 91), (2, zI o2), (3, zI o3), (4, zI o4), (5, zI o5), (6, zI o6)] [] (F, D, n, sl) (zcV F n sl) (fX12_firsts_168 F k_21 o2 o3 o4 o5 o6 D) := by
  unfold fX12_firsts_168
  refine zO_chk (fun h9 => ?_)
  refine zO_iload dX12_firsts_168 rfl ?_
  refine zO_aload_n dX12_firsts_170 rfl (zR_P _) ?_
  refine zO_iload dX12_firsts_171 rfl ?_
  refine zO_aload_n dX12_firsts_173 rfl (zR_P _) ?_
  refine gt12 (k := 38) dX12_firsts_174 wF_X12_87 (by decide) (gk_91 hG) (zgv (c := 12) (k := 38) rfl (Or.inl ⟨_, rfl⟩) (gf_91_38 hG)) ?_
  refine zO_iload dX12_firsts_177 rfl ?_
  refine zO_iald dX12_firsts_179 (gk_112 hG) (gl_in (gl_112 hG) h9) ?_
  refine zO_aload_n dX12_firsts_180 rfl (zR_P _) ?_
  refine zO_iload dX12_firsts_181 rfl ?_
  refine zO_iload_n dX12_firsts_183 rfl ?_
  refine zO_callV (Y' := YX12_helpedBy) (cw := zcI F n sl) (as := [zI o6, zI o2]) (rest := [zI (D 112 o6.toNat), zI o6, zR 91, zI o5]) (na := 2) (ci := 12) rfl dX12_firsts_184 wC_X12_helpedBy wN_X12 wM_X12_384 wI_X12_helpedBy wV_X12_helpedBy (by decide) (by decide) rfl rfl (Nat.le_of_ble_eq_true rfl) rfl (by decide) (gk_91 hG) (fun r hr => zMet_cast (Nat.add_assoc d 89 1) (mX12_helpedBy (d := d + 89) hG o6 o2 r hr)) ?_
  rintro ⟨r_18, D_19⟩ -
  show zO _ _ _ _ _ _ [zI r_18, zI (D 112 o6.toNat), zI o6, zR 91, zI o5] (F, D_19, n, sl) _ _
  refine zO_callV (Y' := YX12_costOf) (cw := zcI F n sl) (as := [zI o6, zI (D 112 o6.toNat), zI r_18]) (rest := [zI o5]) (na := 3) (ci := 12) rfl dX12_firsts_187 wC_X12_costOf wN_X12 wM_X12_390 wI_X12_costOf wV_X12_costOf (by decide) (by decide) rfl rfl (Nat.le_of_ble_eq_true rfl) rfl (by decide) (gk_91 hG) (fun r hr => zMet_cast (Nat.add_assoc d 90 0) (mX12_costOf (d := d + 90) hG o6 (D 112 o6.toNat) r_18 r hr)) ?_
  rintro ⟨r_20, D_21⟩ -
  show zO _ _ _ _ _ _ [zI r_20, zI o5] (F, D_21, n, sl) _ _
  refine zO_chk (fun h10 => ?_)
  refine zO_isub dX12_firsts_190 h10 ?_
  refine zO_letI (fun x5_22 ex5_22 => ?_)
  refine zO_istore dX12_firsts_191 (by decide) ?_
  refine zO_ls (ls' := [(0, zR 91), (2, zI o2), (3, zI o3), (4, zI o4), (5, zI x5_22), (6, zI o6)]) rfl ?_
  refine zO_aload_n dX12_firsts_193 rfl (zR_P _) ?_
  refine gt12 (k := 38) dX12_firsts_194 wF_X12_87 (by decide) (gk_91 hG) (zgv (c := 12) (k := 38) rfl (Or.inl ⟨_, rfl⟩) (gf_91_38 hG)) ?_
  refine zO_iload dX12_firsts_197 rfl ?_
  refine zO_iald dX12_firsts_199 (gk_112 hG) (gl_in (gl_112 hG) h9) ?_
  refine zO_if_ne (tgt := 207) dX12_firsts_200 rfl (fun c200 => ?_) (fun c200 => ?_)
  · refine zO_iload_n dX12_firsts_203 rfl ?_
    refine zO_goto (tgt := 214) dX12_firsts_204 rfl ?_
    refine zO_live [0, 3, 4, 5, 6] ?_
    exact sX12_firsts_214 hG o3 o4 x5_22 o6 o2 _ hk_21 D_21
  · refine zO_aload_n dX12_firsts_207 rfl (zR_P _) ?_
    refine zO_iload dX12_firsts_208 rfl ?_
    refine zO_iload_n dX12_firsts_210 rfl ?_
    refine zO_callV (Y' := YX12_kingsWith) (cw := zcI F n sl) (as := [zI o6, zI o2]) (rest := []) (na := 2) (ci := 12) rfl dX12_firsts_211 wC_X12_kingsWith wN_X12 wM_X12_387 wI_X12_kingsWith wV_X12_kingsWith (by decide) (by decide) rfl rfl (Nat.le_of_ble_eq_true rfl) rfl (by decide) (gk_91 hG) (fun r hr => zMet_cast (Nat.add_assoc d 89 1) (mX12_kingsWith (d := d + 89) hG o6 o2 r hr)) ?_
    rintro ⟨r_25, D_26⟩ -
    show zO _ _ _ _ _ _ [zI r_25] (F, D_26, n, sl) _ _
    refine zO_live [0, 3, 4, 5, 6] ?_
    exact sX12_firsts_214 hG o3 o4 x5_22 o6 r_25 _ hk_21 D_26
set_option maxHeartbeats 20000000 in
theorem sX12_firsts_53 {l : Launch} {E : zE} {d : Nat} {F : zFs} {n sl : Nat} (hG : zG F)  (o2 : Int) (o3 : Int) (o4 : Int) (o5 : Int) (o6 : Int) (k_21 : Int → Int → Int → Int → Int → zDa → Option zDa) (hk_21 : ∀ (u2 : Int) (u3 : Int) (u4 : Int) (u5 : Int) (u6 : Int) (D : zDa), zO l E (d + 91) YX12_firsts 21 [(0, zR 91), (2, zI u2), (3, zI u3), (4, zI u4), (5, zI u5), (6, zI u6)] [] (F, D, n, sl) (zcV F n sl) (k_21 u2 u3 u4 u5 u6 D)) : ∀ (N : Nat) (v7 : Int) (D : zDa), zO l E (d + 91) YX12_firsts 53 [(0, zR 91), (2, zI o2), (3, zI o3), (4, zI o4), (5, zI o5), (6, zI o6), (7, zI v7)] [] (F, D, n, sl) (zcV F n sl) (zfix (fun _ _ => none) (fX12_firsts_53 F o2 o3 o4 o5 o6 k_21) N v7 D) := by
  intro N
  induction N with
  | zero => intro v7 D; exact zO_none
  | succ N hk_53 =>
    intro v7 D
    show zO _ _ _ _ _ _ _ _ _ ((fX12_firsts_53 F o2 o3 o4 o5 o6 k_21) (zfix (fun _ _ => none) (fX12_firsts_53 F o2 o3 o4 o5 o6 k_21) N) v7 D)
    unfold fX12_firsts_53
    refine zO_iload dX12_firsts_53 rfl ?_
    refine zO_iconst dX12_firsts_55 (by decide) ?_
    refine zO_icmp_ge (tgt := 168) dX12_firsts_56 rfl (fun c56 => ?_) (fun c56 => ?_)
    · refine zO_chk (fun h3 => ?_)
      refine zO_aload_n dX12_firsts_59 rfl (zR_P _) ?_
      refine gt12 (k := 38) dX12_firsts_60 wF_X12_87 (by decide) (gk_91 hG) (zgv (c := 12) (k := 38) rfl (Or.inl ⟨_, rfl⟩) (gf_91_38 hG)) ?_
      refine zO_iload dX12_firsts_63 rfl ?_
      refine zO_iald dX12_firsts_65 (gk_112 hG) (gl_in (gl_112 hG) h3) ?_
      refine zO_iconst dX12_firsts_66 (by decide) ?_
      refine zO_icmp_ne (tgt := 168) dX12_firsts_67 rfl (fun c67 => ?_) (fun c67 => ?_)
      · refine zO_aload_n dX12_firsts_70 rfl (zR_P _) ?_
        refine zO_iload dX12_firsts_71 rfl ?_
        refine zO_iload dX12_firsts_73 rfl ?_
        refine zO_aload_n dX12_firsts_75 rfl (zR_P _) ?_
        refine zO_iload dX12_firsts_76 rfl ?_
        refine zO_iload_n dX12_firsts_78 rfl ?_
        refine zO_callV (Y' := YX12_helpedBy) (cw := zcI F n sl) (as := [zI o6, zI o2]) (rest := [zI v7, zI o6, zR 91]) (na := 2) (ci := 12) rfl dX12_firsts_79 wC_X12_helpedBy wN_X12 wM_X12_384 wI_X12_helpedBy wV_X12_helpedBy (by decide) (by decide) rfl rfl (Nat.le_of_ble_eq_true rfl) rfl (by decide) (gk_91 hG) (fun r hr => zMet_cast (Nat.add_assoc d 89 1) (mX12_helpedBy (d := d + 89) hG o6 o2 r hr)) ?_
        rintro ⟨r_9, D_10⟩ -
        show zO _ _ _ _ _ _ [zI r_9, zI v7, zI o6, zR 91] (F, D_10, n, sl) _ _
        refine zO_callV (Y' := YX12_costOf) (cw := zcI F n sl) (as := [zI o6, zI v7, zI r_9]) (rest := []) (na := 3) (ci := 12) rfl dX12_firsts_82 wC_X12_costOf wN_X12 wM_X12_390 wI_X12_costOf wV_X12_costOf (by decide) (by decide) rfl rfl (Nat.le_of_ble_eq_true rfl) rfl (by decide) (gk_91 hG) (fun r hr => zMet_cast (Nat.add_assoc d 90 0) (mX12_costOf (d := d + 90) hG o6 v7 r_9 r hr)) ?_
        rintro ⟨r_11, D_12⟩ -
        show zO _ _ _ _ _ _ [zI r_11] (F, D_12, n, sl) _ _
        refine zO_istore dX12_firsts_85 (by decide) ?_
        refine zO_ls (ls' := [(0, zR 91), (2, zI o2), (3, zI o3), (4, zI o4), (5, zI o5), (6, zI o6), (7, zI v7), (8, zI r_11)]) rfl ?_
        refine zO_iload dX12_firsts_87 rfl ?_
        refine zO_iload dX12_firsts_89 rfl ?_
        refine zO_icmp_gt (tgt := 162) dX12_firsts_91 rfl (fun c91 => ?_) (fun c91 => ?_)
        · refine zO_live [0, 2, 3, 4, 5, 6, 7] ?_
          exact sX12_firsts_162 hG o2 o3 o4 o5 o6 v7 _ _ hk_21 hk_53 D_12
        · refine zO_chk (fun h5 => ?_)
          refine zO_aload_n dX12_firsts_94 rfl (zR_P _) ?_
          refine zO_iload dX12_firsts_95 rfl ?_
          refine zO_iconst dX12_firsts_97 (by decide) ?_
          refine zO_iadd dX12_firsts_98 h5 ?_
          refine zO_iload dX12_firsts_99 rfl ?_
          refine zO_if_ne (tgt := 108) dX12_firsts_101 rfl (fun c101 => ?_) (fun c101 => ?_)
          · refine zO_iload_n dX12_firsts_104 rfl ?_
            refine zO_goto (tgt := 115) dX12_firsts_105 rfl ?_
            refine zO_live [0, 2, 3, 4, 5, 6, 7, 8] ?_
            exact sX12_firsts_115 hG o2 o3 o4 o5 o6 v7 r_11 o2 (o6 + 1) _ _ hk_21 hk_53 D_12
          · refine zO_aload_n dX12_firsts_108 rfl (zR_P _) ?_
            refine zO_iload dX12_firsts_109 rfl ?_
            refine zO_iload_n dX12_firsts_111 rfl ?_
            refine zO_callV (Y' := YX12_kingsWith) (cw := zcI F n sl) (as := [zI o6, zI o2]) (rest := [zI (o6 + 1), zR 91]) (na := 2) (ci := 12) rfl dX12_firsts_112 wC_X12_kingsWith wN_X12 wM_X12_387 wI_X12_kingsWith wV_X12_kingsWith (by decide) (by decide) rfl rfl (Nat.le_of_ble_eq_true rfl) rfl (by decide) (gk_91 hG) (fun r hr => zMet_cast (Nat.add_assoc d 89 1) (mX12_kingsWith (d := d + 89) hG o6 o2 r hr)) ?_
            rintro ⟨r_16, D_17⟩ -
            show zO _ _ _ _ _ _ [zI r_16, zI (o6 + 1), zR 91] (F, D_17, n, sl) _ _
            refine zO_live [0, 2, 3, 4, 5, 6, 7, 8] ?_
            exact sX12_firsts_115 hG o2 o3 o4 o5 o6 v7 r_11 r_16 (o6 + 1) _ _ hk_21 hk_53 D_17
      · refine zO_live [0, 2, 3, 4, 5, 6] ?_
        exact sX12_firsts_168 hG o2 o3 o4 o5 o6 _ hk_21 D
    · refine zO_live [0, 2, 3, 4, 5, 6] ?_
      exact sX12_firsts_168 hG o2 o3 o4 o5 o6 _ hk_21 D
set_option maxHeartbeats 20000000 in
theorem sX12_firsts_21 {l : Launch} {E : zE} {d : Nat} {F : zFs} {n sl : Nat} (hG : zG F)     : ∀ (N : Nat) (v2 : Int) (v3 : Int) (v4 : Int) (v5 : Int) (v6 : Int) (D : zDa), zO l E (d + 91) YX12_firsts 21 [(0, zR 91), (2, zI v2), (3, zI v3), (4, zI v4), (5, zI v5), (6, zI v6)] [] (F, D, n, sl) (zcV F n sl) (zfix (fun _ _ _ _ _ _ => none) (fX12_firsts_21 F) N v2 v3 v4 v5 v6 D) := by
  intro N
  induction N with
  | zero => intro v2 v3 v4 v5 v6 D; exact zO_none
  | succ N hk_21 =>
    intro v2 v3 v4 v5 v6 D
    show zO _ _ _ _ _ _ _ _ _ ((fX12_firsts_21 F) (zfix (fun _ _ _ _ _ _ => none) (fX12_firsts_21 F) N) v2 v3 v4 v5 v6 D)
    unfold fX12_firsts_21
    refine zO_iload dX12_firsts_21 rfl ?_
    refine zO_aload_n dX12_firsts_23 rfl (zR_P _) ?_
    refine zO_callV (Y' := YX12_questions) (cw := zcI F n sl) (as := []) (rest := [zI v6]) (na := 0) (ci := 12) rfl dX12_firsts_24 wC_X12_questions wN_X12 wM_X12_146 wI_X12_questions wV_X12_questions (by decide) (by decide) rfl rfl (Nat.le_of_ble_eq_true rfl) rfl (by decide) (gk_91 hG) (fun r hr => zMet_cast (Nat.add_assoc d 90 0) (mX12_questions (d := d + 90) hG  r hr)) ?_
    rintro ⟨r_4, D_5⟩ -
    show zO _ _ _ _ _ _ [zI r_4, zI v6] (F, D_5, n, sl) _ _
    refine zO_icmp_ge (tgt := 261) dX12_firsts_27 rfl (fun c27 => ?_) (fun c27 => ?_)
    · refine zO_chk (fun h1 => ?_)
      refine zO_aload_n dX12_firsts_30 rfl (zR_P _) ?_
      refine gt12 (k := 38) dX12_firsts_31 wF_X12_87 (by decide) (gk_91 hG) (zgv (c := 12) (k := 38) rfl (Or.inl ⟨_, rfl⟩) (gf_91_38 hG)) ?_
      refine zO_iload dX12_firsts_34 rfl ?_
      refine zO_iconst dX12_firsts_36 (by decide) ?_
      refine zO_iast dX12_firsts_37 (gk_112 hG) (gl_in (gl_112 hG) h1) ?_
      refine zO_letD (fun D_6 eD_6 => ?_)
      refine zO_aload_n dX12_firsts_38 rfl (zR_P _) ?_
      refine zO_iload dX12_firsts_39 rfl ?_
      refine zO_callV (Y' := YX12_isBowl) (cw := zcI F n sl) (as := [zI v6]) (rest := []) (na := 1) (ci := 12) rfl dX12_firsts_41 wC_X12_isBowl wN_X12 wM_X12_154 wI_X12_isBowl wV_X12_isBowl (by decide) (by decide) rfl rfl (Nat.le_of_ble_eq_true rfl) rfl (by decide) (gk_91 hG) (fun r hr => zMet_cast (Nat.add_assoc d 89 1) (mX12_isBowl (d := d + 89) hG v6 r hr)) ?_
      rintro ⟨r_7, D_8⟩ -
      show zO _ _ _ _ _ _ [zI r_7] (F, D_8, n, sl) _ _
      refine zO_if_ne (tgt := 50) dX12_firsts_44 rfl (fun c44 => ?_) (fun c44 => ?_)
      · refine zO_goto (tgt := 255) dX12_firsts_47 rfl ?_
        refine zO_live [0, 2, 3, 4, 5, 6] ?_
        exact sX12_firsts_255 hG v2 v3 v4 v5 v6 _ hk_21 D_8
      · refine zO_iconst dX12_firsts_50 (by decide) ?_
        refine zO_istore dX12_firsts_51 (by decide) ?_
        refine zO_ls (ls' := [(0, zR 91), (2, zI v2), (3, zI v3), (4, zI v4), (5, zI v5), (6, zI v6), (7, zI 0)]) rfl ?_
        refine zO_live [0, 2, 3, 4, 5, 6, 7] ?_
        exact sX12_firsts_53 hG v2 v3 v4 v5 v6 _ hk_21 zfu 0 D_8
    · exact zO_ret (rv := none) dX12_firsts_261 rfl trivial rfl
set_option maxHeartbeats 20000000 in
theorem mX12_firsts {l : Launch} {E : zE} {d : Nat} {F : zFs} {n sl : Nat} (hG : zG F) (v1 : Int) {D : zDa} : ∀ r, fX12_firsts F  v1 D = some r → zMet l E (d + 91) YX12_firsts [zR 91, zI v1] (F, D, n, sl) (zcV F n sl r) := by
  intro r hr
  refine zMet_of (plainFor_of_name (by decide)) (fun _ h => (nomatch h)) (Nat.le_of_ble_eq_true rfl) ?_
  have hz : zO l E (d + 91) YX12_firsts 0 [(0, zR 91), (1, zI v1)] [] (F, D, n, sl) (zcV F n sl) (fX12_firsts F  v1 D) := by
    unfold fX12_firsts
    refine zO_aload_n dX12_firsts_0 rfl (zR_P _) ?_
    refine zO_iload_n dX12_firsts_1 rfl ?_
    refine zO_callV (Y' := YX12_bests) (cw := zcV F n sl) (as := [zI v1]) (rest := []) (na := 1) (ci := 12) rfl dX12_firsts_2 wC_X12_bests wN_X12 wM_X12_406 wI_X12_bests wV_X12_bests (by decide) (by decide) rfl rfl (Nat.le_of_ble_eq_true rfl) rfl (by decide) (gk_91 hG) (fun r hr => zMet_cast (Nat.add_assoc d 0 90) (mX12_bests (d := d + 0) hG v1 r hr)) ?_
    intro D_2 _
    show zO _ _ _ _ _ _ [] (F, D_2, n, sl) _ _
    refine zO_iconst dX12_firsts_5 (by decide) ?_
    refine zO_istore_n dX12_firsts_6 (by decide) ?_
    refine zO_ls (ls' := [(0, zR 91), (1, zI v1), (2, zI 0)]) rfl ?_
    refine zO_iconst dX12_firsts_7 (by decide) ?_
    refine zO_istore_n dX12_firsts_8 (by decide) ?_
    refine zO_ls (ls' := [(0, zR 91), (1, zI v1), (2, zI 0), (3, zI 0)]) rfl ?_
    refine zO_iconst dX12_firsts_9 (by decide) ?_
    refine zO_istore dX12_firsts_10 (by decide) ?_
    refine zO_ls (ls' := [(0, zR 91), (1, zI v1), (2, zI 0), (3, zI 0), (4, zI 0)]) rfl ?_
    refine zO_aload_n dX12_firsts_12 rfl (zR_P _) ?_
    refine gt12 (k := 37) (v := zI (D_2 91 37)) dX12_firsts_13 wF_X12_403 (by decide) (gk_91 hG) rfl ?_
    refine zO_letI (fun x5_3 ex5_3 => ?_)
    refine zO_istore dX12_firsts_16 (by decide) ?_
    refine zO_ls (ls' := [(0, zR 91), (1, zI v1), (2, zI 0), (3, zI 0), (4, zI 0), (5, zI x5_3)]) rfl ?_
    refine zO_iconst dX12_firsts_18 (by decide) ?_
    refine zO_istore dX12_firsts_19 (by decide) ?_
    refine zO_ls (ls' := [(0, zR 91), (1, zI v1), (2, zI 0), (3, zI 0), (4, zI 0), (5, zI x5_3), (6, zI 0)]) rfl ?_
    refine zO_live [0, 2, 3, 4, 5, 6] ?_
    exact sX12_firsts_21 hG zfu 0 0 0 x5_3 0 D_2
  exact hz r hr
theorem dX12_level_0 : decode cX12_level 0 = .ok (.iload_n 1, 1) := by decide +kernel
theorem dX12_level_1 : decode cX12_level 1 = .ok (.iconst 0, 1) := by decide +kernel
theorem dX12_level_2 : decode cX12_level 2 = .ok (.sipush 400, 3) := by decide +kernel
theorem dX12_level_5 : decode cX12_level 5 = .ok (.invokestatic 135, 3) := by decide +kernel
theorem dX12_level_8 : decode cX12_level 8 = .ok (.ifCond .eq 11, 3) := by decide +kernel
theorem dX12_level_11 : decode cX12_level 11 = .ok (.aload_n 0, 1) := by decide +kernel
theorem dX12_level_12 : decode cX12_level 12 = .ok (.iload_n 2, 1) := by decide +kernel
theorem dX12_level_13 : decode cX12_level 13 = .ok (.invokevirtual 158, 3) := by decide +kernel
theorem dX12_level_16 : decode cX12_level 16 = .ok (.ifCond .ne 5, 3) := by decide +kernel
theorem dX12_level_19 : decode cX12_level 19 = .ok (.iconst (-1), 1) := by decide +kernel
theorem dX12_level_20 : decode cX12_level 20 = .ok (.ireturn, 1) := by decide +kernel
theorem dX12_level_21 : decode cX12_level 21 = .ok (.aload_n 0, 1) := by decide +kernel
theorem dX12_level_22 : decode cX12_level 22 = .ok (.iload_n 1, 1) := by decide +kernel
theorem dX12_level_23 : decode cX12_level 23 = .ok (.invokevirtual 413, 3) := by decide +kernel
theorem dX12_level_26 : decode cX12_level 26 = .ok (.aload_n 0, 1) := by decide +kernel
theorem dX12_level_27 : decode cX12_level 27 = .ok (.getfield 87, 3) := by decide +kernel
theorem dX12_level_30 : decode cX12_level 30 = .ok (.iload_n 2, 1) := by decide +kernel
theorem dX12_level_31 : decode cX12_level 31 = .ok (.iaload, 1) := by decide +kernel
theorem dX12_level_32 : decode cX12_level 32 = .ok (.ireturn, 1) := by decide +kernel
abbrev YX12_level : zY := (yX12_level, cX12_level, 3, (Option.some Jvm.ClassFile.FieldType.int), [])
def fX12_level (F : zFs) (v1 : Int) (v2 : Int) (D : zDa) : Option (Int × zDa) :=
  (fX12_lies F v1 0 400 D).bind (fun (r_1, D_2) =>
    if r_1 = 0 then
      some ((-1), D_2)
    else
      (fX12_isQuestion F v2 D_2).bind (fun (r_3, D_4) =>
        if r_3 = 0 then
          some ((-1), D_4)
        else
          (fX12_firsts F v1 D_4).bind (fun D_6 =>
            if (0 ≤ v2 ∧ v2 < 20) then
              some ((D_6 112 v2.toNat), D_6)
            else none)))
set_option maxHeartbeats 20000000 in
theorem mX12_level {l : Launch} {E : zE} {d : Nat} {F : zFs} {n sl : Nat} (hG : zG F) (v1 : Int) (v2 : Int) {D : zDa} : ∀ r, fX12_level F  v1 v2 D = some r → zMet l E (d + 92) YX12_level [zR 91, zI v1, zI v2] (F, D, n, sl) (zcI F n sl r) := by
  intro r hr
  refine zMet_of (plainFor_of_name (by decide)) (fun _ h => (nomatch h)) (Nat.le_of_ble_eq_true rfl) ?_
  have hz : zO l E (d + 92) YX12_level 0 [(0, zR 91), (1, zI v1), (2, zI v2)] [] (F, D, n, sl) (zcI F n sl) (fX12_level F  v1 v2 D) := by
    unfold fX12_level
    refine zO_iload_n dX12_level_0 rfl ?_
    refine zO_iconst dX12_level_1 (by decide) ?_
    refine zO_sipush dX12_level_2 (by decide) ?_
    refine zO_callS (Y' := YX12_lies) (cw := zcI F n sl) (as := [zI v1, zI 0, zI 400]) (rest := []) (na := 3) dX12_level_5 wC_X12_lies wN_X12 wM_X12_135 wS_X12_lies (by decide) (by decide) rfl rfl (Nat.le_of_ble_eq_true rfl) (fun r hr => zMet_cast (Nat.add_assoc d 91 0) (mX12_lies (d := d + 91) hG v1 0 400 r hr)) ?_
    rintro ⟨r_1, D_2⟩ -
    show zO _ _ _ _ _ _ [zI r_1] (F, D_2, n, sl) _ _
    refine zO_if_eq (tgt := 19) dX12_level_8 rfl (fun c8 => ?_) (fun c8 => ?_)
    · refine zO_iconst dX12_level_19 (by decide) ?_
      exact zO_ret (rv := some (zI (-1))) dX12_level_20 rfl rfl rfl
    · refine zO_aload_n dX12_level_11 rfl (zR_P _) ?_
      refine zO_iload_n dX12_level_12 rfl ?_
      refine zO_callV (Y' := YX12_isQuestion) (cw := zcI F n sl) (as := [zI v2]) (rest := []) (na := 1) (ci := 12) rfl dX12_level_13 wC_X12_isQuestion wN_X12 wM_X12_158 wI_X12_isQuestion wV_X12_isQuestion (by decide) (by decide) rfl rfl (Nat.le_of_ble_eq_true rfl) rfl (by decide) (gk_91 hG) (fun r hr => zMet_cast (Nat.add_assoc d 90 1) (mX12_isQuestion (d := d + 90) hG v2 r hr)) ?_
      rintro ⟨r_3, D_4⟩ -
      show zO _ _ _ _ _ _ [zI r_3] (F, D_4, n, sl) _ _
      refine zO_if_ne (tgt := 21) dX12_level_16 rfl (fun c16 => ?_) (fun c16 => ?_)
      · refine zO_iconst dX12_level_19 (by decide) ?_
        exact zO_ret (rv := some (zI (-1))) dX12_level_20 rfl rfl rfl
      · refine zO_aload_n dX12_level_21 rfl (zR_P _) ?_
        refine zO_iload_n dX12_level_22 rfl ?_
        refine zO_callV (Y' := YX12_firsts) (cw := zcV F n sl) (as := [zI v1]) (rest := []) (na := 1) (ci := 12) rfl dX12_level_23 wC_X12_firsts wN_X12 wM_X12_413 wI_X12_firsts wV_X12_firsts (by decide) (by decide) rfl rfl (Nat.le_of_ble_eq_true rfl) rfl (by decide) (gk_91 hG) (fun r hr => zMet_cast (Nat.add_assoc d 0 91) (mX12_firsts (d := d + 0) hG v1 r hr)) ?_
        intro D_6 _
        show zO _ _ _ _ _ _ [] (F, D_6, n, sl) _ _
        refine zO_chk (fun h1 => ?_)
        refine zO_aload_n dX12_level_26 rfl (zR_P _) ?_
        refine gt12 (k := 38) dX12_level_27 wF_X12_87 (by decide) (gk_91 hG) (zgv (c := 12) (k := 38) rfl (Or.inl ⟨_, rfl⟩) (gf_91_38 hG)) ?_
        refine zO_iload_n dX12_level_30 rfl ?_
        refine zO_iald dX12_level_31 (gk_112 hG) (gl_in (gl_112 hG) h1) ?_
        exact zO_ret (rv := some (zI (D_6 112 v2.toNat))) dX12_level_32 rfl rfl rfl
  exact hz r hr
theorem dX12_enough_0 : decode cX12_enough 0 = .ok (.iload_n 1, 1) := by decide +kernel
theorem dX12_enough_1 : decode cX12_enough 1 = .ok (.iconst 0, 1) := by decide +kernel
theorem dX12_enough_2 : decode cX12_enough 2 = .ok (.bipush 100, 2) := by decide +kernel
theorem dX12_enough_4 : decode cX12_enough 4 = .ok (.invokestatic 135, 3) := by decide +kernel
theorem dX12_enough_7 : decode cX12_enough 7 = .ok (.ifCond .ne 5, 3) := by decide +kernel
theorem dX12_enough_10 : decode cX12_enough 10 = .ok (.iconst (-1), 1) := by decide +kernel
theorem dX12_enough_11 : decode cX12_enough 11 = .ok (.ireturn, 1) := by decide +kernel
theorem dX12_enough_12 : decode cX12_enough 12 = .ok (.aload_n 0, 1) := by decide +kernel
theorem dX12_enough_13 : decode cX12_enough 13 = .ok (.invokevirtual 397, 3) := by decide +kernel
theorem dX12_enough_16 : decode cX12_enough 16 = .ok (.ldc 185, 2) := by decide +kernel
theorem dX12_enough_18 : decode cX12_enough 18 = .ok (.istore_n 2, 1) := by decide +kernel
theorem dX12_enough_19 : decode cX12_enough 19 = .ok (.iconst 0, 1) := by decide +kernel
theorem dX12_enough_20 : decode cX12_enough 20 = .ok (.istore_n 3, 1) := by decide +kernel
theorem dX12_enough_21 : decode cX12_enough 21 = .ok (.iload_n 3, 1) := by decide +kernel
theorem dX12_enough_22 : decode cX12_enough 22 = .ok (.sipush 441, 3) := by decide +kernel
theorem dX12_enough_25 : decode cX12_enough 25 = .ok (.if_icmp .ge 57, 3) := by decide +kernel
theorem dX12_enough_28 : decode cX12_enough 28 = .ok (.iload_n 3, 1) := by decide +kernel
theorem dX12_enough_29 : decode cX12_enough 29 = .ok (.bipush 21, 2) := by decide +kernel
theorem dX12_enough_31 : decode cX12_enough 31 = .ok (.idiv, 1) := by decide +kernel
theorem dX12_enough_32 : decode cX12_enough 32 = .ok (.iload_n 3, 1) := by decide +kernel
theorem dX12_enough_33 : decode cX12_enough 33 = .ok (.bipush 21, 2) := by decide +kernel
theorem dX12_enough_35 : decode cX12_enough 35 = .ok (.irem, 1) := by decide +kernel
theorem dX12_enough_36 : decode cX12_enough 36 = .ok (.iadd, 1) := by decide +kernel
theorem dX12_enough_37 : decode cX12_enough 37 = .ok (.aload_n 0, 1) := by decide +kernel
theorem dX12_enough_38 : decode cX12_enough 38 = .ok (.invokevirtual 362, 3) := by decide +kernel
theorem dX12_enough_41 : decode cX12_enough 41 = .ok (.if_icmp .gt 35, 3) := by decide +kernel
theorem dX12_enough_44 : decode cX12_enough 44 = .ok (.aload_n 0, 1) := by decide +kernel
theorem dX12_enough_45 : decode cX12_enough 45 = .ok (.getfield 78, 3) := by decide +kernel
theorem dX12_enough_48 : decode cX12_enough 48 = .ok (.iload_n 3, 1) := by decide +kernel
theorem dX12_enough_49 : decode cX12_enough 49 = .ok (.laload, 1) := by decide +kernel
theorem dX12_enough_50 : decode cX12_enough 50 = .ok (.ldc2_w 328, 3) := by decide +kernel
theorem dX12_enough_53 : decode cX12_enough 53 = .ok (.lmul, 1) := by decide +kernel
theorem dX12_enough_54 : decode cX12_enough 54 = .ok (.aload_n 0, 1) := by decide +kernel
theorem dX12_enough_55 : decode cX12_enough 55 = .ok (.getfield 381, 3) := by decide +kernel
theorem dX12_enough_58 : decode cX12_enough 58 = .ok (.iload_n 1, 1) := by decide +kernel
theorem dX12_enough_59 : decode cX12_enough 59 = .ok (.i2l, 1) := by decide +kernel
theorem dX12_enough_60 : decode cX12_enough 60 = .ok (.lmul, 1) := by decide +kernel
theorem dX12_enough_61 : decode cX12_enough 61 = .ok (.lcmp, 1) := by decide +kernel
theorem dX12_enough_62 : decode cX12_enough 62 = .ok (.ifCond .lt 14, 3) := by decide +kernel
theorem dX12_enough_65 : decode cX12_enough 65 = .ok (.iload_n 2, 1) := by decide +kernel
theorem dX12_enough_66 : decode cX12_enough 66 = .ok (.aload_n 0, 1) := by decide +kernel
theorem dX12_enough_67 : decode cX12_enough 67 = .ok (.getfield 75, 3) := by decide +kernel
theorem dX12_enough_70 : decode cX12_enough 70 = .ok (.iload_n 3, 1) := by decide +kernel
theorem dX12_enough_71 : decode cX12_enough 71 = .ok (.iaload, 1) := by decide +kernel
theorem dX12_enough_72 : decode cX12_enough 72 = .ok (.invokestatic 394, 3) := by decide +kernel
theorem dX12_enough_75 : decode cX12_enough 75 = .ok (.istore_n 2, 1) := by decide +kernel
theorem dX12_enough_76 : decode cX12_enough 76 = .ok (.iinc 3 1, 3) := by decide +kernel
theorem dX12_enough_79 : decode cX12_enough 79 = .ok (.goto (-58), 3) := by decide +kernel
theorem dX12_enough_82 : decode cX12_enough 82 = .ok (.iload_n 2, 1) := by decide +kernel
theorem dX12_enough_83 : decode cX12_enough 83 = .ok (.sipush 400, 3) := by decide +kernel
theorem dX12_enough_86 : decode cX12_enough 86 = .ok (.if_icmp .le 7, 3) := by decide +kernel
theorem dX12_enough_89 : decode cX12_enough 89 = .ok (.iconst (-1), 1) := by decide +kernel
theorem dX12_enough_90 : decode cX12_enough 90 = .ok (.goto 4, 3) := by decide +kernel
theorem dX12_enough_93 : decode cX12_enough 93 = .ok (.iload_n 2, 1) := by decide +kernel
theorem dX12_enough_94 : decode cX12_enough 94 = .ok (.ireturn, 1) := by decide +kernel
abbrev YX12_enough : zY := (yX12_enough, cX12_enough, 4, (Option.some Jvm.ClassFile.FieldType.int), [])
def fX12_enough_76 (F : zFs) (k_21 : Int → Int → zDa → Option (Int × zDa)) (o1 : Int) (v2 : Int) (v3 : Int) (D : zDa) : Option (Int × zDa) :=
  if (-2147483648 ≤ v3 + 1 ∧ v3 + 1 ≤ 2147483647) then
    k_21 v2 (v3 + 1) D
  else none
def fX12_enough_21 (F : zFs) (o1 : Int)  (k_21 : Int → Int → zDa → Option (Int × zDa)) (v2 : Int) (v3 : Int) (D : zDa) : Option (Int × zDa) :=
  if v3 < 441 then
    if (-2147483648 ≤ (Int.tdiv v3 21) + (Int.tmod v3 21) ∧ (Int.tdiv v3 21) + (Int.tmod v3 21) ≤ 2147483647) then
      (fX12_bowl F D).bind (fun (r_5, D_6) =>
        if r_5 < ((Int.tdiv v3 21) + (Int.tmod v3 21)) then
          fX12_enough_76 F k_21 o1 v2 v3 D_6
        else
          if (0 ≤ v3 ∧ v3 < 441) ∧ (-9223372036854775808 ≤ (D_6 110 v3.toNat) * 100 ∧ (D_6 110 v3.toNat) * 100 ≤ 9223372036854775807) ∧ (-9223372036854775808 ≤ (D_6 91 34) * o1 ∧ (D_6 91 34) * o1 ≤ 9223372036854775807) then
            if ((D_6 110 v3.toNat) * 100) < ((D_6 91 34) * o1) then
              fX12_enough_76 F k_21 o1 v2 v3 D_6
            else
              if (0 ≤ v3 ∧ v3 < 148176) then
                (fX12_lesser F v2 (D_6 109 v3.toNat) D_6).bind (fun (r_7, D_8) =>
                  fX12_enough_76 F k_21 o1 r_7 v3 D_8)
              else none
          else none)
    else none
  else
    if 400 < v2 then
      some ((-1), D)
    else
      some (v2, D)
def fX12_enough (F : zFs) (v1 : Int) (D : zDa) : Option (Int × zDa) :=
  (fX12_lies F v1 0 100 D).bind (fun (r_1, D_2) =>
    if r_1 = 0 then
      some ((-1), D_2)
    else
      (fX12_schemes F D_2).bind (fun D_4 =>
        zfix (fun _ _ _ => none) (fX12_enough_21 F v1) zfu 1000000 0 D_4))
set_option maxHeartbeats 20000000 in
theorem sX12_enough_76 {l : Launch} {E : zE} {d : Nat} {F : zFs} {n sl : Nat} (hG : zG F)  (o1 : Int) (v2 : Int) (v3 : Int) (k_21 : Int → Int → zDa → Option (Int × zDa)) (hk_21 : ∀ (u2 : Int) (u3 : Int) (D : zDa), zO l E (d + 90) YX12_enough 21 [(0, zR 91), (1, zI o1), (2, zI u2), (3, zI u3)] [] (F, D, n, sl) (zcI F n sl) (k_21 u2 u3 D)) (D : zDa) : zO l E (d + 90) YX12_enough 76 [(0, zR 91), (1, zI o1), (2, zI v2), (3, zI v3)] [] (F, D, n, sl) (zcI F n sl) (fX12_enough_76 F k_21 o1 v2 v3 D) := by
  unfold fX12_enough_76
  refine zO_chk (fun h2 => ?_)
  refine zO_iinc dX12_enough_76 rfl h2 (by decide) ?_
  refine zO_ls (ls' := [(0, zR 91), (1, zI o1), (2, zI v2), (3, zI (v3 + 1))]) rfl ?_
  refine zO_goto (tgt := 21) dX12_enough_79 rfl ?_
  refine zO_live [0, 1, 2, 3] ?_
  exact hk_21 v2 (v3 + 1) D
set_option maxHeartbeats 20000000 in
theorem sX12_enough_21 {l : Launch} {E : zE} {d : Nat} {F : zFs} {n sl : Nat} (hG : zG F)  (o1 : Int)   : ∀ (N : Nat) (v2 : Int) (v3 : Int) (D : zDa), zO l E (d + 90) YX12_enough 21 [(0, zR 91), (1, zI o1), (2, zI v2), (3, zI v3)] [] (F, D, n, sl) (zcI F n sl) (zfix (fun _ _ _ => none) (fX12_enough_21 F o1) N v2 v3 D) := by
  intro N
  induction N with
  | zero => intro v2 v3 D; exact zO_none
  | succ N hk_21 =>
    intro v2 v3 D
    show zO _ _ _ _ _ _ _ _ _ ((fX12_enough_21 F o1) (zfix (fun _ _ _ => none) (fX12_enough_21 F o1) N) v2 v3 D)
    unfold fX12_enough_21
    refine zO_iload_n dX12_enough_21 rfl ?_
    refine zO_sipush dX12_enough_22 (by decide) ?_
    refine zO_icmp_ge (tgt := 82) dX12_enough_25 rfl (fun c25 => ?_) (fun c25 => ?_)
    · refine zO_chk (fun h1 => ?_)
      refine zO_iload_n dX12_enough_28 rfl ?_
      refine zO_bipush dX12_enough_29 (by decide) ?_
      refine zO_idiv dX12_enough_31 (by decide) (fun q => absurd q.2 (by decide)) ?_
      refine zO_iload_n dX12_enough_32 rfl ?_
      refine zO_bipush dX12_enough_33 (by decide) ?_
      refine zO_irem dX12_enough_35 (by decide) ?_
      refine zO_iadd dX12_enough_36 h1 ?_
      refine zO_aload_n dX12_enough_37 rfl (zR_P _) ?_
      refine zO_callV (Y' := YX12_bowl) (cw := zcI F n sl) (as := []) (rest := [zI ((Int.tdiv v3 21) + (Int.tmod v3 21))]) (na := 0) (ci := 12) rfl dX12_enough_38 wC_X12_bowl wN_X12 wM_X12_362 wI_X12_bowl wV_X12_bowl (by decide) (by decide) rfl rfl (Nat.le_of_ble_eq_true rfl) rfl (by decide) (gk_91 hG) (fun r hr => zMet_cast (Nat.add_assoc d 87 2) (mX12_bowl (d := d + 87) hG  r hr)) ?_
      rintro ⟨r_5, D_6⟩ -
      show zO _ _ _ _ _ _ [zI r_5, zI ((Int.tdiv v3 21) + (Int.tmod v3 21))] (F, D_6, n, sl) _ _
      refine zO_icmp_gt (tgt := 76) dX12_enough_41 rfl (fun c41 => ?_) (fun c41 => ?_)
      · refine zO_live [0, 1, 2, 3] ?_
        exact sX12_enough_76 hG o1 v2 v3 _ hk_21 D_6
      · refine zO_chk (fun h3 => ?_)
        refine zO_aload_n dX12_enough_44 rfl (zR_P _) ?_
        refine gt12 (k := 32) dX12_enough_45 wF_X12_78 (by decide) (gk_91 hG) (zgv (c := 12) (k := 32) rfl (Or.inl ⟨_, rfl⟩) (gf_91_32 hG)) ?_
        refine zO_iload_n dX12_enough_48 rfl ?_
        refine zO_lald dX12_enough_49 (gk_110 hG) (gl_in (gl_110 hG) h3.1) ?_
        refine zO_ldc2 (n := 100) dX12_enough_50 wK_X12_328 (by decide) ?_
        refine zO_lmul dX12_enough_53 h3.2.1 ?_
        refine zO_aload_n dX12_enough_54 rfl (zR_P _) ?_
        refine gt12 (k := 34) (v := zL (D_6 91 34)) dX12_enough_55 wF_X12_381 (by decide) (gk_91 hG) rfl ?_
        refine zO_iload_n dX12_enough_58 rfl ?_
        refine zO_i2l dX12_enough_59 ?_
        refine zO_lmul dX12_enough_60 h3.2.2 ?_
        refine zO_lif_lt (tgt := 76) dX12_enough_61 dX12_enough_62 rfl (fun c61 => ?_) (fun c61 => ?_)
        · refine zO_live [0, 1, 2, 3] ?_
          exact sX12_enough_76 hG o1 v2 v3 _ hk_21 D_6
        · refine zO_chk (fun h4 => ?_)
          refine zO_iload_n dX12_enough_65 rfl ?_
          refine zO_aload_n dX12_enough_66 rfl (zR_P _) ?_
          refine gt12 (k := 31) dX12_enough_67 wF_X12_75 (by decide) (gk_91 hG) (zgv (c := 12) (k := 31) rfl (Or.inl ⟨_, rfl⟩) (gf_91_31 hG)) ?_
          refine zO_iload_n dX12_enough_70 rfl ?_
          refine zO_iald dX12_enough_71 (gk_109 hG) (gl_in (gl_109 hG) h4) ?_
          refine zO_callS (Y' := YX12_lesser) (cw := zcI F n sl) (as := [zI v2, zI (D_6 109 v3.toNat)]) (rest := []) (na := 2) dX12_enough_72 wC_X12_lesser wN_X12 wM_X12_394 wS_X12_lesser (by decide) (by decide) rfl rfl (Nat.le_of_ble_eq_true rfl) (fun r hr => zMet_cast (Nat.add_assoc d 89 0) (mX12_lesser (d := d + 89) hG v2 (D_6 109 v3.toNat) r hr)) ?_
          rintro ⟨r_7, D_8⟩ -
          show zO _ _ _ _ _ _ [zI r_7] (F, D_8, n, sl) _ _
          refine zO_istore_n dX12_enough_75 (by decide) ?_
          refine zO_ls (ls' := [(0, zR 91), (1, zI o1), (2, zI r_7), (3, zI v3)]) rfl ?_
          refine zO_live [0, 1, 2, 3] ?_
          exact sX12_enough_76 hG o1 r_7 v3 _ hk_21 D_8
    · refine zO_iload_n dX12_enough_82 rfl ?_
      refine zO_sipush dX12_enough_83 (by decide) ?_
      refine zO_icmp_le (tgt := 93) dX12_enough_86 rfl (fun c86 => ?_) (fun c86 => ?_)
      · refine zO_iconst dX12_enough_89 (by decide) ?_
        refine zO_goto (tgt := 94) dX12_enough_90 rfl ?_
        exact zO_ret (rv := some (zI (-1))) dX12_enough_94 rfl rfl rfl
      · refine zO_iload_n dX12_enough_93 rfl ?_
        exact zO_ret (rv := some (zI v2)) dX12_enough_94 rfl rfl rfl
set_option maxHeartbeats 20000000 in
theorem mX12_enough {l : Launch} {E : zE} {d : Nat} {F : zFs} {n sl : Nat} (hG : zG F) (v1 : Int) {D : zDa} : ∀ r, fX12_enough F  v1 D = some r → zMet l E (d + 90) YX12_enough [zR 91, zI v1] (F, D, n, sl) (zcI F n sl r) := by
  intro r hr
  refine zMet_of (plainFor_of_name (by decide)) (fun _ h => (nomatch h)) (Nat.le_of_ble_eq_true rfl) ?_
  have hz : zO l E (d + 90) YX12_enough 0 [(0, zR 91), (1, zI v1)] [] (F, D, n, sl) (zcI F n sl) (fX12_enough F  v1 D) := by
    unfold fX12_enough
    refine zO_iload_n dX12_enough_0 rfl ?_
    refine zO_iconst dX12_enough_1 (by decide) ?_
    refine zO_bipush dX12_enough_2 (by decide) ?_
    refine zO_callS (Y' := YX12_lies) (cw := zcI F n sl) (as := [zI v1, zI 0, zI 100]) (rest := []) (na := 3) dX12_enough_4 wC_X12_lies wN_X12 wM_X12_135 wS_X12_lies (by decide) (by decide) rfl rfl (Nat.le_of_ble_eq_true rfl) (fun r hr => zMet_cast (Nat.add_assoc d 89 0) (mX12_lies (d := d + 89) hG v1 0 100 r hr)) ?_
    rintro ⟨r_1, D_2⟩ -
    show zO _ _ _ _ _ _ [zI r_1] (F, D_2, n, sl) _ _
    refine zO_if_ne (tgt := 12) dX12_enough_7 rfl (fun c7 => ?_) (fun c7 => ?_)
    · refine zO_iconst dX12_enough_10 (by decide) ?_
      exact zO_ret (rv := some (zI (-1))) dX12_enough_11 rfl rfl rfl
    · refine zO_aload_n dX12_enough_12 rfl (zR_P _) ?_
      refine zO_callV (Y' := YX12_schemes) (cw := zcV F n sl) (as := []) (rest := []) (na := 0) (ci := 12) rfl dX12_enough_13 wC_X12_schemes wN_X12 wM_X12_397 wI_X12_schemes wV_X12_schemes (by decide) (by decide) rfl rfl (Nat.le_of_ble_eq_true rfl) rfl (by decide) (gk_91 hG) (fun r hr => zMet_cast (Nat.add_assoc d 0 89) (mX12_schemes (d := d + 0) hG  r hr)) ?_
      intro D_4 _
      show zO _ _ _ _ _ _ [] (F, D_4, n, sl) _ _
      refine zO_ldc (n := 1000000) dX12_enough_16 wK_X12_185 (by decide) ?_
      refine zO_istore_n dX12_enough_18 (by decide) ?_
      refine zO_ls (ls' := [(0, zR 91), (1, zI v1), (2, zI 1000000)]) rfl ?_
      refine zO_iconst dX12_enough_19 (by decide) ?_
      refine zO_istore_n dX12_enough_20 (by decide) ?_
      refine zO_ls (ls' := [(0, zR 91), (1, zI v1), (2, zI 1000000), (3, zI 0)]) rfl ?_
      refine zO_live [0, 1, 2, 3] ?_
      exact sX12_enough_21 hG v1 zfu 1000000 0 D_4
  exact hz r hr
theorem dX12_lesson_0 : decode cX12_lesson 0 = .ok (.iload_n 1, 1) := by decide +kernel
theorem dX12_lesson_1 : decode cX12_lesson 1 = .ok (.iconst 0, 1) := by decide +kernel
theorem dX12_lesson_2 : decode cX12_lesson 2 = .ok (.bipush 19, 2) := by decide +kernel
theorem dX12_lesson_4 : decode cX12_lesson 4 = .ok (.invokestatic 135, 3) := by decide +kernel
theorem dX12_lesson_7 : decode cX12_lesson 7 = .ok (.ifCond .ne 9, 3) := by decide +kernel
theorem dX12_lesson_10 : decode cX12_lesson 10 = .ok (.aload_n 0, 1) := by decide +kernel
theorem dX12_lesson_11 : decode cX12_lesson 11 = .ok (.iconst (-1), 1) := by decide +kernel
theorem dX12_lesson_12 : decode cX12_lesson 12 = .ok (.invokevirtual 139, 3) := by decide +kernel
theorem dX12_lesson_15 : decode cX12_lesson 15 = .ok (.ireturn, 1) := by decide +kernel
theorem dX12_lesson_16 : decode cX12_lesson 16 = .ok (.aload_n 0, 1) := by decide +kernel
theorem dX12_lesson_17 : decode cX12_lesson 17 = .ok (.iload_n 2, 1) := by decide +kernel
theorem dX12_lesson_18 : decode cX12_lesson 18 = .ok (.invokevirtual 158, 3) := by decide +kernel
theorem dX12_lesson_21 : decode cX12_lesson 21 = .ok (.ifCond .ne 10, 3) := by decide +kernel
theorem dX12_lesson_24 : decode cX12_lesson 24 = .ok (.aload_n 0, 1) := by decide +kernel
theorem dX12_lesson_25 : decode cX12_lesson 25 = .ok (.bipush (-2), 2) := by decide +kernel
theorem dX12_lesson_27 : decode cX12_lesson 27 = .ok (.invokevirtual 139, 3) := by decide +kernel
theorem dX12_lesson_30 : decode cX12_lesson 30 = .ok (.ireturn, 1) := by decide +kernel
theorem dX12_lesson_31 : decode cX12_lesson 31 = .ok (.aload_n 0, 1) := by decide +kernel
theorem dX12_lesson_32 : decode cX12_lesson 32 = .ok (.getfield 20, 3) := by decide +kernel
theorem dX12_lesson_35 : decode cX12_lesson 35 = .ok (.sipush 391, 3) := by decide +kernel
theorem dX12_lesson_38 : decode cX12_lesson 38 = .ok (.iaload, 1) := by decide +kernel
theorem dX12_lesson_39 : decode cX12_lesson 39 = .ok (.istore_n 3, 1) := by decide +kernel
theorem dX12_lesson_40 : decode cX12_lesson 40 = .ok (.iload_n 3, 1) := by decide +kernel
theorem dX12_lesson_41 : decode cX12_lesson 41 = .ok (.bipush 120, 2) := by decide +kernel
theorem dX12_lesson_43 : decode cX12_lesson 43 = .ok (.if_icmp .ne 10, 3) := by decide +kernel
theorem dX12_lesson_46 : decode cX12_lesson 46 = .ok (.aload_n 0, 1) := by decide +kernel
theorem dX12_lesson_47 : decode cX12_lesson 47 = .ok (.bipush (-5), 2) := by decide +kernel
theorem dX12_lesson_49 : decode cX12_lesson 49 = .ok (.invokevirtual 139, 3) := by decide +kernel
theorem dX12_lesson_52 : decode cX12_lesson 52 = .ok (.ireturn, 1) := by decide +kernel
theorem dX12_lesson_53 : decode cX12_lesson 53 = .ok (.aload_n 0, 1) := by decide +kernel
theorem dX12_lesson_54 : decode cX12_lesson 54 = .ok (.getfield 20, 3) := by decide +kernel
theorem dX12_lesson_57 : decode cX12_lesson 57 = .ok (.bipush 107, 2) := by decide +kernel
theorem dX12_lesson_59 : decode cX12_lesson 59 = .ok (.iconst 2, 1) := by decide +kernel
theorem dX12_lesson_60 : decode cX12_lesson 60 = .ok (.iload_n 3, 1) := by decide +kernel
theorem dX12_lesson_61 : decode cX12_lesson 61 = .ok (.imul, 1) := by decide +kernel
theorem dX12_lesson_62 : decode cX12_lesson 62 = .ok (.iadd, 1) := by decide +kernel
theorem dX12_lesson_63 : decode cX12_lesson 63 = .ok (.iload_n 1, 1) := by decide +kernel
theorem dX12_lesson_64 : decode cX12_lesson 64 = .ok (.iastore, 1) := by decide +kernel
theorem dX12_lesson_65 : decode cX12_lesson 65 = .ok (.aload_n 0, 1) := by decide +kernel
theorem dX12_lesson_66 : decode cX12_lesson 66 = .ok (.getfield 20, 3) := by decide +kernel
theorem dX12_lesson_69 : decode cX12_lesson 69 = .ok (.bipush 107, 2) := by decide +kernel
theorem dX12_lesson_71 : decode cX12_lesson 71 = .ok (.iconst 2, 1) := by decide +kernel
theorem dX12_lesson_72 : decode cX12_lesson 72 = .ok (.iload_n 3, 1) := by decide +kernel
theorem dX12_lesson_73 : decode cX12_lesson 73 = .ok (.imul, 1) := by decide +kernel
theorem dX12_lesson_74 : decode cX12_lesson 74 = .ok (.iadd, 1) := by decide +kernel
theorem dX12_lesson_75 : decode cX12_lesson 75 = .ok (.iconst 1, 1) := by decide +kernel
theorem dX12_lesson_76 : decode cX12_lesson 76 = .ok (.iadd, 1) := by decide +kernel
theorem dX12_lesson_77 : decode cX12_lesson 77 = .ok (.iload_n 2, 1) := by decide +kernel
theorem dX12_lesson_78 : decode cX12_lesson 78 = .ok (.iastore, 1) := by decide +kernel
theorem dX12_lesson_79 : decode cX12_lesson 79 = .ok (.aload_n 0, 1) := by decide +kernel
theorem dX12_lesson_80 : decode cX12_lesson 80 = .ok (.getfield 20, 3) := by decide +kernel
theorem dX12_lesson_83 : decode cX12_lesson 83 = .ok (.sipush 391, 3) := by decide +kernel
theorem dX12_lesson_86 : decode cX12_lesson 86 = .ok (.dup2, 1) := by decide +kernel
theorem dX12_lesson_87 : decode cX12_lesson 87 = .ok (.iaload, 1) := by decide +kernel
theorem dX12_lesson_88 : decode cX12_lesson 88 = .ok (.iconst 1, 1) := by decide +kernel
theorem dX12_lesson_89 : decode cX12_lesson 89 = .ok (.iadd, 1) := by decide +kernel
theorem dX12_lesson_90 : decode cX12_lesson 90 = .ok (.iastore, 1) := by decide +kernel
theorem dX12_lesson_91 : decode cX12_lesson 91 = .ok (.aload_n 0, 1) := by decide +kernel
theorem dX12_lesson_92 : decode cX12_lesson 92 = .ok (.iload_n 3, 1) := by decide +kernel
theorem dX12_lesson_93 : decode cX12_lesson 93 = .ok (.iconst 1, 1) := by decide +kernel
theorem dX12_lesson_94 : decode cX12_lesson 94 = .ok (.iadd, 1) := by decide +kernel
theorem dX12_lesson_95 : decode cX12_lesson 95 = .ok (.invokevirtual 143, 3) := by decide +kernel
theorem dX12_lesson_98 : decode cX12_lesson 98 = .ok (.ireturn, 1) := by decide +kernel
abbrev YX12_lesson : zY := (yX12_lesson, cX12_lesson, 4, (Option.some Jvm.ClassFile.FieldType.int), [])
def fX12_lesson (F : zFs) (v1 : Int) (v2 : Int) (D : zDa) : Option (Int × zDa) :=
  (fX12_lies F v1 0 19 D).bind (fun (r_1, D_2) =>
    if r_1 = 0 then
      (fX12_refuses F (-1) D_2).bind (fun (r_3, D_4) =>
        some (r_3, D_4))
    else
      (fX12_isQuestion F v2 D_2).bind (fun (r_5, D_6) =>
        if r_5 = 0 then
          (fX12_refuses F (-2) D_6).bind (fun (r_7, D_8) =>
            some (r_7, D_8))
        else
          zlet ((D_6 93 391)) (fun x3_9 =>
            if x3_9 = 120 then
              (fX12_refuses F (-5) D_6).bind (fun (r_10, D_11) =>
                some (r_10, D_11))
            else
              if (-2147483648 ≤ 2 * x3_9 ∧ 2 * x3_9 ≤ 2147483647) ∧ (-2147483648 ≤ 107 + (2 * x3_9) ∧ 107 + (2 * x3_9) ≤ 2147483647) ∧ (0 ≤ (107 + (2 * x3_9)) ∧ (107 + (2 * x3_9)) < 5201) then
                zlet (zwr D_6 93 (107 + (2 * x3_9)).toNat v1) (fun D_12 =>
                  if (-2147483648 ≤ (107 + (2 * x3_9)) + 1 ∧ (107 + (2 * x3_9)) + 1 ≤ 2147483647) ∧ (0 ≤ ((107 + (2 * x3_9)) + 1) ∧ ((107 + (2 * x3_9)) + 1) < 5201) then
                    zlet (zwr D_12 93 ((107 + (2 * x3_9)) + 1).toNat v2) (fun D_13 =>
                      if (-2147483648 ≤ (D_13 93 391) + 1 ∧ (D_13 93 391) + 1 ≤ 2147483647) then
                        zlet (zwr D_13 93 391 ((D_13 93 391) + 1)) (fun D_14 =>
                          if (-2147483648 ≤ x3_9 + 1 ∧ x3_9 + 1 ≤ 2147483647) then
                            (fX12_good F (x3_9 + 1) D_14).bind (fun (r_15, D_16) =>
                              some (r_15, D_16))
                          else none)
                      else none)
                  else none)
              else none)))
set_option maxHeartbeats 20000000 in
theorem mX12_lesson {l : Launch} {E : zE} {d : Nat} {F : zFs} {n sl : Nat} (hG : zG F) (v1 : Int) (v2 : Int) {D : zDa} : ∀ r, fX12_lesson F  v1 v2 D = some r → zMet l E (d + 2) YX12_lesson [zR 91, zI v1, zI v2] (F, D, n, sl) (zcI F n sl r) := by
  intro r hr
  refine zMet_of (plainFor_of_name (by decide)) (fun _ h => (nomatch h)) (Nat.le_of_ble_eq_true rfl) ?_
  have hz : zO l E (d + 2) YX12_lesson 0 [(0, zR 91), (1, zI v1), (2, zI v2)] [] (F, D, n, sl) (zcI F n sl) (fX12_lesson F  v1 v2 D) := by
    unfold fX12_lesson
    refine zO_iload_n dX12_lesson_0 rfl ?_
    refine zO_iconst dX12_lesson_1 (by decide) ?_
    refine zO_bipush dX12_lesson_2 (by decide) ?_
    refine zO_callS (Y' := YX12_lies) (cw := zcI F n sl) (as := [zI v1, zI 0, zI 19]) (rest := []) (na := 3) dX12_lesson_4 wC_X12_lies wN_X12 wM_X12_135 wS_X12_lies (by decide) (by decide) rfl rfl (Nat.le_of_ble_eq_true rfl) (fun r hr => zMet_cast (Nat.add_assoc d 1 0) (mX12_lies (d := d + 1) hG v1 0 19 r hr)) ?_
    rintro ⟨r_1, D_2⟩ -
    show zO _ _ _ _ _ _ [zI r_1] (F, D_2, n, sl) _ _
    refine zO_if_ne (tgt := 16) dX12_lesson_7 rfl (fun c7 => ?_) (fun c7 => ?_)
    · refine zO_aload_n dX12_lesson_10 rfl (zR_P _) ?_
      refine zO_iconst dX12_lesson_11 (by decide) ?_
      refine zO_callV (Y' := YX12_refuses) (cw := zcI F n sl) (as := [zI (-1)]) (rest := []) (na := 1) (ci := 12) rfl dX12_lesson_12 wC_X12_refuses wN_X12 wM_X12_139 wI_X12_refuses wV_X12_refuses (by decide) (by decide) rfl rfl (Nat.le_of_ble_eq_true rfl) rfl (by decide) (gk_91 hG) (fun r hr => zMet_cast (Nat.add_assoc d 1 0) (mX12_refuses (d := d + 1) hG (-1) r hr)) ?_
      rintro ⟨r_3, D_4⟩ -
      show zO _ _ _ _ _ _ [zI r_3] (F, D_4, n, sl) _ _
      exact zO_ret (rv := some (zI r_3)) dX12_lesson_15 rfl rfl rfl
    · refine zO_aload_n dX12_lesson_16 rfl (zR_P _) ?_
      refine zO_iload_n dX12_lesson_17 rfl ?_
      refine zO_callV (Y' := YX12_isQuestion) (cw := zcI F n sl) (as := [zI v2]) (rest := []) (na := 1) (ci := 12) rfl dX12_lesson_18 wC_X12_isQuestion wN_X12 wM_X12_158 wI_X12_isQuestion wV_X12_isQuestion (by decide) (by decide) rfl rfl (Nat.le_of_ble_eq_true rfl) rfl (by decide) (gk_91 hG) (fun r hr => zMet_cast (Nat.add_assoc d 0 1) (mX12_isQuestion (d := d + 0) hG v2 r hr)) ?_
      rintro ⟨r_5, D_6⟩ -
      show zO _ _ _ _ _ _ [zI r_5] (F, D_6, n, sl) _ _
      refine zO_if_ne (tgt := 31) dX12_lesson_21 rfl (fun c21 => ?_) (fun c21 => ?_)
      · refine zO_aload_n dX12_lesson_24 rfl (zR_P _) ?_
        refine zO_bipush dX12_lesson_25 (by decide) ?_
        refine zO_callV (Y' := YX12_refuses) (cw := zcI F n sl) (as := [zI (-2)]) (rest := []) (na := 1) (ci := 12) rfl dX12_lesson_27 wC_X12_refuses wN_X12 wM_X12_139 wI_X12_refuses wV_X12_refuses (by decide) (by decide) rfl rfl (Nat.le_of_ble_eq_true rfl) rfl (by decide) (gk_91 hG) (fun r hr => zMet_cast (Nat.add_assoc d 1 0) (mX12_refuses (d := d + 1) hG (-2) r hr)) ?_
        rintro ⟨r_7, D_8⟩ -
        show zO _ _ _ _ _ _ [zI r_7] (F, D_8, n, sl) _ _
        exact zO_ret (rv := some (zI r_7)) dX12_lesson_30 rfl rfl rfl
      · refine zO_aload_n dX12_lesson_31 rfl (zR_P _) ?_
        refine gt12 (k := 3) dX12_lesson_32 wF_X12_20 (by decide) (gk_91 hG) (zgv (c := 12) (k := 3) rfl (Or.inl ⟨_, rfl⟩) (gf_91_3 hG)) ?_
        refine zO_sipush dX12_lesson_35 (by decide) ?_
        refine zO_iald dX12_lesson_38 (gk_93 hG) (gl_in (gl_93 hG) (by decide)) ?_
        refine zO_letI (fun x3_9 ex3_9 => ?_)
        refine zO_istore_n dX12_lesson_39 (by decide) ?_
        refine zO_ls (ls' := [(0, zR 91), (1, zI v1), (2, zI v2), (3, zI x3_9)]) rfl ?_
        refine zO_iload_n dX12_lesson_40 rfl ?_
        refine zO_bipush dX12_lesson_41 (by decide) ?_
        refine zO_icmp_ne (tgt := 53) dX12_lesson_43 rfl (fun c43 => ?_) (fun c43 => ?_)
        · refine zO_aload_n dX12_lesson_46 rfl (zR_P _) ?_
          refine zO_bipush dX12_lesson_47 (by decide) ?_
          refine zO_callV (Y' := YX12_refuses) (cw := zcI F n sl) (as := [zI (-5)]) (rest := []) (na := 1) (ci := 12) rfl dX12_lesson_49 wC_X12_refuses wN_X12 wM_X12_139 wI_X12_refuses wV_X12_refuses (by decide) (by decide) rfl rfl (Nat.le_of_ble_eq_true rfl) rfl (by decide) (gk_91 hG) (fun r hr => zMet_cast (Nat.add_assoc d 1 0) (mX12_refuses (d := d + 1) hG (-5) r hr)) ?_
          rintro ⟨r_10, D_11⟩ -
          show zO _ _ _ _ _ _ [zI r_10] (F, D_11, n, sl) _ _
          exact zO_ret (rv := some (zI r_10)) dX12_lesson_52 rfl rfl rfl
        · refine zO_chk (fun h1 => ?_)
          refine zO_aload_n dX12_lesson_53 rfl (zR_P _) ?_
          refine gt12 (k := 3) dX12_lesson_54 wF_X12_20 (by decide) (gk_91 hG) (zgv (c := 12) (k := 3) rfl (Or.inl ⟨_, rfl⟩) (gf_91_3 hG)) ?_
          refine zO_bipush dX12_lesson_57 (by decide) ?_
          refine zO_iconst dX12_lesson_59 (by decide) ?_
          refine zO_iload_n dX12_lesson_60 rfl ?_
          refine zO_imul dX12_lesson_61 h1.1 ?_
          refine zO_iadd dX12_lesson_62 h1.2.1 ?_
          refine zO_iload_n dX12_lesson_63 rfl ?_
          refine zO_iast dX12_lesson_64 (gk_93 hG) (gl_in (gl_93 hG) h1.2.2) ?_
          refine zO_letD (fun D_12 eD_12 => ?_)
          refine zO_chk (fun h2 => ?_)
          refine zO_aload_n dX12_lesson_65 rfl (zR_P _) ?_
          refine gt12 (k := 3) dX12_lesson_66 wF_X12_20 (by decide) (gk_91 hG) (zgv (c := 12) (k := 3) rfl (Or.inl ⟨_, rfl⟩) (gf_91_3 hG)) ?_
          refine zO_bipush dX12_lesson_69 (by decide) ?_
          refine zO_iconst dX12_lesson_71 (by decide) ?_
          refine zO_iload_n dX12_lesson_72 rfl ?_
          refine zO_imul dX12_lesson_73 h1.1 ?_
          refine zO_iadd dX12_lesson_74 h1.2.1 ?_
          refine zO_iconst dX12_lesson_75 (by decide) ?_
          refine zO_iadd dX12_lesson_76 h2.1 ?_
          refine zO_iload_n dX12_lesson_77 rfl ?_
          refine zO_iast dX12_lesson_78 (gk_93 hG) (gl_in (gl_93 hG) h2.2) ?_
          refine zO_letD (fun D_13 eD_13 => ?_)
          refine zO_chk (fun h3 => ?_)
          refine zO_aload_n dX12_lesson_79 rfl (zR_P _) ?_
          refine gt12 (k := 3) dX12_lesson_80 wF_X12_20 (by decide) (gk_91 hG) (zgv (c := 12) (k := 3) rfl (Or.inl ⟨_, rfl⟩) (gf_91_3 hG)) ?_
          refine zO_sipush dX12_lesson_83 (by decide) ?_
          refine zO_dup2a dX12_lesson_86 (rfl) (rfl) ?_
          refine zO_iald dX12_lesson_87 (gk_93 hG) (gl_in (gl_93 hG) (by decide)) ?_
          refine zO_iconst dX12_lesson_88 (by decide) ?_
          refine zO_iadd dX12_lesson_89 h3 ?_
          refine zO_iast dX12_lesson_90 (gk_93 hG) (gl_in (gl_93 hG) (by decide)) ?_
          refine zO_letD (fun D_14 eD_14 => ?_)
          refine zO_chk (fun h4 => ?_)
          refine zO_aload_n dX12_lesson_91 rfl (zR_P _) ?_
          refine zO_iload_n dX12_lesson_92 rfl ?_
          refine zO_iconst dX12_lesson_93 (by decide) ?_
          refine zO_iadd dX12_lesson_94 h4 ?_
          refine zO_callV (Y' := YX12_good) (cw := zcI F n sl) (as := [zI (x3_9 + 1)]) (rest := []) (na := 1) (ci := 12) rfl dX12_lesson_95 wC_X12_good wN_X12 wM_X12_143 wI_X12_good wV_X12_good (by decide) (by decide) rfl rfl (Nat.le_of_ble_eq_true rfl) rfl (by decide) (gk_91 hG) (fun r hr => zMet_cast (Nat.add_assoc d 1 0) (mX12_good (d := d + 1) hG (x3_9 + 1) r hr)) ?_
          rintro ⟨r_15, D_16⟩ -
          show zO _ _ _ _ _ _ [zI r_15] (F, D_16, n, sl) _ _
          exact zO_ret (rv := some (zI r_15)) dX12_lesson_98 rfl rfl rfl
  exact hz r hr
theorem dX12_clear_0 : decode cX12_clear 0 = .ok (.aload_n 0, 1) := by decide +kernel
theorem dX12_clear_1 : decode cX12_clear 1 = .ok (.getfield 20, 3) := by decide +kernel
theorem dX12_clear_4 : decode cX12_clear 4 = .ok (.sipush 391, 3) := by decide +kernel
theorem dX12_clear_7 : decode cX12_clear 7 = .ok (.iaload, 1) := by decide +kernel
theorem dX12_clear_8 : decode cX12_clear 8 = .ok (.istore_n 1, 1) := by decide +kernel
theorem dX12_clear_9 : decode cX12_clear 9 = .ok (.aload_n 0, 1) := by decide +kernel
theorem dX12_clear_10 : decode cX12_clear 10 = .ok (.getfield 20, 3) := by decide +kernel
theorem dX12_clear_13 : decode cX12_clear 13 = .ok (.sipush 391, 3) := by decide +kernel
theorem dX12_clear_16 : decode cX12_clear 16 = .ok (.iconst 0, 1) := by decide +kernel
theorem dX12_clear_17 : decode cX12_clear 17 = .ok (.iastore, 1) := by decide +kernel
theorem dX12_clear_18 : decode cX12_clear 18 = .ok (.aload_n 0, 1) := by decide +kernel
theorem dX12_clear_19 : decode cX12_clear 19 = .ok (.dup, 1) := by decide +kernel
theorem dX12_clear_20 : decode cX12_clear 20 = .ok (.getfield 11, 3) := by decide +kernel
theorem dX12_clear_23 : decode cX12_clear 23 = .ok (.iconst 1, 1) := by decide +kernel
theorem dX12_clear_24 : decode cX12_clear 24 = .ok (.iadd, 1) := by decide +kernel
theorem dX12_clear_25 : decode cX12_clear 25 = .ok (.putfield 11, 3) := by decide +kernel
theorem dX12_clear_28 : decode cX12_clear 28 = .ok (.iload_n 1, 1) := by decide +kernel
theorem dX12_clear_29 : decode cX12_clear 29 = .ok (.ireturn, 1) := by decide +kernel
abbrev YX12_clear : zY := (yX12_clear, cX12_clear, 2, (Option.some Jvm.ClassFile.FieldType.int), [])
def fX12_clear (F : zFs)  (D : zDa) : Option (Int × zDa) :=
  zlet ((D 93 391)) (fun x1_1 =>
    zlet (zwr D 93 391 0) (fun D_2 =>
      if (-2147483648 ≤ (D_2 91 1) + 1 ∧ (D_2 91 1) + 1 ≤ 2147483647) then
        zlet (zwr D_2 91 1 ((D_2 91 1) + 1)) (fun D_3 =>
          some (x1_1, D_3))
      else none))
set_option maxHeartbeats 20000000 in
theorem mX12_clear {l : Launch} {E : zE} {d : Nat} {F : zFs} {n sl : Nat} (hG : zG F)  {D : zDa} : ∀ r, fX12_clear F   D = some r → zMet l E (d + 0) YX12_clear [zR 91] (F, D, n, sl) (zcI F n sl r) := by
  intro r hr
  refine zMet_of (plainFor_of_name (by decide)) (fun _ h => (nomatch h)) (Nat.le_of_ble_eq_true rfl) ?_
  have hz : zO l E (d + 0) YX12_clear 0 [(0, zR 91)] [] (F, D, n, sl) (zcI F n sl) (fX12_clear F   D) := by
    unfold fX12_clear
    refine zO_aload_n dX12_clear_0 rfl (zR_P _) ?_
    refine gt12 (k := 3) dX12_clear_1 wF_X12_20 (by decide) (gk_91 hG) (zgv (c := 12) (k := 3) rfl (Or.inl ⟨_, rfl⟩) (gf_91_3 hG)) ?_
    refine zO_sipush dX12_clear_4 (by decide) ?_
    refine zO_iald dX12_clear_7 (gk_93 hG) (gl_in (gl_93 hG) (by decide)) ?_
    refine zO_letI (fun x1_1 ex1_1 => ?_)
    refine zO_istore_n dX12_clear_8 (by decide) ?_
    refine zO_ls (ls' := [(0, zR 91), (1, zI x1_1)]) rfl ?_
    refine zO_aload_n dX12_clear_9 rfl (zR_P _) ?_
    refine gt12 (k := 3) dX12_clear_10 wF_X12_20 (by decide) (gk_91 hG) (zgv (c := 12) (k := 3) rfl (Or.inl ⟨_, rfl⟩) (gf_91_3 hG)) ?_
    refine zO_sipush dX12_clear_13 (by decide) ?_
    refine zO_iconst dX12_clear_16 (by decide) ?_
    refine zO_iast dX12_clear_17 (gk_93 hG) (gl_in (gl_93 hG) (by decide)) ?_
    refine zO_letD (fun D_2 eD_2 => ?_)
    refine zO_chk (fun h1 => ?_)
    refine zO_aload_n dX12_clear_18 rfl (zR_P _) ?_
    refine zO_dup dX12_clear_19 (rfl) ?_
    refine gt12 (k := 1) (v := zI (D_2 91 1)) dX12_clear_20 wF_X12_11 (by decide) (gk_91 hG) rfl ?_
    refine zO_iconst dX12_clear_23 (by decide) ?_
    refine zO_iadd dX12_clear_24 h1 ?_
    refine ptI12 (k := 1) (z := ((D_2 91 1) + 1)) dX12_clear_25 wF_X12_11 (by decide) rfl (gk_91 hG) rfl ?_
    refine zO_letD (fun D_3 eD_3 => ?_)
    refine zO_iload_n dX12_clear_28 rfl ?_
    exact zO_ret (rv := some (zI x1_1)) dX12_clear_29 rfl rfl rfl
  exact hz r hr
theorem dX12_isHelped_0 : decode cX12_isHelped 0 = .ok (.iconst 0, 1) := by decide +kernel
theorem dX12_isHelped_1 : decode cX12_isHelped 1 = .ok (.istore_n 2, 1) := by decide +kernel
theorem dX12_isHelped_2 : decode cX12_isHelped 2 = .ok (.iconst 0, 1) := by decide +kernel
theorem dX12_isHelped_3 : decode cX12_isHelped 3 = .ok (.istore_n 3, 1) := by decide +kernel
theorem dX12_isHelped_4 : decode cX12_isHelped 4 = .ok (.iload_n 3, 1) := by decide +kernel
theorem dX12_isHelped_5 : decode cX12_isHelped 5 = .ok (.aload_n 0, 1) := by decide +kernel
theorem dX12_isHelped_6 : decode cX12_isHelped 6 = .ok (.invokevirtual 146, 3) := by decide +kernel
theorem dX12_isHelped_9 : decode cX12_isHelped 9 = .ok (.if_icmp .ge 57, 3) := by decide +kernel
theorem dX12_isHelped_12 : decode cX12_isHelped 12 = .ok (.iload_n 2, 1) := by decide +kernel
theorem dX12_isHelped_13 : decode cX12_isHelped 13 = .ok (.ifCond .ne 41, 3) := by decide +kernel
theorem dX12_isHelped_16 : decode cX12_isHelped 16 = .ok (.iload_n 3, 1) := by decide +kernel
theorem dX12_isHelped_17 : decode cX12_isHelped 17 = .ok (.iload_n 1, 1) := by decide +kernel
theorem dX12_isHelped_18 : decode cX12_isHelped 18 = .ok (.if_icmp .eq 40, 3) := by decide +kernel
theorem dX12_isHelped_21 : decode cX12_isHelped 21 = .ok (.aload_n 0, 1) := by decide +kernel
theorem dX12_isHelped_22 : decode cX12_isHelped 22 = .ok (.iload_n 1, 1) := by decide +kernel
theorem dX12_isHelped_23 : decode cX12_isHelped 23 = .ok (.iconst 0, 1) := by decide +kernel
theorem dX12_isHelped_24 : decode cX12_isHelped 24 = .ok (.invokevirtual 150, 3) := by decide +kernel
theorem dX12_isHelped_27 : decode cX12_isHelped 27 = .ok (.ifCond .le 31, 3) := by decide +kernel
theorem dX12_isHelped_30 : decode cX12_isHelped 30 = .ok (.aload_n 0, 1) := by decide +kernel
theorem dX12_isHelped_31 : decode cX12_isHelped 31 = .ok (.iload_n 3, 1) := by decide +kernel
theorem dX12_isHelped_32 : decode cX12_isHelped 32 = .ok (.iconst 0, 1) := by decide +kernel
theorem dX12_isHelped_33 : decode cX12_isHelped 33 = .ok (.invokevirtual 150, 3) := by decide +kernel
theorem dX12_isHelped_36 : decode cX12_isHelped 36 = .ok (.aload_n 0, 1) := by decide +kernel
theorem dX12_isHelped_37 : decode cX12_isHelped 37 = .ok (.iload_n 1, 1) := by decide +kernel
theorem dX12_isHelped_38 : decode cX12_isHelped 38 = .ok (.iconst 0, 1) := by decide +kernel
theorem dX12_isHelped_39 : decode cX12_isHelped 39 = .ok (.invokevirtual 150, 3) := by decide +kernel
theorem dX12_isHelped_42 : decode cX12_isHelped 42 = .ok (.if_icmp .ne 16, 3) := by decide +kernel
theorem dX12_isHelped_45 : decode cX12_isHelped 45 = .ok (.aload_n 0, 1) := by decide +kernel
theorem dX12_isHelped_46 : decode cX12_isHelped 46 = .ok (.getfield 96, 3) := by decide +kernel
theorem dX12_isHelped_49 : decode cX12_isHelped 49 = .ok (.iload_n 3, 1) := by decide +kernel
theorem dX12_isHelped_50 : decode cX12_isHelped 50 = .ok (.iaload, 1) := by decide +kernel
theorem dX12_isHelped_51 : decode cX12_isHelped 51 = .ok (.ifCond .le 7, 3) := by decide +kernel
theorem dX12_isHelped_54 : decode cX12_isHelped 54 = .ok (.iconst 1, 1) := by decide +kernel
theorem dX12_isHelped_55 : decode cX12_isHelped 55 = .ok (.goto 4, 3) := by decide +kernel
theorem dX12_isHelped_58 : decode cX12_isHelped 58 = .ok (.iconst 0, 1) := by decide +kernel
theorem dX12_isHelped_59 : decode cX12_isHelped 59 = .ok (.istore_n 2, 1) := by decide +kernel
theorem dX12_isHelped_60 : decode cX12_isHelped 60 = .ok (.iinc 3 1, 3) := by decide +kernel
theorem dX12_isHelped_63 : decode cX12_isHelped 63 = .ok (.goto (-59), 3) := by decide +kernel
theorem dX12_isHelped_66 : decode cX12_isHelped 66 = .ok (.iload_n 2, 1) := by decide +kernel
theorem dX12_isHelped_67 : decode cX12_isHelped 67 = .ok (.ireturn, 1) := by decide +kernel
abbrev YX12_isHelped : zY := (yX12_isHelped, cX12_isHelped, 4, (Option.some Jvm.ClassFile.FieldType.boolean), [])
def fX12_isHelped_59 (F : zFs) (k_4 : Int → Int → zDa → Option (Int × zDa)) (o1 : Int) (v3 : Int) (s0 : Int) (D : zDa) : Option (Int × zDa) :=
  if (-2147483648 ≤ v3 + 1 ∧ v3 + 1 ≤ 2147483647) then
    k_4 s0 (v3 + 1) D
  else none
def fX12_isHelped_58 (F : zFs) (k_4 : Int → Int → zDa → Option (Int × zDa)) (o1 : Int) (v3 : Int) (D : zDa) : Option (Int × zDa) :=
  fX12_isHelped_59 F k_4 o1 v3 0 D
def fX12_isHelped_54 (F : zFs) (k_4 : Int → Int → zDa → Option (Int × zDa)) (o1 : Int) (v3 : Int) (D : zDa) : Option (Int × zDa) :=
  fX12_isHelped_59 F k_4 o1 v3 1 D
def fX12_isHelped_4 (F : zFs) (o1 : Int)  (k_4 : Int → Int → zDa → Option (Int × zDa)) (v2 : Int) (v3 : Int) (D : zDa) : Option (Int × zDa) :=
  (fX12_questions F D).bind (fun (r_1, D_2) =>
    if v3 < r_1 then
      if v2 = 0 then
        if v3 = o1 then
          fX12_isHelped_58 F k_4 o1 v3 D_2
        else
          (fX12_factOf F o1 0 D_2).bind (fun (r_3, D_4) =>
            if 0 < r_3 then
              (fX12_factOf F v3 0 D_4).bind (fun (r_5, D_6) =>
                (fX12_factOf F o1 0 D_6).bind (fun (r_7, D_8) =>
                  if r_5 = r_7 then
                    if (0 ≤ v3 ∧ v3 < 20) then
                      if 0 < (D_8 115 v3.toNat) then
                        fX12_isHelped_54 F k_4 o1 v3 D_8
                      else
                        fX12_isHelped_58 F k_4 o1 v3 D_8
                    else none
                  else
                    fX12_isHelped_58 F k_4 o1 v3 D_8))
            else
              fX12_isHelped_58 F k_4 o1 v3 D_4)
      else
        fX12_isHelped_54 F k_4 o1 v3 D_2
    else
      if (v2 = 0 ∨ v2 = 1) then
        some (v2, D_2)
      else none)
def fX12_isHelped (F : zFs) (v1 : Int) (D : zDa) : Option (Int × zDa) :=
  zfix (fun _ _ _ => none) (fX12_isHelped_4 F v1) zfu 0 0 D
set_option maxHeartbeats 20000000 in
theorem sX12_isHelped_59 {l : Launch} {E : zE} {d : Nat} {F : zFs} {n sl : Nat} (hG : zG F)  (o1 : Int) (v3 : Int) (s0 : Int) (k_4 : Int → Int → zDa → Option (Int × zDa)) (hk_4 : ∀ (u2 : Int) (u3 : Int) (D : zDa), zO l E (d + 1) YX12_isHelped 4 [(0, zR 91), (1, zI o1), (2, zI u2), (3, zI u3)] [] (F, D, n, sl) (zcI F n sl) (k_4 u2 u3 D)) (D : zDa) : zO l E (d + 1) YX12_isHelped 59 [(0, zR 91), (1, zI o1), (3, zI v3)] [zI s0] (F, D, n, sl) (zcI F n sl) (fX12_isHelped_59 F k_4 o1 v3 s0 D) := by
  unfold fX12_isHelped_59
  refine zO_chk (fun h1 => ?_)
  refine zO_istore_n dX12_isHelped_59 (by decide) ?_
  refine zO_ls (ls' := [(0, zR 91), (1, zI o1), (2, zI s0), (3, zI v3)]) rfl ?_
  refine zO_iinc dX12_isHelped_60 rfl h1 (by decide) ?_
  refine zO_ls (ls' := [(0, zR 91), (1, zI o1), (2, zI s0), (3, zI (v3 + 1))]) rfl ?_
  refine zO_goto (tgt := 4) dX12_isHelped_63 rfl ?_
  refine zO_live [0, 1, 2, 3] ?_
  exact hk_4 s0 (v3 + 1) D
set_option maxHeartbeats 20000000 in
theorem sX12_isHelped_58 {l : Launch} {E : zE} {d : Nat} {F : zFs} {n sl : Nat} (hG : zG F)  (o1 : Int) (v3 : Int) (k_4 : Int → Int → zDa → Option (Int × zDa)) (hk_4 : ∀ (u2 : Int) (u3 : Int) (D : zDa), zO l E (d + 1) YX12_isHelped 4 [(0, zR 91), (1, zI o1), (2, zI u2), (3, zI u3)] [] (F, D, n, sl) (zcI F n sl) (k_4 u2 u3 D)) (D : zDa) : zO l E (d + 1) YX12_isHelped 58 [(0, zR 91), (1, zI o1), (3, zI v3)] [] (F, D, n, sl) (zcI F n sl) (fX12_isHelped_58 F k_4 o1 v3 D) := by
  unfold fX12_isHelped_58
  refine zO_iconst dX12_isHelped_58 (by decide) ?_
  refine zO_live [0, 1, 3] ?_
  exact sX12_isHelped_59 hG o1 v3 0 _ hk_4 D
set_option maxHeartbeats 20000000 in
theorem sX12_isHelped_54 {l : Launch} {E : zE} {d : Nat} {F : zFs} {n sl : Nat} (hG : zG F)  (o1 : Int) (v3 : Int) (k_4 : Int → Int → zDa → Option (Int × zDa)) (hk_4 : ∀ (u2 : Int) (u3 : Int) (D : zDa), zO l E (d + 1) YX12_isHelped 4 [(0, zR 91), (1, zI o1), (2, zI u2), (3, zI u3)] [] (F, D, n, sl) (zcI F n sl) (k_4 u2 u3 D)) (D : zDa) : zO l E (d + 1) YX12_isHelped 54 [(0, zR 91), (1, zI o1), (3, zI v3)] [] (F, D, n, sl) (zcI F n sl) (fX12_isHelped_54 F k_4 o1 v3 D) := by
  unfold fX12_isHelped_54
  refine zO_iconst dX12_isHelped_54 (by decide) ?_
  refine zO_goto (tgt := 59) dX12_isHelped_55 rfl ?_
  refine zO_live [0, 1, 3] ?_
  exact sX12_isHelped_59 hG o1 v3 1 _ hk_4 D
set_option maxHeartbeats 20000000 in
theorem sX12_isHelped_4 {l : Launch} {E : zE} {d : Nat} {F : zFs} {n sl : Nat} (hG : zG F)  (o1 : Int)   : ∀ (N : Nat) (v2 : Int) (v3 : Int) (D : zDa), zO l E (d + 1) YX12_isHelped 4 [(0, zR 91), (1, zI o1), (2, zI v2), (3, zI v3)] [] (F, D, n, sl) (zcI F n sl) (zfix (fun _ _ _ => none) (fX12_isHelped_4 F o1) N v2 v3 D) := by
  intro N
  induction N with
  | zero => intro v2 v3 D; exact zO_none
  | succ N hk_4 =>
    intro v2 v3 D
    show zO _ _ _ _ _ _ _ _ _ ((fX12_isHelped_4 F o1) (zfix (fun _ _ _ => none) (fX12_isHelped_4 F o1) N) v2 v3 D)
    unfold fX12_isHelped_4
    refine zO_iload_n dX12_isHelped_4 rfl ?_
    refine zO_aload_n dX12_isHelped_5 rfl (zR_P _) ?_
    refine zO_callV (Y' := YX12_questions) (cw := zcI F n sl) (as := []) (rest := [zI v3]) (na := 0) (ci := 12) rfl dX12_isHelped_6 wC_X12_questions wN_X12 wM_X12_146 wI_X12_questions wV_X12_questions (by decide) (by decide) rfl rfl (Nat.le_of_ble_eq_true rfl) rfl (by decide) (gk_91 hG) (fun r hr => zMet_cast (Nat.add_assoc d 0 0) (mX12_questions (d := d + 0) hG  r hr)) ?_
    rintro ⟨r_1, D_2⟩ -
    show zO _ _ _ _ _ _ [zI r_1, zI v3] (F, D_2, n, sl) _ _
    refine zO_icmp_ge (tgt := 66) dX12_isHelped_9 rfl (fun c9 => ?_) (fun c9 => ?_)
    · refine zO_iload_n dX12_isHelped_12 rfl ?_
      refine zO_if_ne (tgt := 54) dX12_isHelped_13 rfl (fun c13 => ?_) (fun c13 => ?_)
      · refine zO_iload_n dX12_isHelped_16 rfl ?_
        refine zO_iload_n dX12_isHelped_17 rfl ?_
        refine zO_icmp_eq (tgt := 58) dX12_isHelped_18 rfl (fun c18 => ?_) (fun c18 => ?_)
        · refine zO_live [0, 1, 3] ?_
          exact sX12_isHelped_58 hG o1 v3 _ hk_4 D_2
        · refine zO_aload_n dX12_isHelped_21 rfl (zR_P _) ?_
          refine zO_iload_n dX12_isHelped_22 rfl ?_
          refine zO_iconst dX12_isHelped_23 (by decide) ?_
          refine zO_callV (Y' := YX12_factOf) (cw := zcI F n sl) (as := [zI o1, zI 0]) (rest := []) (na := 2) (ci := 12) rfl dX12_isHelped_24 wC_X12_factOf wN_X12 wM_X12_150 wI_X12_factOf wV_X12_factOf (by decide) (by decide) rfl rfl (Nat.le_of_ble_eq_true rfl) rfl (by decide) (gk_91 hG) (fun r hr => zMet_cast (Nat.add_assoc d 0 0) (mX12_factOf (d := d + 0) hG o1 0 r hr)) ?_
          rintro ⟨r_3, D_4⟩ -
          show zO _ _ _ _ _ _ [zI r_3] (F, D_4, n, sl) _ _
          refine zO_if_le (tgt := 58) dX12_isHelped_27 rfl (fun c27 => ?_) (fun c27 => ?_)
          · refine zO_aload_n dX12_isHelped_30 rfl (zR_P _) ?_
            refine zO_iload_n dX12_isHelped_31 rfl ?_
            refine zO_iconst dX12_isHelped_32 (by decide) ?_
            refine zO_callV (Y' := YX12_factOf) (cw := zcI F n sl) (as := [zI v3, zI 0]) (rest := []) (na := 2) (ci := 12) rfl dX12_isHelped_33 wC_X12_factOf wN_X12 wM_X12_150 wI_X12_factOf wV_X12_factOf (by decide) (by decide) rfl rfl (Nat.le_of_ble_eq_true rfl) rfl (by decide) (gk_91 hG) (fun r hr => zMet_cast (Nat.add_assoc d 0 0) (mX12_factOf (d := d + 0) hG v3 0 r hr)) ?_
            rintro ⟨r_5, D_6⟩ -
            show zO _ _ _ _ _ _ [zI r_5] (F, D_6, n, sl) _ _
            refine zO_aload_n dX12_isHelped_36 rfl (zR_P _) ?_
            refine zO_iload_n dX12_isHelped_37 rfl ?_
            refine zO_iconst dX12_isHelped_38 (by decide) ?_
            refine zO_callV (Y' := YX12_factOf) (cw := zcI F n sl) (as := [zI o1, zI 0]) (rest := [zI r_5]) (na := 2) (ci := 12) rfl dX12_isHelped_39 wC_X12_factOf wN_X12 wM_X12_150 wI_X12_factOf wV_X12_factOf (by decide) (by decide) rfl rfl (Nat.le_of_ble_eq_true rfl) rfl (by decide) (gk_91 hG) (fun r hr => zMet_cast (Nat.add_assoc d 0 0) (mX12_factOf (d := d + 0) hG o1 0 r hr)) ?_
            rintro ⟨r_7, D_8⟩ -
            show zO _ _ _ _ _ _ [zI r_7, zI r_5] (F, D_8, n, sl) _ _
            refine zO_icmp_ne (tgt := 58) dX12_isHelped_42 rfl (fun c42 => ?_) (fun c42 => ?_)
            · refine zO_chk (fun h2 => ?_)
              refine zO_aload_n dX12_isHelped_45 rfl (zR_P _) ?_
              refine gt12 (k := 41) dX12_isHelped_46 wF_X12_96 (by decide) (gk_91 hG) (zgv (c := 12) (k := 41) rfl (Or.inl ⟨_, rfl⟩) (gf_91_41 hG)) ?_
              refine zO_iload_n dX12_isHelped_49 rfl ?_
              refine zO_iald dX12_isHelped_50 (gk_115 hG) (gl_in (gl_115 hG) h2) ?_
              refine zO_if_le (tgt := 58) dX12_isHelped_51 rfl (fun c51 => ?_) (fun c51 => ?_)
              · refine zO_live [0, 1, 3] ?_
                exact sX12_isHelped_54 hG o1 v3 _ hk_4 D_8
              · refine zO_live [0, 1, 3] ?_
                exact sX12_isHelped_58 hG o1 v3 _ hk_4 D_8
            · refine zO_live [0, 1, 3] ?_
              exact sX12_isHelped_58 hG o1 v3 _ hk_4 D_8
          · refine zO_live [0, 1, 3] ?_
            exact sX12_isHelped_58 hG o1 v3 _ hk_4 D_4
      · refine zO_live [0, 1, 3] ?_
        exact sX12_isHelped_54 hG o1 v3 _ hk_4 D_2
    · refine zO_chk (fun h3 => ?_)
      refine zO_iload_n dX12_isHelped_66 rfl ?_
      exact zO_ret (rv := some (zI v2)) dX12_isHelped_67 rfl (zretok_z h3) rfl
set_option maxHeartbeats 20000000 in
theorem mX12_isHelped {l : Launch} {E : zE} {d : Nat} {F : zFs} {n sl : Nat} (hG : zG F) (v1 : Int) {D : zDa} : ∀ r, fX12_isHelped F  v1 D = some r → zMet l E (d + 1) YX12_isHelped [zR 91, zI v1] (F, D, n, sl) (zcI F n sl r) := by
  intro r hr
  refine zMet_of (plainFor_of_name (by decide)) (fun _ h => (nomatch h)) (Nat.le_of_ble_eq_true rfl) ?_
  have hz : zO l E (d + 1) YX12_isHelped 0 [(0, zR 91), (1, zI v1)] [] (F, D, n, sl) (zcI F n sl) (fX12_isHelped F  v1 D) := by
    unfold fX12_isHelped
    refine zO_iconst dX12_isHelped_0 (by decide) ?_
    refine zO_istore_n dX12_isHelped_1 (by decide) ?_
    refine zO_ls (ls' := [(0, zR 91), (1, zI v1), (2, zI 0)]) rfl ?_
    refine zO_iconst dX12_isHelped_2 (by decide) ?_
    refine zO_istore_n dX12_isHelped_3 (by decide) ?_
    refine zO_ls (ls' := [(0, zR 91), (1, zI v1), (2, zI 0), (3, zI 0)]) rfl ?_
    refine zO_live [0, 1, 2, 3] ?_
    exact sX12_isHelped_4 hG v1 zfu 0 0 D
  exact hz r hr
theorem dX12_learns_0 : decode cX12_learns 0 = .ok (.aload_n 0, 1) := by decide +kernel
theorem dX12_learns_1 : decode cX12_learns 1 = .ok (.bipush 6, 2) := by decide +kernel
theorem dX12_learns_3 : decode cX12_learns 3 = .ok (.invokevirtual 318, 3) := by decide +kernel
theorem dX12_learns_6 : decode cX12_learns 6 = .ok (.istore_n 2, 1) := by decide +kernel
theorem dX12_learns_7 : decode cX12_learns 7 = .ok (.iconst 0, 1) := by decide +kernel
theorem dX12_learns_8 : decode cX12_learns 8 = .ok (.istore_n 3, 1) := by decide +kernel
theorem dX12_learns_9 : decode cX12_learns 9 = .ok (.iconst 0, 1) := by decide +kernel
theorem dX12_learns_10 : decode cX12_learns 10 = .ok (.istore 4, 2) := by decide +kernel
theorem dX12_learns_12 : decode cX12_learns 12 = .ok (.iload 4, 2) := by decide +kernel
theorem dX12_learns_14 : decode cX12_learns 14 = .ok (.aload_n 0, 1) := by decide +kernel
theorem dX12_learns_15 : decode cX12_learns 15 = .ok (.getfield 20, 3) := by decide +kernel
theorem dX12_learns_18 : decode cX12_learns 18 = .ok (.sipush 391, 3) := by decide +kernel
theorem dX12_learns_21 : decode cX12_learns 21 = .ok (.iaload, 1) := by decide +kernel
theorem dX12_learns_22 : decode cX12_learns 22 = .ok (.if_icmp .ge 173, 3) := by decide +kernel
theorem dX12_learns_25 : decode cX12_learns 25 = .ok (.aload_n 0, 1) := by decide +kernel
theorem dX12_learns_26 : decode cX12_learns 26 = .ok (.getfield 20, 3) := by decide +kernel
theorem dX12_learns_29 : decode cX12_learns 29 = .ok (.bipush 107, 2) := by decide +kernel
theorem dX12_learns_31 : decode cX12_learns 31 = .ok (.iconst 2, 1) := by decide +kernel
theorem dX12_learns_32 : decode cX12_learns 32 = .ok (.iload 4, 2) := by decide +kernel
theorem dX12_learns_34 : decode cX12_learns 34 = .ok (.imul, 1) := by decide +kernel
theorem dX12_learns_35 : decode cX12_learns 35 = .ok (.iadd, 1) := by decide +kernel
theorem dX12_learns_36 : decode cX12_learns 36 = .ok (.iaload, 1) := by decide +kernel
theorem dX12_learns_37 : decode cX12_learns 37 = .ok (.iload_n 1, 1) := by decide +kernel
theorem dX12_learns_38 : decode cX12_learns 38 = .ok (.if_icmp .eq 6, 3) := by decide +kernel
theorem dX12_learns_41 : decode cX12_learns 41 = .ok (.goto 148, 3) := by decide +kernel
theorem dX12_learns_44 : decode cX12_learns 44 = .ok (.aload_n 0, 1) := by decide +kernel
theorem dX12_learns_45 : decode cX12_learns 45 = .ok (.getfield 20, 3) := by decide +kernel
theorem dX12_learns_48 : decode cX12_learns 48 = .ok (.bipush 107, 2) := by decide +kernel
theorem dX12_learns_50 : decode cX12_learns 50 = .ok (.iconst 2, 1) := by decide +kernel
theorem dX12_learns_51 : decode cX12_learns 51 = .ok (.iload 4, 2) := by decide +kernel
theorem dX12_learns_53 : decode cX12_learns 53 = .ok (.imul, 1) := by decide +kernel
theorem dX12_learns_54 : decode cX12_learns 54 = .ok (.iadd, 1) := by decide +kernel
theorem dX12_learns_55 : decode cX12_learns 55 = .ok (.iconst 1, 1) := by decide +kernel
theorem dX12_learns_56 : decode cX12_learns 56 = .ok (.iadd, 1) := by decide +kernel
theorem dX12_learns_57 : decode cX12_learns 57 = .ok (.iaload, 1) := by decide +kernel
theorem dX12_learns_58 : decode cX12_learns 58 = .ok (.istore 5, 2) := by decide +kernel
theorem dX12_learns_60 : decode cX12_learns 60 = .ok (.aload_n 0, 1) := by decide +kernel
theorem dX12_learns_61 : decode cX12_learns 61 = .ok (.getfield 96, 3) := by decide +kernel
theorem dX12_learns_64 : decode cX12_learns 64 = .ok (.iload 5, 2) := by decide +kernel
theorem dX12_learns_66 : decode cX12_learns 66 = .ok (.iaload, 1) := by decide +kernel
theorem dX12_learns_67 : decode cX12_learns 67 = .ok (.iconst 2, 1) := by decide +kernel
theorem dX12_learns_68 : decode cX12_learns 68 = .ok (.if_icmp .ne 7, 3) := by decide +kernel
theorem dX12_learns_71 : decode cX12_learns 71 = .ok (.iconst 1, 1) := by decide +kernel
theorem dX12_learns_72 : decode cX12_learns 72 = .ok (.goto 25, 3) := by decide +kernel
theorem dX12_learns_75 : decode cX12_learns 75 = .ok (.aload_n 0, 1) := by decide +kernel
theorem dX12_learns_76 : decode cX12_learns 76 = .ok (.iload 5, 2) := by decide +kernel
theorem dX12_learns_78 : decode cX12_learns 78 = .ok (.aload_n 0, 1) := by decide +kernel
theorem dX12_learns_79 : decode cX12_learns 79 = .ok (.getfield 96, 3) := by decide +kernel
theorem dX12_learns_82 : decode cX12_learns 82 = .ok (.iload 5, 2) := by decide +kernel
theorem dX12_learns_84 : decode cX12_learns 84 = .ok (.iaload, 1) := by decide +kernel
theorem dX12_learns_85 : decode cX12_learns 85 = .ok (.iconst 1, 1) := by decide +kernel
theorem dX12_learns_86 : decode cX12_learns 86 = .ok (.iadd, 1) := by decide +kernel
theorem dX12_learns_87 : decode cX12_learns 87 = .ok (.aload_n 0, 1) := by decide +kernel
theorem dX12_learns_88 : decode cX12_learns 88 = .ok (.iload 5, 2) := by decide +kernel
theorem dX12_learns_90 : decode cX12_learns 90 = .ok (.invokevirtual 428, 3) := by decide +kernel
theorem dX12_learns_93 : decode cX12_learns 93 = .ok (.iload_n 1, 1) := by decide +kernel
theorem dX12_learns_94 : decode cX12_learns 94 = .ok (.invokevirtual 298, 3) := by decide +kernel
theorem dX12_learns_97 : decode cX12_learns 97 = .ok (.istore 6, 2) := by decide +kernel
theorem dX12_learns_99 : decode cX12_learns 99 = .ok (.iload_n 3, 1) := by decide +kernel
theorem dX12_learns_100 : decode cX12_learns 100 = .ok (.ifCond .ne 9, 3) := by decide +kernel
theorem dX12_learns_103 : decode cX12_learns 103 = .ok (.iload 6, 2) := by decide +kernel
theorem dX12_learns_105 : decode cX12_learns 105 = .ok (.iload_n 2, 1) := by decide +kernel
theorem dX12_learns_106 : decode cX12_learns 106 = .ok (.if_icmp .le 7, 3) := by decide +kernel
theorem dX12_learns_109 : decode cX12_learns 109 = .ok (.iconst 1, 1) := by decide +kernel
theorem dX12_learns_110 : decode cX12_learns 110 = .ok (.goto 4, 3) := by decide +kernel
theorem dX12_learns_113 : decode cX12_learns 113 = .ok (.iconst 0, 1) := by decide +kernel
theorem dX12_learns_114 : decode cX12_learns 114 = .ok (.istore_n 3, 1) := by decide +kernel
theorem dX12_learns_115 : decode cX12_learns 115 = .ok (.iload_n 3, 1) := by decide +kernel
theorem dX12_learns_116 : decode cX12_learns 116 = .ok (.ifCond .eq 29, 3) := by decide +kernel
theorem dX12_learns_119 : decode cX12_learns 119 = .ok (.aload_n 0, 1) := by decide +kernel
theorem dX12_learns_120 : decode cX12_learns 120 = .ok (.dup, 1) := by decide +kernel
theorem dX12_learns_121 : decode cX12_learns 121 = .ok (.getfield 416, 3) := by decide +kernel
theorem dX12_learns_124 : decode cX12_learns 124 = .ok (.iconst 1, 1) := by decide +kernel
theorem dX12_learns_125 : decode cX12_learns 125 = .ok (.iadd, 1) := by decide +kernel
theorem dX12_learns_126 : decode cX12_learns 126 = .ok (.putfield 416, 3) := by decide +kernel
theorem dX12_learns_129 : decode cX12_learns 129 = .ok (.aload_n 0, 1) := by decide +kernel
theorem dX12_learns_130 : decode cX12_learns 130 = .ok (.getfield 419, 3) := by decide +kernel
theorem dX12_learns_133 : decode cX12_learns 133 = .ok (.iconst (-1), 1) := by decide +kernel
theorem dX12_learns_134 : decode cX12_learns 134 = .ok (.if_icmp .ne 55, 3) := by decide +kernel
theorem dX12_learns_137 : decode cX12_learns 137 = .ok (.aload_n 0, 1) := by decide +kernel
theorem dX12_learns_138 : decode cX12_learns 138 = .ok (.iload_n 1, 1) := by decide +kernel
theorem dX12_learns_139 : decode cX12_learns 139 = .ok (.putfield 419, 3) := by decide +kernel
theorem dX12_learns_142 : decode cX12_learns 142 = .ok (.goto 47, 3) := by decide +kernel
theorem dX12_learns_145 : decode cX12_learns 145 = .ok (.iload_n 2, 1) := by decide +kernel
theorem dX12_learns_146 : decode cX12_learns 146 = .ok (.iload 6, 2) := by decide +kernel
theorem dX12_learns_148 : decode cX12_learns 148 = .ok (.isub, 1) := by decide +kernel
theorem dX12_learns_149 : decode cX12_learns 149 = .ok (.istore_n 2, 1) := by decide +kernel
theorem dX12_learns_150 : decode cX12_learns 150 = .ok (.aload_n 0, 1) := by decide +kernel
theorem dX12_learns_151 : decode cX12_learns 151 = .ok (.getfield 96, 3) := by decide +kernel
theorem dX12_learns_154 : decode cX12_learns 154 = .ok (.iload 5, 2) := by decide +kernel
theorem dX12_learns_156 : decode cX12_learns 156 = .ok (.aload_n 0, 1) := by decide +kernel
theorem dX12_learns_157 : decode cX12_learns 157 = .ok (.getfield 96, 3) := by decide +kernel
theorem dX12_learns_160 : decode cX12_learns 160 = .ok (.iload 5, 2) := by decide +kernel
theorem dX12_learns_162 : decode cX12_learns 162 = .ok (.iaload, 1) := by decide +kernel
theorem dX12_learns_163 : decode cX12_learns 163 = .ok (.iconst 2, 1) := by decide +kernel
theorem dX12_learns_164 : decode cX12_learns 164 = .ok (.if_icmp .ne 7, 3) := by decide +kernel
theorem dX12_learns_167 : decode cX12_learns 167 = .ok (.iconst 2, 1) := by decide +kernel
theorem dX12_learns_168 : decode cX12_learns 168 = .ok (.goto 12, 3) := by decide +kernel
theorem dX12_learns_171 : decode cX12_learns 171 = .ok (.aload_n 0, 1) := by decide +kernel
theorem dX12_learns_172 : decode cX12_learns 172 = .ok (.getfield 96, 3) := by decide +kernel
theorem dX12_learns_175 : decode cX12_learns 175 = .ok (.iload 5, 2) := by decide +kernel
theorem dX12_learns_177 : decode cX12_learns 177 = .ok (.iaload, 1) := by decide +kernel
theorem dX12_learns_178 : decode cX12_learns 178 = .ok (.iconst 1, 1) := by decide +kernel
theorem dX12_learns_179 : decode cX12_learns 179 = .ok (.iadd, 1) := by decide +kernel
theorem dX12_learns_180 : decode cX12_learns 180 = .ok (.iastore, 1) := by decide +kernel
theorem dX12_learns_181 : decode cX12_learns 181 = .ok (.aload_n 0, 1) := by decide +kernel
theorem dX12_learns_182 : decode cX12_learns 182 = .ok (.getfield 99, 3) := by decide +kernel
theorem dX12_learns_185 : decode cX12_learns 185 = .ok (.iload 5, 2) := by decide +kernel
theorem dX12_learns_187 : decode cX12_learns 187 = .ok (.iload_n 1, 1) := by decide +kernel
theorem dX12_learns_188 : decode cX12_learns 188 = .ok (.iastore, 1) := by decide +kernel
theorem dX12_learns_189 : decode cX12_learns 189 = .ok (.iinc 4 1, 3) := by decide +kernel
theorem dX12_learns_192 : decode cX12_learns 192 = .ok (.goto (-180), 3) := by decide +kernel
theorem dX12_learns_195 : decode cX12_learns 195 = .ok (.aload_n 0, 1) := by decide +kernel
theorem dX12_learns_196 : decode cX12_learns 196 = .ok (.getfield 93, 3) := by decide +kernel
theorem dX12_learns_199 : decode cX12_learns 199 = .ok (.iload_n 1, 1) := by decide +kernel
theorem dX12_learns_200 : decode cX12_learns 200 = .ok (.aload_n 0, 1) := by decide +kernel
theorem dX12_learns_201 : decode cX12_learns 201 = .ok (.bipush 6, 2) := by decide +kernel
theorem dX12_learns_203 : decode cX12_learns 203 = .ok (.invokevirtual 318, 3) := by decide +kernel
theorem dX12_learns_206 : decode cX12_learns 206 = .ok (.iload_n 2, 1) := by decide +kernel
theorem dX12_learns_207 : decode cX12_learns 207 = .ok (.isub, 1) := by decide +kernel
theorem dX12_learns_208 : decode cX12_learns 208 = .ok (.iastore, 1) := by decide +kernel
theorem dX12_learns_209 : decode cX12_learns 209 = .ok (.return_, 1) := by decide +kernel
abbrev YX12_learns : zY := (yX12_learns, cX12_learns, 7, none, [])
def fX12_learns_189 (F : zFs) (k_12 : Int → Int → Int → zDa → Option zDa) (o1 : Int) (v2 : Int) (v3 : Int) (v4 : Int) (D : zDa) : Option zDa :=
  if (-2147483648 ≤ v4 + 1 ∧ v4 + 1 ≤ 2147483647) then
    k_12 v2 v3 (v4 + 1) D
  else none
def fX12_learns_180 (F : zFs) (k_12 : Int → Int → Int → zDa → Option zDa) (o1 : Int) (v2 : Int) (v3 : Int) (v4 : Int) (v5 : Int) (s0 : Int) (s1 : Int) (D : zDa) : Option zDa :=
  if (0 ≤ s1 ∧ s1 < 20) then
    zlet (zwr D 115 s1.toNat s0) (fun D_5 =>
      if (0 ≤ v5 ∧ v5 < 20) then
        zlet (zwr D_5 116 v5.toNat o1) (fun D_6 =>
          fX12_learns_189 F k_12 o1 v2 v3 v4 D_6)
      else none)
  else none
def fX12_learns_114 (F : zFs) (k_12 : Int → Int → Int → zDa → Option zDa) (o1 : Int) (v2 : Int) (v4 : Int) (v5 : Int) (v6 : Int) (s0 : Int) (D : zDa) : Option zDa :=
  if s0 = 0 then
    if (-2147483648 ≤ v2 - v6 ∧ v2 - v6 ≤ 2147483647) then
      zlet ((v2 - v6)) (fun x2_4 =>
        if (0 ≤ v5 ∧ v5 < 20) then
          if (D 115 v5.toNat) = 2 then
            fX12_learns_180 F k_12 o1 x2_4 s0 v4 v5 2 v5 D
          else
            if (-2147483648 ≤ (D 115 v5.toNat) + 1 ∧ (D 115 v5.toNat) + 1 ≤ 2147483647) then
              fX12_learns_180 F k_12 o1 x2_4 s0 v4 v5 ((D 115 v5.toNat) + 1) v5 D
            else none
        else none)
    else none
  else
    if (-2147483648 ≤ (D 91 43) + 1 ∧ (D 91 43) + 1 ≤ 2147483647) then
      zlet (zwr D 91 43 ((D 91 43) + 1)) (fun D_7 =>
        if (D_7 91 44) = (-1) then
          zlet (zwr D_7 91 44 o1) (fun D_8 =>
            fX12_learns_189 F k_12 o1 v2 s0 v4 D_8)
        else
          fX12_learns_189 F k_12 o1 v2 s0 v4 D_7)
    else none
def fX12_learns_109 (F : zFs) (k_12 : Int → Int → Int → zDa → Option zDa) (o1 : Int) (v2 : Int) (v4 : Int) (v5 : Int) (v6 : Int) (D : zDa) : Option zDa :=
  fX12_learns_114 F k_12 o1 v2 v4 v5 v6 1 D
def fX12_learns_97 (F : zFs) (k_12 : Int → Int → Int → zDa → Option zDa) (o1 : Int) (v2 : Int) (v3 : Int) (v4 : Int) (v5 : Int) (s0 : Int) (D : zDa) : Option zDa :=
  if v3 = 0 then
    if v2 < s0 then
      fX12_learns_109 F k_12 o1 v2 v4 v5 s0 D
    else
      fX12_learns_114 F k_12 o1 v2 v4 v5 s0 0 D
  else
    fX12_learns_109 F k_12 o1 v2 v4 v5 s0 D
def fX12_learns_12 (F : zFs) (o1 : Int)  (k_12 : Int → Int → Int → zDa → Option zDa) (v2 : Int) (v3 : Int) (v4 : Int) (D : zDa) : Option zDa :=
  if v4 < (D 93 391) then
    if (-2147483648 ≤ 2 * v4 ∧ 2 * v4 ≤ 2147483647) ∧ (-2147483648 ≤ 107 + (2 * v4) ∧ 107 + (2 * v4) ≤ 2147483647) ∧ (0 ≤ (107 + (2 * v4)) ∧ (107 + (2 * v4)) < 5201) then
      if (D 93 (107 + (2 * v4)).toNat) = o1 then
        if (-2147483648 ≤ (107 + (2 * v4)) + 1 ∧ (107 + (2 * v4)) + 1 ≤ 2147483647) ∧ (0 ≤ ((107 + (2 * v4)) + 1) ∧ ((107 + (2 * v4)) + 1) < 5201) then
          zlet ((D 93 ((107 + (2 * v4)) + 1).toNat)) (fun x5_3 =>
            if (0 ≤ x5_3 ∧ x5_3 < 20) then
              if (D 115 x5_3.toNat) = 2 then
                fX12_learns_97 F k_12 o1 v2 v3 v4 x5_3 1 D
              else
                if (-2147483648 ≤ (D 115 x5_3.toNat) + 1 ∧ (D 115 x5_3.toNat) + 1 ≤ 2147483647) then
                  (fX12_isHelped F x5_3 D).bind (fun (r_9, D_10) =>
                    (fX12_takesOf F x5_3 ((D 115 x5_3.toNat) + 1) r_9 o1 D_10).bind (fun (r_11, D_12) =>
                      fX12_learns_97 F k_12 o1 v2 v3 v4 x5_3 r_11 D_12))
                else none
            else none)
        else none
      else
        fX12_learns_189 F k_12 o1 v2 v3 v4 D
    else none
  else
    (fX12_term F 6 D).bind (fun (r_13, D_14) =>
      if (-2147483648 ≤ r_13 - v2 ∧ r_13 - v2 ≤ 2147483647) ∧ (0 ≤ o1 ∧ o1 < 20) then
        zlet (zwr D_14 114 o1.toNat (r_13 - v2)) (fun D_15 =>
          some D_15)
      else none)
def fX12_learns (F : zFs) (v1 : Int) (D : zDa) : Option zDa :=
  (fX12_term F 6 D).bind (fun (r_1, D_2) =>
    zfix (fun _ _ _ _ => none) (fX12_learns_12 F v1) zfu r_1 0 0 D_2)
set_option maxHeartbeats 20000000 in
theorem sX12_learns_189 {l : Launch} {E : zE} {d : Nat} {F : zFs} {n sl : Nat} (hG : zG F)  (o1 : Int) (v2 : Int) (v3 : Int) (v4 : Int) (k_12 : Int → Int → Int → zDa → Option zDa) (hk_12 : ∀ (u2 : Int) (u3 : Int) (u4 : Int) (D : zDa), zO l E (d + 88) YX12_learns 12 [(0, zR 91), (1, zI o1), (2, zI u2), (3, zI u3), (4, zI u4)] [] (F, D, n, sl) (zcV F n sl) (k_12 u2 u3 u4 D)) (D : zDa) : zO l E (d + 88) YX12_learns 189 [(0, zR 91), (1, zI o1), (2, zI v2), (3, zI v3), (4, zI v4)] [] (F, D, n, sl) (zcV F n sl) (fX12_learns_189 F k_12 o1 v2 v3 v4 D) := by
  unfold fX12_learns_189
  refine zO_chk (fun h8 => ?_)
  refine zO_iinc dX12_learns_189 rfl h8 (by decide) ?_
  refine zO_ls (ls' := [(0, zR 91), (1, zI o1), (2, zI v2), (3, zI v3), (4, zI (v4 + 1))]) rfl ?_
  refine zO_goto (tgt := 12) dX12_learns_192 rfl ?_
  refine zO_live [0, 1, 2, 3, 4] ?_
  exact hk_12 v2 v3 (v4 + 1) D
set_option maxHeartbeats 20000000 in
theorem sX12_learns_180 {l : Launch} {E : zE} {d : Nat} {F : zFs} {n sl : Nat} (hG : zG F)  (o1 : Int) (v2 : Int) (v3 : Int) (v4 : Int) (v5 : Int) (s0 : Int) (s1 : Int) (k_12 : Int → Int → Int → zDa → Option zDa) (hk_12 : ∀ (u2 : Int) (u3 : Int) (u4 : Int) (D : zDa), zO l E (d + 88) YX12_learns 12 [(0, zR 91), (1, zI o1), (2, zI u2), (3, zI u3), (4, zI u4)] [] (F, D, n, sl) (zcV F n sl) (k_12 u2 u3 u4 D)) (D : zDa) : zO l E (d + 88) YX12_learns 180 [(0, zR 91), (1, zI o1), (2, zI v2), (3, zI v3), (4, zI v4), (5, zI v5)] [zI s0, zI s1, zR 115] (F, D, n, sl) (zcV F n sl) (fX12_learns_180 F k_12 o1 v2 v3 v4 v5 s0 s1 D) := by
  unfold fX12_learns_180
  refine zO_chk (fun h6 => ?_)
  refine zO_iast dX12_learns_180 (gk_115 hG) (gl_in (gl_115 hG) h6) ?_
  refine zO_letD (fun D_5 eD_5 => ?_)
  refine zO_chk (fun h7 => ?_)
  refine zO_aload_n dX12_learns_181 rfl (zR_P _) ?_
  refine gt12 (k := 42) dX12_learns_182 wF_X12_99 (by decide) (gk_91 hG) (zgv (c := 12) (k := 42) rfl (Or.inl ⟨_, rfl⟩) (gf_91_42 hG)) ?_
  refine zO_iload dX12_learns_185 rfl ?_
  refine zO_iload_n dX12_learns_187 rfl ?_
  refine zO_iast dX12_learns_188 (gk_116 hG) (gl_in (gl_116 hG) h7) ?_
  refine zO_letD (fun D_6 eD_6 => ?_)
  refine zO_live [0, 1, 2, 3, 4] ?_
  exact sX12_learns_189 hG o1 v2 v3 v4 _ hk_12 D_6
set_option maxHeartbeats 20000000 in
theorem sX12_learns_114 {l : Launch} {E : zE} {d : Nat} {F : zFs} {n sl : Nat} (hG : zG F)  (o1 : Int) (v2 : Int) (v4 : Int) (v5 : Int) (v6 : Int) (s0 : Int) (k_12 : Int → Int → Int → zDa → Option zDa) (hk_12 : ∀ (u2 : Int) (u3 : Int) (u4 : Int) (D : zDa), zO l E (d + 88) YX12_learns 12 [(0, zR 91), (1, zI o1), (2, zI u2), (3, zI u3), (4, zI u4)] [] (F, D, n, sl) (zcV F n sl) (k_12 u2 u3 u4 D)) (D : zDa) : zO l E (d + 88) YX12_learns 114 [(0, zR 91), (1, zI o1), (2, zI v2), (4, zI v4), (5, zI v5), (6, zI v6)] [zI s0] (F, D, n, sl) (zcV F n sl) (fX12_learns_114 F k_12 o1 v2 v4 v5 v6 s0 D) := by
  unfold fX12_learns_114
  refine zO_istore_n dX12_learns_114 (by decide) ?_
  refine zO_ls (ls' := [(0, zR 91), (1, zI o1), (2, zI v2), (3, zI s0), (4, zI v4), (5, zI v5), (6, zI v6)]) rfl ?_
  refine zO_iload_n dX12_learns_115 rfl ?_
  refine zO_if_eq (tgt := 145) dX12_learns_116 rfl (fun c116 => ?_) (fun c116 => ?_)
  · refine zO_chk (fun h4 => ?_)
    refine zO_iload_n dX12_learns_145 rfl ?_
    refine zO_iload dX12_learns_146 rfl ?_
    refine zO_isub dX12_learns_148 h4 ?_
    refine zO_letI (fun x2_4 ex2_4 => ?_)
    refine zO_istore_n dX12_learns_149 (by decide) ?_
    refine zO_ls (ls' := [(0, zR 91), (1, zI o1), (2, zI x2_4), (3, zI s0), (4, zI v4), (5, zI v5), (6, zI v6)]) rfl ?_
    refine zO_chk (fun h5 => ?_)
    refine zO_aload_n dX12_learns_150 rfl (zR_P _) ?_
    refine gt12 (k := 41) dX12_learns_151 wF_X12_96 (by decide) (gk_91 hG) (zgv (c := 12) (k := 41) rfl (Or.inl ⟨_, rfl⟩) (gf_91_41 hG)) ?_
    refine zO_iload dX12_learns_154 rfl ?_
    refine zO_aload_n dX12_learns_156 rfl (zR_P _) ?_
    refine gt12 (k := 41) dX12_learns_157 wF_X12_96 (by decide) (gk_91 hG) (zgv (c := 12) (k := 41) rfl (Or.inl ⟨_, rfl⟩) (gf_91_41 hG)) ?_
    refine zO_iload dX12_learns_160 rfl ?_
    refine zO_iald dX12_learns_162 (gk_115 hG) (gl_in (gl_115 hG) h5) ?_
    refine zO_iconst dX12_learns_163 (by decide) ?_
    refine zO_icmp_ne (tgt := 171) dX12_learns_164 rfl (fun c164 => ?_) (fun c164 => ?_)
    · refine zO_iconst dX12_learns_167 (by decide) ?_
      refine zO_goto (tgt := 180) dX12_learns_168 rfl ?_
      refine zO_live [0, 1, 2, 3, 4, 5] ?_
      exact sX12_learns_180 hG o1 x2_4 s0 v4 v5 2 v5 _ hk_12 D
    · refine zO_chk (fun h9 => ?_)
      refine zO_aload_n dX12_learns_171 rfl (zR_P _) ?_
      refine gt12 (k := 41) dX12_learns_172 wF_X12_96 (by decide) (gk_91 hG) (zgv (c := 12) (k := 41) rfl (Or.inl ⟨_, rfl⟩) (gf_91_41 hG)) ?_
      refine zO_iload dX12_learns_175 rfl ?_
      refine zO_iald dX12_learns_177 (gk_115 hG) (gl_in (gl_115 hG) h5) ?_
      refine zO_iconst dX12_learns_178 (by decide) ?_
      refine zO_iadd dX12_learns_179 h9 ?_
      refine zO_live [0, 1, 2, 3, 4, 5] ?_
      exact sX12_learns_180 hG o1 x2_4 s0 v4 v5 ((D 115 v5.toNat) + 1) v5 _ hk_12 D
  · refine zO_chk (fun h10 => ?_)
    refine zO_aload_n dX12_learns_119 rfl (zR_P _) ?_
    refine zO_dup dX12_learns_120 (rfl) ?_
    refine gt12 (k := 43) (v := zI (D 91 43)) dX12_learns_121 wF_X12_416 (by decide) (gk_91 hG) rfl ?_
    refine zO_iconst dX12_learns_124 (by decide) ?_
    refine zO_iadd dX12_learns_125 h10 ?_
    refine ptI12 (k := 43) (z := ((D 91 43) + 1)) dX12_learns_126 wF_X12_416 (by decide) rfl (gk_91 hG) rfl ?_
    refine zO_letD (fun D_7 eD_7 => ?_)
    refine zO_aload_n dX12_learns_129 rfl (zR_P _) ?_
    refine gt12 (k := 44) (v := zI (D_7 91 44)) dX12_learns_130 wF_X12_419 (by decide) (gk_91 hG) rfl ?_
    refine zO_iconst dX12_learns_133 (by decide) ?_
    refine zO_icmp_ne (tgt := 189) dX12_learns_134 rfl (fun c134 => ?_) (fun c134 => ?_)
    · refine zO_aload_n dX12_learns_137 rfl (zR_P _) ?_
      refine zO_iload_n dX12_learns_138 rfl ?_
      refine ptI12 (k := 44) (z := o1) dX12_learns_139 wF_X12_419 (by decide) rfl (gk_91 hG) rfl ?_
      refine zO_letD (fun D_8 eD_8 => ?_)
      refine zO_goto (tgt := 189) dX12_learns_142 rfl ?_
      refine zO_live [0, 1, 2, 3, 4] ?_
      exact sX12_learns_189 hG o1 v2 s0 v4 _ hk_12 D_8
    · refine zO_live [0, 1, 2, 3, 4] ?_
      exact sX12_learns_189 hG o1 v2 s0 v4 _ hk_12 D_7
set_option maxHeartbeats 20000000 in
theorem sX12_learns_109 {l : Launch} {E : zE} {d : Nat} {F : zFs} {n sl : Nat} (hG : zG F)  (o1 : Int) (v2 : Int) (v4 : Int) (v5 : Int) (v6 : Int) (k_12 : Int → Int → Int → zDa → Option zDa) (hk_12 : ∀ (u2 : Int) (u3 : Int) (u4 : Int) (D : zDa), zO l E (d + 88) YX12_learns 12 [(0, zR 91), (1, zI o1), (2, zI u2), (3, zI u3), (4, zI u4)] [] (F, D, n, sl) (zcV F n sl) (k_12 u2 u3 u4 D)) (D : zDa) : zO l E (d + 88) YX12_learns 109 [(0, zR 91), (1, zI o1), (2, zI v2), (4, zI v4), (5, zI v5), (6, zI v6)] [] (F, D, n, sl) (zcV F n sl) (fX12_learns_109 F k_12 o1 v2 v4 v5 v6 D) := by
  unfold fX12_learns_109
  refine zO_iconst dX12_learns_109 (by decide) ?_
  refine zO_goto (tgt := 114) dX12_learns_110 rfl ?_
  refine zO_live [0, 1, 2, 4, 5, 6] ?_
  exact sX12_learns_114 hG o1 v2 v4 v5 v6 1 _ hk_12 D
set_option maxHeartbeats 20000000 in
theorem sX12_learns_97 {l : Launch} {E : zE} {d : Nat} {F : zFs} {n sl : Nat} (hG : zG F)  (o1 : Int) (v2 : Int) (v3 : Int) (v4 : Int) (v5 : Int) (s0 : Int) (k_12 : Int → Int → Int → zDa → Option zDa) (hk_12 : ∀ (u2 : Int) (u3 : Int) (u4 : Int) (D : zDa), zO l E (d + 88) YX12_learns 12 [(0, zR 91), (1, zI o1), (2, zI u2), (3, zI u3), (4, zI u4)] [] (F, D, n, sl) (zcV F n sl) (k_12 u2 u3 u4 D)) (D : zDa) : zO l E (d + 88) YX12_learns 97 [(0, zR 91), (1, zI o1), (2, zI v2), (3, zI v3), (4, zI v4), (5, zI v5)] [zI s0] (F, D, n, sl) (zcV F n sl) (fX12_learns_97 F k_12 o1 v2 v3 v4 v5 s0 D) := by
  unfold fX12_learns_97
  refine zO_istore dX12_learns_97 (by decide) ?_
  refine zO_ls (ls' := [(0, zR 91), (1, zI o1), (2, zI v2), (3, zI v3), (4, zI v4), (5, zI v5), (6, zI s0)]) rfl ?_
  refine zO_iload_n dX12_learns_99 rfl ?_
  refine zO_if_ne (tgt := 109) dX12_learns_100 rfl (fun c100 => ?_) (fun c100 => ?_)
  · refine zO_iload dX12_learns_103 rfl ?_
    refine zO_iload_n dX12_learns_105 rfl ?_
    refine zO_icmp_le (tgt := 113) dX12_learns_106 rfl (fun c106 => ?_) (fun c106 => ?_)
    · refine zO_live [0, 1, 2, 4, 5, 6] ?_
      exact sX12_learns_109 hG o1 v2 v4 v5 s0 _ hk_12 D
    · refine zO_iconst dX12_learns_113 (by decide) ?_
      refine zO_live [0, 1, 2, 4, 5, 6] ?_
      exact sX12_learns_114 hG o1 v2 v4 v5 s0 0 _ hk_12 D
  · refine zO_live [0, 1, 2, 4, 5, 6] ?_
    exact sX12_learns_109 hG o1 v2 v4 v5 s0 _ hk_12 D
set_option maxHeartbeats 20000000 in
theorem sX12_learns_12 {l : Launch} {E : zE} {d : Nat} {F : zFs} {n sl : Nat} (hG : zG F)  (o1 : Int)   : ∀ (N : Nat) (v2 : Int) (v3 : Int) (v4 : Int) (D : zDa), zO l E (d + 88) YX12_learns 12 [(0, zR 91), (1, zI o1), (2, zI v2), (3, zI v3), (4, zI v4)] [] (F, D, n, sl) (zcV F n sl) (zfix (fun _ _ _ _ => none) (fX12_learns_12 F o1) N v2 v3 v4 D) := by
  intro N
  induction N with
  | zero => intro v2 v3 v4 D; exact zO_none
  | succ N hk_12 =>
    intro v2 v3 v4 D
    show zO _ _ _ _ _ _ _ _ _ ((fX12_learns_12 F o1) (zfix (fun _ _ _ _ => none) (fX12_learns_12 F o1) N) v2 v3 v4 D)
    unfold fX12_learns_12
    refine zO_iload dX12_learns_12 rfl ?_
    refine zO_aload_n dX12_learns_14 rfl (zR_P _) ?_
    refine gt12 (k := 3) dX12_learns_15 wF_X12_20 (by decide) (gk_91 hG) (zgv (c := 12) (k := 3) rfl (Or.inl ⟨_, rfl⟩) (gf_91_3 hG)) ?_
    refine zO_sipush dX12_learns_18 (by decide) ?_
    refine zO_iald dX12_learns_21 (gk_93 hG) (gl_in (gl_93 hG) (by decide)) ?_
    refine zO_icmp_ge (tgt := 195) dX12_learns_22 rfl (fun c22 => ?_) (fun c22 => ?_)
    · refine zO_chk (fun h1 => ?_)
      refine zO_aload_n dX12_learns_25 rfl (zR_P _) ?_
      refine gt12 (k := 3) dX12_learns_26 wF_X12_20 (by decide) (gk_91 hG) (zgv (c := 12) (k := 3) rfl (Or.inl ⟨_, rfl⟩) (gf_91_3 hG)) ?_
      refine zO_bipush dX12_learns_29 (by decide) ?_
      refine zO_iconst dX12_learns_31 (by decide) ?_
      refine zO_iload dX12_learns_32 rfl ?_
      refine zO_imul dX12_learns_34 h1.1 ?_
      refine zO_iadd dX12_learns_35 h1.2.1 ?_
      refine zO_iald dX12_learns_36 (gk_93 hG) (gl_in (gl_93 hG) h1.2.2) ?_
      refine zO_iload_n dX12_learns_37 rfl ?_
      refine zO_icmp_eq (tgt := 44) dX12_learns_38 rfl (fun c38 => ?_) (fun c38 => ?_)
      · refine zO_chk (fun h2 => ?_)
        refine zO_aload_n dX12_learns_44 rfl (zR_P _) ?_
        refine gt12 (k := 3) dX12_learns_45 wF_X12_20 (by decide) (gk_91 hG) (zgv (c := 12) (k := 3) rfl (Or.inl ⟨_, rfl⟩) (gf_91_3 hG)) ?_
        refine zO_bipush dX12_learns_48 (by decide) ?_
        refine zO_iconst dX12_learns_50 (by decide) ?_
        refine zO_iload dX12_learns_51 rfl ?_
        refine zO_imul dX12_learns_53 h1.1 ?_
        refine zO_iadd dX12_learns_54 h1.2.1 ?_
        refine zO_iconst dX12_learns_55 (by decide) ?_
        refine zO_iadd dX12_learns_56 h2.1 ?_
        refine zO_iald dX12_learns_57 (gk_93 hG) (gl_in (gl_93 hG) h2.2) ?_
        refine zO_letI (fun x5_3 ex5_3 => ?_)
        refine zO_istore dX12_learns_58 (by decide) ?_
        refine zO_ls (ls' := [(0, zR 91), (1, zI o1), (2, zI v2), (3, zI v3), (4, zI v4), (5, zI x5_3)]) rfl ?_
        refine zO_chk (fun h3 => ?_)
        refine zO_aload_n dX12_learns_60 rfl (zR_P _) ?_
        refine gt12 (k := 41) dX12_learns_61 wF_X12_96 (by decide) (gk_91 hG) (zgv (c := 12) (k := 41) rfl (Or.inl ⟨_, rfl⟩) (gf_91_41 hG)) ?_
        refine zO_iload dX12_learns_64 rfl ?_
        refine zO_iald dX12_learns_66 (gk_115 hG) (gl_in (gl_115 hG) h3) ?_
        refine zO_iconst dX12_learns_67 (by decide) ?_
        refine zO_icmp_ne (tgt := 75) dX12_learns_68 rfl (fun c68 => ?_) (fun c68 => ?_)
        · refine zO_iconst dX12_learns_71 (by decide) ?_
          refine zO_goto (tgt := 97) dX12_learns_72 rfl ?_
          refine zO_live [0, 1, 2, 3, 4, 5] ?_
          exact sX12_learns_97 hG o1 v2 v3 v4 x5_3 1 _ hk_12 D
        · refine zO_chk (fun h11 => ?_)
          refine zO_aload_n dX12_learns_75 rfl (zR_P _) ?_
          refine zO_iload dX12_learns_76 rfl ?_
          refine zO_aload_n dX12_learns_78 rfl (zR_P _) ?_
          refine gt12 (k := 41) dX12_learns_79 wF_X12_96 (by decide) (gk_91 hG) (zgv (c := 12) (k := 41) rfl (Or.inl ⟨_, rfl⟩) (gf_91_41 hG)) ?_
          refine zO_iload dX12_learns_82 rfl ?_
          refine zO_iald dX12_learns_84 (gk_115 hG) (gl_in (gl_115 hG) h3) ?_
          refine zO_iconst dX12_learns_85 (by decide) ?_
          refine zO_iadd dX12_learns_86 h11 ?_
          refine zO_aload_n dX12_learns_87 rfl (zR_P _) ?_
          refine zO_iload dX12_learns_88 rfl ?_
          refine zO_callV (Y' := YX12_isHelped) (cw := zcI F n sl) (as := [zI x5_3]) (rest := [zI ((D 115 x5_3.toNat) + 1), zI x5_3, zR 91]) (na := 1) (ci := 12) rfl dX12_learns_90 wC_X12_isHelped wN_X12 wM_X12_428 wI_X12_isHelped wV_X12_isHelped (by decide) (by decide) rfl rfl (Nat.le_of_ble_eq_true rfl) rfl (by decide) (gk_91 hG) (fun r hr => zMet_cast (Nat.add_assoc d 86 1) (mX12_isHelped (d := d + 86) hG x5_3 r hr)) ?_
          rintro ⟨r_9, D_10⟩ -
          show zO _ _ _ _ _ _ [zI r_9, zI ((D 115 x5_3.toNat) + 1), zI x5_3, zR 91] (F, D_10, n, sl) _ _
          refine zO_iload_n dX12_learns_93 rfl ?_
          refine zO_callV (Y' := YX12_takesOf) (cw := zcI F n sl) (as := [zI x5_3, zI ((D 115 x5_3.toNat) + 1), zI r_9, zI o1]) (rest := []) (na := 4) (ci := 12) rfl dX12_learns_94 wC_X12_takesOf wN_X12 wM_X12_298 wI_X12_takesOf wV_X12_takesOf (by decide) (by decide) rfl rfl (Nat.le_of_ble_eq_true rfl) rfl (by decide) (gk_91 hG) (fun r hr => zMet_cast (Nat.add_assoc d 0 87) (mX12_takesOf (d := d + 0) hG x5_3 ((D 115 x5_3.toNat) + 1) r_9 o1 r hr)) ?_
          rintro ⟨r_11, D_12⟩ -
          show zO _ _ _ _ _ _ [zI r_11] (F, D_12, n, sl) _ _
          refine zO_live [0, 1, 2, 3, 4, 5] ?_
          exact sX12_learns_97 hG o1 v2 v3 v4 x5_3 r_11 _ hk_12 D_12
      · refine zO_goto (tgt := 189) dX12_learns_41 rfl ?_
        refine zO_live [0, 1, 2, 3, 4] ?_
        exact sX12_learns_189 hG o1 v2 v3 v4 _ hk_12 D
    · refine zO_aload_n dX12_learns_195 rfl (zR_P _) ?_
      refine gt12 (k := 40) dX12_learns_196 wF_X12_93 (by decide) (gk_91 hG) (zgv (c := 12) (k := 40) rfl (Or.inl ⟨_, rfl⟩) (gf_91_40 hG)) ?_
      refine zO_iload_n dX12_learns_199 rfl ?_
      refine zO_aload_n dX12_learns_200 rfl (zR_P _) ?_
      refine zO_bipush dX12_learns_201 (by decide) ?_
      refine zO_callV (Y' := YX12_term) (cw := zcI F n sl) (as := [zI 6]) (rest := [zI o1, zR 114]) (na := 1) (ci := 12) rfl dX12_learns_203 wC_X12_term wN_X12 wM_X12_318 wI_X12_term wV_X12_term (by decide) (by decide) rfl rfl (Nat.le_of_ble_eq_true rfl) rfl (by decide) (gk_91 hG) (fun r hr => zMet_cast (Nat.add_assoc d 87 0) (mX12_term (d := d + 87) hG 6 r hr)) ?_
      rintro ⟨r_13, D_14⟩ -
      show zO _ _ _ _ _ _ [zI r_13, zI o1, zR 114] (F, D_14, n, sl) _ _
      refine zO_chk (fun h12 => ?_)
      refine zO_iload_n dX12_learns_206 rfl ?_
      refine zO_isub dX12_learns_207 h12.1 ?_
      refine zO_iast dX12_learns_208 (gk_114 hG) (gl_in (gl_114 hG) h12.2) ?_
      refine zO_letD (fun D_15 eD_15 => ?_)
      exact zO_ret (rv := none) dX12_learns_209 rfl trivial rfl
set_option maxHeartbeats 20000000 in
theorem mX12_learns {l : Launch} {E : zE} {d : Nat} {F : zFs} {n sl : Nat} (hG : zG F) (v1 : Int) {D : zDa} : ∀ r, fX12_learns F  v1 D = some r → zMet l E (d + 88) YX12_learns [zR 91, zI v1] (F, D, n, sl) (zcV F n sl r) := by
  intro r hr
  refine zMet_of (plainFor_of_name (by decide)) (fun _ h => (nomatch h)) (Nat.le_of_ble_eq_true rfl) ?_
  have hz : zO l E (d + 88) YX12_learns 0 [(0, zR 91), (1, zI v1)] [] (F, D, n, sl) (zcV F n sl) (fX12_learns F  v1 D) := by
    unfold fX12_learns
    refine zO_aload_n dX12_learns_0 rfl (zR_P _) ?_
    refine zO_bipush dX12_learns_1 (by decide) ?_
    refine zO_callV (Y' := YX12_term) (cw := zcI F n sl) (as := [zI 6]) (rest := []) (na := 1) (ci := 12) rfl dX12_learns_3 wC_X12_term wN_X12 wM_X12_318 wI_X12_term wV_X12_term (by decide) (by decide) rfl rfl (Nat.le_of_ble_eq_true rfl) rfl (by decide) (gk_91 hG) (fun r hr => zMet_cast (Nat.add_assoc d 87 0) (mX12_term (d := d + 87) hG 6 r hr)) ?_
    rintro ⟨r_1, D_2⟩ -
    show zO _ _ _ _ _ _ [zI r_1] (F, D_2, n, sl) _ _
    refine zO_istore_n dX12_learns_6 (by decide) ?_
    refine zO_ls (ls' := [(0, zR 91), (1, zI v1), (2, zI r_1)]) rfl ?_
    refine zO_iconst dX12_learns_7 (by decide) ?_
    refine zO_istore_n dX12_learns_8 (by decide) ?_
    refine zO_ls (ls' := [(0, zR 91), (1, zI v1), (2, zI r_1), (3, zI 0)]) rfl ?_
    refine zO_iconst dX12_learns_9 (by decide) ?_
    refine zO_istore dX12_learns_10 (by decide) ?_
    refine zO_ls (ls' := [(0, zR 91), (1, zI v1), (2, zI r_1), (3, zI 0), (4, zI 0)]) rfl ?_
    refine zO_live [0, 1, 2, 3, 4] ?_
    exact sX12_learns_12 hG v1 zfu r_1 0 0 D_2
  exact hz r hr
theorem dX12_lives_0 : decode cX12_lives 0 = .ok (.aload_n 0, 1) := by decide +kernel
theorem dX12_lives_1 : decode cX12_lives 1 = .ok (.iconst 0, 1) := by decide +kernel
theorem dX12_lives_2 : decode cX12_lives 2 = .ok (.putfield 416, 3) := by decide +kernel
theorem dX12_lives_5 : decode cX12_lives 5 = .ok (.aload_n 0, 1) := by decide +kernel
theorem dX12_lives_6 : decode cX12_lives 6 = .ok (.iconst (-1), 1) := by decide +kernel
theorem dX12_lives_7 : decode cX12_lives 7 = .ok (.putfield 419, 3) := by decide +kernel
theorem dX12_lives_10 : decode cX12_lives 10 = .ok (.aload_n 0, 1) := by decide +kernel
theorem dX12_lives_11 : decode cX12_lives 11 = .ok (.iconst 0, 1) := by decide +kernel
theorem dX12_lives_12 : decode cX12_lives 12 = .ok (.putfield 422, 3) := by decide +kernel
theorem dX12_lives_15 : decode cX12_lives 15 = .ok (.iconst 0, 1) := by decide +kernel
theorem dX12_lives_16 : decode cX12_lives 16 = .ok (.istore_n 1, 1) := by decide +kernel
theorem dX12_lives_17 : decode cX12_lives 17 = .ok (.iload_n 1, 1) := by decide +kernel
theorem dX12_lives_18 : decode cX12_lives 18 = .ok (.aload_n 0, 1) := by decide +kernel
theorem dX12_lives_19 : decode cX12_lives 19 = .ok (.invokevirtual 146, 3) := by decide +kernel
theorem dX12_lives_22 : decode cX12_lives 22 = .ok (.if_icmp .ge 16, 3) := by decide +kernel
theorem dX12_lives_25 : decode cX12_lives 25 = .ok (.aload_n 0, 1) := by decide +kernel
theorem dX12_lives_26 : decode cX12_lives 26 = .ok (.getfield 96, 3) := by decide +kernel
theorem dX12_lives_29 : decode cX12_lives 29 = .ok (.iload_n 1, 1) := by decide +kernel
theorem dX12_lives_30 : decode cX12_lives 30 = .ok (.iconst 0, 1) := by decide +kernel
theorem dX12_lives_31 : decode cX12_lives 31 = .ok (.iastore, 1) := by decide +kernel
theorem dX12_lives_32 : decode cX12_lives 32 = .ok (.iinc 1 1, 3) := by decide +kernel
theorem dX12_lives_35 : decode cX12_lives 35 = .ok (.goto (-18), 3) := by decide +kernel
theorem dX12_lives_38 : decode cX12_lives 38 = .ok (.iconst 0, 1) := by decide +kernel
theorem dX12_lives_39 : decode cX12_lives 39 = .ok (.istore_n 1, 1) := by decide +kernel
theorem dX12_lives_40 : decode cX12_lives 40 = .ok (.iload_n 1, 1) := by decide +kernel
theorem dX12_lives_41 : decode cX12_lives 41 = .ok (.aload_n 0, 1) := by decide +kernel
theorem dX12_lives_42 : decode cX12_lives 42 = .ok (.iconst 5, 1) := by decide +kernel
theorem dX12_lives_43 : decode cX12_lives 43 = .ok (.invokevirtual 318, 3) := by decide +kernel
theorem dX12_lives_46 : decode cX12_lives 46 = .ok (.if_icmp .ge 105, 3) := by decide +kernel
theorem dX12_lives_49 : decode cX12_lives 49 = .ok (.aload_n 0, 1) := by decide +kernel
theorem dX12_lives_50 : decode cX12_lives 50 = .ok (.iload_n 1, 1) := by decide +kernel
theorem dX12_lives_51 : decode cX12_lives 51 = .ok (.invokevirtual 425, 3) := by decide +kernel
theorem dX12_lives_54 : decode cX12_lives 54 = .ok (.iconst 0, 1) := by decide +kernel
theorem dX12_lives_55 : decode cX12_lives 55 = .ok (.istore_n 2, 1) := by decide +kernel
theorem dX12_lives_56 : decode cX12_lives 56 = .ok (.iload_n 2, 1) := by decide +kernel
theorem dX12_lives_57 : decode cX12_lives 57 = .ok (.aload_n 0, 1) := by decide +kernel
theorem dX12_lives_58 : decode cX12_lives 58 = .ok (.invokevirtual 146, 3) := by decide +kernel
theorem dX12_lives_61 : decode cX12_lives 61 = .ok (.if_icmp .ge 84, 3) := by decide +kernel
theorem dX12_lives_64 : decode cX12_lives 64 = .ok (.aload_n 0, 1) := by decide +kernel
theorem dX12_lives_65 : decode cX12_lives 65 = .ok (.getfield 96, 3) := by decide +kernel
theorem dX12_lives_68 : decode cX12_lives 68 = .ok (.iload_n 2, 1) := by decide +kernel
theorem dX12_lives_69 : decode cX12_lives 69 = .ok (.iaload, 1) := by decide +kernel
theorem dX12_lives_70 : decode cX12_lives 70 = .ok (.ifCond .le 52, 3) := by decide +kernel
theorem dX12_lives_73 : decode cX12_lives 73 = .ok (.iload_n 1, 1) := by decide +kernel
theorem dX12_lives_74 : decode cX12_lives 74 = .ok (.aload_n 0, 1) := by decide +kernel
theorem dX12_lives_75 : decode cX12_lives 75 = .ok (.getfield 99, 3) := by decide +kernel
theorem dX12_lives_78 : decode cX12_lives 78 = .ok (.iload_n 2, 1) := by decide +kernel
theorem dX12_lives_79 : decode cX12_lives 79 = .ok (.iaload, 1) := by decide +kernel
theorem dX12_lives_80 : decode cX12_lives 80 = .ok (.isub, 1) := by decide +kernel
theorem dX12_lives_81 : decode cX12_lives 81 = .ok (.aload_n 0, 1) := by decide +kernel
theorem dX12_lives_82 : decode cX12_lives 82 = .ok (.iload_n 2, 1) := by decide +kernel
theorem dX12_lives_83 : decode cX12_lives 83 = .ok (.aload_n 0, 1) := by decide +kernel
theorem dX12_lives_84 : decode cX12_lives 84 = .ok (.getfield 96, 3) := by decide +kernel
theorem dX12_lives_87 : decode cX12_lives 87 = .ok (.iload_n 2, 1) := by decide +kernel
theorem dX12_lives_88 : decode cX12_lives 88 = .ok (.iaload, 1) := by decide +kernel
theorem dX12_lives_89 : decode cX12_lives 89 = .ok (.invokevirtual 302, 3) := by decide +kernel
theorem dX12_lives_92 : decode cX12_lives 92 = .ok (.if_icmp .lt 30, 3) := by decide +kernel
theorem dX12_lives_95 : decode cX12_lives 95 = .ok (.aload_n 0, 1) := by decide +kernel
theorem dX12_lives_96 : decode cX12_lives 96 = .ok (.getfield 96, 3) := by decide +kernel
theorem dX12_lives_99 : decode cX12_lives 99 = .ok (.iload_n 2, 1) := by decide +kernel
theorem dX12_lives_100 : decode cX12_lives 100 = .ok (.dup2, 1) := by decide +kernel
theorem dX12_lives_101 : decode cX12_lives 101 = .ok (.iaload, 1) := by decide +kernel
theorem dX12_lives_102 : decode cX12_lives 102 = .ok (.iconst 1, 1) := by decide +kernel
theorem dX12_lives_103 : decode cX12_lives 103 = .ok (.isub, 1) := by decide +kernel
theorem dX12_lives_104 : decode cX12_lives 104 = .ok (.iastore, 1) := by decide +kernel
theorem dX12_lives_105 : decode cX12_lives 105 = .ok (.aload_n 0, 1) := by decide +kernel
theorem dX12_lives_106 : decode cX12_lives 106 = .ok (.getfield 99, 3) := by decide +kernel
theorem dX12_lives_109 : decode cX12_lives 109 = .ok (.iload_n 2, 1) := by decide +kernel
theorem dX12_lives_110 : decode cX12_lives 110 = .ok (.iload_n 1, 1) := by decide +kernel
theorem dX12_lives_111 : decode cX12_lives 111 = .ok (.iastore, 1) := by decide +kernel
theorem dX12_lives_112 : decode cX12_lives 112 = .ok (.aload_n 0, 1) := by decide +kernel
theorem dX12_lives_113 : decode cX12_lives 113 = .ok (.dup, 1) := by decide +kernel
theorem dX12_lives_114 : decode cX12_lives 114 = .ok (.getfield 422, 3) := by decide +kernel
theorem dX12_lives_117 : decode cX12_lives 117 = .ok (.iconst 1, 1) := by decide +kernel
theorem dX12_lives_118 : decode cX12_lives 118 = .ok (.iadd, 1) := by decide +kernel
theorem dX12_lives_119 : decode cX12_lives 119 = .ok (.putfield 422, 3) := by decide +kernel
theorem dX12_lives_122 : decode cX12_lives 122 = .ok (.aload_n 0, 1) := by decide +kernel
theorem dX12_lives_123 : decode cX12_lives 123 = .ok (.getfield 90, 3) := by decide +kernel
theorem dX12_lives_126 : decode cX12_lives 126 = .ok (.bipush 20, 2) := by decide +kernel
theorem dX12_lives_128 : decode cX12_lives 128 = .ok (.iload_n 2, 1) := by decide +kernel
theorem dX12_lives_129 : decode cX12_lives 129 = .ok (.imul, 1) := by decide +kernel
theorem dX12_lives_130 : decode cX12_lives 130 = .ok (.iload_n 1, 1) := by decide +kernel
theorem dX12_lives_131 : decode cX12_lives 131 = .ok (.iadd, 1) := by decide +kernel
theorem dX12_lives_132 : decode cX12_lives 132 = .ok (.aload_n 0, 1) := by decide +kernel
theorem dX12_lives_133 : decode cX12_lives 133 = .ok (.getfield 96, 3) := by decide +kernel
theorem dX12_lives_136 : decode cX12_lives 136 = .ok (.iload_n 2, 1) := by decide +kernel
theorem dX12_lives_137 : decode cX12_lives 137 = .ok (.iaload, 1) := by decide +kernel
theorem dX12_lives_138 : decode cX12_lives 138 = .ok (.iastore, 1) := by decide +kernel
theorem dX12_lives_139 : decode cX12_lives 139 = .ok (.iinc 2 1, 3) := by decide +kernel
theorem dX12_lives_142 : decode cX12_lives 142 = .ok (.goto (-86), 3) := by decide +kernel
theorem dX12_lives_145 : decode cX12_lives 145 = .ok (.iinc 1 1, 3) := by decide +kernel
theorem dX12_lives_148 : decode cX12_lives 148 = .ok (.goto (-108), 3) := by decide +kernel
theorem dX12_lives_151 : decode cX12_lives 151 = .ok (.return_, 1) := by decide +kernel
abbrev YX12_lives : zY := (yX12_lives, cX12_lives, 3, none, [])
def fX12_lives_122 (F : zFs) (k_40 : Int → zDa → Option zDa) (k_56 : Int → zDa → Option zDa) (o1 : Int) (v2 : Int) (D : zDa) : Option zDa :=
  if (-2147483648 ≤ 20 * v2 ∧ 20 * v2 ≤ 2147483647) ∧ (-2147483648 ≤ (20 * v2) + o1 ∧ (20 * v2) + o1 ≤ 2147483647) ∧ (0 ≤ v2 ∧ v2 < 20) ∧ (0 ≤ ((20 * v2) + o1) ∧ ((20 * v2) + o1) < 400) then
    zlet (zwr D 113 ((20 * v2) + o1).toNat (D 115 v2.toNat)) (fun D_15 =>
      if (-2147483648 ≤ v2 + 1 ∧ v2 + 1 ≤ 2147483647) then
        k_56 (v2 + 1) D_15
      else none)
  else none
def fX12_lives_56 (F : zFs) (o1 : Int) (k_40 : Int → zDa → Option zDa) (k_56 : Int → zDa → Option zDa) (v2 : Int) (D : zDa) : Option zDa :=
  (fX12_questions F D).bind (fun (r_11, D_12) =>
    if v2 < r_11 then
      if (0 ≤ v2 ∧ v2 < 20) then
        if 0 < (D_12 115 v2.toNat) then
          if (-2147483648 ≤ o1 - (D_12 116 v2.toNat) ∧ o1 - (D_12 116 v2.toNat) ≤ 2147483647) then
            (fX12_keepsOf F v2 (D_12 115 v2.toNat) D_12).bind (fun (r_13, D_14) =>
              if (o1 - (D_12 116 v2.toNat)) < r_13 then
                fX12_lives_122 F k_40 k_56 o1 v2 D_14
              else
                if (-2147483648 ≤ (D_14 115 v2.toNat) - 1 ∧ (D_14 115 v2.toNat) - 1 ≤ 2147483647) then
                  zlet (zwr D_14 115 v2.toNat ((D_14 115 v2.toNat) - 1)) (fun D_16 =>
                    zlet (zwr D_16 116 v2.toNat o1) (fun D_17 =>
                      if (-2147483648 ≤ (D_17 91 45) + 1 ∧ (D_17 91 45) + 1 ≤ 2147483647) then
                        zlet (zwr D_17 91 45 ((D_17 91 45) + 1)) (fun D_18 =>
                          fX12_lives_122 F k_40 k_56 o1 v2 D_18)
                      else none))
                else none)
          else none
        else
          fX12_lives_122 F k_40 k_56 o1 v2 D_12
      else none
    else
      if (-2147483648 ≤ o1 + 1 ∧ o1 + 1 ≤ 2147483647) then
        k_40 (o1 + 1) D_12
      else none)
def fX12_lives_40 (F : zFs)   (k_40 : Int → zDa → Option zDa) (v1 : Int) (D : zDa) : Option zDa :=
  (fX12_term F 5 D).bind (fun (r_7, D_8) =>
    if v1 < r_7 then
      (fX12_learns F v1 D_8).bind (fun D_10 =>
        zfix (fun _ _ => none) (fX12_lives_56 F v1 k_40) zfu 0 D_10)
    else
      some D_8)
def fX12_lives_17 (F : zFs)   (k_17 : Int → zDa → Option zDa) (v1 : Int) (D : zDa) : Option zDa :=
  (fX12_questions F D).bind (fun (r_4, D_5) =>
    if v1 < r_4 then
      if (0 ≤ v1 ∧ v1 < 20) then
        zlet (zwr D_5 115 v1.toNat 0) (fun D_6 =>
          if (-2147483648 ≤ v1 + 1 ∧ v1 + 1 ≤ 2147483647) then
            k_17 (v1 + 1) D_6
          else none)
      else none
    else
      zfix (fun _ _ => none) (fX12_lives_40 F) zfu 0 D_5)
def fX12_lives (F : zFs)  (D : zDa) : Option zDa :=
  zlet (zwr D 91 43 0) (fun D_1 =>
    zlet (zwr D_1 91 44 (-1)) (fun D_2 =>
      zlet (zwr D_2 91 45 0) (fun D_3 =>
        zfix (fun _ _ => none) (fX12_lives_17 F) zfu 0 D_3)))
set_option maxHeartbeats 20000000 in
theorem sX12_lives_122 {l : Launch} {E : zE} {d : Nat} {F : zFs} {n sl : Nat} (hG : zG F)  (o1 : Int) (v2 : Int) (k_40 : Int → zDa → Option zDa) (k_56 : Int → zDa → Option zDa) (hk_40 : ∀ (u1 : Int) (D : zDa), zO l E (d + 89) YX12_lives 40 [(0, zR 91), (1, zI u1)] [] (F, D, n, sl) (zcV F n sl) (k_40 u1 D)) (hk_56 : ∀ (u2 : Int) (D : zDa), zO l E (d + 89) YX12_lives 56 [(0, zR 91), (1, zI o1), (2, zI u2)] [] (F, D, n, sl) (zcV F n sl) (k_56 u2 D)) (D : zDa) : zO l E (d + 89) YX12_lives 122 [(0, zR 91), (1, zI o1), (2, zI v2)] [] (F, D, n, sl) (zcV F n sl) (fX12_lives_122 F k_40 k_56 o1 v2 D) := by
  unfold fX12_lives_122
  refine zO_chk (fun h5 => ?_)
  refine zO_aload_n dX12_lives_122 rfl (zR_P _) ?_
  refine gt12 (k := 39) dX12_lives_123 wF_X12_90 (by decide) (gk_91 hG) (zgv (c := 12) (k := 39) rfl (Or.inl ⟨_, rfl⟩) (gf_91_39 hG)) ?_
  refine zO_bipush dX12_lives_126 (by decide) ?_
  refine zO_iload_n dX12_lives_128 rfl ?_
  refine zO_imul dX12_lives_129 h5.1 ?_
  refine zO_iload_n dX12_lives_130 rfl ?_
  refine zO_iadd dX12_lives_131 h5.2.1 ?_
  refine zO_aload_n dX12_lives_132 rfl (zR_P _) ?_
  refine gt12 (k := 41) dX12_lives_133 wF_X12_96 (by decide) (gk_91 hG) (zgv (c := 12) (k := 41) rfl (Or.inl ⟨_, rfl⟩) (gf_91_41 hG)) ?_
  refine zO_iload_n dX12_lives_136 rfl ?_
  refine zO_iald dX12_lives_137 (gk_115 hG) (gl_in (gl_115 hG) h5.2.2.1) ?_
  refine zO_iast dX12_lives_138 (gk_113 hG) (gl_in (gl_113 hG) h5.2.2.2) ?_
  refine zO_letD (fun D_15 eD_15 => ?_)
  refine zO_chk (fun h6 => ?_)
  refine zO_iinc dX12_lives_139 rfl h6 (by decide) ?_
  refine zO_ls (ls' := [(0, zR 91), (1, zI o1), (2, zI (v2 + 1))]) rfl ?_
  refine zO_goto (tgt := 56) dX12_lives_142 rfl ?_
  refine zO_live [0, 1, 2] ?_
  exact hk_56 (v2 + 1) D_15
set_option maxHeartbeats 20000000 in
theorem sX12_lives_56 {l : Launch} {E : zE} {d : Nat} {F : zFs} {n sl : Nat} (hG : zG F)  (o1 : Int) (k_40 : Int → zDa → Option zDa) (hk_40 : ∀ (u1 : Int) (D : zDa), zO l E (d + 89) YX12_lives 40 [(0, zR 91), (1, zI u1)] [] (F, D, n, sl) (zcV F n sl) (k_40 u1 D)) : ∀ (N : Nat) (v2 : Int) (D : zDa), zO l E (d + 89) YX12_lives 56 [(0, zR 91), (1, zI o1), (2, zI v2)] [] (F, D, n, sl) (zcV F n sl) (zfix (fun _ _ => none) (fX12_lives_56 F o1 k_40) N v2 D) := by
  intro N
  induction N with
  | zero => intro v2 D; exact zO_none
  | succ N hk_56 =>
    intro v2 D
    show zO _ _ _ _ _ _ _ _ _ ((fX12_lives_56 F o1 k_40) (zfix (fun _ _ => none) (fX12_lives_56 F o1 k_40) N) v2 D)
    unfold fX12_lives_56
    refine zO_iload_n dX12_lives_56 rfl ?_
    refine zO_aload_n dX12_lives_57 rfl (zR_P _) ?_
    refine zO_callV (Y' := YX12_questions) (cw := zcI F n sl) (as := []) (rest := [zI v2]) (na := 0) (ci := 12) rfl dX12_lives_58 wC_X12_questions wN_X12 wM_X12_146 wI_X12_questions wV_X12_questions (by decide) (by decide) rfl rfl (Nat.le_of_ble_eq_true rfl) rfl (by decide) (gk_91 hG) (fun r hr => zMet_cast (Nat.add_assoc d 88 0) (mX12_questions (d := d + 88) hG  r hr)) ?_
    rintro ⟨r_11, D_12⟩ -
    show zO _ _ _ _ _ _ [zI r_11, zI v2] (F, D_12, n, sl) _ _
    refine zO_icmp_ge (tgt := 145) dX12_lives_61 rfl (fun c61 => ?_) (fun c61 => ?_)
    · refine zO_chk (fun h3 => ?_)
      refine zO_aload_n dX12_lives_64 rfl (zR_P _) ?_
      refine gt12 (k := 41) dX12_lives_65 wF_X12_96 (by decide) (gk_91 hG) (zgv (c := 12) (k := 41) rfl (Or.inl ⟨_, rfl⟩) (gf_91_41 hG)) ?_
      refine zO_iload_n dX12_lives_68 rfl ?_
      refine zO_iald dX12_lives_69 (gk_115 hG) (gl_in (gl_115 hG) h3) ?_
      refine zO_if_le (tgt := 122) dX12_lives_70 rfl (fun c70 => ?_) (fun c70 => ?_)
      · refine zO_chk (fun h4 => ?_)
        refine zO_iload_n dX12_lives_73 rfl ?_
        refine zO_aload_n dX12_lives_74 rfl (zR_P _) ?_
        refine gt12 (k := 42) dX12_lives_75 wF_X12_99 (by decide) (gk_91 hG) (zgv (c := 12) (k := 42) rfl (Or.inl ⟨_, rfl⟩) (gf_91_42 hG)) ?_
        refine zO_iload_n dX12_lives_78 rfl ?_
        refine zO_iald dX12_lives_79 (gk_116 hG) (gl_in (gl_116 hG) h3) ?_
        refine zO_isub dX12_lives_80 h4 ?_
        refine zO_aload_n dX12_lives_81 rfl (zR_P _) ?_
        refine zO_iload_n dX12_lives_82 rfl ?_
        refine zO_aload_n dX12_lives_83 rfl (zR_P _) ?_
        refine gt12 (k := 41) dX12_lives_84 wF_X12_96 (by decide) (gk_91 hG) (zgv (c := 12) (k := 41) rfl (Or.inl ⟨_, rfl⟩) (gf_91_41 hG)) ?_
        refine zO_iload_n dX12_lives_87 rfl ?_
        refine zO_iald dX12_lives_88 (gk_115 hG) (gl_in (gl_115 hG) h3) ?_
        refine zO_callV (Y' := YX12_keepsOf) (cw := zcI F n sl) (as := [zI v2, zI (D_12 115 v2.toNat)]) (rest := [zI (o1 - (D_12 116 v2.toNat))]) (na := 2) (ci := 12) rfl dX12_lives_89 wC_X12_keepsOf wN_X12 wM_X12_302 wI_X12_keepsOf wV_X12_keepsOf (by decide) (by decide) rfl rfl (Nat.le_of_ble_eq_true rfl) rfl (by decide) (gk_91 hG) (fun r hr => zMet_cast (Nat.add_assoc d 1 87) (mX12_keepsOf (d := d + 1) hG v2 (D_12 115 v2.toNat) r hr)) ?_
        rintro ⟨r_13, D_14⟩ -
        show zO _ _ _ _ _ _ [zI r_13, zI (o1 - (D_12 116 v2.toNat))] (F, D_14, n, sl) _ _
        refine zO_icmp_lt (tgt := 122) dX12_lives_92 rfl (fun c92 => ?_) (fun c92 => ?_)
        · refine zO_live [0, 1, 2] ?_
          exact sX12_lives_122 hG o1 v2 _ _ hk_40 hk_56 D_14
        · refine zO_chk (fun h7 => ?_)
          refine zO_aload_n dX12_lives_95 rfl (zR_P _) ?_
          refine gt12 (k := 41) dX12_lives_96 wF_X12_96 (by decide) (gk_91 hG) (zgv (c := 12) (k := 41) rfl (Or.inl ⟨_, rfl⟩) (gf_91_41 hG)) ?_
          refine zO_iload_n dX12_lives_99 rfl ?_
          refine zO_dup2a dX12_lives_100 (rfl) (rfl) ?_
          refine zO_iald dX12_lives_101 (gk_115 hG) (gl_in (gl_115 hG) h3) ?_
          refine zO_iconst dX12_lives_102 (by decide) ?_
          refine zO_isub dX12_lives_103 h7 ?_
          refine zO_iast dX12_lives_104 (gk_115 hG) (gl_in (gl_115 hG) h3) ?_
          refine zO_letD (fun D_16 eD_16 => ?_)
          refine zO_aload_n dX12_lives_105 rfl (zR_P _) ?_
          refine gt12 (k := 42) dX12_lives_106 wF_X12_99 (by decide) (gk_91 hG) (zgv (c := 12) (k := 42) rfl (Or.inl ⟨_, rfl⟩) (gf_91_42 hG)) ?_
          refine zO_iload_n dX12_lives_109 rfl ?_
          refine zO_iload_n dX12_lives_110 rfl ?_
          refine zO_iast dX12_lives_111 (gk_116 hG) (gl_in (gl_116 hG) h3) ?_
          refine zO_letD (fun D_17 eD_17 => ?_)
          refine zO_chk (fun h8 => ?_)
          refine zO_aload_n dX12_lives_112 rfl (zR_P _) ?_
          refine zO_dup dX12_lives_113 (rfl) ?_
          refine gt12 (k := 45) (v := zI (D_17 91 45)) dX12_lives_114 wF_X12_422 (by decide) (gk_91 hG) rfl ?_
          refine zO_iconst dX12_lives_117 (by decide) ?_
          refine zO_iadd dX12_lives_118 h8 ?_
          refine ptI12 (k := 45) (z := ((D_17 91 45) + 1)) dX12_lives_119 wF_X12_422 (by decide) rfl (gk_91 hG) rfl ?_
          refine zO_letD (fun D_18 eD_18 => ?_)
          refine zO_live [0, 1, 2] ?_
          exact sX12_lives_122 hG o1 v2 _ _ hk_40 hk_56 D_18
      · refine zO_live [0, 1, 2] ?_
        exact sX12_lives_122 hG o1 v2 _ _ hk_40 hk_56 D_12
    · refine zO_chk (fun h9 => ?_)
      refine zO_iinc dX12_lives_145 rfl h9 (by decide) ?_
      refine zO_ls (ls' := [(0, zR 91), (1, zI (o1 + 1)), (2, zI v2)]) rfl ?_
      refine zO_goto (tgt := 40) dX12_lives_148 rfl ?_
      refine zO_live [0, 1] ?_
      exact hk_40 (o1 + 1) D_12
set_option maxHeartbeats 20000000 in
theorem sX12_lives_40 {l : Launch} {E : zE} {d : Nat} {F : zFs} {n sl : Nat} (hG : zG F)     : ∀ (N : Nat) (v1 : Int) (D : zDa), zO l E (d + 89) YX12_lives 40 [(0, zR 91), (1, zI v1)] [] (F, D, n, sl) (zcV F n sl) (zfix (fun _ _ => none) (fX12_lives_40 F) N v1 D) := by
  intro N
  induction N with
  | zero => intro v1 D; exact zO_none
  | succ N hk_40 =>
    intro v1 D
    show zO _ _ _ _ _ _ _ _ _ ((fX12_lives_40 F) (zfix (fun _ _ => none) (fX12_lives_40 F) N) v1 D)
    unfold fX12_lives_40
    refine zO_iload_n dX12_lives_40 rfl ?_
    refine zO_aload_n dX12_lives_41 rfl (zR_P _) ?_
    refine zO_iconst dX12_lives_42 (by decide) ?_
    refine zO_callV (Y' := YX12_term) (cw := zcI F n sl) (as := [zI 5]) (rest := [zI v1]) (na := 1) (ci := 12) rfl dX12_lives_43 wC_X12_term wN_X12 wM_X12_318 wI_X12_term wV_X12_term (by decide) (by decide) rfl rfl (Nat.le_of_ble_eq_true rfl) rfl (by decide) (gk_91 hG) (fun r hr => zMet_cast (Nat.add_assoc d 88 0) (mX12_term (d := d + 88) hG 5 r hr)) ?_
    rintro ⟨r_7, D_8⟩ -
    show zO _ _ _ _ _ _ [zI r_7, zI v1] (F, D_8, n, sl) _ _
    refine zO_icmp_ge (tgt := 151) dX12_lives_46 rfl (fun c46 => ?_) (fun c46 => ?_)
    · refine zO_aload_n dX12_lives_49 rfl (zR_P _) ?_
      refine zO_iload_n dX12_lives_50 rfl ?_
      refine zO_callV (Y' := YX12_learns) (cw := zcV F n sl) (as := [zI v1]) (rest := []) (na := 1) (ci := 12) rfl dX12_lives_51 wC_X12_learns wN_X12 wM_X12_425 wI_X12_learns wV_X12_learns (by decide) (by decide) rfl rfl (Nat.le_of_ble_eq_true rfl) rfl (by decide) (gk_91 hG) (fun r hr => zMet_cast (Nat.add_assoc d 0 88) (mX12_learns (d := d + 0) hG v1 r hr)) ?_
      intro D_10 _
      show zO _ _ _ _ _ _ [] (F, D_10, n, sl) _ _
      refine zO_iconst dX12_lives_54 (by decide) ?_
      refine zO_istore_n dX12_lives_55 (by decide) ?_
      refine zO_ls (ls' := [(0, zR 91), (1, zI v1), (2, zI 0)]) rfl ?_
      refine zO_live [0, 1, 2] ?_
      exact sX12_lives_56 hG v1 _ hk_40 zfu 0 D_10
    · exact zO_ret (rv := none) dX12_lives_151 rfl trivial rfl
set_option maxHeartbeats 20000000 in
theorem sX12_lives_17 {l : Launch} {E : zE} {d : Nat} {F : zFs} {n sl : Nat} (hG : zG F)     : ∀ (N : Nat) (v1 : Int) (D : zDa), zO l E (d + 89) YX12_lives 17 [(0, zR 91), (1, zI v1)] [] (F, D, n, sl) (zcV F n sl) (zfix (fun _ _ => none) (fX12_lives_17 F) N v1 D) := by
  intro N
  induction N with
  | zero => intro v1 D; exact zO_none
  | succ N hk_17 =>
    intro v1 D
    show zO _ _ _ _ _ _ _ _ _ ((fX12_lives_17 F) (zfix (fun _ _ => none) (fX12_lives_17 F) N) v1 D)
    unfold fX12_lives_17
    refine zO_iload_n dX12_lives_17 rfl ?_
    refine zO_aload_n dX12_lives_18 rfl (zR_P _) ?_
    refine zO_callV (Y' := YX12_questions) (cw := zcI F n sl) (as := []) (rest := [zI v1]) (na := 0) (ci := 12) rfl dX12_lives_19 wC_X12_questions wN_X12 wM_X12_146 wI_X12_questions wV_X12_questions (by decide) (by decide) rfl rfl (Nat.le_of_ble_eq_true rfl) rfl (by decide) (gk_91 hG) (fun r hr => zMet_cast (Nat.add_assoc d 88 0) (mX12_questions (d := d + 88) hG  r hr)) ?_
    rintro ⟨r_4, D_5⟩ -
    show zO _ _ _ _ _ _ [zI r_4, zI v1] (F, D_5, n, sl) _ _
    refine zO_icmp_ge (tgt := 38) dX12_lives_22 rfl (fun c22 => ?_) (fun c22 => ?_)
    · refine zO_chk (fun h1 => ?_)
      refine zO_aload_n dX12_lives_25 rfl (zR_P _) ?_
      refine gt12 (k := 41) dX12_lives_26 wF_X12_96 (by decide) (gk_91 hG) (zgv (c := 12) (k := 41) rfl (Or.inl ⟨_, rfl⟩) (gf_91_41 hG)) ?_
      refine zO_iload_n dX12_lives_29 rfl ?_
      refine zO_iconst dX12_lives_30 (by decide) ?_
      refine zO_iast dX12_lives_31 (gk_115 hG) (gl_in (gl_115 hG) h1) ?_
      refine zO_letD (fun D_6 eD_6 => ?_)
      refine zO_chk (fun h2 => ?_)
      refine zO_iinc dX12_lives_32 rfl h2 (by decide) ?_
      refine zO_ls (ls' := [(0, zR 91), (1, zI (v1 + 1))]) rfl ?_
      refine zO_goto (tgt := 17) dX12_lives_35 rfl ?_
      refine zO_live [0, 1] ?_
      exact hk_17 (v1 + 1) D_6
    · refine zO_iconst dX12_lives_38 (by decide) ?_
      refine zO_istore_n dX12_lives_39 (by decide) ?_
      refine zO_ls (ls' := [(0, zR 91), (1, zI 0)]) rfl ?_
      refine zO_live [0, 1] ?_
      exact sX12_lives_40 hG zfu 0 D_5
set_option maxHeartbeats 20000000 in
theorem mX12_lives {l : Launch} {E : zE} {d : Nat} {F : zFs} {n sl : Nat} (hG : zG F)  {D : zDa} : ∀ r, fX12_lives F   D = some r → zMet l E (d + 89) YX12_lives [zR 91] (F, D, n, sl) (zcV F n sl r) := by
  intro r hr
  refine zMet_of (plainFor_of_name (by decide)) (fun _ h => (nomatch h)) (Nat.le_of_ble_eq_true rfl) ?_
  have hz : zO l E (d + 89) YX12_lives 0 [(0, zR 91)] [] (F, D, n, sl) (zcV F n sl) (fX12_lives F   D) := by
    unfold fX12_lives
    refine zO_aload_n dX12_lives_0 rfl (zR_P _) ?_
    refine zO_iconst dX12_lives_1 (by decide) ?_
    refine ptI12 (k := 43) (z := 0) dX12_lives_2 wF_X12_416 (by decide) rfl (gk_91 hG) rfl ?_
    refine zO_letD (fun D_1 eD_1 => ?_)
    refine zO_aload_n dX12_lives_5 rfl (zR_P _) ?_
    refine zO_iconst dX12_lives_6 (by decide) ?_
    refine ptI12 (k := 44) (z := (-1)) dX12_lives_7 wF_X12_419 (by decide) rfl (gk_91 hG) rfl ?_
    refine zO_letD (fun D_2 eD_2 => ?_)
    refine zO_aload_n dX12_lives_10 rfl (zR_P _) ?_
    refine zO_iconst dX12_lives_11 (by decide) ?_
    refine ptI12 (k := 45) (z := 0) dX12_lives_12 wF_X12_422 (by decide) rfl (gk_91 hG) rfl ?_
    refine zO_letD (fun D_3 eD_3 => ?_)
    refine zO_iconst dX12_lives_15 (by decide) ?_
    refine zO_istore_n dX12_lives_16 (by decide) ?_
    refine zO_ls (ls' := [(0, zR 91), (1, zI 0)]) rfl ?_
    refine zO_live [0, 1] ?_
    exact sX12_lives_17 hG zfu 0 D_3
  exact hz r hr
theorem dX12_behind_0 : decode cX12_behind 0 = .ok (.iload_n 1, 1) := by decide +kernel
theorem dX12_behind_1 : decode cX12_behind 1 = .ok (.iconst 0, 1) := by decide +kernel
theorem dX12_behind_2 : decode cX12_behind 2 = .ok (.aload_n 0, 1) := by decide +kernel
theorem dX12_behind_3 : decode cX12_behind 3 = .ok (.iconst 5, 1) := by decide +kernel
theorem dX12_behind_4 : decode cX12_behind 4 = .ok (.invokevirtual 318, 3) := by decide +kernel
theorem dX12_behind_7 : decode cX12_behind 7 = .ok (.iconst 1, 1) := by decide +kernel
theorem dX12_behind_8 : decode cX12_behind 8 = .ok (.isub, 1) := by decide +kernel
theorem dX12_behind_9 : decode cX12_behind 9 = .ok (.invokestatic 135, 3) := by decide +kernel
theorem dX12_behind_12 : decode cX12_behind 12 = .ok (.ifCond .eq 16, 3) := by decide +kernel
theorem dX12_behind_15 : decode cX12_behind 15 = .ok (.iload_n 2, 1) := by decide +kernel
theorem dX12_behind_16 : decode cX12_behind 16 = .ok (.iconst (-1), 1) := by decide +kernel
theorem dX12_behind_17 : decode cX12_behind 17 = .ok (.if_icmp .eq 13, 3) := by decide +kernel
theorem dX12_behind_20 : decode cX12_behind 20 = .ok (.aload_n 0, 1) := by decide +kernel
theorem dX12_behind_21 : decode cX12_behind 21 = .ok (.iload_n 2, 1) := by decide +kernel
theorem dX12_behind_22 : decode cX12_behind 22 = .ok (.invokevirtual 158, 3) := by decide +kernel
theorem dX12_behind_25 : decode cX12_behind 25 = .ok (.ifCond .ne 5, 3) := by decide +kernel
theorem dX12_behind_28 : decode cX12_behind 28 = .ok (.iconst (-1), 1) := by decide +kernel
theorem dX12_behind_29 : decode cX12_behind 29 = .ok (.ireturn, 1) := by decide +kernel
theorem dX12_behind_30 : decode cX12_behind 30 = .ok (.aload_n 0, 1) := by decide +kernel
theorem dX12_behind_31 : decode cX12_behind 31 = .ok (.invokevirtual 431, 3) := by decide +kernel
theorem dX12_behind_34 : decode cX12_behind 34 = .ok (.iload_n 2, 1) := by decide +kernel
theorem dX12_behind_35 : decode cX12_behind 35 = .ok (.iconst (-1), 1) := by decide +kernel
theorem dX12_behind_36 : decode cX12_behind 36 = .ok (.if_icmp .ne 12, 3) := by decide +kernel
theorem dX12_behind_39 : decode cX12_behind 39 = .ok (.aload_n 0, 1) := by decide +kernel
theorem dX12_behind_40 : decode cX12_behind 40 = .ok (.getfield 93, 3) := by decide +kernel
theorem dX12_behind_43 : decode cX12_behind 43 = .ok (.iload_n 1, 1) := by decide +kernel
theorem dX12_behind_44 : decode cX12_behind 44 = .ok (.iaload, 1) := by decide +kernel
theorem dX12_behind_45 : decode cX12_behind 45 = .ok (.goto 14, 3) := by decide +kernel
theorem dX12_behind_48 : decode cX12_behind 48 = .ok (.aload_n 0, 1) := by decide +kernel
theorem dX12_behind_49 : decode cX12_behind 49 = .ok (.getfield 90, 3) := by decide +kernel
theorem dX12_behind_52 : decode cX12_behind 52 = .ok (.bipush 20, 2) := by decide +kernel
theorem dX12_behind_54 : decode cX12_behind 54 = .ok (.iload_n 2, 1) := by decide +kernel
theorem dX12_behind_55 : decode cX12_behind 55 = .ok (.imul, 1) := by decide +kernel
theorem dX12_behind_56 : decode cX12_behind 56 = .ok (.iload_n 1, 1) := by decide +kernel
theorem dX12_behind_57 : decode cX12_behind 57 = .ok (.iadd, 1) := by decide +kernel
theorem dX12_behind_58 : decode cX12_behind 58 = .ok (.iaload, 1) := by decide +kernel
theorem dX12_behind_59 : decode cX12_behind 59 = .ok (.ireturn, 1) := by decide +kernel
abbrev YX12_behind : zY := (yX12_behind, cX12_behind, 3, (Option.some Jvm.ClassFile.FieldType.int), [])
def fX12_behind_30 (F : zFs)  (v1 : Int) (v2 : Int) (D : zDa) : Option (Int × zDa) :=
  (fX12_lives F D).bind (fun D_6 =>
    if v2 = (-1) then
      if (0 ≤ v1 ∧ v1 < 20) then
        some ((D_6 114 v1.toNat), D_6)
      else none
    else
      if (-2147483648 ≤ 20 * v2 ∧ 20 * v2 ≤ 2147483647) ∧ (-2147483648 ≤ (20 * v2) + v1 ∧ (20 * v2) + v1 ≤ 2147483647) ∧ (0 ≤ ((20 * v2) + v1) ∧ ((20 * v2) + v1) < 400) then
        some ((D_6 113 ((20 * v2) + v1).toNat), D_6)
      else none)
def fX12_behind (F : zFs) (v1 : Int) (v2 : Int) (D : zDa) : Option (Int × zDa) :=
  (fX12_term F 5 D).bind (fun (r_1, D_2) =>
    if (-2147483648 ≤ r_1 - 1 ∧ r_1 - 1 ≤ 2147483647) then
      (fX12_lies F v1 0 (r_1 - 1) D_2).bind (fun (r_3, D_4) =>
        if r_3 = 0 then
          some ((-1), D_4)
        else
          if v2 = (-1) then
            fX12_behind_30 F v1 v2 D_4
          else
            (fX12_isQuestion F v2 D_4).bind (fun (r_7, D_8) =>
              if r_7 = 0 then
                some ((-1), D_8)
              else
                fX12_behind_30 F v1 v2 D_8))
    else none)
set_option maxHeartbeats 20000000 in
theorem sX12_behind_30 {l : Launch} {E : zE} {d : Nat} {F : zFs} {n sl : Nat} (hG : zG F)  (v1 : Int) (v2 : Int)   (D : zDa) : zO l E (d + 90) YX12_behind 30 [(0, zR 91), (1, zI v1), (2, zI v2)] [] (F, D, n, sl) (zcI F n sl) (fX12_behind_30 F v1 v2 D) := by
  unfold fX12_behind_30
  refine zO_aload_n dX12_behind_30 rfl (zR_P _) ?_
  refine zO_callV (Y' := YX12_lives) (cw := zcV F n sl) (as := []) (rest := []) (na := 0) (ci := 12) rfl dX12_behind_31 wC_X12_lives wN_X12 wM_X12_431 wI_X12_lives wV_X12_lives (by decide) (by decide) rfl rfl (Nat.le_of_ble_eq_true rfl) rfl (by decide) (gk_91 hG) (fun r hr => zMet_cast (Nat.add_assoc d 0 89) (mX12_lives (d := d + 0) hG  r hr)) ?_
  intro D_6 _
  show zO _ _ _ _ _ _ [] (F, D_6, n, sl) _ _
  refine zO_iload_n dX12_behind_34 rfl ?_
  refine zO_iconst dX12_behind_35 (by decide) ?_
  refine zO_icmp_ne (tgt := 48) dX12_behind_36 rfl (fun c36 => ?_) (fun c36 => ?_)
  · refine zO_chk (fun h2 => ?_)
    refine zO_aload_n dX12_behind_39 rfl (zR_P _) ?_
    refine gt12 (k := 40) dX12_behind_40 wF_X12_93 (by decide) (gk_91 hG) (zgv (c := 12) (k := 40) rfl (Or.inl ⟨_, rfl⟩) (gf_91_40 hG)) ?_
    refine zO_iload_n dX12_behind_43 rfl ?_
    refine zO_iald dX12_behind_44 (gk_114 hG) (gl_in (gl_114 hG) h2) ?_
    refine zO_goto (tgt := 59) dX12_behind_45 rfl ?_
    exact zO_ret (rv := some (zI (D_6 114 v1.toNat))) dX12_behind_59 rfl rfl rfl
  · refine zO_chk (fun h3 => ?_)
    refine zO_aload_n dX12_behind_48 rfl (zR_P _) ?_
    refine gt12 (k := 39) dX12_behind_49 wF_X12_90 (by decide) (gk_91 hG) (zgv (c := 12) (k := 39) rfl (Or.inl ⟨_, rfl⟩) (gf_91_39 hG)) ?_
    refine zO_bipush dX12_behind_52 (by decide) ?_
    refine zO_iload_n dX12_behind_54 rfl ?_
    refine zO_imul dX12_behind_55 h3.1 ?_
    refine zO_iload_n dX12_behind_56 rfl ?_
    refine zO_iadd dX12_behind_57 h3.2.1 ?_
    refine zO_iald dX12_behind_58 (gk_113 hG) (gl_in (gl_113 hG) h3.2.2) ?_
    exact zO_ret (rv := some (zI (D_6 113 ((20 * v2) + v1).toNat))) dX12_behind_59 rfl rfl rfl
set_option maxHeartbeats 20000000 in
theorem mX12_behind {l : Launch} {E : zE} {d : Nat} {F : zFs} {n sl : Nat} (hG : zG F) (v1 : Int) (v2 : Int) {D : zDa} : ∀ r, fX12_behind F  v1 v2 D = some r → zMet l E (d + 90) YX12_behind [zR 91, zI v1, zI v2] (F, D, n, sl) (zcI F n sl r) := by
  intro r hr
  refine zMet_of (plainFor_of_name (by decide)) (fun _ h => (nomatch h)) (Nat.le_of_ble_eq_true rfl) ?_
  have hz : zO l E (d + 90) YX12_behind 0 [(0, zR 91), (1, zI v1), (2, zI v2)] [] (F, D, n, sl) (zcI F n sl) (fX12_behind F  v1 v2 D) := by
    unfold fX12_behind
    refine zO_iload_n dX12_behind_0 rfl ?_
    refine zO_iconst dX12_behind_1 (by decide) ?_
    refine zO_aload_n dX12_behind_2 rfl (zR_P _) ?_
    refine zO_iconst dX12_behind_3 (by decide) ?_
    refine zO_callV (Y' := YX12_term) (cw := zcI F n sl) (as := [zI 5]) (rest := [zI 0, zI v1]) (na := 1) (ci := 12) rfl dX12_behind_4 wC_X12_term wN_X12 wM_X12_318 wI_X12_term wV_X12_term (by decide) (by decide) rfl rfl (Nat.le_of_ble_eq_true rfl) rfl (by decide) (gk_91 hG) (fun r hr => zMet_cast (Nat.add_assoc d 89 0) (mX12_term (d := d + 89) hG 5 r hr)) ?_
    rintro ⟨r_1, D_2⟩ -
    show zO _ _ _ _ _ _ [zI r_1, zI 0, zI v1] (F, D_2, n, sl) _ _
    refine zO_chk (fun h1 => ?_)
    refine zO_iconst dX12_behind_7 (by decide) ?_
    refine zO_isub dX12_behind_8 h1 ?_
    refine zO_callS (Y' := YX12_lies) (cw := zcI F n sl) (as := [zI v1, zI 0, zI (r_1 - 1)]) (rest := []) (na := 3) dX12_behind_9 wC_X12_lies wN_X12 wM_X12_135 wS_X12_lies (by decide) (by decide) rfl rfl (Nat.le_of_ble_eq_true rfl) (fun r hr => zMet_cast (Nat.add_assoc d 89 0) (mX12_lies (d := d + 89) hG v1 0 (r_1 - 1) r hr)) ?_
    rintro ⟨r_3, D_4⟩ -
    show zO _ _ _ _ _ _ [zI r_3] (F, D_4, n, sl) _ _
    refine zO_if_eq (tgt := 28) dX12_behind_12 rfl (fun c12 => ?_) (fun c12 => ?_)
    · refine zO_iconst dX12_behind_28 (by decide) ?_
      exact zO_ret (rv := some (zI (-1))) dX12_behind_29 rfl rfl rfl
    · refine zO_iload_n dX12_behind_15 rfl ?_
      refine zO_iconst dX12_behind_16 (by decide) ?_
      refine zO_icmp_eq (tgt := 30) dX12_behind_17 rfl (fun c17 => ?_) (fun c17 => ?_)
      · refine zO_live [0, 1, 2] ?_
        exact sX12_behind_30 hG v1 v2 D_4
      · refine zO_aload_n dX12_behind_20 rfl (zR_P _) ?_
        refine zO_iload_n dX12_behind_21 rfl ?_
        refine zO_callV (Y' := YX12_isQuestion) (cw := zcI F n sl) (as := [zI v2]) (rest := []) (na := 1) (ci := 12) rfl dX12_behind_22 wC_X12_isQuestion wN_X12 wM_X12_158 wI_X12_isQuestion wV_X12_isQuestion (by decide) (by decide) rfl rfl (Nat.le_of_ble_eq_true rfl) rfl (by decide) (gk_91 hG) (fun r hr => zMet_cast (Nat.add_assoc d 88 1) (mX12_isQuestion (d := d + 88) hG v2 r hr)) ?_
        rintro ⟨r_7, D_8⟩ -
        show zO _ _ _ _ _ _ [zI r_7] (F, D_8, n, sl) _ _
        refine zO_if_ne (tgt := 30) dX12_behind_25 rfl (fun c25 => ?_) (fun c25 => ?_)
        · refine zO_iconst dX12_behind_28 (by decide) ?_
          exact zO_ret (rv := some (zI (-1))) dX12_behind_29 rfl rfl rfl
        · refine zO_live [0, 1, 2] ?_
          exact sX12_behind_30 hG v1 v2 D_8
  exact hz r hr
