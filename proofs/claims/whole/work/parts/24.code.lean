/-! printed by wip/gen/emit_all.py: X4_weighPairs X4_refresh X4_fewestHours X5_multiply X5_divide X5_addTerm X5_noMoreThan X6_isLetter X6_isDigit X6_nameNumber J0_coder_7d493 J0_length_8abf5 J0_isLatin1_aae02 J1_charAt_3b067 J0_charAt_5068e X6_placeOf X6_name -/
theorem dX4_weighPairs_0 : decode cX4_weighPairs 0 = .ok (.aload_n 0, 1) := by decide +kernel
theorem dX4_weighPairs_1 : decode cX4_weighPairs 1 = .ok (.getfield 57, 3) := by decide +kernel
theorem dX4_weighPairs_4 : decode cX4_weighPairs 4 = .ok (.getfield 143, 3) := by decide +kernel
theorem dX4_weighPairs_7 : decode cX4_weighPairs 7 = .ok (.iconst 0, 1) := by decide +kernel
theorem dX4_weighPairs_8 : decode cX4_weighPairs 8 = .ok (.iaload, 1) := by decide +kernel
theorem dX4_weighPairs_9 : decode cX4_weighPairs 9 = .ok (.aload_n 0, 1) := by decide +kernel
theorem dX4_weighPairs_10 : decode cX4_weighPairs 10 = .ok (.getfield 83, 3) := by decide +kernel
theorem dX4_weighPairs_13 : decode cX4_weighPairs 13 = .ok (.invokestatic 140, 3) := by decide +kernel
theorem dX4_weighPairs_16 : decode cX4_weighPairs 16 = .ok (.istore_n 1, 1) := by decide +kernel
theorem dX4_weighPairs_17 : decode cX4_weighPairs 17 = .ok (.aload_n 0, 1) := by decide +kernel
theorem dX4_weighPairs_18 : decode cX4_weighPairs 18 = .ok (.getfield 65, 3) := by decide +kernel
theorem dX4_weighPairs_21 : decode cX4_weighPairs 21 = .ok (.aload_n 0, 1) := by decide +kernel
theorem dX4_weighPairs_22 : decode cX4_weighPairs 22 = .ok (.getfield 61, 3) := by decide +kernel
theorem dX4_weighPairs_25 : decode cX4_weighPairs 25 = .ok (.invokevirtual 146, 3) := by decide +kernel
theorem dX4_weighPairs_28 : decode cX4_weighPairs 28 = .ok (.aload_n 0, 1) := by decide +kernel
theorem dX4_weighPairs_29 : decode cX4_weighPairs 29 = .ok (.aload_n 0, 1) := by decide +kernel
theorem dX4_weighPairs_30 : decode cX4_weighPairs 30 = .ok (.getfield 65, 3) := by decide +kernel
theorem dX4_weighPairs_33 : decode cX4_weighPairs 33 = .ok (.aload_n 0, 1) := by decide +kernel
theorem dX4_weighPairs_34 : decode cX4_weighPairs 34 = .ok (.getfield 83, 3) := by decide +kernel
theorem dX4_weighPairs_37 : decode cX4_weighPairs 37 = .ok (.iload_n 1, 1) := by decide +kernel
theorem dX4_weighPairs_38 : decode cX4_weighPairs 38 = .ok (.invokevirtual 152, 3) := by decide +kernel
theorem dX4_weighPairs_41 : decode cX4_weighPairs 41 = .ok (.ldc2_w 156, 3) := by decide +kernel
theorem dX4_weighPairs_44 : decode cX4_weighPairs 44 = .ok (.lmul, 1) := by decide +kernel
theorem dX4_weighPairs_45 : decode cX4_weighPairs 45 = .ok (.putfield 53, 3) := by decide +kernel
theorem dX4_weighPairs_48 : decode cX4_weighPairs 48 = .ok (.iconst 0, 1) := by decide +kernel
theorem dX4_weighPairs_49 : decode cX4_weighPairs 49 = .ok (.istore_n 2, 1) := by decide +kernel
theorem dX4_weighPairs_50 : decode cX4_weighPairs 50 = .ok (.iload_n 2, 1) := by decide +kernel
theorem dX4_weighPairs_51 : decode cX4_weighPairs 51 = .ok (.iload_n 1, 1) := by decide +kernel
theorem dX4_weighPairs_52 : decode cX4_weighPairs 52 = .ok (.if_icmp .gt 63, 3) := by decide +kernel
theorem dX4_weighPairs_55 : decode cX4_weighPairs 55 = .ok (.iconst 0, 1) := by decide +kernel
theorem dX4_weighPairs_56 : decode cX4_weighPairs 56 = .ok (.istore_n 3, 1) := by decide +kernel
theorem dX4_weighPairs_57 : decode cX4_weighPairs 57 = .ok (.iload_n 3, 1) := by decide +kernel
theorem dX4_weighPairs_58 : decode cX4_weighPairs 58 = .ok (.iload_n 1, 1) := by decide +kernel
theorem dX4_weighPairs_59 : decode cX4_weighPairs 59 = .ok (.iload_n 2, 1) := by decide +kernel
theorem dX4_weighPairs_60 : decode cX4_weighPairs 60 = .ok (.isub, 1) := by decide +kernel
theorem dX4_weighPairs_61 : decode cX4_weighPairs 61 = .ok (.if_icmp .gt 48, 3) := by decide +kernel
theorem dX4_weighPairs_64 : decode cX4_weighPairs 64 = .ok (.aload_n 0, 1) := by decide +kernel
theorem dX4_weighPairs_65 : decode cX4_weighPairs 65 = .ok (.getfield 41, 3) := by decide +kernel
theorem dX4_weighPairs_68 : decode cX4_weighPairs 68 = .ok (.iload_n 2, 1) := by decide +kernel
theorem dX4_weighPairs_69 : decode cX4_weighPairs 69 = .ok (.bipush 11, 2) := by decide +kernel
theorem dX4_weighPairs_71 : decode cX4_weighPairs 71 = .ok (.imul, 1) := by decide +kernel
theorem dX4_weighPairs_72 : decode cX4_weighPairs 72 = .ok (.iload_n 3, 1) := by decide +kernel
theorem dX4_weighPairs_73 : decode cX4_weighPairs 73 = .ok (.iadd, 1) := by decide +kernel
theorem dX4_weighPairs_74 : decode cX4_weighPairs 74 = .ok (.aload_n 0, 1) := by decide +kernel
theorem dX4_weighPairs_75 : decode cX4_weighPairs 75 = .ok (.getfield 65, 3) := by decide +kernel
theorem dX4_weighPairs_78 : decode cX4_weighPairs 78 = .ok (.iload_n 1, 1) := by decide +kernel
theorem dX4_weighPairs_79 : decode cX4_weighPairs 79 = .ok (.iload_n 2, 1) := by decide +kernel
theorem dX4_weighPairs_80 : decode cX4_weighPairs 80 = .ok (.iload_n 3, 1) := by decide +kernel
theorem dX4_weighPairs_81 : decode cX4_weighPairs 81 = .ok (.aload_n 0, 1) := by decide +kernel
theorem dX4_weighPairs_82 : decode cX4_weighPairs 82 = .ok (.getfield 57, 3) := by decide +kernel
theorem dX4_weighPairs_85 : decode cX4_weighPairs 85 = .ok (.getfield 143, 3) := by decide +kernel
theorem dX4_weighPairs_88 : decode cX4_weighPairs 88 = .ok (.iconst 1, 1) := by decide +kernel
theorem dX4_weighPairs_89 : decode cX4_weighPairs 89 = .ok (.iaload, 1) := by decide +kernel
theorem dX4_weighPairs_90 : decode cX4_weighPairs 90 = .ok (.aload_n 0, 1) := by decide +kernel
theorem dX4_weighPairs_91 : decode cX4_weighPairs 91 = .ok (.getfield 57, 3) := by decide +kernel
theorem dX4_weighPairs_94 : decode cX4_weighPairs 94 = .ok (.getfield 143, 3) := by decide +kernel
theorem dX4_weighPairs_97 : decode cX4_weighPairs 97 = .ok (.iconst 2, 1) := by decide +kernel
theorem dX4_weighPairs_98 : decode cX4_weighPairs 98 = .ok (.iaload, 1) := by decide +kernel
theorem dX4_weighPairs_99 : decode cX4_weighPairs 99 = .ok (.invokevirtual 158, 3) := by decide +kernel
theorem dX4_weighPairs_102 : decode cX4_weighPairs 102 = .ok (.lastore, 1) := by decide +kernel
theorem dX4_weighPairs_103 : decode cX4_weighPairs 103 = .ok (.iinc 3 1, 3) := by decide +kernel
theorem dX4_weighPairs_106 : decode cX4_weighPairs 106 = .ok (.goto (-49), 3) := by decide +kernel
theorem dX4_weighPairs_109 : decode cX4_weighPairs 109 = .ok (.iinc 2 1, 3) := by decide +kernel
theorem dX4_weighPairs_112 : decode cX4_weighPairs 112 = .ok (.goto (-62), 3) := by decide +kernel
theorem dX4_weighPairs_115 : decode cX4_weighPairs 115 = .ok (.iconst 0, 1) := by decide +kernel
theorem dX4_weighPairs_116 : decode cX4_weighPairs 116 = .ok (.istore_n 2, 1) := by decide +kernel
theorem dX4_weighPairs_117 : decode cX4_weighPairs 117 = .ok (.iload_n 2, 1) := by decide +kernel
theorem dX4_weighPairs_118 : decode cX4_weighPairs 118 = .ok (.aload_n 0, 1) := by decide +kernel
theorem dX4_weighPairs_119 : decode cX4_weighPairs 119 = .ok (.getfield 83, 3) := by decide +kernel
theorem dX4_weighPairs_122 : decode cX4_weighPairs 122 = .ok (.if_icmp .gt 44, 3) := by decide +kernel
theorem dX4_weighPairs_125 : decode cX4_weighPairs 125 = .ok (.iconst 0, 1) := by decide +kernel
theorem dX4_weighPairs_126 : decode cX4_weighPairs 126 = .ok (.istore_n 3, 1) := by decide +kernel
theorem dX4_weighPairs_127 : decode cX4_weighPairs 127 = .ok (.iload_n 3, 1) := by decide +kernel
theorem dX4_weighPairs_128 : decode cX4_weighPairs 128 = .ok (.aload_n 0, 1) := by decide +kernel
theorem dX4_weighPairs_129 : decode cX4_weighPairs 129 = .ok (.getfield 83, 3) := by decide +kernel
theorem dX4_weighPairs_132 : decode cX4_weighPairs 132 = .ok (.iload_n 2, 1) := by decide +kernel
theorem dX4_weighPairs_133 : decode cX4_weighPairs 133 = .ok (.isub, 1) := by decide +kernel
theorem dX4_weighPairs_134 : decode cX4_weighPairs 134 = .ok (.if_icmp .gt 26, 3) := by decide +kernel
theorem dX4_weighPairs_137 : decode cX4_weighPairs 137 = .ok (.aload_n 0, 1) := by decide +kernel
theorem dX4_weighPairs_138 : decode cX4_weighPairs 138 = .ok (.getfield 37, 3) := by decide +kernel
theorem dX4_weighPairs_141 : decode cX4_weighPairs 141 = .ok (.iload_n 2, 1) := by decide +kernel
theorem dX4_weighPairs_142 : decode cX4_weighPairs 142 = .ok (.iload_n 3, 1) := by decide +kernel
theorem dX4_weighPairs_143 : decode cX4_weighPairs 143 = .ok (.invokestatic 162, 3) := by decide +kernel
theorem dX4_weighPairs_146 : decode cX4_weighPairs 146 = .ok (.aload_n 0, 1) := by decide +kernel
theorem dX4_weighPairs_147 : decode cX4_weighPairs 147 = .ok (.iload_n 2, 1) := by decide +kernel
theorem dX4_weighPairs_148 : decode cX4_weighPairs 148 = .ok (.iload_n 3, 1) := by decide +kernel
theorem dX4_weighPairs_149 : decode cX4_weighPairs 149 = .ok (.iload_n 1, 1) := by decide +kernel
theorem dX4_weighPairs_150 : decode cX4_weighPairs 150 = .ok (.invokevirtual 165, 3) := by decide +kernel
theorem dX4_weighPairs_153 : decode cX4_weighPairs 153 = .ok (.lastore, 1) := by decide +kernel
theorem dX4_weighPairs_154 : decode cX4_weighPairs 154 = .ok (.iinc 3 1, 3) := by decide +kernel
theorem dX4_weighPairs_157 : decode cX4_weighPairs 157 = .ok (.goto (-30), 3) := by decide +kernel
theorem dX4_weighPairs_160 : decode cX4_weighPairs 160 = .ok (.iinc 2 1, 3) := by decide +kernel
theorem dX4_weighPairs_163 : decode cX4_weighPairs 163 = .ok (.goto (-46), 3) := by decide +kernel
theorem dX4_weighPairs_166 : decode cX4_weighPairs 166 = .ok (.return_, 1) := by decide +kernel
abbrev YX4_weighPairs : zY := (yX4_weighPairs, cX4_weighPairs, 4, none, [])
def fX4_weighPairs_127 (F : zFs) (o1 : Int) (o2 : Int) (k_117 : Int → zDa → Option zDa) (k_127 : Int → zDa → Option zDa) (v3 : Int) (D : zDa) : Option zDa :=
  if (-2147483648 ≤ (D 60 5) - o2 ∧ (D 60 5) - o2 ≤ 2147483647) then
    if ((D 60 5) - o2) < v3 then
      if (-2147483648 ≤ o2 + 1 ∧ o2 + 1 ≤ 2147483647) then
        k_117 (o2 + 1) D
      else none
    else
      (fX4_pairPlace F o2 v3 D).bind (fun (r_8, D_9) =>
        (fX4_waysOf F o2 v3 o1 D_9).bind (fun (r_10, D_11) =>
          if (0 ≤ r_8 ∧ r_8 < 231) then
            zlet (zwr D_11 67 r_8.toNat r_10) (fun D_12 =>
              if (-2147483648 ≤ v3 + 1 ∧ v3 + 1 ≤ 2147483647) then
                k_127 (v3 + 1) D_12
              else none)
          else none))
  else none
def fX4_weighPairs_117 (F : zFs) (o1 : Int)  (k_117 : Int → zDa → Option zDa) (v2 : Int) (D : zDa) : Option zDa :=
  if (D 60 5) < v2 then
    some D
  else
    zfix (fun _ _ => none) (fX4_weighPairs_127 F o1 v2 k_117) zfu 0 D
def fX4_weighPairs_57 (F : zFs) (o1 : Int) (o2 : Int) (k_50 : Int → zDa → Option zDa) (k_57 : Int → zDa → Option zDa) (v3 : Int) (D : zDa) : Option zDa :=
  if (-2147483648 ≤ o1 - o2 ∧ o1 - o2 ≤ 2147483647) then
    if (o1 - o2) < v3 then
      if (-2147483648 ≤ o2 + 1 ∧ o2 + 1 ≤ 2147483647) then
        k_50 (o2 + 1) D
      else none
    else
      if (-2147483648 ≤ o2 * 11 ∧ o2 * 11 ≤ 2147483647) ∧ (-2147483648 ≤ (o2 * 11) + v3 ∧ (o2 * 11) + v3 ≤ 2147483647) then
        (fX2_passing F o1 o2 v3 (D 7 1) (D 7 2) D).bind (fun (r_13, D_14) =>
          if (0 ≤ ((o2 * 11) + v3) ∧ ((o2 * 11) + v3) < 121) then
            zlet (zwr D_14 68 ((o2 * 11) + v3).toNat r_13) (fun D_15 =>
              if (-2147483648 ≤ v3 + 1 ∧ v3 + 1 ≤ 2147483647) then
                k_57 (v3 + 1) D_15
              else none)
          else none)
      else none
  else none
def fX4_weighPairs_50 (F : zFs) (o1 : Int)  (k_50 : Int → zDa → Option zDa) (v2 : Int) (D : zDa) : Option zDa :=
  if o1 < v2 then
    zfix (fun _ _ => none) (fX4_weighPairs_117 F o1) zfu 0 D
  else
    zfix (fun _ _ => none) (fX4_weighPairs_57 F o1 v2 k_50) zfu 0 D
def fX4_weighPairs (F : zFs)  (D : zDa) : Option zDa :=
  (fJ9_min_7cf53 F (D 7 0) (D 60 5) D).bind (fun (r_1, D_2) =>
    (fX2_setChances F D_2).bind (fun D_4 =>
      (fX2_sets F (D_4 60 5) r_1 D_4).bind (fun (r_5, D_6) =>
        if (-9223372036854775808 ≤ r_5 * 1000000 ∧ r_5 * 1000000 ≤ 9223372036854775807) then
          zlet (zwr D_6 60 17 (r_5 * 1000000)) (fun D_7 =>
            zfix (fun _ _ => none) (fX4_weighPairs_50 F r_1) zfu 0 D_7)
        else none)))
set_option maxHeartbeats 20000000 in
theorem sX4_weighPairs_127 {l : Launch} {E : zE} {d : Nat} {F : zFs} {n sl : Nat} (hG : zG F)  (o1 : Int) (o2 : Int) (k_117 : Int → zDa → Option zDa) (hk_117 : ∀ (u2 : Int) (D : zDa), zO l E (d + 5) YX4_weighPairs 117 [(0, zR 60), (1, zI o1), (2, zI u2)] [] (F, D, n, sl) (zcV F n sl) (k_117 u2 D)) : ∀ (N : Nat) (v3 : Int) (D : zDa), zO l E (d + 5) YX4_weighPairs 127 [(0, zR 60), (1, zI o1), (2, zI o2), (3, zI v3)] [] (F, D, n, sl) (zcV F n sl) (zfix (fun _ _ => none) (fX4_weighPairs_127 F o1 o2 k_117) N v3 D) := by
  intro N
  induction N with
  | zero => intro v3 D; exact zO_none
  | succ N hk_127 =>
    intro v3 D
    show zO _ _ _ _ _ _ _ _ _ ((fX4_weighPairs_127 F o1 o2 k_117) (zfix (fun _ _ => none) (fX4_weighPairs_127 F o1 o2 k_117) N) v3 D)
    unfold fX4_weighPairs_127
    refine zO_chk (fun h2 => ?_)
    refine zO_iload_n dX4_weighPairs_127 rfl ?_
    refine zO_aload_n dX4_weighPairs_128 rfl (zR_P _) ?_
    refine gt4 (k := 5) (v := zI (D 60 5)) dX4_weighPairs_129 wF_X4_83 (by decide) (gk_60 hG) rfl ?_
    refine zO_iload_n dX4_weighPairs_132 rfl ?_
    refine zO_isub dX4_weighPairs_133 h2 ?_
    refine zO_icmp_gt (tgt := 160) dX4_weighPairs_134 rfl (fun c134 => ?_) (fun c134 => ?_)
    · refine zO_chk (fun h3 => ?_)
      refine zO_iinc dX4_weighPairs_160 rfl h3 (by decide) ?_
      refine zO_ls (ls' := [(0, zR 60), (1, zI o1), (2, zI (o2 + 1)), (3, zI v3)]) rfl ?_
      refine zO_goto (tgt := 117) dX4_weighPairs_163 rfl ?_
      refine zO_live [0, 1, 2] ?_
      exact hk_117 (o2 + 1) D
    · refine zO_aload_n dX4_weighPairs_137 rfl (zR_P _) ?_
      refine gt4 (k := 12) dX4_weighPairs_138 wF_X4_37 (by decide) (gk_60 hG) (zgv (c := 4) (k := 12) rfl (Or.inl ⟨_, rfl⟩) (gf_60_12 hG)) ?_
      refine zO_iload_n dX4_weighPairs_141 rfl ?_
      refine zO_iload_n dX4_weighPairs_142 rfl ?_
      refine zO_callS (Y' := YX4_pairPlace) (cw := zcI F n sl) (as := [zI o2, zI v3]) (rest := [zR 67]) (na := 2) dX4_weighPairs_143 wC_X4_pairPlace wN_X4 wM_X4_162 wS_X4_pairPlace (by decide) (by decide) rfl rfl (Nat.le_of_ble_eq_true rfl) (fun r hr => zMet_cast (Nat.add_assoc d 4 0) (mX4_pairPlace (d := d + 4) hG o2 v3 r hr)) ?_
      rintro ⟨r_8, D_9⟩ -
      show zO _ _ _ _ _ _ [zI r_8, zR 67] (F, D_9, n, sl) _ _
      refine zO_aload_n dX4_weighPairs_146 rfl (zR_P _) ?_
      refine zO_iload_n dX4_weighPairs_147 rfl ?_
      refine zO_iload_n dX4_weighPairs_148 rfl ?_
      refine zO_iload_n dX4_weighPairs_149 rfl ?_
      refine zO_callV (Y' := YX4_waysOf) (cw := zcJ F n sl) (as := [zI o2, zI v3, zI o1]) (rest := [zI r_8, zR 67]) (na := 3) (ci := 4) rfl dX4_weighPairs_150 wC_X4_waysOf wN_X4 wM_X4_165 wI_X4_waysOf wV_X4_waysOf (by decide) (by decide) rfl rfl (Nat.le_of_ble_eq_true rfl) rfl (by decide) (gk_60 hG) (fun r hr => zMet_cast (Nat.add_assoc d 3 1) (mX4_waysOf (d := d + 3) hG o2 v3 o1 r hr)) ?_
      rintro ⟨r_10, D_11⟩ -
      show zO _ _ _ _ _ _ [zL r_10, zI r_8, zR 67] (F, D_11, n, sl) _ _
      refine zO_chk (fun h4 => ?_)
      refine zO_last dX4_weighPairs_153 (gk_67 hG) (gl_in (gl_67 hG) h4) ?_
      refine zO_letD (fun D_12 eD_12 => ?_)
      refine zO_chk (fun h5 => ?_)
      refine zO_iinc dX4_weighPairs_154 rfl h5 (by decide) ?_
      refine zO_ls (ls' := [(0, zR 60), (1, zI o1), (2, zI o2), (3, zI (v3 + 1))]) rfl ?_
      refine zO_goto (tgt := 127) dX4_weighPairs_157 rfl ?_
      refine zO_live [0, 1, 2, 3] ?_
      exact hk_127 (v3 + 1) D_12
set_option maxHeartbeats 20000000 in
theorem sX4_weighPairs_117 {l : Launch} {E : zE} {d : Nat} {F : zFs} {n sl : Nat} (hG : zG F)  (o1 : Int)   : ∀ (N : Nat) (v2 : Int) (D : zDa), zO l E (d + 5) YX4_weighPairs 117 [(0, zR 60), (1, zI o1), (2, zI v2)] [] (F, D, n, sl) (zcV F n sl) (zfix (fun _ _ => none) (fX4_weighPairs_117 F o1) N v2 D) := by
  intro N
  induction N with
  | zero => intro v2 D; exact zO_none
  | succ N hk_117 =>
    intro v2 D
    show zO _ _ _ _ _ _ _ _ _ ((fX4_weighPairs_117 F o1) (zfix (fun _ _ => none) (fX4_weighPairs_117 F o1) N) v2 D)
    unfold fX4_weighPairs_117
    refine zO_iload_n dX4_weighPairs_117 rfl ?_
    refine zO_aload_n dX4_weighPairs_118 rfl (zR_P _) ?_
    refine gt4 (k := 5) (v := zI (D 60 5)) dX4_weighPairs_119 wF_X4_83 (by decide) (gk_60 hG) rfl ?_
    refine zO_icmp_gt (tgt := 166) dX4_weighPairs_122 rfl (fun c122 => ?_) (fun c122 => ?_)
    · exact zO_ret (rv := none) dX4_weighPairs_166 rfl trivial rfl
    · refine zO_iconst dX4_weighPairs_125 (by decide) ?_
      refine zO_istore_n dX4_weighPairs_126 (by decide) ?_
      refine zO_ls (ls' := [(0, zR 60), (1, zI o1), (2, zI v2), (3, zI 0)]) rfl ?_
      refine zO_live [0, 1, 2, 3] ?_
      exact sX4_weighPairs_127 hG o1 v2 _ hk_117 zfu 0 D
set_option maxHeartbeats 20000000 in
theorem sX4_weighPairs_57 {l : Launch} {E : zE} {d : Nat} {F : zFs} {n sl : Nat} (hG : zG F)  (o1 : Int) (o2 : Int) (k_50 : Int → zDa → Option zDa) (hk_50 : ∀ (u2 : Int) (D : zDa), zO l E (d + 5) YX4_weighPairs 50 [(0, zR 60), (1, zI o1), (2, zI u2)] [] (F, D, n, sl) (zcV F n sl) (k_50 u2 D)) : ∀ (N : Nat) (v3 : Int) (D : zDa), zO l E (d + 5) YX4_weighPairs 57 [(0, zR 60), (1, zI o1), (2, zI o2), (3, zI v3)] [] (F, D, n, sl) (zcV F n sl) (zfix (fun _ _ => none) (fX4_weighPairs_57 F o1 o2 k_50) N v3 D) := by
  intro N
  induction N with
  | zero => intro v3 D; exact zO_none
  | succ N hk_57 =>
    intro v3 D
    show zO _ _ _ _ _ _ _ _ _ ((fX4_weighPairs_57 F o1 o2 k_50) (zfix (fun _ _ => none) (fX4_weighPairs_57 F o1 o2 k_50) N) v3 D)
    unfold fX4_weighPairs_57
    refine zO_chk (fun h6 => ?_)
    refine zO_iload_n dX4_weighPairs_57 rfl ?_
    refine zO_iload_n dX4_weighPairs_58 rfl ?_
    refine zO_iload_n dX4_weighPairs_59 rfl ?_
    refine zO_isub dX4_weighPairs_60 h6 ?_
    refine zO_icmp_gt (tgt := 109) dX4_weighPairs_61 rfl (fun c61 => ?_) (fun c61 => ?_)
    · refine zO_chk (fun h7 => ?_)
      refine zO_iinc dX4_weighPairs_109 rfl h7 (by decide) ?_
      refine zO_ls (ls' := [(0, zR 60), (1, zI o1), (2, zI (o2 + 1)), (3, zI v3)]) rfl ?_
      refine zO_goto (tgt := 50) dX4_weighPairs_112 rfl ?_
      refine zO_live [0, 1, 2] ?_
      exact hk_50 (o2 + 1) D
    · refine zO_chk (fun h8 => ?_)
      refine zO_aload_n dX4_weighPairs_64 rfl (zR_P _) ?_
      refine gt4 (k := 13) dX4_weighPairs_65 wF_X4_41 (by decide) (gk_60 hG) (zgv (c := 4) (k := 13) rfl (Or.inl ⟨_, rfl⟩) (gf_60_13 hG)) ?_
      refine zO_iload_n dX4_weighPairs_68 rfl ?_
      refine zO_bipush dX4_weighPairs_69 (by decide) ?_
      refine zO_imul dX4_weighPairs_71 h8.1 ?_
      refine zO_iload_n dX4_weighPairs_72 rfl ?_
      refine zO_iadd dX4_weighPairs_73 h8.2 ?_
      refine zO_aload_n dX4_weighPairs_74 rfl (zR_P _) ?_
      refine gt4 (k := 2) dX4_weighPairs_75 wF_X4_65 (by decide) (gk_60 hG) (zgv (c := 4) (k := 2) rfl (Or.inr ⟨_, rfl⟩) (gf_60_2 hG)) ?_
      refine zO_iload_n dX4_weighPairs_78 rfl ?_
      refine zO_iload_n dX4_weighPairs_79 rfl ?_
      refine zO_iload_n dX4_weighPairs_80 rfl ?_
      refine zO_aload_n dX4_weighPairs_81 rfl (zR_P _) ?_
      refine gt4 (k := 0) dX4_weighPairs_82 wF_X4_57 (by decide) (gk_60 hG) (zgv (c := 4) (k := 0) rfl (Or.inr ⟨_, rfl⟩) (gf_60_0 hG)) ?_
      refine gt9 (k := 6) dX4_weighPairs_85 wF_X4_143 (by decide) (gk_1 hG) (zgv (c := 9) (k := 6) rfl (Or.inl ⟨_, rfl⟩) (gf_1_6 hG)) ?_
      refine zO_iconst dX4_weighPairs_88 (by decide) ?_
      refine zO_iald dX4_weighPairs_89 (gk_7 hG) (gl_in (gl_7 hG) (by decide)) ?_
      refine zO_aload_n dX4_weighPairs_90 rfl (zR_P _) ?_
      refine gt4 (k := 0) dX4_weighPairs_91 wF_X4_57 (by decide) (gk_60 hG) (zgv (c := 4) (k := 0) rfl (Or.inr ⟨_, rfl⟩) (gf_60_0 hG)) ?_
      refine gt9 (k := 6) dX4_weighPairs_94 wF_X4_143 (by decide) (gk_1 hG) (zgv (c := 9) (k := 6) rfl (Or.inl ⟨_, rfl⟩) (gf_1_6 hG)) ?_
      refine zO_iconst dX4_weighPairs_97 (by decide) ?_
      refine zO_iald dX4_weighPairs_98 (gk_7 hG) (gl_in (gl_7 hG) (by decide)) ?_
      refine zO_callV (Y' := YX2_passing) (cw := zcJ F n sl) (as := [zI o1, zI o2, zI v3, zI (D 7 1), zI (D 7 2)]) (rest := [zI ((o2 * 11) + v3), zR 68]) (na := 5) (ci := 2) rfl dX4_weighPairs_99 wC_X2_passing wN_X2 wM_X4_158 wI_X2_passing wV_X2_passing (by decide) (by decide) rfl rfl (Nat.le_of_ble_eq_true rfl) rfl (by decide) (gk_52 hG) (fun r hr => zMet_cast (Nat.add_assoc d 2 2) (mX2_passing (d := d + 2) hG o1 o2 v3 (D 7 1) (D 7 2) r hr)) ?_
      rintro ⟨r_13, D_14⟩ -
      show zO _ _ _ _ _ _ [zL r_13, zI ((o2 * 11) + v3), zR 68] (F, D_14, n, sl) _ _
      refine zO_chk (fun h9 => ?_)
      refine zO_last dX4_weighPairs_102 (gk_68 hG) (gl_in (gl_68 hG) h9) ?_
      refine zO_letD (fun D_15 eD_15 => ?_)
      refine zO_chk (fun h10 => ?_)
      refine zO_iinc dX4_weighPairs_103 rfl h10 (by decide) ?_
      refine zO_ls (ls' := [(0, zR 60), (1, zI o1), (2, zI o2), (3, zI (v3 + 1))]) rfl ?_
      refine zO_goto (tgt := 57) dX4_weighPairs_106 rfl ?_
      refine zO_live [0, 1, 2, 3] ?_
      exact hk_57 (v3 + 1) D_15
set_option maxHeartbeats 20000000 in
theorem sX4_weighPairs_50 {l : Launch} {E : zE} {d : Nat} {F : zFs} {n sl : Nat} (hG : zG F)  (o1 : Int)   : ∀ (N : Nat) (v2 : Int) (D : zDa), zO l E (d + 5) YX4_weighPairs 50 [(0, zR 60), (1, zI o1), (2, zI v2)] [] (F, D, n, sl) (zcV F n sl) (zfix (fun _ _ => none) (fX4_weighPairs_50 F o1) N v2 D) := by
  intro N
  induction N with
  | zero => intro v2 D; exact zO_none
  | succ N hk_50 =>
    intro v2 D
    show zO _ _ _ _ _ _ _ _ _ ((fX4_weighPairs_50 F o1) (zfix (fun _ _ => none) (fX4_weighPairs_50 F o1) N) v2 D)
    unfold fX4_weighPairs_50
    refine zO_iload_n dX4_weighPairs_50 rfl ?_
    refine zO_iload_n dX4_weighPairs_51 rfl ?_
    refine zO_icmp_gt (tgt := 115) dX4_weighPairs_52 rfl (fun c52 => ?_) (fun c52 => ?_)
    · refine zO_iconst dX4_weighPairs_115 (by decide) ?_
      refine zO_istore_n dX4_weighPairs_116 (by decide) ?_
      refine zO_ls (ls' := [(0, zR 60), (1, zI o1), (2, zI 0)]) rfl ?_
      refine zO_live [0, 1, 2] ?_
      exact sX4_weighPairs_117 hG o1 zfu 0 D
    · refine zO_iconst dX4_weighPairs_55 (by decide) ?_
      refine zO_istore_n dX4_weighPairs_56 (by decide) ?_
      refine zO_ls (ls' := [(0, zR 60), (1, zI o1), (2, zI v2), (3, zI 0)]) rfl ?_
      refine zO_live [0, 1, 2, 3] ?_
      exact sX4_weighPairs_57 hG o1 v2 _ hk_50 zfu 0 D
set_option maxHeartbeats 20000000 in
theorem mX4_weighPairs {l : Launch} {E : zE} {d : Nat} {F : zFs} {n sl : Nat} (hG : zG F)  {D : zDa} : ∀ r, fX4_weighPairs F   D = some r → zMet l E (d + 5) YX4_weighPairs [zR 60] (F, D, n, sl) (zcV F n sl r) := by
  intro r hr
  refine zMet_of (plainFor_of_name (by decide)) (fun _ h => (nomatch h)) (Nat.le_of_ble_eq_true rfl) ?_
  have hz : zO l E (d + 5) YX4_weighPairs 0 [(0, zR 60)] [] (F, D, n, sl) (zcV F n sl) (fX4_weighPairs F   D) := by
    unfold fX4_weighPairs
    refine zO_aload_n dX4_weighPairs_0 rfl (zR_P _) ?_
    refine gt4 (k := 0) dX4_weighPairs_1 wF_X4_57 (by decide) (gk_60 hG) (zgv (c := 4) (k := 0) rfl (Or.inr ⟨_, rfl⟩) (gf_60_0 hG)) ?_
    refine gt9 (k := 6) dX4_weighPairs_4 wF_X4_143 (by decide) (gk_1 hG) (zgv (c := 9) (k := 6) rfl (Or.inl ⟨_, rfl⟩) (gf_1_6 hG)) ?_
    refine zO_iconst dX4_weighPairs_7 (by decide) ?_
    refine zO_iald dX4_weighPairs_8 (gk_7 hG) (gl_in (gl_7 hG) (by decide)) ?_
    refine zO_aload_n dX4_weighPairs_9 rfl (zR_P _) ?_
    refine gt4 (k := 5) (v := zI (D 60 5)) dX4_weighPairs_10 wF_X4_83 (by decide) (gk_60 hG) rfl ?_
    refine zO_callS (Y' := YJ9_min_7cf53) (cw := zcI F n sl) (as := [zI (D 7 0), zI (D 60 5)]) (rest := []) (na := 2) dX4_weighPairs_13 wC_J9_min_7cf53 wN_J9 wM_X4_140 wS_J9_min_7cf53 (by decide) (by decide) rfl rfl (Nat.le_of_ble_eq_true rfl) (fun r hr => zMet_cast (Nat.add_assoc d 4 0) (mJ9_min_7cf53 (d := d + 4) hG (D 7 0) (D 60 5) r hr)) ?_
    rintro ⟨r_1, D_2⟩ -
    show zO _ _ _ _ _ _ [zI r_1] (F, D_2, n, sl) _ _
    refine zO_istore_n dX4_weighPairs_16 (by decide) ?_
    refine zO_ls (ls' := [(0, zR 60), (1, zI r_1)]) rfl ?_
    refine zO_aload_n dX4_weighPairs_17 rfl (zR_P _) ?_
    refine gt4 (k := 2) dX4_weighPairs_18 wF_X4_65 (by decide) (gk_60 hG) (zgv (c := 4) (k := 2) rfl (Or.inr ⟨_, rfl⟩) (gf_60_2 hG)) ?_
    refine zO_aload_n dX4_weighPairs_21 rfl (zR_P _) ?_
    refine gt4 (k := 1) dX4_weighPairs_22 wF_X4_61 (by decide) (gk_60 hG) (zgv (c := 4) (k := 1) rfl (Or.inr ⟨_, rfl⟩) (gf_60_1 hG)) ?_
    refine zO_callV (Y' := YX2_setChances) (cw := zcV F n sl) (as := [zR 49]) (rest := []) (na := 1) (ci := 2) rfl dX4_weighPairs_25 wC_X2_setChances wN_X2 wM_X4_146 wI_X2_setChances wV_X2_setChances (by decide) (by decide) rfl rfl (Nat.le_of_ble_eq_true rfl) rfl (by decide) (gk_52 hG) (fun r hr => zMet_cast (Nat.add_assoc d 0 4) (mX2_setChances (d := d + 0) hG  r hr)) ?_
    intro D_4 _
    show zO _ _ _ _ _ _ [] (F, D_4, n, sl) _ _
    refine zO_aload_n dX4_weighPairs_28 rfl (zR_P _) ?_
    refine zO_aload_n dX4_weighPairs_29 rfl (zR_P _) ?_
    refine gt4 (k := 2) dX4_weighPairs_30 wF_X4_65 (by decide) (gk_60 hG) (zgv (c := 4) (k := 2) rfl (Or.inr ⟨_, rfl⟩) (gf_60_2 hG)) ?_
    refine zO_aload_n dX4_weighPairs_33 rfl (zR_P _) ?_
    refine gt4 (k := 5) (v := zI (D_4 60 5)) dX4_weighPairs_34 wF_X4_83 (by decide) (gk_60 hG) rfl ?_
    refine zO_iload_n dX4_weighPairs_37 rfl ?_
    refine zO_callV (Y' := YX2_sets) (cw := zcJ F n sl) (as := [zI (D_4 60 5), zI r_1]) (rest := [zR 60]) (na := 2) (ci := 2) rfl dX4_weighPairs_38 wC_X2_sets wN_X2 wM_X4_152 wI_X2_sets wV_X2_sets (by decide) (by decide) rfl rfl (Nat.le_of_ble_eq_true rfl) rfl (by decide) (gk_52 hG) (fun r hr => zMet_cast (Nat.add_assoc d 4 0) (mX2_sets (d := d + 4) hG (D_4 60 5) r_1 r hr)) ?_
    rintro ⟨r_5, D_6⟩ -
    show zO _ _ _ _ _ _ [zL r_5, zR 60] (F, D_6, n, sl) _ _
    refine zO_chk (fun h1 => ?_)
    refine zO_ldc2 (n := 1000000) dX4_weighPairs_41 wK_X4_156 (by decide) ?_
    refine zO_lmul dX4_weighPairs_44 h1 ?_
    refine ptJ4 (k := 17) (z := (r_5 * 1000000)) dX4_weighPairs_45 wF_X4_53 (by decide) rfl (gk_60 hG) rfl ?_
    refine zO_letD (fun D_7 eD_7 => ?_)
    refine zO_iconst dX4_weighPairs_48 (by decide) ?_
    refine zO_istore_n dX4_weighPairs_49 (by decide) ?_
    refine zO_ls (ls' := [(0, zR 60), (1, zI r_1), (2, zI 0)]) rfl ?_
    refine zO_live [0, 1, 2] ?_
    exact sX4_weighPairs_50 hG r_1 zfu 0 D_7
  exact hz r hr
theorem dX4_refresh_0 : decode cX4_refresh 0 = .ok (.aload_n 0, 1) := by decide +kernel
theorem dX4_refresh_1 : decode cX4_refresh 1 = .ok (.getfield 15, 3) := by decide +kernel
theorem dX4_refresh_4 : decode cX4_refresh 4 = .ok (.aload_n 0, 1) := by decide +kernel
theorem dX4_refresh_5 : decode cX4_refresh 5 = .ok (.getfield 57, 3) := by decide +kernel
theorem dX4_refresh_8 : decode cX4_refresh 8 = .ok (.getfield 69, 3) := by decide +kernel
theorem dX4_refresh_11 : decode cX4_refresh 11 = .ok (.if_icmp .ne 4, 3) := by decide +kernel
theorem dX4_refresh_14 : decode cX4_refresh 14 = .ok (.return_, 1) := by decide +kernel
theorem dX4_refresh_15 : decode cX4_refresh 15 = .ok (.aload_n 0, 1) := by decide +kernel
theorem dX4_refresh_16 : decode cX4_refresh 16 = .ok (.aload_n 0, 1) := by decide +kernel
theorem dX4_refresh_17 : decode cX4_refresh 17 = .ok (.getfield 57, 3) := by decide +kernel
theorem dX4_refresh_20 : decode cX4_refresh 20 = .ok (.getfield 69, 3) := by decide +kernel
theorem dX4_refresh_23 : decode cX4_refresh 23 = .ok (.putfield 15, 3) := by decide +kernel
theorem dX4_refresh_26 : decode cX4_refresh 26 = .ok (.aload_n 0, 1) := by decide +kernel
theorem dX4_refresh_27 : decode cX4_refresh 27 = .ok (.iconst (-1), 1) := by decide +kernel
theorem dX4_refresh_28 : decode cX4_refresh 28 = .ok (.putfield 44, 3) := by decide +kernel
theorem dX4_refresh_31 : decode cX4_refresh 31 = .ok (.aload_n 0, 1) := by decide +kernel
theorem dX4_refresh_32 : decode cX4_refresh 32 = .ok (.getfield 9, 3) := by decide +kernel
theorem dX4_refresh_35 : decode cX4_refresh 35 = .ok (.aload_n 0, 1) := by decide +kernel
theorem dX4_refresh_36 : decode cX4_refresh 36 = .ok (.getfield 57, 3) := by decide +kernel
theorem dX4_refresh_39 : decode cX4_refresh 39 = .ok (.getfield 74, 3) := by decide +kernel
theorem dX4_refresh_42 : decode cX4_refresh 42 = .ok (.if_icmp .eq 18, 3) := by decide +kernel
theorem dX4_refresh_45 : decode cX4_refresh 45 = .ok (.aload_n 0, 1) := by decide +kernel
theorem dX4_refresh_46 : decode cX4_refresh 46 = .ok (.aload_n 0, 1) := by decide +kernel
theorem dX4_refresh_47 : decode cX4_refresh 47 = .ok (.getfield 57, 3) := by decide +kernel
theorem dX4_refresh_50 : decode cX4_refresh 50 = .ok (.getfield 74, 3) := by decide +kernel
theorem dX4_refresh_53 : decode cX4_refresh 53 = .ok (.putfield 9, 3) := by decide +kernel
theorem dX4_refresh_56 : decode cX4_refresh 56 = .ok (.aload_n 0, 1) := by decide +kernel
theorem dX4_refresh_57 : decode cX4_refresh 57 = .ok (.invokevirtual 77, 3) := by decide +kernel
theorem dX4_refresh_60 : decode cX4_refresh 60 = .ok (.aload_n 0, 1) := by decide +kernel
theorem dX4_refresh_61 : decode cX4_refresh 61 = .ok (.invokevirtual 80, 3) := by decide +kernel
theorem dX4_refresh_64 : decode cX4_refresh 64 = .ok (.return_, 1) := by decide +kernel
abbrev YX4_refresh : zY := (yX4_refresh, cX4_refresh, 1, none, [])
def fX4_refresh_60   (F : zFs) (D : zDa) (n sl : Nat) : Option zM :=
  (fX4_weighPairs F D).bind (fun D_4 =>
    some (F, D_4, n, sl))
def fX4_refresh  (F : zFs) (D : zDa) (n sl : Nat) : Option zM :=
  if (D 60 4) = (D 1 17) then
    some (F, D, n, sl)
  else
    zlet (zwr D 60 4 (D 1 17)) (fun D_1 =>
      zlet (zwr D_1 60 14 (-1)) (fun D_2 =>
        if (D_2 60 3) = (D_2 1 16) then
          fX4_refresh_60 F D_2 n sl
        else
          zlet (zwr D_2 60 3 (D_2 1 16)) (fun D_5 =>
            (fX4_fillHours F D_5 n sl).bind (fun (F_7, D_8, n_9, sl_10) =>
              if zG F_7 ∧ 126 ≤ n_9 then
                fX4_refresh_60 F_7 D_8 n_9 sl_10
              else none))))
set_option maxHeartbeats 20000000 in
theorem sX4_refresh_60 {l : Launch} {E : zE} {d : Nat}     (F : zFs) (D : zDa) (n sl : Nat) (hG : zG F) (hN : 126 ≤ n) : zO l E (d + 6) YX4_refresh 60 [(0, zR 60)] [] (F, D, n, sl) (zmV) (fX4_refresh_60 F D n sl) := by
  unfold fX4_refresh_60
  refine zO_aload_n dX4_refresh_60 rfl (zR_P _) ?_
  refine zO_callV (Y' := YX4_weighPairs) (cw := zcV F n sl) (as := []) (rest := []) (na := 0) (ci := 4) rfl dX4_refresh_61 wC_X4_weighPairs wN_X4 wM_X4_80 wI_X4_weighPairs wV_X4_weighPairs (by decide) (by decide) rfl rfl (Nat.le_of_ble_eq_true rfl) rfl (by decide) (gk_60 hG) (fun r hr => zMet_cast (Nat.add_assoc d 0 5) (mX4_weighPairs (d := d + 0) hG  r hr)) ?_
  intro D_4 _
  show zO _ _ _ _ _ _ [] (F, D_4, n, sl) _ _
  exact zO_ret (rv := none) dX4_refresh_64 rfl trivial rfl
set_option maxHeartbeats 20000000 in
theorem mX4_refresh {l : Launch} {E : zE} {d : Nat}  {F : zFs} {D : zDa} {n sl : Nat} (hG : zG F) (hN : 126 ≤ n) : ∀ r, fX4_refresh  F D n sl = some r → zMet l E (d + 6) YX4_refresh [zR 60] (F, D, n, sl) (zmV r) := by
  intro r hr
  refine zMet_of (plainFor_of_name (by decide)) (fun _ h => (nomatch h)) (Nat.le_of_ble_eq_true rfl) ?_
  have hz : zO l E (d + 6) YX4_refresh 0 [(0, zR 60)] [] (F, D, n, sl) (zmV) (fX4_refresh  F D n sl) := by
    unfold fX4_refresh
    refine zO_aload_n dX4_refresh_0 rfl (zR_P _) ?_
    refine gt4 (k := 4) (v := zI (D 60 4)) dX4_refresh_1 wF_X4_15 (by decide) (gk_60 hG) rfl ?_
    refine zO_aload_n dX4_refresh_4 rfl (zR_P _) ?_
    refine gt4 (k := 0) dX4_refresh_5 wF_X4_57 (by decide) (gk_60 hG) (zgv (c := 4) (k := 0) rfl (Or.inr ⟨_, rfl⟩) (gf_60_0 hG)) ?_
    refine gt9 (k := 17) (v := zI (D 1 17)) dX4_refresh_8 wF_X4_69 (by decide) (gk_1 hG) rfl ?_
    refine zO_icmp_ne (tgt := 15) dX4_refresh_11 rfl (fun c11 => ?_) (fun c11 => ?_)
    · exact zO_ret (rv := none) dX4_refresh_14 rfl trivial rfl
    · refine zO_aload_n dX4_refresh_15 rfl (zR_P _) ?_
      refine zO_aload_n dX4_refresh_16 rfl (zR_P _) ?_
      refine gt4 (k := 0) dX4_refresh_17 wF_X4_57 (by decide) (gk_60 hG) (zgv (c := 4) (k := 0) rfl (Or.inr ⟨_, rfl⟩) (gf_60_0 hG)) ?_
      refine gt9 (k := 17) (v := zI (D 1 17)) dX4_refresh_20 wF_X4_69 (by decide) (gk_1 hG) rfl ?_
      refine ptI4 (k := 4) (z := (D 1 17)) dX4_refresh_23 wF_X4_15 (by decide) rfl (gk_60 hG) rfl ?_
      refine zO_letD (fun D_1 eD_1 => ?_)
      refine zO_aload_n dX4_refresh_26 rfl (zR_P _) ?_
      refine zO_iconst dX4_refresh_27 (by decide) ?_
      refine ptI4 (k := 14) (z := (-1)) dX4_refresh_28 wF_X4_44 (by decide) rfl (gk_60 hG) rfl ?_
      refine zO_letD (fun D_2 eD_2 => ?_)
      refine zO_aload_n dX4_refresh_31 rfl (zR_P _) ?_
      refine gt4 (k := 3) (v := zI (D_2 60 3)) dX4_refresh_32 wF_X4_9 (by decide) (gk_60 hG) rfl ?_
      refine zO_aload_n dX4_refresh_35 rfl (zR_P _) ?_
      refine gt4 (k := 0) dX4_refresh_36 wF_X4_57 (by decide) (gk_60 hG) (zgv (c := 4) (k := 0) rfl (Or.inr ⟨_, rfl⟩) (gf_60_0 hG)) ?_
      refine gt9 (k := 16) (v := zI (D_2 1 16)) dX4_refresh_39 wF_X4_74 (by decide) (gk_1 hG) rfl ?_
      refine zO_icmp_eq (tgt := 60) dX4_refresh_42 rfl (fun c42 => ?_) (fun c42 => ?_)
      · refine zO_live [0] ?_
        exact sX4_refresh_60 F D_2 n sl hG hN
      · refine zO_aload_n dX4_refresh_45 rfl (zR_P _) ?_
        refine zO_aload_n dX4_refresh_46 rfl (zR_P _) ?_
        refine gt4 (k := 0) dX4_refresh_47 wF_X4_57 (by decide) (gk_60 hG) (zgv (c := 4) (k := 0) rfl (Or.inr ⟨_, rfl⟩) (gf_60_0 hG)) ?_
        refine gt9 (k := 16) (v := zI (D_2 1 16)) dX4_refresh_50 wF_X4_74 (by decide) (gk_1 hG) rfl ?_
        refine ptI4 (k := 3) (z := (D_2 1 16)) dX4_refresh_53 wF_X4_9 (by decide) rfl (gk_60 hG) rfl ?_
        refine zO_letD (fun D_5 eD_5 => ?_)
        refine zO_aload_n dX4_refresh_56 rfl (zR_P _) ?_
        refine zO_callV (Y' := YX4_fillHours) (cw := zmV) (as := []) (rest := []) (na := 0) (ci := 4) rfl dX4_refresh_57 wC_X4_fillHours wN_X4 wM_X4_77 wI_X4_fillHours wV_X4_fillHours (by decide) (by decide) rfl rfl (Nat.le_of_ble_eq_true rfl) rfl (by decide) (gk_60 hG) (fun r hr => zMet_cast (Nat.add_assoc d 0 5) (mX4_fillHours (d := d + 0)  hG hN r hr)) ?_
        rintro ⟨F_7, D_8, n_9, sl_10⟩ -
        show zO _ _ _ _ _ _ [] (F_7, D_8, n_9, sl_10) _ _
        refine zO_chk (fun g10 => ?_)
        refine zO_live [0] ?_
        exact sX4_refresh_60 F_7 D_8 n_9 sl_10 g10.1 g10.2
  exact hz r hr
theorem dX4_fewestHours_0 : decode cX4_fewestHours 0 = .ok (.ldc 139, 2) := by decide +kernel
theorem dX4_fewestHours_2 : decode cX4_fewestHours 2 = .ok (.istore_n 2, 1) := by decide +kernel
theorem dX4_fewestHours_3 : decode cX4_fewestHours 3 = .ok (.iconst 0, 1) := by decide +kernel
theorem dX4_fewestHours_4 : decode cX4_fewestHours 4 = .ok (.istore_n 3, 1) := by decide +kernel
theorem dX4_fewestHours_5 : decode cX4_fewestHours 5 = .ok (.iload_n 3, 1) := by decide +kernel
theorem dX4_fewestHours_6 : decode cX4_fewestHours 6 = .ok (.aload_n 0, 1) := by decide +kernel
theorem dX4_fewestHours_7 : decode cX4_fewestHours 7 = .ok (.getfield 83, 3) := by decide +kernel
theorem dX4_fewestHours_10 : decode cX4_fewestHours 10 = .ok (.invokestatic 99, 3) := by decide +kernel
theorem dX4_fewestHours_13 : decode cX4_fewestHours 13 = .ok (.if_icmp .ge 48, 3) := by decide +kernel
theorem dX4_fewestHours_16 : decode cX4_fewestHours 16 = .ok (.aload_n 0, 1) := by decide +kernel
theorem dX4_fewestHours_17 : decode cX4_fewestHours 17 = .ok (.getfield 37, 3) := by decide +kernel
theorem dX4_fewestHours_20 : decode cX4_fewestHours 20 = .ok (.iload_n 3, 1) := by decide +kernel
theorem dX4_fewestHours_21 : decode cX4_fewestHours 21 = .ok (.laload, 1) := by decide +kernel
theorem dX4_fewestHours_22 : decode cX4_fewestHours 22 = .ok (.ldc2_w 177, 3) := by decide +kernel
theorem dX4_fewestHours_25 : decode cX4_fewestHours 25 = .ok (.lmul, 1) := by decide +kernel
theorem dX4_fewestHours_26 : decode cX4_fewestHours 26 = .ok (.aload_n 0, 1) := by decide +kernel
theorem dX4_fewestHours_27 : decode cX4_fewestHours 27 = .ok (.getfield 53, 3) := by decide +kernel
theorem dX4_fewestHours_30 : decode cX4_fewestHours 30 = .ok (.iload_n 1, 1) := by decide +kernel
theorem dX4_fewestHours_31 : decode cX4_fewestHours 31 = .ok (.i2l, 1) := by decide +kernel
theorem dX4_fewestHours_32 : decode cX4_fewestHours 32 = .ok (.lmul, 1) := by decide +kernel
theorem dX4_fewestHours_33 : decode cX4_fewestHours 33 = .ok (.lcmp, 1) := by decide +kernel
theorem dX4_fewestHours_34 : decode cX4_fewestHours 34 = .ok (.ifCond .lt 21, 3) := by decide +kernel
theorem dX4_fewestHours_37 : decode cX4_fewestHours 37 = .ok (.iload_n 2, 1) := by decide +kernel
theorem dX4_fewestHours_38 : decode cX4_fewestHours 38 = .ok (.aload_n 0, 1) := by decide +kernel
theorem dX4_fewestHours_39 : decode cX4_fewestHours 39 = .ok (.getfield 34, 3) := by decide +kernel
theorem dX4_fewestHours_42 : decode cX4_fewestHours 42 = .ok (.aload_n 0, 1) := by decide +kernel
theorem dX4_fewestHours_43 : decode cX4_fewestHours 43 = .ok (.getfield 31, 3) := by decide +kernel
theorem dX4_fewestHours_46 : decode cX4_fewestHours 46 = .ok (.iconst 0, 1) := by decide +kernel
theorem dX4_fewestHours_47 : decode cX4_fewestHours 47 = .ok (.iaload, 1) := by decide +kernel
theorem dX4_fewestHours_48 : decode cX4_fewestHours 48 = .ok (.iload_n 3, 1) := by decide +kernel
theorem dX4_fewestHours_49 : decode cX4_fewestHours 49 = .ok (.iadd, 1) := by decide +kernel
theorem dX4_fewestHours_50 : decode cX4_fewestHours 50 = .ok (.iaload, 1) := by decide +kernel
theorem dX4_fewestHours_51 : decode cX4_fewestHours 51 = .ok (.invokestatic 140, 3) := by decide +kernel
theorem dX4_fewestHours_54 : decode cX4_fewestHours 54 = .ok (.istore_n 2, 1) := by decide +kernel
theorem dX4_fewestHours_55 : decode cX4_fewestHours 55 = .ok (.iinc 3 1, 3) := by decide +kernel
theorem dX4_fewestHours_58 : decode cX4_fewestHours 58 = .ok (.goto (-53), 3) := by decide +kernel
theorem dX4_fewestHours_61 : decode cX4_fewestHours 61 = .ok (.iload_n 2, 1) := by decide +kernel
theorem dX4_fewestHours_62 : decode cX4_fewestHours 62 = .ok (.sipush 400, 3) := by decide +kernel
theorem dX4_fewestHours_65 : decode cX4_fewestHours 65 = .ok (.if_icmp .le 7, 3) := by decide +kernel
theorem dX4_fewestHours_68 : decode cX4_fewestHours 68 = .ok (.iconst (-1), 1) := by decide +kernel
theorem dX4_fewestHours_69 : decode cX4_fewestHours 69 = .ok (.goto 4, 3) := by decide +kernel
theorem dX4_fewestHours_72 : decode cX4_fewestHours 72 = .ok (.iload_n 2, 1) := by decide +kernel
theorem dX4_fewestHours_73 : decode cX4_fewestHours 73 = .ok (.ireturn, 1) := by decide +kernel
abbrev YX4_fewestHours : zY := (yX4_fewestHours, cX4_fewestHours, 4, (Option.some Jvm.ClassFile.FieldType.int), [])
def fX4_fewestHours_55 (F : zFs) (k_5 : Int → Int → zDa → Option (Int × zDa)) (o1 : Int) (v2 : Int) (v3 : Int) (D : zDa) : Option (Int × zDa) :=
  if (-2147483648 ≤ v3 + 1 ∧ v3 + 1 ≤ 2147483647) then
    k_5 v2 (v3 + 1) D
  else none
def fX4_fewestHours_5 (F : zFs) (o1 : Int)  (k_5 : Int → Int → zDa → Option (Int × zDa)) (v2 : Int) (v3 : Int) (D : zDa) : Option (Int × zDa) :=
  (fX4_pairs F (D 60 5) D).bind (fun (r_1, D_2) =>
    if v3 < r_1 then
      if (0 ≤ v3 ∧ v3 < 231) ∧ (-9223372036854775808 ≤ (D_2 67 v3.toNat) * 100 ∧ (D_2 67 v3.toNat) * 100 ≤ 9223372036854775807) ∧ (-9223372036854775808 ≤ (D_2 60 17) * o1 ∧ (D_2 60 17) * o1 ≤ 9223372036854775807) then
        if ((D_2 67 v3.toNat) * 100) < ((D_2 60 17) * o1) then
          fX4_fewestHours_55 F k_5 o1 v2 v3 D_2
        else
          if (-2147483648 ≤ (D_2 65 0) + v3 ∧ (D_2 65 0) + v3 ≤ 2147483647) ∧ (0 ≤ (D_2 60 11)) ∧ ((F ((D_2 60 11).toNat)).1 = 20) ∧ ((0 : Int) ≤ ((D_2 65 0) + v3) ∧ (((D_2 65 0) + v3) : Int) < ((F ((D_2 60 11).toNat)).2.1 : Int)) then
            (fJ9_min_7cf53 F v2 (D_2 ((D_2 60 11).toNat) ((D_2 65 0) + v3).toNat) D_2).bind (fun (r_3, D_4) =>
              fX4_fewestHours_55 F k_5 o1 r_3 v3 D_4)
          else none
      else none
    else
      if 400 < v2 then
        some ((-1), D_2)
      else
        some (v2, D_2))
def fX4_fewestHours (F : zFs) (v1 : Int) (D : zDa) : Option (Int × zDa) :=
  zfix (fun _ _ _ => none) (fX4_fewestHours_5 F v1) zfu 100000 0 D
set_option maxHeartbeats 20000000 in
theorem sX4_fewestHours_55 {l : Launch} {E : zE} {d : Nat} {F : zFs} {n sl : Nat} (hG : zG F)  (o1 : Int) (v2 : Int) (v3 : Int) (k_5 : Int → Int → zDa → Option (Int × zDa)) (hk_5 : ∀ (u2 : Int) (u3 : Int) (D : zDa), zO l E (d + 1) YX4_fewestHours 5 [(0, zR 60), (1, zI o1), (2, zI u2), (3, zI u3)] [] (F, D, n, sl) (zcI F n sl) (k_5 u2 u3 D)) (D : zDa) : zO l E (d + 1) YX4_fewestHours 55 [(0, zR 60), (1, zI o1), (2, zI v2), (3, zI v3)] [] (F, D, n, sl) (zcI F n sl) (fX4_fewestHours_55 F k_5 o1 v2 v3 D) := by
  unfold fX4_fewestHours_55
  refine zO_chk (fun h2 => ?_)
  refine zO_iinc dX4_fewestHours_55 rfl h2 (by decide) ?_
  refine zO_ls (ls' := [(0, zR 60), (1, zI o1), (2, zI v2), (3, zI (v3 + 1))]) rfl ?_
  refine zO_goto (tgt := 5) dX4_fewestHours_58 rfl ?_
  refine zO_live [0, 1, 2, 3] ?_
  exact hk_5 v2 (v3 + 1) D
set_option maxHeartbeats 20000000 in
theorem sX4_fewestHours_5 {l : Launch} {E : zE} {d : Nat} {F : zFs} {n sl : Nat} (hG : zG F)  (o1 : Int)   : ∀ (N : Nat) (v2 : Int) (v3 : Int) (D : zDa), zO l E (d + 1) YX4_fewestHours 5 [(0, zR 60), (1, zI o1), (2, zI v2), (3, zI v3)] [] (F, D, n, sl) (zcI F n sl) (zfix (fun _ _ _ => none) (fX4_fewestHours_5 F o1) N v2 v3 D) := by
  intro N
  induction N with
  | zero => intro v2 v3 D; exact zO_none
  | succ N hk_5 =>
    intro v2 v3 D
    show zO _ _ _ _ _ _ _ _ _ ((fX4_fewestHours_5 F o1) (zfix (fun _ _ _ => none) (fX4_fewestHours_5 F o1) N) v2 v3 D)
    unfold fX4_fewestHours_5
    refine zO_iload_n dX4_fewestHours_5 rfl ?_
    refine zO_aload_n dX4_fewestHours_6 rfl (zR_P _) ?_
    refine gt4 (k := 5) (v := zI (D 60 5)) dX4_fewestHours_7 wF_X4_83 (by decide) (gk_60 hG) rfl ?_
    refine zO_callS (Y' := YX4_pairs) (cw := zcI F n sl) (as := [zI (D 60 5)]) (rest := [zI v3]) (na := 1) dX4_fewestHours_10 wC_X4_pairs wN_X4 wM_X4_99 wS_X4_pairs (by decide) (by decide) rfl rfl (Nat.le_of_ble_eq_true rfl) (fun r hr => zMet_cast (Nat.add_assoc d 0 0) (mX4_pairs (d := d + 0) hG (D 60 5) r hr)) ?_
    rintro ⟨r_1, D_2⟩ -
    show zO _ _ _ _ _ _ [zI r_1, zI v3] (F, D_2, n, sl) _ _
    refine zO_icmp_ge (tgt := 61) dX4_fewestHours_13 rfl (fun c13 => ?_) (fun c13 => ?_)
    · refine zO_chk (fun h1 => ?_)
      refine zO_aload_n dX4_fewestHours_16 rfl (zR_P _) ?_
      refine gt4 (k := 12) dX4_fewestHours_17 wF_X4_37 (by decide) (gk_60 hG) (zgv (c := 4) (k := 12) rfl (Or.inl ⟨_, rfl⟩) (gf_60_12 hG)) ?_
      refine zO_iload_n dX4_fewestHours_20 rfl ?_
      refine zO_lald dX4_fewestHours_21 (gk_67 hG) (gl_in (gl_67 hG) h1.1) ?_
      refine zO_ldc2 (n := 100) dX4_fewestHours_22 wK_X4_177 (by decide) ?_
      refine zO_lmul dX4_fewestHours_25 h1.2.1 ?_
      refine zO_aload_n dX4_fewestHours_26 rfl (zR_P _) ?_
      refine gt4 (k := 17) (v := zL (D_2 60 17)) dX4_fewestHours_27 wF_X4_53 (by decide) (gk_60 hG) rfl ?_
      refine zO_iload_n dX4_fewestHours_30 rfl ?_
      refine zO_i2l dX4_fewestHours_31 ?_
      refine zO_lmul dX4_fewestHours_32 h1.2.2 ?_
      refine zO_lif_lt (tgt := 55) dX4_fewestHours_33 dX4_fewestHours_34 rfl (fun c33 => ?_) (fun c33 => ?_)
      · refine zO_live [0, 1, 2, 3] ?_
        exact sX4_fewestHours_55 hG o1 v2 v3 _ hk_5 D_2
      · refine zO_chk (fun h3 => ?_)
        refine zO_iload_n dX4_fewestHours_37 rfl ?_
        refine zO_aload_n dX4_fewestHours_38 rfl (zR_P _) ?_
        refine gt4 (k := 11) (v := zq (D_2 60 11)) dX4_fewestHours_39 wF_X4_34 (by decide) (gk_60 hG) rfl ?_
        refine zO_aload_n dX4_fewestHours_42 rfl (zR_P _) ?_
        refine gt4 (k := 10) dX4_fewestHours_43 wF_X4_31 (by decide) (gk_60 hG) (zgv (c := 4) (k := 10) rfl (Or.inl ⟨_, rfl⟩) (gf_60_10 hG)) ?_
        refine zO_iconst dX4_fewestHours_46 (by decide) ?_
        refine zO_iald dX4_fewestHours_47 (gk_65 hG) (gl_in (gl_65 hG) (by decide)) ?_
        refine zO_iload_n dX4_fewestHours_48 rfl ?_
        refine zO_iadd dX4_fewestHours_49 h3.1 ?_
        refine zO_q1 h3.2.1 ?_
        refine zO_iald dX4_fewestHours_50 h3.2.2.1 h3.2.2.2 ?_
        refine zO_callS (Y' := YJ9_min_7cf53) (cw := zcI F n sl) (as := [zI v2, zI (D_2 ((D_2 60 11).toNat) ((D_2 65 0) + v3).toNat)]) (rest := []) (na := 2) dX4_fewestHours_51 wC_J9_min_7cf53 wN_J9 wM_X4_140 wS_J9_min_7cf53 (by decide) (by decide) rfl rfl (Nat.le_of_ble_eq_true rfl) (fun r hr => zMet_cast (Nat.add_assoc d 0 0) (mJ9_min_7cf53 (d := d + 0) hG v2 (D_2 ((D_2 60 11).toNat) ((D_2 65 0) + v3).toNat) r hr)) ?_
        rintro ⟨r_3, D_4⟩ -
        show zO _ _ _ _ _ _ [zI r_3] (F, D_4, n, sl) _ _
        refine zO_istore_n dX4_fewestHours_54 (by decide) ?_
        refine zO_ls (ls' := [(0, zR 60), (1, zI o1), (2, zI r_3), (3, zI v3)]) rfl ?_
        refine zO_live [0, 1, 2, 3] ?_
        exact sX4_fewestHours_55 hG o1 r_3 v3 _ hk_5 D_4
    · refine zO_iload_n dX4_fewestHours_61 rfl ?_
      refine zO_sipush dX4_fewestHours_62 (by decide) ?_
      refine zO_icmp_le (tgt := 72) dX4_fewestHours_65 rfl (fun c65 => ?_) (fun c65 => ?_)
      · refine zO_iconst dX4_fewestHours_68 (by decide) ?_
        refine zO_goto (tgt := 73) dX4_fewestHours_69 rfl ?_
        exact zO_ret (rv := some (zI (-1))) dX4_fewestHours_73 rfl rfl rfl
      · refine zO_iload_n dX4_fewestHours_72 rfl ?_
        exact zO_ret (rv := some (zI v2)) dX4_fewestHours_73 rfl rfl rfl
set_option maxHeartbeats 20000000 in
theorem mX4_fewestHours {l : Launch} {E : zE} {d : Nat} {F : zFs} {n sl : Nat} (hG : zG F) (v1 : Int) {D : zDa} : ∀ r, fX4_fewestHours F  v1 D = some r → zMet l E (d + 1) YX4_fewestHours [zR 60, zI v1] (F, D, n, sl) (zcI F n sl r) := by
  intro r hr
  refine zMet_of (plainFor_of_name (by decide)) (fun _ h => (nomatch h)) (Nat.le_of_ble_eq_true rfl) ?_
  have hz : zO l E (d + 1) YX4_fewestHours 0 [(0, zR 60), (1, zI v1)] [] (F, D, n, sl) (zcI F n sl) (fX4_fewestHours F  v1 D) := by
    unfold fX4_fewestHours
    refine zO_ldc (n := 100000) dX4_fewestHours_0 wK_X4_139 (by decide) ?_
    refine zO_istore_n dX4_fewestHours_2 (by decide) ?_
    refine zO_ls (ls' := [(0, zR 60), (1, zI v1), (2, zI 100000)]) rfl ?_
    refine zO_iconst dX4_fewestHours_3 (by decide) ?_
    refine zO_istore_n dX4_fewestHours_4 (by decide) ?_
    refine zO_ls (ls' := [(0, zR 60), (1, zI v1), (2, zI 100000), (3, zI 0)]) rfl ?_
    refine zO_live [0, 1, 2, 3] ?_
    exact sX4_fewestHours_5 hG v1 zfu 100000 0 D
  exact hz r hr
theorem dX5_multiply_0 : decode cX5_multiply 0 = .ok (.lconst 0, 1) := by decide +kernel
theorem dX5_multiply_1 : decode cX5_multiply 1 = .ok (.lstore_n 2, 1) := by decide +kernel
theorem dX5_multiply_2 : decode cX5_multiply 2 = .ok (.iconst 0, 1) := by decide +kernel
theorem dX5_multiply_3 : decode cX5_multiply 3 = .ok (.istore 4, 2) := by decide +kernel
theorem dX5_multiply_5 : decode cX5_multiply 5 = .ok (.iload 4, 2) := by decide +kernel
theorem dX5_multiply_7 : decode cX5_multiply 7 = .ok (.aload_n 0, 1) := by decide +kernel
theorem dX5_multiply_8 : decode cX5_multiply 8 = .ok (.arraylength, 1) := by decide +kernel
theorem dX5_multiply_9 : decode cX5_multiply 9 = .ok (.if_icmp .ge 33, 3) := by decide +kernel
theorem dX5_multiply_12 : decode cX5_multiply 12 = .ok (.lload_n 2, 1) := by decide +kernel
theorem dX5_multiply_13 : decode cX5_multiply 13 = .ok (.aload_n 0, 1) := by decide +kernel
theorem dX5_multiply_14 : decode cX5_multiply 14 = .ok (.iload 4, 2) := by decide +kernel
theorem dX5_multiply_16 : decode cX5_multiply 16 = .ok (.laload, 1) := by decide +kernel
theorem dX5_multiply_17 : decode cX5_multiply 17 = .ok (.iload_n 1, 1) := by decide +kernel
theorem dX5_multiply_18 : decode cX5_multiply 18 = .ok (.i2l, 1) := by decide +kernel
theorem dX5_multiply_19 : decode cX5_multiply 19 = .ok (.lmul, 1) := by decide +kernel
theorem dX5_multiply_20 : decode cX5_multiply 20 = .ok (.ladd, 1) := by decide +kernel
theorem dX5_multiply_21 : decode cX5_multiply 21 = .ok (.lstore_n 2, 1) := by decide +kernel
theorem dX5_multiply_22 : decode cX5_multiply 22 = .ok (.aload_n 0, 1) := by decide +kernel
theorem dX5_multiply_23 : decode cX5_multiply 23 = .ok (.iload 4, 2) := by decide +kernel
theorem dX5_multiply_25 : decode cX5_multiply 25 = .ok (.lload_n 2, 1) := by decide +kernel
theorem dX5_multiply_26 : decode cX5_multiply 26 = .ok (.ldc2_w 54, 3) := by decide +kernel
theorem dX5_multiply_29 : decode cX5_multiply 29 = .ok (.land, 1) := by decide +kernel
theorem dX5_multiply_30 : decode cX5_multiply 30 = .ok (.lastore, 1) := by decide +kernel
theorem dX5_multiply_31 : decode cX5_multiply 31 = .ok (.lload_n 2, 1) := by decide +kernel
theorem dX5_multiply_32 : decode cX5_multiply 32 = .ok (.bipush 30, 2) := by decide +kernel
theorem dX5_multiply_34 : decode cX5_multiply 34 = .ok (.lushr, 1) := by decide +kernel
theorem dX5_multiply_35 : decode cX5_multiply 35 = .ok (.lstore_n 2, 1) := by decide +kernel
theorem dX5_multiply_36 : decode cX5_multiply 36 = .ok (.iinc 4 1, 3) := by decide +kernel
theorem dX5_multiply_39 : decode cX5_multiply 39 = .ok (.goto (-34), 3) := by decide +kernel
theorem dX5_multiply_42 : decode cX5_multiply 42 = .ok (.return_, 1) := by decide +kernel
abbrev YX5_multiply : zY := (yX5_multiply, cX5_multiply, 5, none, [])
def fX5_multiply_5 (F : zFs) (o0 : Nat) (o1 : Int)  (k_5 : Int → Int → zDa → Option zDa) (v2 : Int) (v4 : Int) (D : zDa) : Option zDa :=
  if ((F o0).1 = 21) then
    if v4 < ((F o0).2.1 : Int) then
      if ((0 : Int) ≤ v4 ∧ (v4 : Int) < ((F o0).2.1 : Int)) ∧ (-9223372036854775808 ≤ (D o0 v4.toNat) * o1 ∧ (D o0 v4.toNat) * o1 ≤ 9223372036854775807) ∧ (-9223372036854775808 ≤ v2 + ((D o0 v4.toNat) * o1) ∧ v2 + ((D o0 v4.toNat) * o1) ≤ 9223372036854775807) then
        zlet ((v2 + ((D o0 v4.toNat) * o1))) (fun x2_1 =>
          zlet (zwr D o0 v4.toNat (zandl x2_1 1073741823)) (fun D_2 =>
            zlet ((zushrl x2_1 30)) (fun x2_3 =>
              if (-2147483648 ≤ v4 + 1 ∧ v4 + 1 ≤ 2147483647) then
                k_5 x2_3 (v4 + 1) D_2
              else none)))
      else none
    else
      some D
  else none
def fX5_multiply (F : zFs) (a0 : Nat) (v1 : Int) (D : zDa) : Option zDa :=
  zfix (fun _ _ _ => none) (fX5_multiply_5 F a0 v1) zfu 0 0 D
set_option maxHeartbeats 20000000 in
theorem sX5_multiply_5 {l : Launch} {E : zE} {d : Nat} {F : zFs} {n sl : Nat} (hG : zG F)  (o0 : Nat) (o1 : Int)   : ∀ (N : Nat) (v2 : Int) (v4 : Int) (D : zDa), zO l E (d + 0) YX5_multiply 5 [(0, zR o0), (1, zI o1), (2, zL v2), (4, zI v4)] [] (F, D, n, sl) (zcV F n sl) (zfix (fun _ _ _ => none) (fX5_multiply_5 F o0 o1) N v2 v4 D) := by
  intro N
  induction N with
  | zero => intro v2 v4 D; exact zO_none
  | succ N hk_5 =>
    intro v2 v4 D
    show zO _ _ _ _ _ _ _ _ _ ((fX5_multiply_5 F o0 o1) (zfix (fun _ _ _ => none) (fX5_multiply_5 F o0 o1) N) v2 v4 D)
    unfold fX5_multiply_5
    refine zO_chk (fun h1 => ?_)
    refine zO_iload dX5_multiply_5 rfl ?_
    refine zO_aload_n dX5_multiply_7 rfl (zR_P _) ?_
    refine zO_alen (kd := 21) dX5_multiply_8 h1 (by decide) ?_
    refine zO_icmp_ge (tgt := 42) dX5_multiply_9 rfl (fun c9 => ?_) (fun c9 => ?_)
    · refine zO_chk (fun h2 => ?_)
      refine zO_lload_n dX5_multiply_12 rfl ?_
      refine zO_aload_n dX5_multiply_13 rfl (zR_P _) ?_
      refine zO_iload dX5_multiply_14 rfl ?_
      refine zO_lald dX5_multiply_16 h1 h2.1 ?_
      refine zO_iload_n dX5_multiply_17 rfl ?_
      refine zO_i2l dX5_multiply_18 ?_
      refine zO_lmul dX5_multiply_19 h2.2.1 ?_
      refine zO_ladd dX5_multiply_20 h2.2.2 ?_
      refine zO_letJ (fun x2_1 ex2_1 => ?_)
      refine zO_lstore_n dX5_multiply_21 (by decide) ?_
      refine zO_ls (ls' := [(0, zR o0), (1, zI o1), (2, zL x2_1), (4, zI v4)]) rfl ?_
      refine zO_aload_n dX5_multiply_22 rfl (zR_P _) ?_
      refine zO_iload dX5_multiply_23 rfl ?_
      refine zO_lload_n dX5_multiply_25 rfl ?_
      refine zO_ldc2 (n := 1073741823) dX5_multiply_26 wK_X5_54 (by decide) ?_
      refine zO_land dX5_multiply_29 ?_
      refine zO_last dX5_multiply_30 h1 h2.1 ?_
      refine zO_letD (fun D_2 eD_2 => ?_)
      refine zO_lload_n dX5_multiply_31 rfl ?_
      refine zO_bipush dX5_multiply_32 (by decide) ?_
      refine zO_lushr dX5_multiply_34 ?_
      refine zO_letJ (fun x2_3 ex2_3 => ?_)
      refine zO_lstore_n dX5_multiply_35 (by decide) ?_
      refine zO_ls (ls' := [(0, zR o0), (1, zI o1), (2, zL x2_3), (4, zI v4)]) rfl ?_
      refine zO_chk (fun h3 => ?_)
      refine zO_iinc dX5_multiply_36 rfl h3 (by decide) ?_
      refine zO_ls (ls' := [(0, zR o0), (1, zI o1), (2, zL x2_3), (4, zI (v4 + 1))]) rfl ?_
      refine zO_goto (tgt := 5) dX5_multiply_39 rfl ?_
      refine zO_live [0, 1, 2, 4] ?_
      exact hk_5 x2_3 (v4 + 1) D_2
    · exact zO_ret (rv := none) dX5_multiply_42 rfl trivial rfl
set_option maxHeartbeats 20000000 in
theorem mX5_multiply {l : Launch} {E : zE} {d : Nat} {F : zFs} {n sl : Nat} (hG : zG F) (a0 : Nat) (v1 : Int) {D : zDa} : ∀ r, fX5_multiply F  a0 v1 D = some r → zMet l E (d + 0) YX5_multiply [zR a0, zI v1] (F, D, n, sl) (zcV F n sl r) := by
  intro r hr
  refine zMet_of (plainFor_of_name (by decide)) (fun _ h => (nomatch h)) (Nat.le_of_ble_eq_true rfl) ?_
  have hz : zO l E (d + 0) YX5_multiply 0 [(0, zR a0), (1, zI v1)] [] (F, D, n, sl) (zcV F n sl) (fX5_multiply F  a0 v1 D) := by
    unfold fX5_multiply
    refine zO_lconst dX5_multiply_0 ?_
    refine zO_lstore_n dX5_multiply_1 (by decide) ?_
    refine zO_ls (ls' := [(0, zR a0), (1, zI v1), (2, zL 0)]) rfl ?_
    refine zO_iconst dX5_multiply_2 (by decide) ?_
    refine zO_istore dX5_multiply_3 (by decide) ?_
    refine zO_ls (ls' := [(0, zR a0), (1, zI v1), (2, zL 0), (4, zI 0)]) rfl ?_
    refine zO_live [0, 1, 2, 4] ?_
    exact sX5_multiply_5 hG a0 v1 zfu 0 0 D
  exact hz r hr
theorem dX5_divide_0 : decode cX5_divide 0 = .ok (.lconst 0, 1) := by decide +kernel
theorem dX5_divide_1 : decode cX5_divide 1 = .ok (.lstore_n 2, 1) := by decide +kernel
theorem dX5_divide_2 : decode cX5_divide 2 = .ok (.aload_n 0, 1) := by decide +kernel
theorem dX5_divide_3 : decode cX5_divide 3 = .ok (.arraylength, 1) := by decide +kernel
theorem dX5_divide_4 : decode cX5_divide 4 = .ok (.iconst 1, 1) := by decide +kernel
theorem dX5_divide_5 : decode cX5_divide 5 = .ok (.isub, 1) := by decide +kernel
theorem dX5_divide_6 : decode cX5_divide 6 = .ok (.istore 4, 2) := by decide +kernel
theorem dX5_divide_8 : decode cX5_divide 8 = .ok (.iload 4, 2) := by decide +kernel
theorem dX5_divide_10 : decode cX5_divide 10 = .ok (.ifCond .lt 36, 3) := by decide +kernel
theorem dX5_divide_13 : decode cX5_divide 13 = .ok (.iload_n 1, 1) := by decide +kernel
theorem dX5_divide_14 : decode cX5_divide 14 = .ok (.ifCond .le 32, 3) := by decide +kernel
theorem dX5_divide_17 : decode cX5_divide 17 = .ok (.lload_n 2, 1) := by decide +kernel
theorem dX5_divide_18 : decode cX5_divide 18 = .ok (.bipush 30, 2) := by decide +kernel
theorem dX5_divide_20 : decode cX5_divide 20 = .ok (.lshl, 1) := by decide +kernel
theorem dX5_divide_21 : decode cX5_divide 21 = .ok (.aload_n 0, 1) := by decide +kernel
theorem dX5_divide_22 : decode cX5_divide 22 = .ok (.iload 4, 2) := by decide +kernel
theorem dX5_divide_24 : decode cX5_divide 24 = .ok (.laload, 1) := by decide +kernel
theorem dX5_divide_25 : decode cX5_divide 25 = .ok (.lor, 1) := by decide +kernel
theorem dX5_divide_26 : decode cX5_divide 26 = .ok (.lstore_n 2, 1) := by decide +kernel
theorem dX5_divide_27 : decode cX5_divide 27 = .ok (.aload_n 0, 1) := by decide +kernel
theorem dX5_divide_28 : decode cX5_divide 28 = .ok (.iload 4, 2) := by decide +kernel
theorem dX5_divide_30 : decode cX5_divide 30 = .ok (.lload_n 2, 1) := by decide +kernel
theorem dX5_divide_31 : decode cX5_divide 31 = .ok (.iload_n 1, 1) := by decide +kernel
theorem dX5_divide_32 : decode cX5_divide 32 = .ok (.i2l, 1) := by decide +kernel
theorem dX5_divide_33 : decode cX5_divide 33 = .ok (.ldiv, 1) := by decide +kernel
theorem dX5_divide_34 : decode cX5_divide 34 = .ok (.lastore, 1) := by decide +kernel
theorem dX5_divide_35 : decode cX5_divide 35 = .ok (.lload_n 2, 1) := by decide +kernel
theorem dX5_divide_36 : decode cX5_divide 36 = .ok (.iload_n 1, 1) := by decide +kernel
theorem dX5_divide_37 : decode cX5_divide 37 = .ok (.i2l, 1) := by decide +kernel
theorem dX5_divide_38 : decode cX5_divide 38 = .ok (.lrem, 1) := by decide +kernel
theorem dX5_divide_39 : decode cX5_divide 39 = .ok (.lstore_n 2, 1) := by decide +kernel
theorem dX5_divide_40 : decode cX5_divide 40 = .ok (.iinc 4 (-1), 3) := by decide +kernel
theorem dX5_divide_43 : decode cX5_divide 43 = .ok (.goto (-35), 3) := by decide +kernel
theorem dX5_divide_46 : decode cX5_divide 46 = .ok (.return_, 1) := by decide +kernel
abbrev YX5_divide : zY := (yX5_divide, cX5_divide, 5, none, [])
def fX5_divide_8 (F : zFs) (o0 : Nat) (o1 : Int)  (k_8 : Int → Int → zDa → Option zDa) (v2 : Int) (v4 : Int) (D : zDa) : Option zDa :=
  if v4 < 0 then
    some D
  else
    if 0 < o1 then
      if ((F o0).1 = 21) ∧ ((0 : Int) ≤ v4 ∧ (v4 : Int) < ((F o0).2.1 : Int)) then
        zlet ((zorl (zshll v2 30) (D o0 v4.toNat))) (fun x2_2 =>
          if (o1 ≠ 0) ∧ (¬ (x2_2 = -9223372036854775808 ∧ o1 = -1)) then
            zlet (zwr D o0 v4.toNat (Int.tdiv x2_2 o1)) (fun D_3 =>
              zlet ((Int.tmod x2_2 o1)) (fun x2_4 =>
                if (-2147483648 ≤ v4 + (-1) ∧ v4 + (-1) ≤ 2147483647) then
                  k_8 x2_4 (v4 + (-1)) D_3
                else none))
          else none)
      else none
    else
      some D
def fX5_divide (F : zFs) (a0 : Nat) (v1 : Int) (D : zDa) : Option zDa :=
  if ((F a0).1 = 21) ∧ (-2147483648 ≤ ((F a0).2.1 : Int) - 1 ∧ ((F a0).2.1 : Int) - 1 ≤ 2147483647) then
    zlet ((((F a0).2.1 : Int) - 1)) (fun x4_1 =>
      zfix (fun _ _ _ => none) (fX5_divide_8 F a0 v1) zfu 0 x4_1 D)
  else none
set_option maxHeartbeats 20000000 in
theorem sX5_divide_8 {l : Launch} {E : zE} {d : Nat} {F : zFs} {n sl : Nat} (hG : zG F)  (o0 : Nat) (o1 : Int)   : ∀ (N : Nat) (v2 : Int) (v4 : Int) (D : zDa), zO l E (d + 0) YX5_divide 8 [(0, zR o0), (1, zI o1), (2, zL v2), (4, zI v4)] [] (F, D, n, sl) (zcV F n sl) (zfix (fun _ _ _ => none) (fX5_divide_8 F o0 o1) N v2 v4 D) := by
  intro N
  induction N with
  | zero => intro v2 v4 D; exact zO_none
  | succ N hk_8 =>
    intro v2 v4 D
    show zO _ _ _ _ _ _ _ _ _ ((fX5_divide_8 F o0 o1) (zfix (fun _ _ _ => none) (fX5_divide_8 F o0 o1) N) v2 v4 D)
    unfold fX5_divide_8
    refine zO_iload dX5_divide_8 rfl ?_
    refine zO_if_lt (tgt := 46) dX5_divide_10 rfl (fun c10 => ?_) (fun c10 => ?_)
    · exact zO_ret (rv := none) dX5_divide_46 rfl trivial rfl
    · refine zO_iload_n dX5_divide_13 rfl ?_
      refine zO_if_le (tgt := 46) dX5_divide_14 rfl (fun c14 => ?_) (fun c14 => ?_)
      · refine zO_chk (fun h2 => ?_)
        refine zO_lload_n dX5_divide_17 rfl ?_
        refine zO_bipush dX5_divide_18 (by decide) ?_
        refine zO_lshl dX5_divide_20 ?_
        refine zO_aload_n dX5_divide_21 rfl (zR_P _) ?_
        refine zO_iload dX5_divide_22 rfl ?_
        refine zO_lald dX5_divide_24 h2.1 h2.2 ?_
        refine zO_lor dX5_divide_25 ?_
        refine zO_letJ (fun x2_2 ex2_2 => ?_)
        refine zO_lstore_n dX5_divide_26 (by decide) ?_
        refine zO_ls (ls' := [(0, zR o0), (1, zI o1), (2, zL x2_2), (4, zI v4)]) rfl ?_
        refine zO_chk (fun h3 => ?_)
        refine zO_aload_n dX5_divide_27 rfl (zR_P _) ?_
        refine zO_iload dX5_divide_28 rfl ?_
        refine zO_lload_n dX5_divide_30 rfl ?_
        refine zO_iload_n dX5_divide_31 rfl ?_
        refine zO_i2l dX5_divide_32 ?_
        refine zO_ldiv dX5_divide_33 h3.1 h3.2 ?_
        refine zO_last dX5_divide_34 h2.1 h2.2 ?_
        refine zO_letD (fun D_3 eD_3 => ?_)
        refine zO_lload_n dX5_divide_35 rfl ?_
        refine zO_iload_n dX5_divide_36 rfl ?_
        refine zO_i2l dX5_divide_37 ?_
        refine zO_lrem dX5_divide_38 h3.1 ?_
        refine zO_letJ (fun x2_4 ex2_4 => ?_)
        refine zO_lstore_n dX5_divide_39 (by decide) ?_
        refine zO_ls (ls' := [(0, zR o0), (1, zI o1), (2, zL x2_4), (4, zI v4)]) rfl ?_
        refine zO_chk (fun h4 => ?_)
        refine zO_iinc dX5_divide_40 rfl h4 (by decide) ?_
        refine zO_ls (ls' := [(0, zR o0), (1, zI o1), (2, zL x2_4), (4, zI (v4 + (-1)))]) rfl ?_
        refine zO_goto (tgt := 8) dX5_divide_43 rfl ?_
        refine zO_live [0, 1, 2, 4] ?_
        exact hk_8 x2_4 (v4 + (-1)) D_3
      · exact zO_ret (rv := none) dX5_divide_46 rfl trivial rfl
set_option maxHeartbeats 20000000 in
theorem mX5_divide {l : Launch} {E : zE} {d : Nat} {F : zFs} {n sl : Nat} (hG : zG F) (a0 : Nat) (v1 : Int) {D : zDa} : ∀ r, fX5_divide F  a0 v1 D = some r → zMet l E (d + 0) YX5_divide [zR a0, zI v1] (F, D, n, sl) (zcV F n sl r) := by
  intro r hr
  refine zMet_of (plainFor_of_name (by decide)) (fun _ h => (nomatch h)) (Nat.le_of_ble_eq_true rfl) ?_
  have hz : zO l E (d + 0) YX5_divide 0 [(0, zR a0), (1, zI v1)] [] (F, D, n, sl) (zcV F n sl) (fX5_divide F  a0 v1 D) := by
    unfold fX5_divide
    refine zO_chk (fun h1 => ?_)
    refine zO_lconst dX5_divide_0 ?_
    refine zO_lstore_n dX5_divide_1 (by decide) ?_
    refine zO_ls (ls' := [(0, zR a0), (1, zI v1), (2, zL 0)]) rfl ?_
    refine zO_aload_n dX5_divide_2 rfl (zR_P _) ?_
    refine zO_alen (kd := 21) dX5_divide_3 h1.1 (by decide) ?_
    refine zO_iconst dX5_divide_4 (by decide) ?_
    refine zO_isub dX5_divide_5 h1.2 ?_
    refine zO_letI (fun x4_1 ex4_1 => ?_)
    refine zO_istore dX5_divide_6 (by decide) ?_
    refine zO_ls (ls' := [(0, zR a0), (1, zI v1), (2, zL 0), (4, zI x4_1)]) rfl ?_
    refine zO_live [0, 1, 2, 4] ?_
    exact sX5_divide_8 hG a0 v1 zfu 0 x4_1 D
  exact hz r hr
theorem dX5_addTerm_0 : decode cX5_addTerm 0 = .ok (.lconst 0, 1) := by decide +kernel
theorem dX5_addTerm_1 : decode cX5_addTerm 1 = .ok (.lstore_n 1, 1) := by decide +kernel
theorem dX5_addTerm_2 : decode cX5_addTerm 2 = .ok (.iconst 0, 1) := by decide +kernel
theorem dX5_addTerm_3 : decode cX5_addTerm 3 = .ok (.istore_n 3, 1) := by decide +kernel
theorem dX5_addTerm_4 : decode cX5_addTerm 4 = .ok (.iload_n 3, 1) := by decide +kernel
theorem dX5_addTerm_5 : decode cX5_addTerm 5 = .ok (.bipush 9, 2) := by decide +kernel
theorem dX5_addTerm_7 : decode cX5_addTerm 7 = .ok (.if_icmp .ge 41, 3) := by decide +kernel
theorem dX5_addTerm_10 : decode cX5_addTerm 10 = .ok (.lload_n 1, 1) := by decide +kernel
theorem dX5_addTerm_11 : decode cX5_addTerm 11 = .ok (.aload_n 0, 1) := by decide +kernel
theorem dX5_addTerm_12 : decode cX5_addTerm 12 = .ok (.getfield 15, 3) := by decide +kernel
theorem dX5_addTerm_15 : decode cX5_addTerm 15 = .ok (.iload_n 3, 1) := by decide +kernel
theorem dX5_addTerm_16 : decode cX5_addTerm 16 = .ok (.laload, 1) := by decide +kernel
theorem dX5_addTerm_17 : decode cX5_addTerm 17 = .ok (.aload_n 0, 1) := by decide +kernel
theorem dX5_addTerm_18 : decode cX5_addTerm 18 = .ok (.getfield 11, 3) := by decide +kernel
theorem dX5_addTerm_21 : decode cX5_addTerm 21 = .ok (.iload_n 3, 1) := by decide +kernel
theorem dX5_addTerm_22 : decode cX5_addTerm 22 = .ok (.laload, 1) := by decide +kernel
theorem dX5_addTerm_23 : decode cX5_addTerm 23 = .ok (.ladd, 1) := by decide +kernel
theorem dX5_addTerm_24 : decode cX5_addTerm 24 = .ok (.ladd, 1) := by decide +kernel
theorem dX5_addTerm_25 : decode cX5_addTerm 25 = .ok (.lstore_n 1, 1) := by decide +kernel
theorem dX5_addTerm_26 : decode cX5_addTerm 26 = .ok (.aload_n 0, 1) := by decide +kernel
theorem dX5_addTerm_27 : decode cX5_addTerm 27 = .ok (.getfield 15, 3) := by decide +kernel
theorem dX5_addTerm_30 : decode cX5_addTerm 30 = .ok (.iload_n 3, 1) := by decide +kernel
theorem dX5_addTerm_31 : decode cX5_addTerm 31 = .ok (.lload_n 1, 1) := by decide +kernel
theorem dX5_addTerm_32 : decode cX5_addTerm 32 = .ok (.ldc2_w 54, 3) := by decide +kernel
theorem dX5_addTerm_35 : decode cX5_addTerm 35 = .ok (.land, 1) := by decide +kernel
theorem dX5_addTerm_36 : decode cX5_addTerm 36 = .ok (.lastore, 1) := by decide +kernel
theorem dX5_addTerm_37 : decode cX5_addTerm 37 = .ok (.lload_n 1, 1) := by decide +kernel
theorem dX5_addTerm_38 : decode cX5_addTerm 38 = .ok (.bipush 30, 2) := by decide +kernel
theorem dX5_addTerm_40 : decode cX5_addTerm 40 = .ok (.lushr, 1) := by decide +kernel
theorem dX5_addTerm_41 : decode cX5_addTerm 41 = .ok (.lstore_n 1, 1) := by decide +kernel
theorem dX5_addTerm_42 : decode cX5_addTerm 42 = .ok (.iinc 3 1, 3) := by decide +kernel
theorem dX5_addTerm_45 : decode cX5_addTerm 45 = .ok (.goto (-41), 3) := by decide +kernel
theorem dX5_addTerm_48 : decode cX5_addTerm 48 = .ok (.return_, 1) := by decide +kernel
abbrev YX5_addTerm : zY := (yX5_addTerm, cX5_addTerm, 4, none, [])
def fX5_addTerm_4 (F : zFs)   (k_4 : Int → Int → zDa → Option zDa) (v1 : Int) (v3 : Int) (D : zDa) : Option zDa :=
  if v3 < 9 then
    if (0 ≤ v3 ∧ v3 < 9) ∧ (-9223372036854775808 ≤ (D 88 v3.toNat) + (D 87 v3.toNat) ∧ (D 88 v3.toNat) + (D 87 v3.toNat) ≤ 9223372036854775807) ∧ (-9223372036854775808 ≤ v1 + ((D 88 v3.toNat) + (D 87 v3.toNat)) ∧ v1 + ((D 88 v3.toNat) + (D 87 v3.toNat)) ≤ 9223372036854775807) then
      zlet ((v1 + ((D 88 v3.toNat) + (D 87 v3.toNat)))) (fun x1_1 =>
        zlet (zwr D 88 v3.toNat (zandl x1_1 1073741823)) (fun D_2 =>
          zlet ((zushrl x1_1 30)) (fun x1_3 =>
            if (-2147483648 ≤ v3 + 1 ∧ v3 + 1 ≤ 2147483647) then
              k_4 x1_3 (v3 + 1) D_2
            else none)))
    else none
  else
    some D
def fX5_addTerm (F : zFs)  (D : zDa) : Option zDa :=
  zfix (fun _ _ _ => none) (fX5_addTerm_4 F) zfu 0 0 D
set_option maxHeartbeats 20000000 in
theorem sX5_addTerm_4 {l : Launch} {E : zE} {d : Nat} {F : zFs} {n sl : Nat} (hG : zG F)     : ∀ (N : Nat) (v1 : Int) (v3 : Int) (D : zDa), zO l E (d + 0) YX5_addTerm 4 [(0, zR 86), (1, zL v1), (3, zI v3)] [] (F, D, n, sl) (zcV F n sl) (zfix (fun _ _ _ => none) (fX5_addTerm_4 F) N v1 v3 D) := by
  intro N
  induction N with
  | zero => intro v1 v3 D; exact zO_none
  | succ N hk_4 =>
    intro v1 v3 D
    show zO _ _ _ _ _ _ _ _ _ ((fX5_addTerm_4 F) (zfix (fun _ _ _ => none) (fX5_addTerm_4 F) N) v1 v3 D)
    unfold fX5_addTerm_4
    refine zO_iload_n dX5_addTerm_4 rfl ?_
    refine zO_bipush dX5_addTerm_5 (by decide) ?_
    refine zO_icmp_ge (tgt := 48) dX5_addTerm_7 rfl (fun c7 => ?_) (fun c7 => ?_)
    · refine zO_chk (fun h1 => ?_)
      refine zO_lload_n dX5_addTerm_10 rfl ?_
      refine zO_aload_n dX5_addTerm_11 rfl (zR_P _) ?_
      refine gt5 (k := 1) dX5_addTerm_12 wF_X5_15 (by decide) (gk_86 hG) (zgv (c := 5) (k := 1) rfl (Or.inl ⟨_, rfl⟩) (gf_86_1 hG)) ?_
      refine zO_iload_n dX5_addTerm_15 rfl ?_
      refine zO_lald dX5_addTerm_16 (gk_88 hG) (gl_in (gl_88 hG) h1.1) ?_
      refine zO_aload_n dX5_addTerm_17 rfl (zR_P _) ?_
      refine gt5 (k := 0) dX5_addTerm_18 wF_X5_11 (by decide) (gk_86 hG) (zgv (c := 5) (k := 0) rfl (Or.inl ⟨_, rfl⟩) (gf_86_0 hG)) ?_
      refine zO_iload_n dX5_addTerm_21 rfl ?_
      refine zO_lald dX5_addTerm_22 (gk_87 hG) (gl_in (gl_87 hG) h1.1) ?_
      refine zO_ladd dX5_addTerm_23 h1.2.1 ?_
      refine zO_ladd dX5_addTerm_24 h1.2.2 ?_
      refine zO_letJ (fun x1_1 ex1_1 => ?_)
      refine zO_lstore_n dX5_addTerm_25 (by decide) ?_
      refine zO_ls (ls' := [(0, zR 86), (1, zL x1_1), (3, zI v3)]) rfl ?_
      refine zO_aload_n dX5_addTerm_26 rfl (zR_P _) ?_
      refine gt5 (k := 1) dX5_addTerm_27 wF_X5_15 (by decide) (gk_86 hG) (zgv (c := 5) (k := 1) rfl (Or.inl ⟨_, rfl⟩) (gf_86_1 hG)) ?_
      refine zO_iload_n dX5_addTerm_30 rfl ?_
      refine zO_lload_n dX5_addTerm_31 rfl ?_
      refine zO_ldc2 (n := 1073741823) dX5_addTerm_32 wK_X5_54 (by decide) ?_
      refine zO_land dX5_addTerm_35 ?_
      refine zO_last dX5_addTerm_36 (gk_88 hG) (gl_in (gl_88 hG) h1.1) ?_
      refine zO_letD (fun D_2 eD_2 => ?_)
      refine zO_lload_n dX5_addTerm_37 rfl ?_
      refine zO_bipush dX5_addTerm_38 (by decide) ?_
      refine zO_lushr dX5_addTerm_40 ?_
      refine zO_letJ (fun x1_3 ex1_3 => ?_)
      refine zO_lstore_n dX5_addTerm_41 (by decide) ?_
      refine zO_ls (ls' := [(0, zR 86), (1, zL x1_3), (3, zI v3)]) rfl ?_
      refine zO_chk (fun h2 => ?_)
      refine zO_iinc dX5_addTerm_42 rfl h2 (by decide) ?_
      refine zO_ls (ls' := [(0, zR 86), (1, zL x1_3), (3, zI (v3 + 1))]) rfl ?_
      refine zO_goto (tgt := 4) dX5_addTerm_45 rfl ?_
      refine zO_live [0, 1, 3] ?_
      exact hk_4 x1_3 (v3 + 1) D_2
    · exact zO_ret (rv := none) dX5_addTerm_48 rfl trivial rfl
set_option maxHeartbeats 20000000 in
theorem mX5_addTerm {l : Launch} {E : zE} {d : Nat} {F : zFs} {n sl : Nat} (hG : zG F)  {D : zDa} : ∀ r, fX5_addTerm F   D = some r → zMet l E (d + 0) YX5_addTerm [zR 86] (F, D, n, sl) (zcV F n sl r) := by
  intro r hr
  refine zMet_of (plainFor_of_name (by decide)) (fun _ h => (nomatch h)) (Nat.le_of_ble_eq_true rfl) ?_
  have hz : zO l E (d + 0) YX5_addTerm 0 [(0, zR 86)] [] (F, D, n, sl) (zcV F n sl) (fX5_addTerm F   D) := by
    unfold fX5_addTerm
    refine zO_lconst dX5_addTerm_0 ?_
    refine zO_lstore_n dX5_addTerm_1 (by decide) ?_
    refine zO_ls (ls' := [(0, zR 86), (1, zL 0)]) rfl ?_
    refine zO_iconst dX5_addTerm_2 (by decide) ?_
    refine zO_istore_n dX5_addTerm_3 (by decide) ?_
    refine zO_ls (ls' := [(0, zR 86), (1, zL 0), (3, zI 0)]) rfl ?_
    refine zO_live [0, 1, 3] ?_
    exact sX5_addTerm_4 hG zfu 0 0 D
  exact hz r hr
theorem dX5_noMoreThan_0 : decode cX5_noMoreThan 0 = .ok (.aload_n 2, 1) := by decide +kernel
theorem dX5_noMoreThan_1 : decode cX5_noMoreThan 1 = .ok (.getfield 18, 3) := by decide +kernel
theorem dX5_noMoreThan_4 : decode cX5_noMoreThan 4 = .ok (.iconst 0, 1) := by decide +kernel
theorem dX5_noMoreThan_5 : decode cX5_noMoreThan 5 = .ok (.iaload, 1) := by decide +kernel
theorem dX5_noMoreThan_6 : decode cX5_noMoreThan 6 = .ok (.istore_n 3, 1) := by decide +kernel
theorem dX5_noMoreThan_7 : decode cX5_noMoreThan 7 = .ok (.aload_n 2, 1) := by decide +kernel
theorem dX5_noMoreThan_8 : decode cX5_noMoreThan 8 = .ok (.getfield 24, 3) := by decide +kernel
theorem dX5_noMoreThan_11 : decode cX5_noMoreThan 11 = .ok (.istore 4, 2) := by decide +kernel
theorem dX5_noMoreThan_13 : decode cX5_noMoreThan 13 = .ok (.iload 4, 2) := by decide +kernel
theorem dX5_noMoreThan_15 : decode cX5_noMoreThan 15 = .ok (.iload_n 3, 1) := by decide +kernel
theorem dX5_noMoreThan_16 : decode cX5_noMoreThan 16 = .ok (.isub, 1) := by decide +kernel
theorem dX5_noMoreThan_17 : decode cX5_noMoreThan 17 = .ok (.istore 5, 2) := by decide +kernel
theorem dX5_noMoreThan_19 : decode cX5_noMoreThan 19 = .ok (.iload 5, 2) := by decide +kernel
theorem dX5_noMoreThan_21 : decode cX5_noMoreThan 21 = .ok (.ifCond .gt 6, 3) := by decide +kernel
theorem dX5_noMoreThan_24 : decode cX5_noMoreThan 24 = .ok (.ldc 28, 2) := by decide +kernel
theorem dX5_noMoreThan_26 : decode cX5_noMoreThan 26 = .ok (.ireturn, 1) := by decide +kernel
theorem dX5_noMoreThan_27 : decode cX5_noMoreThan 27 = .ok (.aload_n 0, 1) := by decide +kernel
theorem dX5_noMoreThan_28 : decode cX5_noMoreThan 28 = .ok (.getfield 11, 3) := by decide +kernel
theorem dX5_noMoreThan_31 : decode cX5_noMoreThan 31 = .ok (.lconst 0, 1) := by decide +kernel
theorem dX5_noMoreThan_32 : decode cX5_noMoreThan 32 = .ok (.invokestatic 29, 3) := by decide +kernel
theorem dX5_noMoreThan_35 : decode cX5_noMoreThan 35 = .ok (.aload_n 0, 1) := by decide +kernel
theorem dX5_noMoreThan_36 : decode cX5_noMoreThan 36 = .ok (.getfield 11, 3) := by decide +kernel
theorem dX5_noMoreThan_39 : decode cX5_noMoreThan 39 = .ok (.iconst 0, 1) := by decide +kernel
theorem dX5_noMoreThan_40 : decode cX5_noMoreThan 40 = .ok (.lconst 1, 1) := by decide +kernel
theorem dX5_noMoreThan_41 : decode cX5_noMoreThan 41 = .ok (.lastore, 1) := by decide +kernel
theorem dX5_noMoreThan_42 : decode cX5_noMoreThan 42 = .ok (.iconst 0, 1) := by decide +kernel
theorem dX5_noMoreThan_43 : decode cX5_noMoreThan 43 = .ok (.istore 6, 2) := by decide +kernel
theorem dX5_noMoreThan_45 : decode cX5_noMoreThan 45 = .ok (.iload 6, 2) := by decide +kernel
theorem dX5_noMoreThan_47 : decode cX5_noMoreThan 47 = .ok (.aload_n 2, 1) := by decide +kernel
theorem dX5_noMoreThan_48 : decode cX5_noMoreThan 48 = .ok (.getfield 35, 3) := by decide +kernel
theorem dX5_noMoreThan_51 : decode cX5_noMoreThan 51 = .ok (.if_icmp .ge 18, 3) := by decide +kernel
theorem dX5_noMoreThan_54 : decode cX5_noMoreThan 54 = .ok (.aload_n 0, 1) := by decide +kernel
theorem dX5_noMoreThan_55 : decode cX5_noMoreThan 55 = .ok (.getfield 11, 3) := by decide +kernel
theorem dX5_noMoreThan_58 : decode cX5_noMoreThan 58 = .ok (.iload 5, 2) := by decide +kernel
theorem dX5_noMoreThan_60 : decode cX5_noMoreThan 60 = .ok (.invokestatic 38, 3) := by decide +kernel
theorem dX5_noMoreThan_63 : decode cX5_noMoreThan 63 = .ok (.iinc 6 1, 3) := by decide +kernel
theorem dX5_noMoreThan_66 : decode cX5_noMoreThan 66 = .ok (.goto (-21), 3) := by decide +kernel
theorem dX5_noMoreThan_69 : decode cX5_noMoreThan 69 = .ok (.aload_n 0, 1) := by decide +kernel
theorem dX5_noMoreThan_70 : decode cX5_noMoreThan 70 = .ok (.getfield 11, 3) := by decide +kernel
theorem dX5_noMoreThan_73 : decode cX5_noMoreThan 73 = .ok (.iconst 0, 1) := by decide +kernel
theorem dX5_noMoreThan_74 : decode cX5_noMoreThan 74 = .ok (.aload_n 0, 1) := by decide +kernel
theorem dX5_noMoreThan_75 : decode cX5_noMoreThan 75 = .ok (.getfield 15, 3) := by decide +kernel
theorem dX5_noMoreThan_78 : decode cX5_noMoreThan 78 = .ok (.iconst 0, 1) := by decide +kernel
theorem dX5_noMoreThan_79 : decode cX5_noMoreThan 79 = .ok (.bipush 9, 2) := by decide +kernel
theorem dX5_noMoreThan_81 : decode cX5_noMoreThan 81 = .ok (.invokestatic 42, 3) := by decide +kernel
theorem dX5_noMoreThan_84 : decode cX5_noMoreThan 84 = .ok (.iconst 1, 1) := by decide +kernel
theorem dX5_noMoreThan_85 : decode cX5_noMoreThan 85 = .ok (.istore 6, 2) := by decide +kernel
theorem dX5_noMoreThan_87 : decode cX5_noMoreThan 87 = .ok (.iload 6, 2) := by decide +kernel
theorem dX5_noMoreThan_89 : decode cX5_noMoreThan 89 = .ok (.iload_n 1, 1) := by decide +kernel
theorem dX5_noMoreThan_90 : decode cX5_noMoreThan 90 = .ok (.if_icmp .gt 43, 3) := by decide +kernel
theorem dX5_noMoreThan_93 : decode cX5_noMoreThan 93 = .ok (.aload_n 0, 1) := by decide +kernel
theorem dX5_noMoreThan_94 : decode cX5_noMoreThan 94 = .ok (.getfield 11, 3) := by decide +kernel
theorem dX5_noMoreThan_97 : decode cX5_noMoreThan 97 = .ok (.aload_n 2, 1) := by decide +kernel
theorem dX5_noMoreThan_98 : decode cX5_noMoreThan 98 = .ok (.getfield 35, 3) := by decide +kernel
theorem dX5_noMoreThan_101 : decode cX5_noMoreThan 101 = .ok (.iload 6, 2) := by decide +kernel
theorem dX5_noMoreThan_103 : decode cX5_noMoreThan 103 = .ok (.isub, 1) := by decide +kernel
theorem dX5_noMoreThan_104 : decode cX5_noMoreThan 104 = .ok (.iconst 1, 1) := by decide +kernel
theorem dX5_noMoreThan_105 : decode cX5_noMoreThan 105 = .ok (.iadd, 1) := by decide +kernel
theorem dX5_noMoreThan_106 : decode cX5_noMoreThan 106 = .ok (.iload_n 3, 1) := by decide +kernel
theorem dX5_noMoreThan_107 : decode cX5_noMoreThan 107 = .ok (.imul, 1) := by decide +kernel
theorem dX5_noMoreThan_108 : decode cX5_noMoreThan 108 = .ok (.invokestatic 38, 3) := by decide +kernel
theorem dX5_noMoreThan_111 : decode cX5_noMoreThan 111 = .ok (.aload_n 0, 1) := by decide +kernel
theorem dX5_noMoreThan_112 : decode cX5_noMoreThan 112 = .ok (.getfield 11, 3) := by decide +kernel
theorem dX5_noMoreThan_115 : decode cX5_noMoreThan 115 = .ok (.iload 6, 2) := by decide +kernel
theorem dX5_noMoreThan_117 : decode cX5_noMoreThan 117 = .ok (.iload 5, 2) := by decide +kernel
theorem dX5_noMoreThan_119 : decode cX5_noMoreThan 119 = .ok (.imul, 1) := by decide +kernel
theorem dX5_noMoreThan_120 : decode cX5_noMoreThan 120 = .ok (.invokestatic 48, 3) := by decide +kernel
theorem dX5_noMoreThan_123 : decode cX5_noMoreThan 123 = .ok (.aload_n 0, 1) := by decide +kernel
theorem dX5_noMoreThan_124 : decode cX5_noMoreThan 124 = .ok (.invokevirtual 51, 3) := by decide +kernel
theorem dX5_noMoreThan_127 : decode cX5_noMoreThan 127 = .ok (.iinc 6 1, 3) := by decide +kernel
theorem dX5_noMoreThan_130 : decode cX5_noMoreThan 130 = .ok (.goto (-43), 3) := by decide +kernel
theorem dX5_noMoreThan_133 : decode cX5_noMoreThan 133 = .ok (.aload_n 0, 1) := by decide +kernel
theorem dX5_noMoreThan_134 : decode cX5_noMoreThan 134 = .ok (.getfield 15, 3) := by decide +kernel
theorem dX5_noMoreThan_137 : decode cX5_noMoreThan 137 = .ok (.ldc 28, 2) := by decide +kernel
theorem dX5_noMoreThan_139 : decode cX5_noMoreThan 139 = .ok (.invokestatic 38, 3) := by decide +kernel
theorem dX5_noMoreThan_142 : decode cX5_noMoreThan 142 = .ok (.iconst 0, 1) := by decide +kernel
theorem dX5_noMoreThan_143 : decode cX5_noMoreThan 143 = .ok (.istore 6, 2) := by decide +kernel
theorem dX5_noMoreThan_145 : decode cX5_noMoreThan 145 = .ok (.iload 6, 2) := by decide +kernel
theorem dX5_noMoreThan_147 : decode cX5_noMoreThan 147 = .ok (.aload_n 2, 1) := by decide +kernel
theorem dX5_noMoreThan_148 : decode cX5_noMoreThan 148 = .ok (.getfield 35, 3) := by decide +kernel
theorem dX5_noMoreThan_151 : decode cX5_noMoreThan 151 = .ok (.if_icmp .ge 18, 3) := by decide +kernel
theorem dX5_noMoreThan_154 : decode cX5_noMoreThan 154 = .ok (.aload_n 0, 1) := by decide +kernel
theorem dX5_noMoreThan_155 : decode cX5_noMoreThan 155 = .ok (.getfield 15, 3) := by decide +kernel
theorem dX5_noMoreThan_158 : decode cX5_noMoreThan 158 = .ok (.iload 4, 2) := by decide +kernel
theorem dX5_noMoreThan_160 : decode cX5_noMoreThan 160 = .ok (.invokestatic 48, 3) := by decide +kernel
theorem dX5_noMoreThan_163 : decode cX5_noMoreThan 163 = .ok (.iinc 6 1, 3) := by decide +kernel
theorem dX5_noMoreThan_166 : decode cX5_noMoreThan 166 = .ok (.goto (-21), 3) := by decide +kernel
theorem dX5_noMoreThan_169 : decode cX5_noMoreThan 169 = .ok (.aload_n 0, 1) := by decide +kernel
theorem dX5_noMoreThan_170 : decode cX5_noMoreThan 170 = .ok (.getfield 15, 3) := by decide +kernel
theorem dX5_noMoreThan_173 : decode cX5_noMoreThan 173 = .ok (.iconst 0, 1) := by decide +kernel
theorem dX5_noMoreThan_174 : decode cX5_noMoreThan 174 = .ok (.laload, 1) := by decide +kernel
theorem dX5_noMoreThan_175 : decode cX5_noMoreThan 175 = .ok (.l2i, 1) := by decide +kernel
theorem dX5_noMoreThan_176 : decode cX5_noMoreThan 176 = .ok (.ireturn, 1) := by decide +kernel
abbrev YX5_noMoreThan : zY := (yX5_noMoreThan, cX5_noMoreThan, 7, (Option.some Jvm.ClassFile.FieldType.int), [])
def fX5_noMoreThan_145 (F : zFs) (o4 : Int)  (k_145 : Int → zDa → Option (Int × zDa)) (v6 : Int) (D : zDa) : Option (Int × zDa) :=
  if v6 < (D 1 15) then
    (fX5_divide F 88 o4 D).bind (fun D_13 =>
      if (-2147483648 ≤ v6 + 1 ∧ v6 + 1 ≤ 2147483647) then
        k_145 (v6 + 1) D_13
      else none)
  else
    some ((zl2i (D 88 0)), D)
def fX5_noMoreThan_87 (F : zFs) (o1 : Int) (o3 : Int) (o4 : Int) (o5 : Int)  (k_87 : Int → zDa → Option (Int × zDa)) (v6 : Int) (D : zDa) : Option (Int × zDa) :=
  if o1 < v6 then
    (fX5_multiply F 88 1000000 D).bind (fun D_11 =>
      zfix (fun _ _ => none) (fX5_noMoreThan_145 F o4) zfu 0 D_11)
  else
    if (-2147483648 ≤ (D 1 15) - v6 ∧ (D 1 15) - v6 ≤ 2147483647) ∧ (-2147483648 ≤ ((D 1 15) - v6) + 1 ∧ ((D 1 15) - v6) + 1 ≤ 2147483647) ∧ (-2147483648 ≤ (((D 1 15) - v6) + 1) * o3 ∧ (((D 1 15) - v6) + 1) * o3 ≤ 2147483647) then
      (fX5_multiply F 87 ((((D 1 15) - v6) + 1) * o3) D).bind (fun D_15 =>
        if (-2147483648 ≤ v6 * o5 ∧ v6 * o5 ≤ 2147483647) then
          (fX5_divide F 87 (v6 * o5) D_15).bind (fun D_17 =>
            (fX5_addTerm F D_17).bind (fun D_19 =>
              if (-2147483648 ≤ v6 + 1 ∧ v6 + 1 ≤ 2147483647) then
                k_87 (v6 + 1) D_19
              else none))
        else none)
    else none
def fX5_noMoreThan_45 (F : zFs) (o1 : Int) (o3 : Int) (o4 : Int) (o5 : Int)  (k_45 : Int → zDa → Option (Int × zDa)) (v6 : Int) (D : zDa) : Option (Int × zDa) :=
  if v6 < (D 1 15) then
    (fX5_multiply F 87 o5 D).bind (fun D_8 =>
      if (-2147483648 ≤ v6 + 1 ∧ v6 + 1 ≤ 2147483647) then
        k_45 (v6 + 1) D_8
      else none)
  else
    if ((0 : Int) ≤ 0 ∧ (0 : Int) ≤ 0 ∧ (0 : Int) ≤ 9 ∧ (0 + 9 : Int) ≤ 9 ∧ (0 + 9 : Int) ≤ 9) then
      zlet (zrow D 88 (va_cpy (D 87) (D 88) 0 0 9)) (fun D_9 =>
        zfix (fun _ _ => none) (fX5_noMoreThan_87 F o1 o3 o4 o5) zfu 1 D_9)
    else none
def fX5_noMoreThan (F : zFs) (v1 : Int) (D : zDa) : Option (Int × zDa) :=
  zlet ((D 7 0)) (fun x3_1 =>
    zlet ((D 1 5)) (fun x4_2 =>
      if (-2147483648 ≤ x4_2 - x3_1 ∧ x4_2 - x3_1 ≤ 2147483647) then
        zlet ((x4_2 - x3_1)) (fun x5_3 =>
          if 0 < x5_3 then
            (fJ7_fill_d0a16 F 87 0 D).bind (fun D_5 =>
              zlet (zwr D_5 87 0 1) (fun D_6 =>
                zfix (fun _ _ => none) (fX5_noMoreThan_45 F v1 x3_1 x4_2 x5_3) zfu 0 D_6))
          else
            some (1000000, D))
      else none))
set_option maxHeartbeats 20000000 in
theorem sX5_noMoreThan_145 {l : Launch} {E : zE} {d : Nat} {F : zFs} {n sl : Nat} (hG : zG F)  (o4 : Int)   : ∀ (N : Nat) (v6 : Int) (D : zDa), zO l E (d + 1) YX5_noMoreThan 145 [(0, zR 86), (2, zR 1), (4, zI o4), (6, zI v6)] [] (F, D, n, sl) (zcI F n sl) (zfix (fun _ _ => none) (fX5_noMoreThan_145 F o4) N v6 D) := by
  intro N
  induction N with
  | zero => intro v6 D; exact zO_none
  | succ N hk_145 =>
    intro v6 D
    show zO _ _ _ _ _ _ _ _ _ ((fX5_noMoreThan_145 F o4) (zfix (fun _ _ => none) (fX5_noMoreThan_145 F o4) N) v6 D)
    unfold fX5_noMoreThan_145
    refine zO_iload dX5_noMoreThan_145 rfl ?_
    refine zO_aload_n dX5_noMoreThan_147 rfl (zR_P _) ?_
    refine gt9 (k := 15) (v := zI (D 1 15)) dX5_noMoreThan_148 wF_X5_35 (by decide) (gk_1 hG) rfl ?_
    refine zO_icmp_ge (tgt := 169) dX5_noMoreThan_151 rfl (fun c151 => ?_) (fun c151 => ?_)
    · refine zO_aload_n dX5_noMoreThan_154 rfl (zR_P _) ?_
      refine gt5 (k := 1) dX5_noMoreThan_155 wF_X5_15 (by decide) (gk_86 hG) (zgv (c := 5) (k := 1) rfl (Or.inl ⟨_, rfl⟩) (gf_86_1 hG)) ?_
      refine zO_iload dX5_noMoreThan_158 rfl ?_
      refine zO_callS (Y' := YX5_divide) (cw := zcV F n sl) (as := [zR 88, zI o4]) (rest := []) (na := 2) dX5_noMoreThan_160 wC_X5_divide wN_X5 wM_X5_48 wS_X5_divide (by decide) (by decide) rfl rfl (Nat.le_of_ble_eq_true rfl) (fun r hr => zMet_cast (Nat.add_assoc d 0 0) (mX5_divide (d := d + 0) hG 88 o4 r hr)) ?_
      intro D_13 _
      show zO _ _ _ _ _ _ [] (F, D_13, n, sl) _ _
      refine zO_chk (fun h4 => ?_)
      refine zO_iinc dX5_noMoreThan_163 rfl h4 (by decide) ?_
      refine zO_ls (ls' := [(0, zR 86), (2, zR 1), (4, zI o4), (6, zI (v6 + 1))]) rfl ?_
      refine zO_goto (tgt := 145) dX5_noMoreThan_166 rfl ?_
      refine zO_live [0, 2, 4, 6] ?_
      exact hk_145 (v6 + 1) D_13
    · refine zO_aload_n dX5_noMoreThan_169 rfl (zR_P _) ?_
      refine gt5 (k := 1) dX5_noMoreThan_170 wF_X5_15 (by decide) (gk_86 hG) (zgv (c := 5) (k := 1) rfl (Or.inl ⟨_, rfl⟩) (gf_86_1 hG)) ?_
      refine zO_iconst dX5_noMoreThan_173 (by decide) ?_
      refine zO_lald dX5_noMoreThan_174 (gk_88 hG) (gl_in (gl_88 hG) (by decide)) ?_
      refine zO_l2i dX5_noMoreThan_175 ?_
      exact zO_ret (rv := some (zI (zl2i (D 88 0)))) dX5_noMoreThan_176 rfl rfl rfl
set_option maxHeartbeats 20000000 in
theorem sX5_noMoreThan_87 {l : Launch} {E : zE} {d : Nat} {F : zFs} {n sl : Nat} (hG : zG F)  (o1 : Int) (o3 : Int) (o4 : Int) (o5 : Int)   : ∀ (N : Nat) (v6 : Int) (D : zDa), zO l E (d + 1) YX5_noMoreThan 87 [(0, zR 86), (1, zI o1), (2, zR 1), (3, zI o3), (4, zI o4), (5, zI o5), (6, zI v6)] [] (F, D, n, sl) (zcI F n sl) (zfix (fun _ _ => none) (fX5_noMoreThan_87 F o1 o3 o4 o5) N v6 D) := by
  intro N
  induction N with
  | zero => intro v6 D; exact zO_none
  | succ N hk_87 =>
    intro v6 D
    show zO _ _ _ _ _ _ _ _ _ ((fX5_noMoreThan_87 F o1 o3 o4 o5) (zfix (fun _ _ => none) (fX5_noMoreThan_87 F o1 o3 o4 o5) N) v6 D)
    unfold fX5_noMoreThan_87
    refine zO_iload dX5_noMoreThan_87 rfl ?_
    refine zO_iload_n dX5_noMoreThan_89 rfl ?_
    refine zO_icmp_gt (tgt := 133) dX5_noMoreThan_90 rfl (fun c90 => ?_) (fun c90 => ?_)
    · refine zO_aload_n dX5_noMoreThan_133 rfl (zR_P _) ?_
      refine gt5 (k := 1) dX5_noMoreThan_134 wF_X5_15 (by decide) (gk_86 hG) (zgv (c := 5) (k := 1) rfl (Or.inl ⟨_, rfl⟩) (gf_86_1 hG)) ?_
      refine zO_ldc (n := 1000000) dX5_noMoreThan_137 wK_X5_28 (by decide) ?_
      refine zO_callS (Y' := YX5_multiply) (cw := zcV F n sl) (as := [zR 88, zI 1000000]) (rest := []) (na := 2) dX5_noMoreThan_139 wC_X5_multiply wN_X5 wM_X5_38 wS_X5_multiply (by decide) (by decide) rfl rfl (Nat.le_of_ble_eq_true rfl) (fun r hr => zMet_cast (Nat.add_assoc d 0 0) (mX5_multiply (d := d + 0) hG 88 1000000 r hr)) ?_
      intro D_11 _
      show zO _ _ _ _ _ _ [] (F, D_11, n, sl) _ _
      refine zO_iconst dX5_noMoreThan_142 (by decide) ?_
      refine zO_istore dX5_noMoreThan_143 (by decide) ?_
      refine zO_ls (ls' := [(0, zR 86), (1, zI o1), (2, zR 1), (3, zI o3), (4, zI o4), (5, zI o5), (6, zI 0)]) rfl ?_
      refine zO_live [0, 2, 4, 6] ?_
      exact sX5_noMoreThan_145 hG o4 zfu 0 D_11
    · refine zO_chk (fun h5 => ?_)
      refine zO_aload_n dX5_noMoreThan_93 rfl (zR_P _) ?_
      refine gt5 (k := 0) dX5_noMoreThan_94 wF_X5_11 (by decide) (gk_86 hG) (zgv (c := 5) (k := 0) rfl (Or.inl ⟨_, rfl⟩) (gf_86_0 hG)) ?_
      refine zO_aload_n dX5_noMoreThan_97 rfl (zR_P _) ?_
      refine gt9 (k := 15) (v := zI (D 1 15)) dX5_noMoreThan_98 wF_X5_35 (by decide) (gk_1 hG) rfl ?_
      refine zO_iload dX5_noMoreThan_101 rfl ?_
      refine zO_isub dX5_noMoreThan_103 h5.1 ?_
      refine zO_iconst dX5_noMoreThan_104 (by decide) ?_
      refine zO_iadd dX5_noMoreThan_105 h5.2.1 ?_
      refine zO_iload_n dX5_noMoreThan_106 rfl ?_
      refine zO_imul dX5_noMoreThan_107 h5.2.2 ?_
      refine zO_callS (Y' := YX5_multiply) (cw := zcV F n sl) (as := [zR 87, zI ((((D 1 15) - v6) + 1) * o3)]) (rest := []) (na := 2) dX5_noMoreThan_108 wC_X5_multiply wN_X5 wM_X5_38 wS_X5_multiply (by decide) (by decide) rfl rfl (Nat.le_of_ble_eq_true rfl) (fun r hr => zMet_cast (Nat.add_assoc d 0 0) (mX5_multiply (d := d + 0) hG 87 ((((D 1 15) - v6) + 1) * o3) r hr)) ?_
      intro D_15 _
      show zO _ _ _ _ _ _ [] (F, D_15, n, sl) _ _
      refine zO_chk (fun h6 => ?_)
      refine zO_aload_n dX5_noMoreThan_111 rfl (zR_P _) ?_
      refine gt5 (k := 0) dX5_noMoreThan_112 wF_X5_11 (by decide) (gk_86 hG) (zgv (c := 5) (k := 0) rfl (Or.inl ⟨_, rfl⟩) (gf_86_0 hG)) ?_
      refine zO_iload dX5_noMoreThan_115 rfl ?_
      refine zO_iload dX5_noMoreThan_117 rfl ?_
      refine zO_imul dX5_noMoreThan_119 h6 ?_
      refine zO_callS (Y' := YX5_divide) (cw := zcV F n sl) (as := [zR 87, zI (v6 * o5)]) (rest := []) (na := 2) dX5_noMoreThan_120 wC_X5_divide wN_X5 wM_X5_48 wS_X5_divide (by decide) (by decide) rfl rfl (Nat.le_of_ble_eq_true rfl) (fun r hr => zMet_cast (Nat.add_assoc d 0 0) (mX5_divide (d := d + 0) hG 87 (v6 * o5) r hr)) ?_
      intro D_17 _
      show zO _ _ _ _ _ _ [] (F, D_17, n, sl) _ _
      refine zO_aload_n dX5_noMoreThan_123 rfl (zR_P _) ?_
      refine zO_callV (Y' := YX5_addTerm) (cw := zcV F n sl) (as := []) (rest := []) (na := 0) (ci := 5) rfl dX5_noMoreThan_124 wC_X5_addTerm wN_X5 wM_X5_51 wI_X5_addTerm wV_X5_addTerm (by decide) (by decide) rfl rfl (Nat.le_of_ble_eq_true rfl) rfl (by decide) (gk_86 hG) (fun r hr => zMet_cast (Nat.add_assoc d 0 0) (mX5_addTerm (d := d + 0) hG  r hr)) ?_
      intro D_19 _
      show zO _ _ _ _ _ _ [] (F, D_19, n, sl) _ _
      refine zO_chk (fun h7 => ?_)
      refine zO_iinc dX5_noMoreThan_127 rfl h7 (by decide) ?_
      refine zO_ls (ls' := [(0, zR 86), (1, zI o1), (2, zR 1), (3, zI o3), (4, zI o4), (5, zI o5), (6, zI (v6 + 1))]) rfl ?_
      refine zO_goto (tgt := 87) dX5_noMoreThan_130 rfl ?_
      refine zO_live [0, 1, 2, 3, 4, 5, 6] ?_
      exact hk_87 (v6 + 1) D_19
set_option maxHeartbeats 20000000 in
theorem sX5_noMoreThan_45 {l : Launch} {E : zE} {d : Nat} {F : zFs} {n sl : Nat} (hG : zG F)  (o1 : Int) (o3 : Int) (o4 : Int) (o5 : Int)   : ∀ (N : Nat) (v6 : Int) (D : zDa), zO l E (d + 1) YX5_noMoreThan 45 [(0, zR 86), (1, zI o1), (2, zR 1), (3, zI o3), (4, zI o4), (5, zI o5), (6, zI v6)] [] (F, D, n, sl) (zcI F n sl) (zfix (fun _ _ => none) (fX5_noMoreThan_45 F o1 o3 o4 o5) N v6 D) := by
  intro N
  induction N with
  | zero => intro v6 D; exact zO_none
  | succ N hk_45 =>
    intro v6 D
    show zO _ _ _ _ _ _ _ _ _ ((fX5_noMoreThan_45 F o1 o3 o4 o5) (zfix (fun _ _ => none) (fX5_noMoreThan_45 F o1 o3 o4 o5) N) v6 D)
    unfold fX5_noMoreThan_45
    refine zO_iload dX5_noMoreThan_45 rfl ?_
    refine zO_aload_n dX5_noMoreThan_47 rfl (zR_P _) ?_
    refine gt9 (k := 15) (v := zI (D 1 15)) dX5_noMoreThan_48 wF_X5_35 (by decide) (gk_1 hG) rfl ?_
    refine zO_icmp_ge (tgt := 69) dX5_noMoreThan_51 rfl (fun c51 => ?_) (fun c51 => ?_)
    · refine zO_aload_n dX5_noMoreThan_54 rfl (zR_P _) ?_
      refine gt5 (k := 0) dX5_noMoreThan_55 wF_X5_11 (by decide) (gk_86 hG) (zgv (c := 5) (k := 0) rfl (Or.inl ⟨_, rfl⟩) (gf_86_0 hG)) ?_
      refine zO_iload dX5_noMoreThan_58 rfl ?_
      refine zO_callS (Y' := YX5_multiply) (cw := zcV F n sl) (as := [zR 87, zI o5]) (rest := []) (na := 2) dX5_noMoreThan_60 wC_X5_multiply wN_X5 wM_X5_38 wS_X5_multiply (by decide) (by decide) rfl rfl (Nat.le_of_ble_eq_true rfl) (fun r hr => zMet_cast (Nat.add_assoc d 0 0) (mX5_multiply (d := d + 0) hG 87 o5 r hr)) ?_
      intro D_8 _
      show zO _ _ _ _ _ _ [] (F, D_8, n, sl) _ _
      refine zO_chk (fun h2 => ?_)
      refine zO_iinc dX5_noMoreThan_63 rfl h2 (by decide) ?_
      refine zO_ls (ls' := [(0, zR 86), (1, zI o1), (2, zR 1), (3, zI o3), (4, zI o4), (5, zI o5), (6, zI (v6 + 1))]) rfl ?_
      refine zO_goto (tgt := 45) dX5_noMoreThan_66 rfl ?_
      refine zO_live [0, 1, 2, 3, 4, 5, 6] ?_
      exact hk_45 (v6 + 1) D_8
    · refine zO_chk (fun h3 => ?_)
      refine zO_aload_n dX5_noMoreThan_69 rfl (zR_P _) ?_
      refine gt5 (k := 0) dX5_noMoreThan_70 wF_X5_11 (by decide) (gk_86 hG) (zgv (c := 5) (k := 0) rfl (Or.inl ⟨_, rfl⟩) (gf_86_0 hG)) ?_
      refine zO_iconst dX5_noMoreThan_73 (by decide) ?_
      refine zO_aload_n dX5_noMoreThan_74 rfl (zR_P _) ?_
      refine gt5 (k := 1) dX5_noMoreThan_75 wF_X5_15 (by decide) (gk_86 hG) (zgv (c := 5) (k := 1) rfl (Or.inl ⟨_, rfl⟩) (gf_86_1 hG)) ?_
      refine zO_iconst dX5_noMoreThan_78 (by decide) ?_
      refine zO_bipush dX5_noMoreThan_79 (by decide) ?_
      refine zO_copy (kd := 21) dX5_noMoreThan_81 wM_X5_42 (by decide) (gk_87 hG) (gk_88 hG) (by rw [gl_87 hG, gl_88 hG]; exact h3) (Nat.le_of_ble_eq_true rfl) ?_
      refine zO_letD (fun D_9 eD_9 => ?_)
      refine zO_iconst dX5_noMoreThan_84 (by decide) ?_
      refine zO_istore dX5_noMoreThan_85 (by decide) ?_
      refine zO_ls (ls' := [(0, zR 86), (1, zI o1), (2, zR 1), (3, zI o3), (4, zI o4), (5, zI o5), (6, zI 1)]) rfl ?_
      refine zO_live [0, 1, 2, 3, 4, 5, 6] ?_
      exact sX5_noMoreThan_87 hG o1 o3 o4 o5 zfu 1 D_9
set_option maxHeartbeats 20000000 in
theorem mX5_noMoreThan {l : Launch} {E : zE} {d : Nat} {F : zFs} {n sl : Nat} (hG : zG F) (v1 : Int) {D : zDa} : ∀ r, fX5_noMoreThan F  v1 D = some r → zMet l E (d + 1) YX5_noMoreThan [zR 86, zI v1, zR 1] (F, D, n, sl) (zcI F n sl r) := by
  intro r hr
  refine zMet_of (plainFor_of_name (by decide)) (fun _ h => (nomatch h)) (Nat.le_of_ble_eq_true rfl) ?_
  have hz : zO l E (d + 1) YX5_noMoreThan 0 [(0, zR 86), (1, zI v1), (2, zR 1)] [] (F, D, n, sl) (zcI F n sl) (fX5_noMoreThan F  v1 D) := by
    unfold fX5_noMoreThan
    refine zO_aload_n dX5_noMoreThan_0 rfl (zR_P _) ?_
    refine gt9 (k := 6) dX5_noMoreThan_1 wF_X5_18 (by decide) (gk_1 hG) (zgv (c := 9) (k := 6) rfl (Or.inl ⟨_, rfl⟩) (gf_1_6 hG)) ?_
    refine zO_iconst dX5_noMoreThan_4 (by decide) ?_
    refine zO_iald dX5_noMoreThan_5 (gk_7 hG) (gl_in (gl_7 hG) (by decide)) ?_
    refine zO_letI (fun x3_1 ex3_1 => ?_)
    refine zO_istore_n dX5_noMoreThan_6 (by decide) ?_
    refine zO_ls (ls' := [(0, zR 86), (1, zI v1), (2, zR 1), (3, zI x3_1)]) rfl ?_
    refine zO_aload_n dX5_noMoreThan_7 rfl (zR_P _) ?_
    refine gt9 (k := 5) (v := zI (D 1 5)) dX5_noMoreThan_8 wF_X5_24 (by decide) (gk_1 hG) rfl ?_
    refine zO_letI (fun x4_2 ex4_2 => ?_)
    refine zO_istore dX5_noMoreThan_11 (by decide) ?_
    refine zO_ls (ls' := [(0, zR 86), (1, zI v1), (2, zR 1), (3, zI x3_1), (4, zI x4_2)]) rfl ?_
    refine zO_chk (fun h1 => ?_)
    refine zO_iload dX5_noMoreThan_13 rfl ?_
    refine zO_iload_n dX5_noMoreThan_15 rfl ?_
    refine zO_isub dX5_noMoreThan_16 h1 ?_
    refine zO_letI (fun x5_3 ex5_3 => ?_)
    refine zO_istore dX5_noMoreThan_17 (by decide) ?_
    refine zO_ls (ls' := [(0, zR 86), (1, zI v1), (2, zR 1), (3, zI x3_1), (4, zI x4_2), (5, zI x5_3)]) rfl ?_
    refine zO_iload dX5_noMoreThan_19 rfl ?_
    refine zO_if_gt (tgt := 27) dX5_noMoreThan_21 rfl (fun c21 => ?_) (fun c21 => ?_)
    · refine zO_aload_n dX5_noMoreThan_27 rfl (zR_P _) ?_
      refine gt5 (k := 0) dX5_noMoreThan_28 wF_X5_11 (by decide) (gk_86 hG) (zgv (c := 5) (k := 0) rfl (Or.inl ⟨_, rfl⟩) (gf_86_0 hG)) ?_
      refine zO_lconst dX5_noMoreThan_31 ?_
      refine zO_callS (Y' := YJ7_fill_d0a16) (cw := zcV F n sl) (as := [zR 87, zL 0]) (rest := []) (na := 2) dX5_noMoreThan_32 wC_J7_fill_d0a16 wN_J7 wM_X5_29 wS_J7_fill_d0a16 (by decide) (by decide) rfl rfl (Nat.le_of_ble_eq_true rfl) (fun r hr => zMet_cast (Nat.add_assoc d 0 0) (mJ7_fill_d0a16 (d := d + 0) hG 87 0 r hr)) ?_
      intro D_5 _
      show zO _ _ _ _ _ _ [] (F, D_5, n, sl) _ _
      refine zO_aload_n dX5_noMoreThan_35 rfl (zR_P _) ?_
      refine gt5 (k := 0) dX5_noMoreThan_36 wF_X5_11 (by decide) (gk_86 hG) (zgv (c := 5) (k := 0) rfl (Or.inl ⟨_, rfl⟩) (gf_86_0 hG)) ?_
      refine zO_iconst dX5_noMoreThan_39 (by decide) ?_
      refine zO_lconst dX5_noMoreThan_40 ?_
      refine zO_last dX5_noMoreThan_41 (gk_87 hG) (gl_in (gl_87 hG) (by decide)) ?_
      refine zO_letD (fun D_6 eD_6 => ?_)
      refine zO_iconst dX5_noMoreThan_42 (by decide) ?_
      refine zO_istore dX5_noMoreThan_43 (by decide) ?_
      refine zO_ls (ls' := [(0, zR 86), (1, zI v1), (2, zR 1), (3, zI x3_1), (4, zI x4_2), (5, zI x5_3), (6, zI 0)]) rfl ?_
      refine zO_live [0, 1, 2, 3, 4, 5, 6] ?_
      exact sX5_noMoreThan_45 hG v1 x3_1 x4_2 x5_3 zfu 0 D_6
    · refine zO_ldc (n := 1000000) dX5_noMoreThan_24 wK_X5_28 (by decide) ?_
      exact zO_ret (rv := some (zI 1000000)) dX5_noMoreThan_26 rfl rfl rfl
  exact hz r hr
theorem dX6_isLetter_0 : decode cX6_isLetter 0 = .ok (.iload_n 0, 1) := by decide +kernel
theorem dX6_isLetter_1 : decode cX6_isLetter 1 = .ok (.bipush 97, 2) := by decide +kernel
theorem dX6_isLetter_3 : decode cX6_isLetter 3 = .ok (.if_icmp .lt 13, 3) := by decide +kernel
theorem dX6_isLetter_6 : decode cX6_isLetter 6 = .ok (.iload_n 0, 1) := by decide +kernel
theorem dX6_isLetter_7 : decode cX6_isLetter 7 = .ok (.bipush 122, 2) := by decide +kernel
theorem dX6_isLetter_9 : decode cX6_isLetter 9 = .ok (.if_icmp .gt 7, 3) := by decide +kernel
theorem dX6_isLetter_12 : decode cX6_isLetter 12 = .ok (.iconst 1, 1) := by decide +kernel
theorem dX6_isLetter_13 : decode cX6_isLetter 13 = .ok (.goto 4, 3) := by decide +kernel
theorem dX6_isLetter_16 : decode cX6_isLetter 16 = .ok (.iconst 0, 1) := by decide +kernel
theorem dX6_isLetter_17 : decode cX6_isLetter 17 = .ok (.ireturn, 1) := by decide +kernel
abbrev YX6_isLetter : zY := (yX6_isLetter, cX6_isLetter, 1, (Option.some Jvm.ClassFile.FieldType.boolean), [])
def fX6_isLetter (F : zFs) (v0 : Int) (D : zDa) : Option (Int × zDa) :=
  if v0 < 97 then
    some (0, D)
  else
    if 122 < v0 then
      some (0, D)
    else
      some (1, D)
set_option maxHeartbeats 20000000 in
theorem mX6_isLetter {l : Launch} {E : zE} {d : Nat} {F : zFs} {n sl : Nat} (hG : zG F) (v0 : Int) {D : zDa} : ∀ r, fX6_isLetter F  v0 D = some r → zMet l E (d + 0) YX6_isLetter [zI v0] (F, D, n, sl) (zcI F n sl r) := by
  intro r hr
  refine zMet_of (plainFor_of_name (by decide)) (fun _ h => (nomatch h)) (Nat.le_of_ble_eq_true rfl) ?_
  have hz : zO l E (d + 0) YX6_isLetter 0 [(0, zI v0)] [] (F, D, n, sl) (zcI F n sl) (fX6_isLetter F  v0 D) := by
    unfold fX6_isLetter
    refine zO_iload_n dX6_isLetter_0 rfl ?_
    refine zO_bipush dX6_isLetter_1 (by decide) ?_
    refine zO_icmp_lt (tgt := 16) dX6_isLetter_3 rfl (fun c3 => ?_) (fun c3 => ?_)
    · refine zO_iconst dX6_isLetter_16 (by decide) ?_
      exact zO_ret (rv := some (zI 0)) dX6_isLetter_17 rfl rfl rfl
    · refine zO_iload_n dX6_isLetter_6 rfl ?_
      refine zO_bipush dX6_isLetter_7 (by decide) ?_
      refine zO_icmp_gt (tgt := 16) dX6_isLetter_9 rfl (fun c9 => ?_) (fun c9 => ?_)
      · refine zO_iconst dX6_isLetter_16 (by decide) ?_
        exact zO_ret (rv := some (zI 0)) dX6_isLetter_17 rfl rfl rfl
      · refine zO_iconst dX6_isLetter_12 (by decide) ?_
        refine zO_goto (tgt := 17) dX6_isLetter_13 rfl ?_
        exact zO_ret (rv := some (zI 1)) dX6_isLetter_17 rfl rfl rfl
  exact hz r hr
theorem dX6_isDigit_0 : decode cX6_isDigit 0 = .ok (.iload_n 0, 1) := by decide +kernel
theorem dX6_isDigit_1 : decode cX6_isDigit 1 = .ok (.bipush 48, 2) := by decide +kernel
theorem dX6_isDigit_3 : decode cX6_isDigit 3 = .ok (.if_icmp .lt 13, 3) := by decide +kernel
theorem dX6_isDigit_6 : decode cX6_isDigit 6 = .ok (.iload_n 0, 1) := by decide +kernel
theorem dX6_isDigit_7 : decode cX6_isDigit 7 = .ok (.bipush 57, 2) := by decide +kernel
theorem dX6_isDigit_9 : decode cX6_isDigit 9 = .ok (.if_icmp .gt 7, 3) := by decide +kernel
theorem dX6_isDigit_12 : decode cX6_isDigit 12 = .ok (.iconst 1, 1) := by decide +kernel
theorem dX6_isDigit_13 : decode cX6_isDigit 13 = .ok (.goto 4, 3) := by decide +kernel
theorem dX6_isDigit_16 : decode cX6_isDigit 16 = .ok (.iconst 0, 1) := by decide +kernel
theorem dX6_isDigit_17 : decode cX6_isDigit 17 = .ok (.ireturn, 1) := by decide +kernel
abbrev YX6_isDigit : zY := (yX6_isDigit, cX6_isDigit, 1, (Option.some Jvm.ClassFile.FieldType.boolean), [])
def fX6_isDigit (F : zFs) (v0 : Int) (D : zDa) : Option (Int × zDa) :=
  if v0 < 48 then
    some (0, D)
  else
    if 57 < v0 then
      some (0, D)
    else
      some (1, D)
set_option maxHeartbeats 20000000 in
theorem mX6_isDigit {l : Launch} {E : zE} {d : Nat} {F : zFs} {n sl : Nat} (hG : zG F) (v0 : Int) {D : zDa} : ∀ r, fX6_isDigit F  v0 D = some r → zMet l E (d + 0) YX6_isDigit [zI v0] (F, D, n, sl) (zcI F n sl r) := by
  intro r hr
  refine zMet_of (plainFor_of_name (by decide)) (fun _ h => (nomatch h)) (Nat.le_of_ble_eq_true rfl) ?_
  have hz : zO l E (d + 0) YX6_isDigit 0 [(0, zI v0)] [] (F, D, n, sl) (zcI F n sl) (fX6_isDigit F  v0 D) := by
    unfold fX6_isDigit
    refine zO_iload_n dX6_isDigit_0 rfl ?_
    refine zO_bipush dX6_isDigit_1 (by decide) ?_
    refine zO_icmp_lt (tgt := 16) dX6_isDigit_3 rfl (fun c3 => ?_) (fun c3 => ?_)
    · refine zO_iconst dX6_isDigit_16 (by decide) ?_
      exact zO_ret (rv := some (zI 0)) dX6_isDigit_17 rfl rfl rfl
    · refine zO_iload_n dX6_isDigit_6 rfl ?_
      refine zO_bipush dX6_isDigit_7 (by decide) ?_
      refine zO_icmp_gt (tgt := 16) dX6_isDigit_9 rfl (fun c9 => ?_) (fun c9 => ?_)
      · refine zO_iconst dX6_isDigit_16 (by decide) ?_
        exact zO_ret (rv := some (zI 0)) dX6_isDigit_17 rfl rfl rfl
      · refine zO_iconst dX6_isDigit_12 (by decide) ?_
        refine zO_goto (tgt := 17) dX6_isDigit_13 rfl ?_
        exact zO_ret (rv := some (zI 1)) dX6_isDigit_17 rfl rfl rfl
  exact hz r hr
theorem dX6_nameNumber_0 : decode cX6_nameNumber 0 = .ok (.iconst 0, 1) := by decide +kernel
theorem dX6_nameNumber_1 : decode cX6_nameNumber 1 = .ok (.istore 5, 2) := by decide +kernel
theorem dX6_nameNumber_3 : decode cX6_nameNumber 3 = .ok (.iload_n 3, 1) := by decide +kernel
theorem dX6_nameNumber_4 : decode cX6_nameNumber 4 = .ok (.istore 6, 2) := by decide +kernel
theorem dX6_nameNumber_6 : decode cX6_nameNumber 6 = .ok (.iload 6, 2) := by decide +kernel
theorem dX6_nameNumber_8 : decode cX6_nameNumber 8 = .ok (.iload 4, 2) := by decide +kernel
theorem dX6_nameNumber_10 : decode cX6_nameNumber 10 = .ok (.if_icmp .ge 32, 3) := by decide +kernel
theorem dX6_nameNumber_13 : decode cX6_nameNumber 13 = .ok (.iload 5, 2) := by decide +kernel
theorem dX6_nameNumber_15 : decode cX6_nameNumber 15 = .ok (.sipush 1000, 3) := by decide +kernel
theorem dX6_nameNumber_18 : decode cX6_nameNumber 18 = .ok (.if_icmp .gt 24, 3) := by decide +kernel
theorem dX6_nameNumber_21 : decode cX6_nameNumber 21 = .ok (.iload 5, 2) := by decide +kernel
theorem dX6_nameNumber_23 : decode cX6_nameNumber 23 = .ok (.bipush 10, 2) := by decide +kernel
theorem dX6_nameNumber_25 : decode cX6_nameNumber 25 = .ok (.imul, 1) := by decide +kernel
theorem dX6_nameNumber_26 : decode cX6_nameNumber 26 = .ok (.aload_n 2, 1) := by decide +kernel
theorem dX6_nameNumber_27 : decode cX6_nameNumber 27 = .ok (.iload 6, 2) := by decide +kernel
theorem dX6_nameNumber_29 : decode cX6_nameNumber 29 = .ok (.iaload, 1) := by decide +kernel
theorem dX6_nameNumber_30 : decode cX6_nameNumber 30 = .ok (.iadd, 1) := by decide +kernel
theorem dX6_nameNumber_31 : decode cX6_nameNumber 31 = .ok (.bipush 48, 2) := by decide +kernel
theorem dX6_nameNumber_33 : decode cX6_nameNumber 33 = .ok (.isub, 1) := by decide +kernel
theorem dX6_nameNumber_34 : decode cX6_nameNumber 34 = .ok (.istore 5, 2) := by decide +kernel
theorem dX6_nameNumber_36 : decode cX6_nameNumber 36 = .ok (.iinc 6 1, 3) := by decide +kernel
theorem dX6_nameNumber_39 : decode cX6_nameNumber 39 = .ok (.goto (-33), 3) := by decide +kernel
theorem dX6_nameNumber_42 : decode cX6_nameNumber 42 = .ok (.aload_n 0, 1) := by decide +kernel
theorem dX6_nameNumber_43 : decode cX6_nameNumber 43 = .ok (.getfield 9, 3) := by decide +kernel
theorem dX6_nameNumber_46 : decode cX6_nameNumber 46 = .ok (.iload_n 1, 1) := by decide +kernel
theorem dX6_nameNumber_47 : decode cX6_nameNumber 47 = .ok (.iload 5, 2) := by decide +kernel
theorem dX6_nameNumber_49 : decode cX6_nameNumber 49 = .ok (.sipush 1000, 3) := by decide +kernel
theorem dX6_nameNumber_52 : decode cX6_nameNumber 52 = .ok (.if_icmp .le 9, 3) := by decide +kernel
theorem dX6_nameNumber_55 : decode cX6_nameNumber 55 = .ok (.sipush 257, 3) := by decide +kernel
theorem dX6_nameNumber_58 : decode cX6_nameNumber 58 = .ok (.goto 6, 3) := by decide +kernel
theorem dX6_nameNumber_61 : decode cX6_nameNumber 61 = .ok (.sipush 258, 3) := by decide +kernel
theorem dX6_nameNumber_64 : decode cX6_nameNumber 64 = .ok (.iastore, 1) := by decide +kernel
theorem dX6_nameNumber_65 : decode cX6_nameNumber 65 = .ok (.aload_n 0, 1) := by decide +kernel
theorem dX6_nameNumber_66 : decode cX6_nameNumber 66 = .ok (.getfield 15, 3) := by decide +kernel
theorem dX6_nameNumber_69 : decode cX6_nameNumber 69 = .ok (.iload_n 1, 1) := by decide +kernel
theorem dX6_nameNumber_70 : decode cX6_nameNumber 70 = .ok (.iload 5, 2) := by decide +kernel
theorem dX6_nameNumber_72 : decode cX6_nameNumber 72 = .ok (.iastore, 1) := by decide +kernel
theorem dX6_nameNumber_73 : decode cX6_nameNumber 73 = .ok (.return_, 1) := by decide +kernel
abbrev YX6_nameNumber : zY := (yX6_nameNumber, cX6_nameNumber, 7, none, [])
def fX6_nameNumber_64 (F : zFs)  (o1 : Int) (v5 : Int) (s0 : Int) (s1 : Int) (D : zDa) : Option zDa :=
  if (0 ≤ s1 ∧ s1 < 401) then
    zlet (zwr D 43 s1.toNat s0) (fun D_1 =>
      if (0 ≤ o1 ∧ o1 < 401) then
        zlet (zwr D_1 44 o1.toNat v5) (fun D_2 =>
          some D_2)
      else none)
  else none
def fX6_nameNumber_42 (F : zFs)  (o1 : Int) (v5 : Int) (D : zDa) : Option zDa :=
  if 1000 < v5 then
    fX6_nameNumber_64 F o1 v5 257 o1 D
  else
    fX6_nameNumber_64 F o1 v5 258 o1 D
def fX6_nameNumber_6 (F : zFs) (o1 : Int) (o4 : Int)  (k_6 : Int → Int → zDa → Option zDa) (v5 : Int) (v6 : Int) (D : zDa) : Option zDa :=
  if v6 < o4 then
    if 1000 < v5 then
      fX6_nameNumber_42 F o1 v5 D
    else
      if (-2147483648 ≤ v5 * 10 ∧ v5 * 10 ≤ 2147483647) ∧ (0 ≤ v6 ∧ v6 < 400) ∧ (-2147483648 ≤ (v5 * 10) + (D 39 v6.toNat) ∧ (v5 * 10) + (D 39 v6.toNat) ≤ 2147483647) ∧ (-2147483648 ≤ ((v5 * 10) + (D 39 v6.toNat)) - 48 ∧ ((v5 * 10) + (D 39 v6.toNat)) - 48 ≤ 2147483647) then
        zlet ((((v5 * 10) + (D 39 v6.toNat)) - 48)) (fun x5_3 =>
          if (-2147483648 ≤ v6 + 1 ∧ v6 + 1 ≤ 2147483647) then
            k_6 x5_3 (v6 + 1) D
          else none)
      else none
  else
    fX6_nameNumber_42 F o1 v5 D
def fX6_nameNumber (F : zFs) (v1 : Int) (v3 : Int) (v4 : Int) (D : zDa) : Option zDa :=
  zfix (fun _ _ _ => none) (fX6_nameNumber_6 F v1 v4) zfu 0 v3 D
set_option maxHeartbeats 20000000 in
theorem sX6_nameNumber_64 {l : Launch} {E : zE} {d : Nat} {F : zFs} {n sl : Nat} (hG : zG F)  (o1 : Int) (v5 : Int) (s0 : Int) (s1 : Int)   (D : zDa) : zO l E (d + 0) YX6_nameNumber 64 [(0, zR 42), (1, zI o1), (5, zI v5)] [zI s0, zI s1, zR 43] (F, D, n, sl) (zcV F n sl) (fX6_nameNumber_64 F o1 v5 s0 s1 D) := by
  unfold fX6_nameNumber_64
  refine zO_chk (fun h1 => ?_)
  refine zO_iast dX6_nameNumber_64 (gk_43 hG) (gl_in (gl_43 hG) h1) ?_
  refine zO_letD (fun D_1 eD_1 => ?_)
  refine zO_chk (fun h2 => ?_)
  refine zO_aload_n dX6_nameNumber_65 rfl (zR_P _) ?_
  refine gt6 (k := 1) dX6_nameNumber_66 wF_X6_15 (by decide) (gk_42 hG) (zgv (c := 6) (k := 1) rfl (Or.inl ⟨_, rfl⟩) (gf_42_1 hG)) ?_
  refine zO_iload_n dX6_nameNumber_69 rfl ?_
  refine zO_iload dX6_nameNumber_70 rfl ?_
  refine zO_iast dX6_nameNumber_72 (gk_44 hG) (gl_in (gl_44 hG) h2) ?_
  refine zO_letD (fun D_2 eD_2 => ?_)
  exact zO_ret (rv := none) dX6_nameNumber_73 rfl trivial rfl
set_option maxHeartbeats 20000000 in
theorem sX6_nameNumber_42 {l : Launch} {E : zE} {d : Nat} {F : zFs} {n sl : Nat} (hG : zG F)  (o1 : Int) (v5 : Int)   (D : zDa) : zO l E (d + 0) YX6_nameNumber 42 [(0, zR 42), (1, zI o1), (5, zI v5)] [] (F, D, n, sl) (zcV F n sl) (fX6_nameNumber_42 F o1 v5 D) := by
  unfold fX6_nameNumber_42
  refine zO_aload_n dX6_nameNumber_42 rfl (zR_P _) ?_
  refine gt6 (k := 0) dX6_nameNumber_43 wF_X6_9 (by decide) (gk_42 hG) (zgv (c := 6) (k := 0) rfl (Or.inl ⟨_, rfl⟩) (gf_42_0 hG)) ?_
  refine zO_iload_n dX6_nameNumber_46 rfl ?_
  refine zO_iload dX6_nameNumber_47 rfl ?_
  refine zO_sipush dX6_nameNumber_49 (by decide) ?_
  refine zO_icmp_le (tgt := 61) dX6_nameNumber_52 rfl (fun c52 => ?_) (fun c52 => ?_)
  · refine zO_sipush dX6_nameNumber_55 (by decide) ?_
    refine zO_goto (tgt := 64) dX6_nameNumber_58 rfl ?_
    refine zO_live [0, 1, 5] ?_
    exact sX6_nameNumber_64 hG o1 v5 257 o1 D
  · refine zO_sipush dX6_nameNumber_61 (by decide) ?_
    refine zO_live [0, 1, 5] ?_
    exact sX6_nameNumber_64 hG o1 v5 258 o1 D
set_option maxHeartbeats 20000000 in
theorem sX6_nameNumber_6 {l : Launch} {E : zE} {d : Nat} {F : zFs} {n sl : Nat} (hG : zG F)  (o1 : Int) (o4 : Int)   : ∀ (N : Nat) (v5 : Int) (v6 : Int) (D : zDa), zO l E (d + 0) YX6_nameNumber 6 [(0, zR 42), (1, zI o1), (2, zR 39), (4, zI o4), (5, zI v5), (6, zI v6)] [] (F, D, n, sl) (zcV F n sl) (zfix (fun _ _ _ => none) (fX6_nameNumber_6 F o1 o4) N v5 v6 D) := by
  intro N
  induction N with
  | zero => intro v5 v6 D; exact zO_none
  | succ N hk_6 =>
    intro v5 v6 D
    show zO _ _ _ _ _ _ _ _ _ ((fX6_nameNumber_6 F o1 o4) (zfix (fun _ _ _ => none) (fX6_nameNumber_6 F o1 o4) N) v5 v6 D)
    unfold fX6_nameNumber_6
    refine zO_iload dX6_nameNumber_6 rfl ?_
    refine zO_iload dX6_nameNumber_8 rfl ?_
    refine zO_icmp_ge (tgt := 42) dX6_nameNumber_10 rfl (fun c10 => ?_) (fun c10 => ?_)
    · refine zO_iload dX6_nameNumber_13 rfl ?_
      refine zO_sipush dX6_nameNumber_15 (by decide) ?_
      refine zO_icmp_gt (tgt := 42) dX6_nameNumber_18 rfl (fun c18 => ?_) (fun c18 => ?_)
      · refine zO_live [0, 1, 5] ?_
        exact sX6_nameNumber_42 hG o1 v5 D
      · refine zO_chk (fun h3 => ?_)
        refine zO_iload dX6_nameNumber_21 rfl ?_
        refine zO_bipush dX6_nameNumber_23 (by decide) ?_
        refine zO_imul dX6_nameNumber_25 h3.1 ?_
        refine zO_aload_n dX6_nameNumber_26 rfl (zR_P _) ?_
        refine zO_iload dX6_nameNumber_27 rfl ?_
        refine zO_iald dX6_nameNumber_29 (gk_39 hG) (gl_in (gl_39 hG) h3.2.1) ?_
        refine zO_iadd dX6_nameNumber_30 h3.2.2.1 ?_
        refine zO_bipush dX6_nameNumber_31 (by decide) ?_
        refine zO_isub dX6_nameNumber_33 h3.2.2.2 ?_
        refine zO_letI (fun x5_3 ex5_3 => ?_)
        refine zO_istore dX6_nameNumber_34 (by decide) ?_
        refine zO_ls (ls' := [(0, zR 42), (1, zI o1), (2, zR 39), (4, zI o4), (5, zI x5_3), (6, zI v6)]) rfl ?_
        refine zO_chk (fun h4 => ?_)
        refine zO_iinc dX6_nameNumber_36 rfl h4 (by decide) ?_
        refine zO_ls (ls' := [(0, zR 42), (1, zI o1), (2, zR 39), (4, zI o4), (5, zI x5_3), (6, zI (v6 + 1))]) rfl ?_
        refine zO_goto (tgt := 6) dX6_nameNumber_39 rfl ?_
        refine zO_live [0, 1, 2, 4, 5, 6] ?_
        exact hk_6 x5_3 (v6 + 1) D
    · refine zO_live [0, 1, 5] ?_
      exact sX6_nameNumber_42 hG o1 v5 D
set_option maxHeartbeats 20000000 in
theorem mX6_nameNumber {l : Launch} {E : zE} {d : Nat} {F : zFs} {n sl : Nat} (hG : zG F) (v1 : Int) (v3 : Int) (v4 : Int) {D : zDa} : ∀ r, fX6_nameNumber F  v1 v3 v4 D = some r → zMet l E (d + 0) YX6_nameNumber [zR 42, zI v1, zR 39, zI v3, zI v4] (F, D, n, sl) (zcV F n sl r) := by
  intro r hr
  refine zMet_of (plainFor_of_name (by decide)) (fun _ h => (nomatch h)) (Nat.le_of_ble_eq_true rfl) ?_
  have hz : zO l E (d + 0) YX6_nameNumber 0 [(0, zR 42), (1, zI v1), (2, zR 39), (3, zI v3), (4, zI v4)] [] (F, D, n, sl) (zcV F n sl) (fX6_nameNumber F  v1 v3 v4 D) := by
    unfold fX6_nameNumber
    refine zO_iconst dX6_nameNumber_0 (by decide) ?_
    refine zO_istore dX6_nameNumber_1 (by decide) ?_
    refine zO_ls (ls' := [(0, zR 42), (1, zI v1), (2, zR 39), (3, zI v3), (4, zI v4), (5, zI 0)]) rfl ?_
    refine zO_iload_n dX6_nameNumber_3 rfl ?_
    refine zO_istore dX6_nameNumber_4 (by decide) ?_
    refine zO_ls (ls' := [(0, zR 42), (1, zI v1), (2, zR 39), (3, zI v3), (4, zI v4), (5, zI 0), (6, zI v3)]) rfl ?_
    refine zO_live [0, 1, 2, 4, 5, 6] ?_
    exact sX6_nameNumber_6 hG v1 v4 zfu 0 v3 D
  exact hz r hr
theorem dJ0_coder_7d493_0 : decode cJ0_coder_7d493 0 = .ok (.getstatic 38, 3) := by decide +kernel
theorem dJ0_coder_7d493_3 : decode cJ0_coder_7d493 3 = .ok (.ifCond .eq 10, 3) := by decide +kernel
theorem dJ0_coder_7d493_6 : decode cJ0_coder_7d493 6 = .ok (.aload_n 0, 1) := by decide +kernel
theorem dJ0_coder_7d493_7 : decode cJ0_coder_7d493 7 = .ok (.getfield 15, 3) := by decide +kernel
theorem dJ0_coder_7d493_10 : decode cJ0_coder_7d493 10 = .ok (.goto 4, 3) := by decide +kernel
theorem dJ0_coder_7d493_13 : decode cJ0_coder_7d493 13 = .ok (.iconst 1, 1) := by decide +kernel
theorem dJ0_coder_7d493_14 : decode cJ0_coder_7d493 14 = .ok (.ireturn, 1) := by decide +kernel
abbrev YJ0_coder_7d493 : zY := (yJ0_coder_7d493, cJ0_coder_7d493, 1, (Option.some Jvm.ClassFile.FieldType.byte), [])
def fJ0_coder_7d493 (F : zFs) (j0 : Nat) (D : zDa) : Option (Int × zDa) :=
  if (1 : Int) = 0 then none
  else
    if (j0 < 3) then
      some (0, D)
    else none
set_option maxHeartbeats 20000000 in
theorem mJ0_coder_7d493 {l : Launch} {E : zE} {d : Nat} {F : zFs} {n sl : Nat} (hG : zG F) (j0 : Nat) {D : zDa} : ∀ r, fJ0_coder_7d493 F  j0 D = some r → zMet l E (d + 0) YJ0_coder_7d493 [zR (1000000 + (10 + j0))] (F, D, n, sl) (zcI F n sl r) := by
  intro r hr
  refine zMet_of (by decide +kernel) (fun _ h => (nomatch h)) (Nat.le_of_ble_eq_true rfl) ?_
  have hz : zO l E (d + 0) YJ0_coder_7d493 0 [(0, zR (1000000 + (10 + j0)))] [] (F, D, n, sl) (zcI F n sl) (fJ0_coder_7d493 F  j0 D) := by
    unfold fJ0_coder_7d493
    refine zO_getsC dJ0_coder_7d493_0 wF_J0_38 ?_
    refine zO_if_eq (tgt := 13) dJ0_coder_7d493_3 rfl (fun _ => zO_none) (fun c3 => ?_)
    refine zO_chk (fun h1 => ?_)
    refine zO_aload_n dJ0_coder_7d493_6 rfl (zR_P _) ?_
    refine zO_scod (j0 := j0) dJ0_coder_7d493_7 h1 wF_J0_15 ?_
    refine zO_goto (tgt := 14) dJ0_coder_7d493_10 rfl ?_
    exact zO_ret (rv := some (zI 0)) dJ0_coder_7d493_14 rfl rfl rfl
  exact hz r hr
theorem dJ0_length_8abf5_0 : decode cJ0_length_8abf5 0 = .ok (.aload_n 0, 1) := by decide +kernel
theorem dJ0_length_8abf5_1 : decode cJ0_length_8abf5 1 = .ok (.getfield 9, 3) := by decide +kernel
theorem dJ0_length_8abf5_4 : decode cJ0_length_8abf5 4 = .ok (.arraylength, 1) := by decide +kernel
theorem dJ0_length_8abf5_5 : decode cJ0_length_8abf5 5 = .ok (.aload_n 0, 1) := by decide +kernel
theorem dJ0_length_8abf5_6 : decode cJ0_length_8abf5 6 = .ok (.invokevirtual 335, 3) := by decide +kernel
theorem dJ0_length_8abf5_9 : decode cJ0_length_8abf5 9 = .ok (.ishr, 1) := by decide +kernel
theorem dJ0_length_8abf5_10 : decode cJ0_length_8abf5 10 = .ok (.ireturn, 1) := by decide +kernel
abbrev YJ0_length_8abf5 : zY := (yJ0_length_8abf5, cJ0_length_8abf5, 1, (Option.some Jvm.ClassFile.FieldType.int), [])
def fJ0_length_8abf5 (F : zFs) (j0 : Nat) (D : zDa) : Option (Int × zDa) :=
  if (j0 < 3) then
    (fJ0_coder_7d493 F j0 D).bind (fun (r_1, D_2) =>
      some ((zshr (zsl j0 : Int) r_1), D_2))
  else none
set_option maxHeartbeats 20000000 in
theorem mJ0_length_8abf5 {l : Launch} {E : zE} {d : Nat} {F : zFs} {n sl : Nat} (hG : zG F) (j0 : Nat) {D : zDa} : ∀ r, fJ0_length_8abf5 F  j0 D = some r → zMet l E (d + 1) YJ0_length_8abf5 [zR (1000000 + (10 + j0))] (F, D, n, sl) (zcI F n sl r) := by
  intro r hr
  refine zMet_of (by decide +kernel) (fun _ h => (nomatch h)) (Nat.le_of_ble_eq_true rfl) ?_
  have hz : zO l E (d + 1) YJ0_length_8abf5 0 [(0, zR (1000000 + (10 + j0)))] [] (F, D, n, sl) (zcI F n sl) (fJ0_length_8abf5 F  j0 D) := by
    unfold fJ0_length_8abf5
    refine zO_chk (fun h1 => ?_)
    refine zO_aload_n dJ0_length_8abf5_0 rfl (zR_P _) ?_
    refine zO_sval (j0 := j0) dJ0_length_8abf5_1 h1 wF_J0_9 ?_
    refine zO_sblen (j0 := j0) dJ0_length_8abf5_4 h1 ?_
    refine zO_aload_n dJ0_length_8abf5_5 rfl (zR_P _) ?_
    refine zO_callT (Y' := YJ0_coder_7d493) (cw := zcI F n sl) (as := []) (rest := [zI (zsl j0 : Int)]) (na := 0) (j0 := j0) dJ0_length_8abf5_6 wC_J0_coder_7d493 wN_J0 wM_J0_335 wI_J0_coder_7d493 wV_J0_coder_7d493 (by decide) (by decide) rfl rfl (Nat.le_of_ble_eq_true rfl) rfl h1 (fun r hr => zMet_cast (Nat.add_assoc d 0 0) (mJ0_coder_7d493 (d := d + 0) hG j0 r hr)) ?_
    rintro ⟨r_1, D_2⟩ -
    show zO _ _ _ _ _ _ [zI r_1, zI (zsl j0 : Int)] (F, D_2, n, sl) _ _
    refine zO_ishr dJ0_length_8abf5_9 ?_
    exact zO_ret (rv := some (zI (zshr (zsl j0 : Int) r_1))) dJ0_length_8abf5_10 rfl rfl rfl
  exact hz r hr
theorem dJ0_isLatin1_aae02_0 : decode cJ0_isLatin1_aae02 0 = .ok (.getstatic 38, 3) := by decide +kernel
theorem dJ0_isLatin1_aae02_3 : decode cJ0_isLatin1_aae02 3 = .ok (.ifCond .eq 14, 3) := by decide +kernel
theorem dJ0_isLatin1_aae02_6 : decode cJ0_isLatin1_aae02 6 = .ok (.aload_n 0, 1) := by decide +kernel
theorem dJ0_isLatin1_aae02_7 : decode cJ0_isLatin1_aae02 7 = .ok (.getfield 15, 3) := by decide +kernel
theorem dJ0_isLatin1_aae02_10 : decode cJ0_isLatin1_aae02 10 = .ok (.ifCond .ne 7, 3) := by decide +kernel
theorem dJ0_isLatin1_aae02_13 : decode cJ0_isLatin1_aae02 13 = .ok (.iconst 1, 1) := by decide +kernel
theorem dJ0_isLatin1_aae02_14 : decode cJ0_isLatin1_aae02 14 = .ok (.goto 4, 3) := by decide +kernel
theorem dJ0_isLatin1_aae02_17 : decode cJ0_isLatin1_aae02 17 = .ok (.iconst 0, 1) := by decide +kernel
theorem dJ0_isLatin1_aae02_18 : decode cJ0_isLatin1_aae02 18 = .ok (.ireturn, 1) := by decide +kernel
abbrev YJ0_isLatin1_aae02 : zY := (yJ0_isLatin1_aae02, cJ0_isLatin1_aae02, 1, (Option.some Jvm.ClassFile.FieldType.boolean), [])
def fJ0_isLatin1_aae02 (F : zFs) (j0 : Nat) (D : zDa) : Option (Int × zDa) :=
  if (1 : Int) = 0 then none
  else
    if (j0 < 3) then
      if (0 : Int) = 0 then
        some (1, D)
      else none
    else none
set_option maxHeartbeats 20000000 in
theorem mJ0_isLatin1_aae02 {l : Launch} {E : zE} {d : Nat} {F : zFs} {n sl : Nat} (hG : zG F) (j0 : Nat) {D : zDa} : ∀ r, fJ0_isLatin1_aae02 F  j0 D = some r → zMet l E (d + 0) YJ0_isLatin1_aae02 [zR (1000000 + (10 + j0))] (F, D, n, sl) (zcI F n sl r) := by
  intro r hr
  refine zMet_of (by decide +kernel) (fun _ h => (nomatch h)) (Nat.le_of_ble_eq_true rfl) ?_
  have hz : zO l E (d + 0) YJ0_isLatin1_aae02 0 [(0, zR (1000000 + (10 + j0)))] [] (F, D, n, sl) (zcI F n sl) (fJ0_isLatin1_aae02 F  j0 D) := by
    unfold fJ0_isLatin1_aae02
    refine zO_getsC dJ0_isLatin1_aae02_0 wF_J0_38 ?_
    refine zO_if_eq (tgt := 17) dJ0_isLatin1_aae02_3 rfl (fun _ => zO_none) (fun c3 => ?_)
    refine zO_chk (fun h1 => ?_)
    refine zO_aload_n dJ0_isLatin1_aae02_6 rfl (zR_P _) ?_
    refine zO_scod (j0 := j0) dJ0_isLatin1_aae02_7 h1 wF_J0_15 ?_
    refine zO_if_ne (tgt := 17) dJ0_isLatin1_aae02_10 rfl (fun c10 => ?_) (fun _ => zO_none)
    refine zO_iconst dJ0_isLatin1_aae02_13 (by decide) ?_
    refine zO_goto (tgt := 18) dJ0_isLatin1_aae02_14 rfl ?_
    exact zO_ret (rv := some (zI 1)) dJ0_isLatin1_aae02_18 rfl rfl rfl
  exact hz r hr
/-! J1_charAt_3b067: part 15 -/
theorem dJ0_charAt_5068e_0 : decode cJ0_charAt_5068e 0 = .ok (.aload_n 0, 1) := by decide +kernel
theorem dJ0_charAt_5068e_1 : decode cJ0_charAt_5068e 1 = .ok (.invokevirtual 492, 3) := by decide +kernel
theorem dJ0_charAt_5068e_4 : decode cJ0_charAt_5068e 4 = .ok (.ifCond .eq 12, 3) := by decide +kernel
theorem dJ0_charAt_5068e_7 : decode cJ0_charAt_5068e 7 = .ok (.aload_n 0, 1) := by decide +kernel
theorem dJ0_charAt_5068e_8 : decode cJ0_charAt_5068e 8 = .ok (.getfield 9, 3) := by decide +kernel
theorem dJ0_charAt_5068e_11 : decode cJ0_charAt_5068e 11 = .ok (.iload_n 1, 1) := by decide +kernel
theorem dJ0_charAt_5068e_12 : decode cJ0_charAt_5068e 12 = .ok (.invokestatic 495, 3) := by decide +kernel
theorem dJ0_charAt_5068e_15 : decode cJ0_charAt_5068e 15 = .ok (.ireturn, 1) := by decide +kernel
theorem dJ0_charAt_5068e_16 : decode cJ0_charAt_5068e 16 = .ok (.aload_n 0, 1) := by decide +kernel
theorem dJ0_charAt_5068e_17 : decode cJ0_charAt_5068e 17 = .ok (.getfield 9, 3) := by decide +kernel
theorem dJ0_charAt_5068e_20 : decode cJ0_charAt_5068e 20 = .ok (.iload_n 1, 1) := by decide +kernel
theorem dJ0_charAt_5068e_21 : decode cJ0_charAt_5068e 21 = .ok (.invokestatic 498, 3) := by decide +kernel
theorem dJ0_charAt_5068e_24 : decode cJ0_charAt_5068e 24 = .ok (.ireturn, 1) := by decide +kernel
abbrev YJ0_charAt_5068e : zY := (yJ0_charAt_5068e, cJ0_charAt_5068e, 2, (Option.some Jvm.ClassFile.FieldType.char), [])
def fJ0_charAt_5068e (F : zFs) (j0 : Nat) (v1 : Int) (D : zDa) : Option (Int × zDa) :=
  if (j0 < 3) then
    (fJ0_isLatin1_aae02 F j0 D).bind (fun (r_1, D_2) =>
      if r_1 = 0 then
        none
      else
        (fJ1_charAt_3b067 F j0 v1 D_2).bind (fun (r_3, D_4) =>
          if (0 ≤ r_3 ∧ r_3 ≤ 65535) then
            some (r_3, D_4)
          else none))
  else none
set_option maxHeartbeats 20000000 in
theorem mJ0_charAt_5068e {l : Launch} {E : zE} {d : Nat} {F : zFs} {n sl : Nat} (hG : zG F) (j0 : Nat) (v1 : Int) {D : zDa} : ∀ r, fJ0_charAt_5068e F  j0 v1 D = some r → zMet l E (d + 3) YJ0_charAt_5068e [zR (1000000 + (10 + j0)), zI v1] (F, D, n, sl) (zcI F n sl r) := by
  intro r hr
  refine zMet_of (by decide +kernel) (fun _ h => (nomatch h)) (Nat.le_of_ble_eq_true rfl) ?_
  have hz : zO l E (d + 3) YJ0_charAt_5068e 0 [(0, zR (1000000 + (10 + j0))), (1, zI v1)] [] (F, D, n, sl) (zcI F n sl) (fJ0_charAt_5068e F  j0 v1 D) := by
    unfold fJ0_charAt_5068e
    refine zO_chk (fun h1 => ?_)
    refine zO_aload_n dJ0_charAt_5068e_0 rfl (zR_P _) ?_
    refine zO_callT (Y' := YJ0_isLatin1_aae02) (cw := zcI F n sl) (as := []) (rest := []) (na := 0) (j0 := j0) dJ0_charAt_5068e_1 wC_J0_isLatin1_aae02 wN_J0 wM_J0_492 wI_J0_isLatin1_aae02 wV_J0_isLatin1_aae02 (by decide) (by decide) rfl rfl (Nat.le_of_ble_eq_true rfl) rfl h1 (fun r hr => zMet_cast (Nat.add_assoc d 2 0) (mJ0_isLatin1_aae02 (d := d + 2) hG j0 r hr)) ?_
    rintro ⟨r_1, D_2⟩ -
    show zO _ _ _ _ _ _ [zI r_1] (F, D_2, n, sl) _ _
    refine zO_if_eq (tgt := 16) dJ0_charAt_5068e_4 rfl (fun c4 => ?_) (fun c4 => ?_)
    · refine zO_aload_n dJ0_charAt_5068e_16 rfl (zR_P _) ?_
      refine zO_sval (j0 := j0) dJ0_charAt_5068e_17 h1 wF_J0_9 ?_
      refine zO_iload_n dJ0_charAt_5068e_20 rfl ?_
      exact zO_none
    · refine zO_aload_n dJ0_charAt_5068e_7 rfl (zR_P _) ?_
      refine zO_sval (j0 := j0) dJ0_charAt_5068e_8 h1 wF_J0_9 ?_
      refine zO_iload_n dJ0_charAt_5068e_11 rfl ?_
      refine zO_callS (Y' := YJ1_charAt_3b067) (cw := zcI F n sl) (as := [zR (1000000 + (20 + j0)), zI v1]) (rest := []) (na := 2) dJ0_charAt_5068e_12 wC_J1_charAt_3b067 wN_J1 wM_J0_495 wS_J1_charAt_3b067 (by decide) (by decide) rfl rfl (Nat.le_of_ble_eq_true rfl) (fun r hr => zMet_cast (Nat.add_assoc d 0 2) (mJ1_charAt_3b067 (d := d + 0) hG j0 v1 r hr)) ?_
      rintro ⟨r_3, D_4⟩ -
      show zO _ _ _ _ _ _ [zI r_3] (F, D_4, n, sl) _ _
      refine zO_chk (fun h2 => ?_)
      exact zO_ret (rv := some (zI r_3)) dJ0_charAt_5068e_15 rfl (zretok_c h2) rfl
  exact hz r hr
theorem dX6_placeOf_0 : decode cX6_placeOf 0 = .ok (.iconst 0, 1) := by decide +kernel
theorem dX6_placeOf_1 : decode cX6_placeOf 1 = .ok (.istore 4, 2) := by decide +kernel
theorem dX6_placeOf_3 : decode cX6_placeOf 3 = .ok (.iconst 0, 1) := by decide +kernel
theorem dX6_placeOf_4 : decode cX6_placeOf 4 = .ok (.istore 5, 2) := by decide +kernel
theorem dX6_placeOf_6 : decode cX6_placeOf 6 = .ok (.iconst 0, 1) := by decide +kernel
theorem dX6_placeOf_7 : decode cX6_placeOf 7 = .ok (.istore 6, 2) := by decide +kernel
theorem dX6_placeOf_9 : decode cX6_placeOf 9 = .ok (.iload 6, 2) := by decide +kernel
theorem dX6_placeOf_11 : decode cX6_placeOf 11 = .ok (.aload_n 3, 1) := by decide +kernel
theorem dX6_placeOf_12 : decode cX6_placeOf 12 = .ok (.invokevirtual 98, 3) := by decide +kernel
theorem dX6_placeOf_15 : decode cX6_placeOf 15 = .ok (.if_icmp .ge 102, 3) := by decide +kernel
theorem dX6_placeOf_18 : decode cX6_placeOf 18 = .ok (.aload_n 3, 1) := by decide +kernel
theorem dX6_placeOf_19 : decode cX6_placeOf 19 = .ok (.iload 6, 2) := by decide +kernel
theorem dX6_placeOf_21 : decode cX6_placeOf 21 = .ok (.invokevirtual 104, 3) := by decide +kernel
theorem dX6_placeOf_24 : decode cX6_placeOf 24 = .ok (.bipush 32, 2) := by decide +kernel
theorem dX6_placeOf_26 : decode cX6_placeOf 26 = .ok (.if_icmp .ne 85, 3) := by decide +kernel
theorem dX6_placeOf_29 : decode cX6_placeOf 29 = .ok (.iload 6, 2) := by decide +kernel
theorem dX6_placeOf_31 : decode cX6_placeOf 31 = .ok (.iload 5, 2) := by decide +kernel
theorem dX6_placeOf_33 : decode cX6_placeOf 33 = .ok (.isub, 1) := by decide +kernel
theorem dX6_placeOf_34 : decode cX6_placeOf 34 = .ok (.iload_n 2, 1) := by decide +kernel
theorem dX6_placeOf_35 : decode cX6_placeOf 35 = .ok (.iload_n 1, 1) := by decide +kernel
theorem dX6_placeOf_36 : decode cX6_placeOf 36 = .ok (.isub, 1) := by decide +kernel
theorem dX6_placeOf_37 : decode cX6_placeOf 37 = .ok (.if_icmp .ne 7, 3) := by decide +kernel
theorem dX6_placeOf_40 : decode cX6_placeOf 40 = .ok (.iconst 1, 1) := by decide +kernel
theorem dX6_placeOf_41 : decode cX6_placeOf 41 = .ok (.goto 4, 3) := by decide +kernel
theorem dX6_placeOf_44 : decode cX6_placeOf 44 = .ok (.iconst 0, 1) := by decide +kernel
theorem dX6_placeOf_45 : decode cX6_placeOf 45 = .ok (.istore 7, 2) := by decide +kernel
theorem dX6_placeOf_47 : decode cX6_placeOf 47 = .ok (.iload 5, 2) := by decide +kernel
theorem dX6_placeOf_49 : decode cX6_placeOf 49 = .ok (.istore 8, 2) := by decide +kernel
theorem dX6_placeOf_51 : decode cX6_placeOf 51 = .ok (.iload 7, 2) := by decide +kernel
theorem dX6_placeOf_53 : decode cX6_placeOf 53 = .ok (.ifCond .eq 41, 3) := by decide +kernel
theorem dX6_placeOf_56 : decode cX6_placeOf 56 = .ok (.iload 8, 2) := by decide +kernel
theorem dX6_placeOf_58 : decode cX6_placeOf 58 = .ok (.iload 6, 2) := by decide +kernel
theorem dX6_placeOf_60 : decode cX6_placeOf 60 = .ok (.if_icmp .ge 34, 3) := by decide +kernel
theorem dX6_placeOf_63 : decode cX6_placeOf 63 = .ok (.aload_n 0, 1) := by decide +kernel
theorem dX6_placeOf_64 : decode cX6_placeOf 64 = .ok (.iload_n 1, 1) := by decide +kernel
theorem dX6_placeOf_65 : decode cX6_placeOf 65 = .ok (.iload 8, 2) := by decide +kernel
theorem dX6_placeOf_67 : decode cX6_placeOf 67 = .ok (.iadd, 1) := by decide +kernel
theorem dX6_placeOf_68 : decode cX6_placeOf 68 = .ok (.iload 5, 2) := by decide +kernel
theorem dX6_placeOf_70 : decode cX6_placeOf 70 = .ok (.isub, 1) := by decide +kernel
theorem dX6_placeOf_71 : decode cX6_placeOf 71 = .ok (.iaload, 1) := by decide +kernel
theorem dX6_placeOf_72 : decode cX6_placeOf 72 = .ok (.aload_n 3, 1) := by decide +kernel
theorem dX6_placeOf_73 : decode cX6_placeOf 73 = .ok (.iload 8, 2) := by decide +kernel
theorem dX6_placeOf_75 : decode cX6_placeOf 75 = .ok (.invokevirtual 104, 3) := by decide +kernel
theorem dX6_placeOf_78 : decode cX6_placeOf 78 = .ok (.if_icmp .ne 7, 3) := by decide +kernel
theorem dX6_placeOf_81 : decode cX6_placeOf 81 = .ok (.iconst 1, 1) := by decide +kernel
theorem dX6_placeOf_82 : decode cX6_placeOf 82 = .ok (.goto 4, 3) := by decide +kernel
theorem dX6_placeOf_85 : decode cX6_placeOf 85 = .ok (.iconst 0, 1) := by decide +kernel
theorem dX6_placeOf_86 : decode cX6_placeOf 86 = .ok (.istore 7, 2) := by decide +kernel
theorem dX6_placeOf_88 : decode cX6_placeOf 88 = .ok (.iinc 8 1, 3) := by decide +kernel
theorem dX6_placeOf_91 : decode cX6_placeOf 91 = .ok (.goto (-40), 3) := by decide +kernel
theorem dX6_placeOf_94 : decode cX6_placeOf 94 = .ok (.iload 7, 2) := by decide +kernel
theorem dX6_placeOf_96 : decode cX6_placeOf 96 = .ok (.ifCond .eq 6, 3) := by decide +kernel
theorem dX6_placeOf_99 : decode cX6_placeOf 99 = .ok (.iload 4, 2) := by decide +kernel
theorem dX6_placeOf_101 : decode cX6_placeOf 101 = .ok (.ireturn, 1) := by decide +kernel
theorem dX6_placeOf_102 : decode cX6_placeOf 102 = .ok (.iinc 4 1, 3) := by decide +kernel
theorem dX6_placeOf_105 : decode cX6_placeOf 105 = .ok (.iload 6, 2) := by decide +kernel
theorem dX6_placeOf_107 : decode cX6_placeOf 107 = .ok (.iconst 1, 1) := by decide +kernel
theorem dX6_placeOf_108 : decode cX6_placeOf 108 = .ok (.iadd, 1) := by decide +kernel
theorem dX6_placeOf_109 : decode cX6_placeOf 109 = .ok (.istore 5, 2) := by decide +kernel
theorem dX6_placeOf_111 : decode cX6_placeOf 111 = .ok (.iinc 6 1, 3) := by decide +kernel
theorem dX6_placeOf_114 : decode cX6_placeOf 114 = .ok (.goto (-105), 3) := by decide +kernel
theorem dX6_placeOf_117 : decode cX6_placeOf 117 = .ok (.iconst (-1), 1) := by decide +kernel
theorem dX6_placeOf_118 : decode cX6_placeOf 118 = .ok (.ireturn, 1) := by decide +kernel
abbrev YX6_placeOf : zY := (yX6_placeOf, cX6_placeOf, 9, (Option.some Jvm.ClassFile.FieldType.int), [])
def fX6_placeOf_111 (F : zFs) (k_9 : Int → Int → Int → zDa → Option (Int × zDa)) (o1 : Int) (o2 : Int) (j3 : Nat) (v4 : Int) (v5 : Int) (o6 : Int) (D : zDa) : Option (Int × zDa) :=
  if (-2147483648 ≤ o6 + 1 ∧ o6 + 1 ≤ 2147483647) then
    k_9 v4 v5 (o6 + 1) D
  else none
def fX6_placeOf_94 (F : zFs) (k_9 : Int → Int → Int → zDa → Option (Int × zDa)) (o1 : Int) (o2 : Int) (j3 : Nat) (o4 : Int) (o6 : Int) (v7 : Int) (D : zDa) : Option (Int × zDa) :=
  if v7 = 0 then
    if (-2147483648 ≤ o4 + 1 ∧ o4 + 1 ≤ 2147483647) ∧ (-2147483648 ≤ o6 + 1 ∧ o6 + 1 ≤ 2147483647) then
      zlet ((o6 + 1)) (fun x5_5 =>
        fX6_placeOf_111 F k_9 o1 o2 j3 (o4 + 1) x5_5 o6 D)
    else none
  else
    some (o4, D)
def fX6_placeOf_86 (F : zFs) (k_9 : Int → Int → Int → zDa → Option (Int × zDa)) (k_51 : Int → Int → zDa → Option (Int × zDa)) (o1 : Int) (o2 : Int) (j3 : Nat) (o4 : Int) (o5 : Int) (o6 : Int) (v8 : Int) (s0 : Int) (D : zDa) : Option (Int × zDa) :=
  if (-2147483648 ≤ v8 + 1 ∧ v8 + 1 ≤ 2147483647) then
    k_51 s0 (v8 + 1) D
  else none
def fX6_placeOf_51 (F : zFs) (o1 : Int) (o2 : Int) (j3 : Nat) (o4 : Int) (o5 : Int) (o6 : Int) (k_9 : Int → Int → Int → zDa → Option (Int × zDa)) (k_51 : Int → Int → zDa → Option (Int × zDa)) (v7 : Int) (v8 : Int) (D : zDa) : Option (Int × zDa) :=
  if v7 = 0 then
    fX6_placeOf_94 F k_9 o1 o2 j3 o4 o6 v7 D
  else
    if v8 < o6 then
      if (-2147483648 ≤ o1 + v8 ∧ o1 + v8 ≤ 2147483647) ∧ (-2147483648 ≤ (o1 + v8) - o5 ∧ (o1 + v8) - o5 ≤ 2147483647) ∧ (0 ≤ ((o1 + v8) - o5) ∧ ((o1 + v8) - o5) < 400) ∧ (j3 < 3) then
        (fJ0_charAt_5068e F j3 v8 D).bind (fun (r_6, D_7) =>
          if (D 39 ((o1 + v8) - o5).toNat) = r_6 then
            fX6_placeOf_86 F k_9 k_51 o1 o2 j3 o4 o5 o6 v8 1 D_7
          else
            fX6_placeOf_86 F k_9 k_51 o1 o2 j3 o4 o5 o6 v8 0 D_7)
      else none
    else
      fX6_placeOf_94 F k_9 o1 o2 j3 o4 o6 v7 D
def fX6_placeOf_45 (F : zFs) (k_9 : Int → Int → Int → zDa → Option (Int × zDa)) (o1 : Int) (o2 : Int) (j3 : Nat) (v4 : Int) (v5 : Int) (v6 : Int) (s0 : Int) (D : zDa) : Option (Int × zDa) :=
  zfix (fun _ _ _ => none) (fX6_placeOf_51 F o1 o2 j3 v4 v5 v6 k_9) zfu s0 v5 D
def fX6_placeOf_9 (F : zFs) (o1 : Int) (o2 : Int) (j3 : Nat)  (k_9 : Int → Int → Int → zDa → Option (Int × zDa)) (v4 : Int) (v5 : Int) (v6 : Int) (D : zDa) : Option (Int × zDa) :=
  if (j3 < 3) then
    (fJ0_length_8abf5 F j3 D).bind (fun (r_1, D_2) =>
      if v6 < r_1 then
        (fJ0_charAt_5068e F j3 v6 D_2).bind (fun (r_3, D_4) =>
          if r_3 = 32 then
            if (-2147483648 ≤ v6 - v5 ∧ v6 - v5 ≤ 2147483647) ∧ (-2147483648 ≤ o2 - o1 ∧ o2 - o1 ≤ 2147483647) then
              if (v6 - v5) = (o2 - o1) then
                fX6_placeOf_45 F k_9 o1 o2 j3 v4 v5 v6 1 D_4
              else
                fX6_placeOf_45 F k_9 o1 o2 j3 v4 v5 v6 0 D_4
            else none
          else
            fX6_placeOf_111 F k_9 o1 o2 j3 v4 v5 v6 D_4)
      else
        some ((-1), D_2))
  else none
def fX6_placeOf (F : zFs) (v1 : Int) (v2 : Int) (j3 : Nat) (D : zDa) : Option (Int × zDa) :=
  zfix (fun _ _ _ _ => none) (fX6_placeOf_9 F v1 v2 j3) zfu 0 0 0 D
set_option maxHeartbeats 20000000 in
theorem sX6_placeOf_111 {l : Launch} {E : zE} {d : Nat} {F : zFs} {n sl : Nat} (hG : zG F)  (o1 : Int) (o2 : Int) (j3 : Nat) (v4 : Int) (v5 : Int) (o6 : Int) (k_9 : Int → Int → Int → zDa → Option (Int × zDa)) (hk_9 : ∀ (u4 : Int) (u5 : Int) (u6 : Int) (D : zDa), zO l E (d + 4) YX6_placeOf 9 [(0, zR 39), (1, zI o1), (2, zI o2), (3, zR (1000000 + (10 + j3))), (4, zI u4), (5, zI u5), (6, zI u6)] [] (F, D, n, sl) (zcI F n sl) (k_9 u4 u5 u6 D)) (D : zDa) : zO l E (d + 4) YX6_placeOf 111 [(0, zR 39), (1, zI o1), (2, zI o2), (3, zR (1000000 + (10 + j3))), (4, zI v4), (5, zI v5), (6, zI o6)] [] (F, D, n, sl) (zcI F n sl) (fX6_placeOf_111 F k_9 o1 o2 j3 v4 v5 o6 D) := by
  unfold fX6_placeOf_111
  refine zO_chk (fun h4 => ?_)
  refine zO_iinc dX6_placeOf_111 rfl h4 (by decide) ?_
  refine zO_ls (ls' := [(0, zR 39), (1, zI o1), (2, zI o2), (3, zR (1000000 + (10 + j3))), (4, zI v4), (5, zI v5), (6, zI (o6 + 1))]) rfl ?_
  refine zO_goto (tgt := 9) dX6_placeOf_114 rfl ?_
  refine zO_live [0, 1, 2, 3, 4, 5, 6] ?_
  exact hk_9 v4 v5 (o6 + 1) D
set_option maxHeartbeats 20000000 in
theorem sX6_placeOf_94 {l : Launch} {E : zE} {d : Nat} {F : zFs} {n sl : Nat} (hG : zG F)  (o1 : Int) (o2 : Int) (j3 : Nat) (o4 : Int) (o6 : Int) (v7 : Int) (k_9 : Int → Int → Int → zDa → Option (Int × zDa)) (hk_9 : ∀ (u4 : Int) (u5 : Int) (u6 : Int) (D : zDa), zO l E (d + 4) YX6_placeOf 9 [(0, zR 39), (1, zI o1), (2, zI o2), (3, zR (1000000 + (10 + j3))), (4, zI u4), (5, zI u5), (6, zI u6)] [] (F, D, n, sl) (zcI F n sl) (k_9 u4 u5 u6 D)) (D : zDa) : zO l E (d + 4) YX6_placeOf 94 [(0, zR 39), (1, zI o1), (2, zI o2), (3, zR (1000000 + (10 + j3))), (4, zI o4), (6, zI o6), (7, zI v7)] [] (F, D, n, sl) (zcI F n sl) (fX6_placeOf_94 F k_9 o1 o2 j3 o4 o6 v7 D) := by
  unfold fX6_placeOf_94
  refine zO_iload dX6_placeOf_94 rfl ?_
  refine zO_if_eq (tgt := 102) dX6_placeOf_96 rfl (fun c96 => ?_) (fun c96 => ?_)
  · refine zO_chk (fun h3 => ?_)
    refine zO_iinc dX6_placeOf_102 rfl h3.1 (by decide) ?_
    refine zO_ls (ls' := [(0, zR 39), (1, zI o1), (2, zI o2), (3, zR (1000000 + (10 + j3))), (4, zI (o4 + 1)), (6, zI o6), (7, zI v7)]) rfl ?_
    refine zO_iload dX6_placeOf_105 rfl ?_
    refine zO_iconst dX6_placeOf_107 (by decide) ?_
    refine zO_iadd dX6_placeOf_108 h3.2 ?_
    refine zO_letI (fun x5_5 ex5_5 => ?_)
    refine zO_istore dX6_placeOf_109 (by decide) ?_
    refine zO_ls (ls' := [(0, zR 39), (1, zI o1), (2, zI o2), (3, zR (1000000 + (10 + j3))), (4, zI (o4 + 1)), (5, zI x5_5), (6, zI o6), (7, zI v7)]) rfl ?_
    refine zO_live [0, 1, 2, 3, 4, 5, 6] ?_
    exact sX6_placeOf_111 hG o1 o2 j3 (o4 + 1) x5_5 o6 _ hk_9 D
  · refine zO_iload dX6_placeOf_99 rfl ?_
    exact zO_ret (rv := some (zI o4)) dX6_placeOf_101 rfl rfl rfl
set_option maxHeartbeats 20000000 in
theorem sX6_placeOf_86 {l : Launch} {E : zE} {d : Nat} {F : zFs} {n sl : Nat} (hG : zG F)  (o1 : Int) (o2 : Int) (j3 : Nat) (o4 : Int) (o5 : Int) (o6 : Int) (v8 : Int) (s0 : Int) (k_9 : Int → Int → Int → zDa → Option (Int × zDa)) (k_51 : Int → Int → zDa → Option (Int × zDa)) (hk_9 : ∀ (u4 : Int) (u5 : Int) (u6 : Int) (D : zDa), zO l E (d + 4) YX6_placeOf 9 [(0, zR 39), (1, zI o1), (2, zI o2), (3, zR (1000000 + (10 + j3))), (4, zI u4), (5, zI u5), (6, zI u6)] [] (F, D, n, sl) (zcI F n sl) (k_9 u4 u5 u6 D)) (hk_51 : ∀ (u7 : Int) (u8 : Int) (D : zDa), zO l E (d + 4) YX6_placeOf 51 [(0, zR 39), (1, zI o1), (2, zI o2), (3, zR (1000000 + (10 + j3))), (4, zI o4), (5, zI o5), (6, zI o6), (7, zI u7), (8, zI u8)] [] (F, D, n, sl) (zcI F n sl) (k_51 u7 u8 D)) (D : zDa) : zO l E (d + 4) YX6_placeOf 86 [(0, zR 39), (1, zI o1), (2, zI o2), (3, zR (1000000 + (10 + j3))), (4, zI o4), (5, zI o5), (6, zI o6), (8, zI v8)] [zI s0] (F, D, n, sl) (zcI F n sl) (fX6_placeOf_86 F k_9 k_51 o1 o2 j3 o4 o5 o6 v8 s0 D) := by
  unfold fX6_placeOf_86
  refine zO_chk (fun h6 => ?_)
  refine zO_istore dX6_placeOf_86 (by decide) ?_
  refine zO_ls (ls' := [(0, zR 39), (1, zI o1), (2, zI o2), (3, zR (1000000 + (10 + j3))), (4, zI o4), (5, zI o5), (6, zI o6), (7, zI s0), (8, zI v8)]) rfl ?_
  refine zO_iinc dX6_placeOf_88 rfl h6 (by decide) ?_
  refine zO_ls (ls' := [(0, zR 39), (1, zI o1), (2, zI o2), (3, zR (1000000 + (10 + j3))), (4, zI o4), (5, zI o5), (6, zI o6), (7, zI s0), (8, zI (v8 + 1))]) rfl ?_
  refine zO_goto (tgt := 51) dX6_placeOf_91 rfl ?_
  refine zO_live [0, 1, 2, 3, 4, 5, 6, 7, 8] ?_
  exact hk_51 s0 (v8 + 1) D
set_option maxHeartbeats 20000000 in
theorem sX6_placeOf_51 {l : Launch} {E : zE} {d : Nat} {F : zFs} {n sl : Nat} (hG : zG F)  (o1 : Int) (o2 : Int) (j3 : Nat) (o4 : Int) (o5 : Int) (o6 : Int) (k_9 : Int → Int → Int → zDa → Option (Int × zDa)) (hk_9 : ∀ (u4 : Int) (u5 : Int) (u6 : Int) (D : zDa), zO l E (d + 4) YX6_placeOf 9 [(0, zR 39), (1, zI o1), (2, zI o2), (3, zR (1000000 + (10 + j3))), (4, zI u4), (5, zI u5), (6, zI u6)] [] (F, D, n, sl) (zcI F n sl) (k_9 u4 u5 u6 D)) : ∀ (N : Nat) (v7 : Int) (v8 : Int) (D : zDa), zO l E (d + 4) YX6_placeOf 51 [(0, zR 39), (1, zI o1), (2, zI o2), (3, zR (1000000 + (10 + j3))), (4, zI o4), (5, zI o5), (6, zI o6), (7, zI v7), (8, zI v8)] [] (F, D, n, sl) (zcI F n sl) (zfix (fun _ _ _ => none) (fX6_placeOf_51 F o1 o2 j3 o4 o5 o6 k_9) N v7 v8 D) := by
  intro N
  induction N with
  | zero => intro v7 v8 D; exact zO_none
  | succ N hk_51 =>
    intro v7 v8 D
    show zO _ _ _ _ _ _ _ _ _ ((fX6_placeOf_51 F o1 o2 j3 o4 o5 o6 k_9) (zfix (fun _ _ _ => none) (fX6_placeOf_51 F o1 o2 j3 o4 o5 o6 k_9) N) v7 v8 D)
    unfold fX6_placeOf_51
    refine zO_iload dX6_placeOf_51 rfl ?_
    refine zO_if_eq (tgt := 94) dX6_placeOf_53 rfl (fun c53 => ?_) (fun c53 => ?_)
    · refine zO_live [0, 1, 2, 3, 4, 6, 7] ?_
      exact sX6_placeOf_94 hG o1 o2 j3 o4 o6 v7 _ hk_9 D
    · refine zO_iload dX6_placeOf_56 rfl ?_
      refine zO_iload dX6_placeOf_58 rfl ?_
      refine zO_icmp_ge (tgt := 94) dX6_placeOf_60 rfl (fun c60 => ?_) (fun c60 => ?_)
      · refine zO_chk (fun h5 => ?_)
        refine zO_aload_n dX6_placeOf_63 rfl (zR_P _) ?_
        refine zO_iload_n dX6_placeOf_64 rfl ?_
        refine zO_iload dX6_placeOf_65 rfl ?_
        refine zO_iadd dX6_placeOf_67 h5.1 ?_
        refine zO_iload dX6_placeOf_68 rfl ?_
        refine zO_isub dX6_placeOf_70 h5.2.1 ?_
        refine zO_iald dX6_placeOf_71 (gk_39 hG) (gl_in (gl_39 hG) h5.2.2.1) ?_
        refine zO_aload_n dX6_placeOf_72 rfl (zR_P _) ?_
        refine zO_iload dX6_placeOf_73 rfl ?_
        refine zO_callT (Y' := YJ0_charAt_5068e) (cw := zcI F n sl) (as := [zI v8]) (rest := [zI (D 39 ((o1 + v8) - o5).toNat)]) (na := 1) (j0 := j3) dX6_placeOf_75 wC_J0_charAt_5068e wN_J0 wM_X6_104 wI_J0_charAt_5068e wV_J0_charAt_5068e (by decide) (by decide) rfl rfl (Nat.le_of_ble_eq_true rfl) rfl h5.2.2.2 (fun r hr => zMet_cast (Nat.add_assoc d 0 3) (mJ0_charAt_5068e (d := d + 0) hG j3 v8 r hr)) ?_
        rintro ⟨r_6, D_7⟩ -
        show zO _ _ _ _ _ _ [zI r_6, zI (D 39 ((o1 + v8) - o5).toNat)] (F, D_7, n, sl) _ _
        refine zO_icmp_ne (tgt := 85) dX6_placeOf_78 rfl (fun c78 => ?_) (fun c78 => ?_)
        · refine zO_iconst dX6_placeOf_81 (by decide) ?_
          refine zO_goto (tgt := 86) dX6_placeOf_82 rfl ?_
          refine zO_live [0, 1, 2, 3, 4, 5, 6, 8] ?_
          exact sX6_placeOf_86 hG o1 o2 j3 o4 o5 o6 v8 1 _ _ hk_9 hk_51 D_7
        · refine zO_iconst dX6_placeOf_85 (by decide) ?_
          refine zO_live [0, 1, 2, 3, 4, 5, 6, 8] ?_
          exact sX6_placeOf_86 hG o1 o2 j3 o4 o5 o6 v8 0 _ _ hk_9 hk_51 D_7
      · refine zO_live [0, 1, 2, 3, 4, 6, 7] ?_
        exact sX6_placeOf_94 hG o1 o2 j3 o4 o6 v7 _ hk_9 D
set_option maxHeartbeats 20000000 in
theorem sX6_placeOf_45 {l : Launch} {E : zE} {d : Nat} {F : zFs} {n sl : Nat} (hG : zG F)  (o1 : Int) (o2 : Int) (j3 : Nat) (v4 : Int) (v5 : Int) (v6 : Int) (s0 : Int) (k_9 : Int → Int → Int → zDa → Option (Int × zDa)) (hk_9 : ∀ (u4 : Int) (u5 : Int) (u6 : Int) (D : zDa), zO l E (d + 4) YX6_placeOf 9 [(0, zR 39), (1, zI o1), (2, zI o2), (3, zR (1000000 + (10 + j3))), (4, zI u4), (5, zI u5), (6, zI u6)] [] (F, D, n, sl) (zcI F n sl) (k_9 u4 u5 u6 D)) (D : zDa) : zO l E (d + 4) YX6_placeOf 45 [(0, zR 39), (1, zI o1), (2, zI o2), (3, zR (1000000 + (10 + j3))), (4, zI v4), (5, zI v5), (6, zI v6)] [zI s0] (F, D, n, sl) (zcI F n sl) (fX6_placeOf_45 F k_9 o1 o2 j3 v4 v5 v6 s0 D) := by
  unfold fX6_placeOf_45
  refine zO_istore dX6_placeOf_45 (by decide) ?_
  refine zO_ls (ls' := [(0, zR 39), (1, zI o1), (2, zI o2), (3, zR (1000000 + (10 + j3))), (4, zI v4), (5, zI v5), (6, zI v6), (7, zI s0)]) rfl ?_
  refine zO_iload dX6_placeOf_47 rfl ?_
  refine zO_istore dX6_placeOf_49 (by decide) ?_
  refine zO_ls (ls' := [(0, zR 39), (1, zI o1), (2, zI o2), (3, zR (1000000 + (10 + j3))), (4, zI v4), (5, zI v5), (6, zI v6), (7, zI s0), (8, zI v5)]) rfl ?_
  refine zO_live [0, 1, 2, 3, 4, 5, 6, 7, 8] ?_
  exact sX6_placeOf_51 hG o1 o2 j3 v4 v5 v6 _ hk_9 zfu s0 v5 D
set_option maxHeartbeats 20000000 in
theorem sX6_placeOf_9 {l : Launch} {E : zE} {d : Nat} {F : zFs} {n sl : Nat} (hG : zG F)  (o1 : Int) (o2 : Int) (j3 : Nat)   : ∀ (N : Nat) (v4 : Int) (v5 : Int) (v6 : Int) (D : zDa), zO l E (d + 4) YX6_placeOf 9 [(0, zR 39), (1, zI o1), (2, zI o2), (3, zR (1000000 + (10 + j3))), (4, zI v4), (5, zI v5), (6, zI v6)] [] (F, D, n, sl) (zcI F n sl) (zfix (fun _ _ _ _ => none) (fX6_placeOf_9 F o1 o2 j3) N v4 v5 v6 D) := by
  intro N
  induction N with
  | zero => intro v4 v5 v6 D; exact zO_none
  | succ N hk_9 =>
    intro v4 v5 v6 D
    show zO _ _ _ _ _ _ _ _ _ ((fX6_placeOf_9 F o1 o2 j3) (zfix (fun _ _ _ _ => none) (fX6_placeOf_9 F o1 o2 j3) N) v4 v5 v6 D)
    unfold fX6_placeOf_9
    refine zO_chk (fun h1 => ?_)
    refine zO_iload dX6_placeOf_9 rfl ?_
    refine zO_aload_n dX6_placeOf_11 rfl (zR_P _) ?_
    refine zO_callT (Y' := YJ0_length_8abf5) (cw := zcI F n sl) (as := []) (rest := [zI v6]) (na := 0) (j0 := j3) dX6_placeOf_12 wC_J0_length_8abf5 wN_J0 wM_X6_98 wI_J0_length_8abf5 wV_J0_length_8abf5 (by decide) (by decide) rfl rfl (Nat.le_of_ble_eq_true rfl) rfl h1 (fun r hr => zMet_cast (Nat.add_assoc d 2 1) (mJ0_length_8abf5 (d := d + 2) hG j3 r hr)) ?_
    rintro ⟨r_1, D_2⟩ -
    show zO _ _ _ _ _ _ [zI r_1, zI v6] (F, D_2, n, sl) _ _
    refine zO_icmp_ge (tgt := 117) dX6_placeOf_15 rfl (fun c15 => ?_) (fun c15 => ?_)
    · refine zO_aload_n dX6_placeOf_18 rfl (zR_P _) ?_
      refine zO_iload dX6_placeOf_19 rfl ?_
      refine zO_callT (Y' := YJ0_charAt_5068e) (cw := zcI F n sl) (as := [zI v6]) (rest := []) (na := 1) (j0 := j3) dX6_placeOf_21 wC_J0_charAt_5068e wN_J0 wM_X6_104 wI_J0_charAt_5068e wV_J0_charAt_5068e (by decide) (by decide) rfl rfl (Nat.le_of_ble_eq_true rfl) rfl h1 (fun r hr => zMet_cast (Nat.add_assoc d 0 3) (mJ0_charAt_5068e (d := d + 0) hG j3 v6 r hr)) ?_
      rintro ⟨r_3, D_4⟩ -
      show zO _ _ _ _ _ _ [zI r_3] (F, D_4, n, sl) _ _
      refine zO_bipush dX6_placeOf_24 (by decide) ?_
      refine zO_icmp_ne (tgt := 111) dX6_placeOf_26 rfl (fun c26 => ?_) (fun c26 => ?_)
      · refine zO_chk (fun h2 => ?_)
        refine zO_iload dX6_placeOf_29 rfl ?_
        refine zO_iload dX6_placeOf_31 rfl ?_
        refine zO_isub dX6_placeOf_33 h2.1 ?_
        refine zO_iload_n dX6_placeOf_34 rfl ?_
        refine zO_iload_n dX6_placeOf_35 rfl ?_
        refine zO_isub dX6_placeOf_36 h2.2 ?_
        refine zO_icmp_ne (tgt := 44) dX6_placeOf_37 rfl (fun c37 => ?_) (fun c37 => ?_)
        · refine zO_iconst dX6_placeOf_40 (by decide) ?_
          refine zO_goto (tgt := 45) dX6_placeOf_41 rfl ?_
          refine zO_live [0, 1, 2, 3, 4, 5, 6] ?_
          exact sX6_placeOf_45 hG o1 o2 j3 v4 v5 v6 1 _ hk_9 D_4
        · refine zO_iconst dX6_placeOf_44 (by decide) ?_
          refine zO_live [0, 1, 2, 3, 4, 5, 6] ?_
          exact sX6_placeOf_45 hG o1 o2 j3 v4 v5 v6 0 _ hk_9 D_4
      · refine zO_live [0, 1, 2, 3, 4, 5, 6] ?_
        exact sX6_placeOf_111 hG o1 o2 j3 v4 v5 v6 _ hk_9 D_4
    · refine zO_iconst dX6_placeOf_117 (by decide) ?_
      exact zO_ret (rv := some (zI (-1))) dX6_placeOf_118 rfl rfl rfl
set_option maxHeartbeats 20000000 in
theorem mX6_placeOf {l : Launch} {E : zE} {d : Nat} {F : zFs} {n sl : Nat} (hG : zG F) (v1 : Int) (v2 : Int) (j3 : Nat) {D : zDa} : ∀ r, fX6_placeOf F  v1 v2 j3 D = some r → zMet l E (d + 4) YX6_placeOf [zR 39, zI v1, zI v2, zR (1000000 + (10 + j3))] (F, D, n, sl) (zcI F n sl r) := by
  intro r hr
  refine zMet_of (plainFor_of_name (by decide)) (fun _ h => (nomatch h)) (Nat.le_of_ble_eq_true rfl) ?_
  have hz : zO l E (d + 4) YX6_placeOf 0 [(0, zR 39), (1, zI v1), (2, zI v2), (3, zR (1000000 + (10 + j3)))] [] (F, D, n, sl) (zcI F n sl) (fX6_placeOf F  v1 v2 j3 D) := by
    unfold fX6_placeOf
    refine zO_iconst dX6_placeOf_0 (by decide) ?_
    refine zO_istore dX6_placeOf_1 (by decide) ?_
    refine zO_ls (ls' := [(0, zR 39), (1, zI v1), (2, zI v2), (3, zR (1000000 + (10 + j3))), (4, zI 0)]) rfl ?_
    refine zO_iconst dX6_placeOf_3 (by decide) ?_
    refine zO_istore dX6_placeOf_4 (by decide) ?_
    refine zO_ls (ls' := [(0, zR 39), (1, zI v1), (2, zI v2), (3, zR (1000000 + (10 + j3))), (4, zI 0), (5, zI 0)]) rfl ?_
    refine zO_iconst dX6_placeOf_6 (by decide) ?_
    refine zO_istore dX6_placeOf_7 (by decide) ?_
    refine zO_ls (ls' := [(0, zR 39), (1, zI v1), (2, zI v2), (3, zR (1000000 + (10 + j3))), (4, zI 0), (5, zI 0), (6, zI 0)]) rfl ?_
    refine zO_live [0, 1, 2, 3, 4, 5, 6] ?_
    exact sX6_placeOf_9 hG v1 v2 j3 zfu 0 0 0 D
  exact hz r hr
theorem dX6_name_0 : decode cX6_name 0 = .ok (.aload_n 2, 1) := by decide +kernel
theorem dX6_name_1 : decode cX6_name 1 = .ok (.iload_n 3, 1) := by decide +kernel
theorem dX6_name_2 : decode cX6_name 2 = .ok (.iaload, 1) := by decide +kernel
theorem dX6_name_3 : decode cX6_name 3 = .ok (.invokestatic 78, 3) := by decide +kernel
theorem dX6_name_6 : decode cX6_name 6 = .ok (.ifCond .eq 15, 3) := by decide +kernel
theorem dX6_name_9 : decode cX6_name 9 = .ok (.aload_n 0, 1) := by decide +kernel
theorem dX6_name_10 : decode cX6_name 10 = .ok (.iload_n 1, 1) := by decide +kernel
theorem dX6_name_11 : decode cX6_name 11 = .ok (.aload_n 2, 1) := by decide +kernel
theorem dX6_name_12 : decode cX6_name 12 = .ok (.iload_n 3, 1) := by decide +kernel
theorem dX6_name_13 : decode cX6_name 13 = .ok (.iload 4, 2) := by decide +kernel
theorem dX6_name_15 : decode cX6_name 15 = .ok (.invokevirtual 85, 3) := by decide +kernel
theorem dX6_name_18 : decode cX6_name 18 = .ok (.goto 143, 3) := by decide +kernel
theorem dX6_name_21 : decode cX6_name 21 = .ok (.aload_n 2, 1) := by decide +kernel
theorem dX6_name_22 : decode cX6_name 22 = .ok (.iload_n 3, 1) := by decide +kernel
theorem dX6_name_23 : decode cX6_name 23 = .ok (.iaload, 1) := by decide +kernel
theorem dX6_name_24 : decode cX6_name 24 = .ok (.invokestatic 74, 3) := by decide +kernel
theorem dX6_name_27 : decode cX6_name 27 = .ok (.ifCond .eq 125, 3) := by decide +kernel
theorem dX6_name_30 : decode cX6_name 30 = .ok (.aload_n 2, 1) := by decide +kernel
theorem dX6_name_31 : decode cX6_name 31 = .ok (.iload_n 3, 1) := by decide +kernel
theorem dX6_name_32 : decode cX6_name 32 = .ok (.iload 4, 2) := by decide +kernel
theorem dX6_name_34 : decode cX6_name 34 = .ok (.ldc 88, 2) := by decide +kernel
theorem dX6_name_36 : decode cX6_name 36 = .ok (.invokestatic 90, 3) := by decide +kernel
theorem dX6_name_39 : decode cX6_name 39 = .ok (.istore 5, 2) := by decide +kernel
theorem dX6_name_41 : decode cX6_name 41 = .ok (.aload_n 0, 1) := by decide +kernel
theorem dX6_name_42 : decode cX6_name 42 = .ok (.getfield 9, 3) := by decide +kernel
theorem dX6_name_45 : decode cX6_name 45 = .ok (.iload_n 1, 1) := by decide +kernel
theorem dX6_name_46 : decode cX6_name 46 = .ok (.iload 5, 2) := by decide +kernel
theorem dX6_name_48 : decode cX6_name 48 = .ok (.iconst (-1), 1) := by decide +kernel
theorem dX6_name_49 : decode cX6_name 49 = .ok (.if_icmp .ne 9, 3) := by decide +kernel
theorem dX6_name_52 : decode cX6_name 52 = .ok (.sipush 257, 3) := by decide +kernel
theorem dX6_name_55 : decode cX6_name 55 = .ok (.goto 6, 3) := by decide +kernel
theorem dX6_name_58 : decode cX6_name 58 = .ok (.sipush 259, 3) := by decide +kernel
theorem dX6_name_61 : decode cX6_name 61 = .ok (.iastore, 1) := by decide +kernel
theorem dX6_name_62 : decode cX6_name 62 = .ok (.iload 5, 2) := by decide +kernel
theorem dX6_name_64 : decode cX6_name 64 = .ok (.iconst (-1), 1) := by decide +kernel
theorem dX6_name_65 : decode cX6_name 65 = .ok (.if_icmp .ne 35, 3) := by decide +kernel
theorem dX6_name_68 : decode cX6_name 68 = .ok (.aload_n 2, 1) := by decide +kernel
theorem dX6_name_69 : decode cX6_name 69 = .ok (.iload_n 3, 1) := by decide +kernel
theorem dX6_name_70 : decode cX6_name 70 = .ok (.iload 4, 2) := by decide +kernel
theorem dX6_name_72 : decode cX6_name 72 = .ok (.ldc 94, 2) := by decide +kernel
theorem dX6_name_74 : decode cX6_name 74 = .ok (.invokestatic 90, 3) := by decide +kernel
theorem dX6_name_77 : decode cX6_name 77 = .ok (.istore 5, 2) := by decide +kernel
theorem dX6_name_79 : decode cX6_name 79 = .ok (.aload_n 0, 1) := by decide +kernel
theorem dX6_name_80 : decode cX6_name 80 = .ok (.getfield 9, 3) := by decide +kernel
theorem dX6_name_83 : decode cX6_name 83 = .ok (.iload_n 1, 1) := by decide +kernel
theorem dX6_name_84 : decode cX6_name 84 = .ok (.iload 5, 2) := by decide +kernel
theorem dX6_name_86 : decode cX6_name 86 = .ok (.iconst (-1), 1) := by decide +kernel
theorem dX6_name_87 : decode cX6_name 87 = .ok (.if_icmp .ne 9, 3) := by decide +kernel
theorem dX6_name_90 : decode cX6_name 90 = .ok (.sipush 257, 3) := by decide +kernel
theorem dX6_name_93 : decode cX6_name 93 = .ok (.goto 6, 3) := by decide +kernel
theorem dX6_name_96 : decode cX6_name 96 = .ok (.sipush 260, 3) := by decide +kernel
theorem dX6_name_99 : decode cX6_name 99 = .ok (.iastore, 1) := by decide +kernel
theorem dX6_name_100 : decode cX6_name 100 = .ok (.aload_n 0, 1) := by decide +kernel
theorem dX6_name_101 : decode cX6_name 101 = .ok (.getfield 15, 3) := by decide +kernel
theorem dX6_name_104 : decode cX6_name 104 = .ok (.iload_n 1, 1) := by decide +kernel
theorem dX6_name_105 : decode cX6_name 105 = .ok (.iload 5, 2) := by decide +kernel
theorem dX6_name_107 : decode cX6_name 107 = .ok (.iastore, 1) := by decide +kernel
theorem dX6_name_108 : decode cX6_name 108 = .ok (.iload 5, 2) := by decide +kernel
theorem dX6_name_110 : decode cX6_name 110 = .ok (.iconst (-1), 1) := by decide +kernel
theorem dX6_name_111 : decode cX6_name 111 = .ok (.if_icmp .ne 38, 3) := by decide +kernel
theorem dX6_name_114 : decode cX6_name 114 = .ok (.aload_n 2, 1) := by decide +kernel
theorem dX6_name_115 : decode cX6_name 115 = .ok (.iload_n 3, 1) := by decide +kernel
theorem dX6_name_116 : decode cX6_name 116 = .ok (.iload 4, 2) := by decide +kernel
theorem dX6_name_118 : decode cX6_name 118 = .ok (.ldc 96, 2) := by decide +kernel
theorem dX6_name_120 : decode cX6_name 120 = .ok (.invokestatic 90, 3) := by decide +kernel
theorem dX6_name_123 : decode cX6_name 123 = .ok (.istore 5, 2) := by decide +kernel
theorem dX6_name_125 : decode cX6_name 125 = .ok (.aload_n 0, 1) := by decide +kernel
theorem dX6_name_126 : decode cX6_name 126 = .ok (.getfield 9, 3) := by decide +kernel
theorem dX6_name_129 : decode cX6_name 129 = .ok (.iload_n 1, 1) := by decide +kernel
theorem dX6_name_130 : decode cX6_name 130 = .ok (.iload 5, 2) := by decide +kernel
theorem dX6_name_132 : decode cX6_name 132 = .ok (.iconst (-1), 1) := by decide +kernel
theorem dX6_name_133 : decode cX6_name 133 = .ok (.if_icmp .ne 9, 3) := by decide +kernel
theorem dX6_name_136 : decode cX6_name 136 = .ok (.sipush 257, 3) := by decide +kernel
theorem dX6_name_139 : decode cX6_name 139 = .ok (.goto 9, 3) := by decide +kernel
theorem dX6_name_142 : decode cX6_name 142 = .ok (.sipush 261, 3) := by decide +kernel
theorem dX6_name_145 : decode cX6_name 145 = .ok (.iload 5, 2) := by decide +kernel
theorem dX6_name_147 : decode cX6_name 147 = .ok (.iadd, 1) := by decide +kernel
theorem dX6_name_148 : decode cX6_name 148 = .ok (.iastore, 1) := by decide +kernel
theorem dX6_name_149 : decode cX6_name 149 = .ok (.goto 12, 3) := by decide +kernel
theorem dX6_name_152 : decode cX6_name 152 = .ok (.aload_n 0, 1) := by decide +kernel
theorem dX6_name_153 : decode cX6_name 153 = .ok (.getfield 9, 3) := by decide +kernel
theorem dX6_name_156 : decode cX6_name 156 = .ok (.iload_n 1, 1) := by decide +kernel
theorem dX6_name_157 : decode cX6_name 157 = .ok (.aload_n 2, 1) := by decide +kernel
theorem dX6_name_158 : decode cX6_name 158 = .ok (.iload_n 3, 1) := by decide +kernel
theorem dX6_name_159 : decode cX6_name 159 = .ok (.iaload, 1) := by decide +kernel
theorem dX6_name_160 : decode cX6_name 160 = .ok (.iastore, 1) := by decide +kernel
theorem dX6_name_161 : decode cX6_name 161 = .ok (.return_, 1) := by decide +kernel
abbrev YX6_name : zY := (yX6_name, cX6_name, 6, none, [])
def fX6_name_148 (F : zFs)  (s0 : Int) (s1 : Int) (D : zDa) : Option zDa :=
  if (0 ≤ s1 ∧ s1 < 401) then
    zlet (zwr D 43 s1.toNat s0) (fun D_15 =>
      some D_15)
  else none
def fX6_name_100 (F : zFs)  (v1 : Int) (v3 : Int) (v4 : Int) (v5 : Int) (D : zDa) : Option zDa :=
  if (0 ≤ v1 ∧ v1 < 401) then
    zlet (zwr D 44 v1.toNat v5) (fun D_12 =>
      if v5 = (-1) then
        (fX6_placeOf F v3 v4 2 D_12).bind (fun (r_13, D_14) =>
          if r_13 = (-1) then
            fX6_name_148 F 257 v1 D_14
          else
            if (-2147483648 ≤ 261 + r_13 ∧ 261 + r_13 ≤ 2147483647) then
              fX6_name_148 F (261 + r_13) v1 D_14
            else none)
      else
        some D_12)
  else none
def fX6_name_99 (F : zFs)  (v1 : Int) (v3 : Int) (v4 : Int) (v5 : Int) (s0 : Int) (s1 : Int) (D : zDa) : Option zDa :=
  if (0 ≤ s1 ∧ s1 < 401) then
    zlet (zwr D 43 s1.toNat s0) (fun D_11 =>
      fX6_name_100 F v1 v3 v4 v5 D_11)
  else none
def fX6_name_61 (F : zFs)  (v1 : Int) (v3 : Int) (v4 : Int) (v5 : Int) (s0 : Int) (s1 : Int) (D : zDa) : Option zDa :=
  if (0 ≤ s1 ∧ s1 < 401) then
    zlet (zwr D 43 s1.toNat s0) (fun D_8 =>
      if v5 = (-1) then
        (fX6_placeOf F v3 v4 1 D_8).bind (fun (r_9, D_10) =>
          if r_9 = (-1) then
            fX6_name_99 F v1 v3 v4 r_9 257 v1 D_10
          else
            fX6_name_99 F v1 v3 v4 r_9 260 v1 D_10)
      else
        fX6_name_100 F v1 v3 v4 v5 D_8)
  else none
def fX6_name (F : zFs) (v1 : Int) (v3 : Int) (v4 : Int) (D : zDa) : Option zDa :=
  if (0 ≤ v3 ∧ v3 < 400) then
    (fX6_isDigit F (D 39 v3.toNat) D).bind (fun (r_1, D_2) =>
      if r_1 = 0 then
        (fX6_isLetter F (D_2 39 v3.toNat) D_2).bind (fun (r_3, D_4) =>
          if r_3 = 0 then
            if (0 ≤ v1 ∧ v1 < 401) then
              zlet (zwr D_4 43 v1.toNat (D_4 39 v3.toNat)) (fun D_5 =>
                some D_5)
            else none
          else
            (fX6_placeOf F v3 v4 0 D_4).bind (fun (r_6, D_7) =>
              if r_6 = (-1) then
                fX6_name_61 F v1 v3 v4 r_6 257 v1 D_7
              else
                fX6_name_61 F v1 v3 v4 r_6 259 v1 D_7))
      else
        (fX6_nameNumber F v1 v3 v4 D_2).bind (fun D_17 =>
          some D_17))
  else none
set_option maxHeartbeats 20000000 in
theorem sX6_name_148 {l : Launch} {E : zE} {d : Nat} {F : zFs} {n sl : Nat} (hG : zG F)  (s0 : Int) (s1 : Int)   (D : zDa) : zO l E (d + 5) YX6_name 148 [] [zI s0, zI s1, zR 43] (F, D, n, sl) (zcV F n sl) (fX6_name_148 F s0 s1 D) := by
  unfold fX6_name_148
  refine zO_chk (fun h6 => ?_)
  refine zO_iast dX6_name_148 (gk_43 hG) (gl_in (gl_43 hG) h6) ?_
  refine zO_letD (fun D_15 eD_15 => ?_)
  refine zO_goto (tgt := 161) dX6_name_149 rfl ?_
  exact zO_ret (rv := none) dX6_name_161 rfl trivial rfl
set_option maxHeartbeats 20000000 in
theorem sX6_name_100 {l : Launch} {E : zE} {d : Nat} {F : zFs} {n sl : Nat} (hG : zG F)  (v1 : Int) (v3 : Int) (v4 : Int) (v5 : Int)   (D : zDa) : zO l E (d + 5) YX6_name 100 [(0, zR 42), (1, zI v1), (2, zR 39), (3, zI v3), (4, zI v4), (5, zI v5)] [] (F, D, n, sl) (zcV F n sl) (fX6_name_100 F v1 v3 v4 v5 D) := by
  unfold fX6_name_100
  refine zO_chk (fun h5 => ?_)
  refine zO_aload_n dX6_name_100 rfl (zR_P _) ?_
  refine gt6 (k := 1) dX6_name_101 wF_X6_15 (by decide) (gk_42 hG) (zgv (c := 6) (k := 1) rfl (Or.inl ⟨_, rfl⟩) (gf_42_1 hG)) ?_
  refine zO_iload_n dX6_name_104 rfl ?_
  refine zO_iload dX6_name_105 rfl ?_
  refine zO_iast dX6_name_107 (gk_44 hG) (gl_in (gl_44 hG) h5) ?_
  refine zO_letD (fun D_12 eD_12 => ?_)
  refine zO_iload dX6_name_108 rfl ?_
  refine zO_iconst dX6_name_110 (by decide) ?_
  refine zO_icmp_ne (tgt := 149) dX6_name_111 rfl (fun c111 => ?_) (fun c111 => ?_)
  · refine zO_aload_n dX6_name_114 rfl (zR_P _) ?_
    refine zO_iload_n dX6_name_115 rfl ?_
    refine zO_iload dX6_name_116 rfl ?_
    refine zO_ldcS (j0 := 10 + 2) dX6_name_118 rfl (by decide) ?_
    refine zO_callS (Y' := YX6_placeOf) (cw := zcI F n sl) (as := [zR 39, zI v3, zI v4, zR (1000000 + (10 + 2))]) (rest := []) (na := 4) dX6_name_120 wC_X6_placeOf wN_X6 wM_X6_90 wS_X6_placeOf (by decide) (by decide) rfl rfl (Nat.le_of_ble_eq_true rfl) (fun r hr => zMet_cast (Nat.add_assoc d 0 4) (mX6_placeOf (d := d + 0) hG v3 v4 2 r hr)) ?_
    rintro ⟨r_13, D_14⟩ -
    show zO _ _ _ _ _ _ [zI r_13] (F, D_14, n, sl) _ _
    refine zO_istore dX6_name_123 (by decide) ?_
    refine zO_ls (ls' := [(0, zR 42), (1, zI v1), (2, zR 39), (3, zI v3), (4, zI v4), (5, zI r_13)]) rfl ?_
    refine zO_aload_n dX6_name_125 rfl (zR_P _) ?_
    refine gt6 (k := 0) dX6_name_126 wF_X6_9 (by decide) (gk_42 hG) (zgv (c := 6) (k := 0) rfl (Or.inl ⟨_, rfl⟩) (gf_42_0 hG)) ?_
    refine zO_iload_n dX6_name_129 rfl ?_
    refine zO_iload dX6_name_130 rfl ?_
    refine zO_iconst dX6_name_132 (by decide) ?_
    refine zO_icmp_ne (tgt := 142) dX6_name_133 rfl (fun c133 => ?_) (fun c133 => ?_)
    · refine zO_sipush dX6_name_136 (by decide) ?_
      refine zO_goto (tgt := 148) dX6_name_139 rfl ?_
      refine zO_live [] ?_
      exact sX6_name_148 hG 257 v1 D_14
    · refine zO_chk (fun h7 => ?_)
      refine zO_sipush dX6_name_142 (by decide) ?_
      refine zO_iload dX6_name_145 rfl ?_
      refine zO_iadd dX6_name_147 h7 ?_
      refine zO_live [] ?_
      exact sX6_name_148 hG (261 + r_13) v1 D_14
  · refine zO_goto (tgt := 161) dX6_name_149 rfl ?_
    exact zO_ret (rv := none) dX6_name_161 rfl trivial rfl
set_option maxHeartbeats 20000000 in
theorem sX6_name_99 {l : Launch} {E : zE} {d : Nat} {F : zFs} {n sl : Nat} (hG : zG F)  (v1 : Int) (v3 : Int) (v4 : Int) (v5 : Int) (s0 : Int) (s1 : Int)   (D : zDa) : zO l E (d + 5) YX6_name 99 [(0, zR 42), (1, zI v1), (2, zR 39), (3, zI v3), (4, zI v4), (5, zI v5)] [zI s0, zI s1, zR 43] (F, D, n, sl) (zcV F n sl) (fX6_name_99 F v1 v3 v4 v5 s0 s1 D) := by
  unfold fX6_name_99
  refine zO_chk (fun h4 => ?_)
  refine zO_iast dX6_name_99 (gk_43 hG) (gl_in (gl_43 hG) h4) ?_
  refine zO_letD (fun D_11 eD_11 => ?_)
  refine zO_live [0, 1, 2, 3, 4, 5] ?_
  exact sX6_name_100 hG v1 v3 v4 v5 D_11
set_option maxHeartbeats 20000000 in
theorem sX6_name_61 {l : Launch} {E : zE} {d : Nat} {F : zFs} {n sl : Nat} (hG : zG F)  (v1 : Int) (v3 : Int) (v4 : Int) (v5 : Int) (s0 : Int) (s1 : Int)   (D : zDa) : zO l E (d + 5) YX6_name 61 [(0, zR 42), (1, zI v1), (2, zR 39), (3, zI v3), (4, zI v4), (5, zI v5)] [zI s0, zI s1, zR 43] (F, D, n, sl) (zcV F n sl) (fX6_name_61 F v1 v3 v4 v5 s0 s1 D) := by
  unfold fX6_name_61
  refine zO_chk (fun h3 => ?_)
  refine zO_iast dX6_name_61 (gk_43 hG) (gl_in (gl_43 hG) h3) ?_
  refine zO_letD (fun D_8 eD_8 => ?_)
  refine zO_iload dX6_name_62 rfl ?_
  refine zO_iconst dX6_name_64 (by decide) ?_
  refine zO_icmp_ne (tgt := 100) dX6_name_65 rfl (fun c65 => ?_) (fun c65 => ?_)
  · refine zO_aload_n dX6_name_68 rfl (zR_P _) ?_
    refine zO_iload_n dX6_name_69 rfl ?_
    refine zO_iload dX6_name_70 rfl ?_
    refine zO_ldcS (j0 := 10 + 1) dX6_name_72 rfl (by decide) ?_
    refine zO_callS (Y' := YX6_placeOf) (cw := zcI F n sl) (as := [zR 39, zI v3, zI v4, zR (1000000 + (10 + 1))]) (rest := []) (na := 4) dX6_name_74 wC_X6_placeOf wN_X6 wM_X6_90 wS_X6_placeOf (by decide) (by decide) rfl rfl (Nat.le_of_ble_eq_true rfl) (fun r hr => zMet_cast (Nat.add_assoc d 0 4) (mX6_placeOf (d := d + 0) hG v3 v4 1 r hr)) ?_
    rintro ⟨r_9, D_10⟩ -
    show zO _ _ _ _ _ _ [zI r_9] (F, D_10, n, sl) _ _
    refine zO_istore dX6_name_77 (by decide) ?_
    refine zO_ls (ls' := [(0, zR 42), (1, zI v1), (2, zR 39), (3, zI v3), (4, zI v4), (5, zI r_9)]) rfl ?_
    refine zO_aload_n dX6_name_79 rfl (zR_P _) ?_
    refine gt6 (k := 0) dX6_name_80 wF_X6_9 (by decide) (gk_42 hG) (zgv (c := 6) (k := 0) rfl (Or.inl ⟨_, rfl⟩) (gf_42_0 hG)) ?_
    refine zO_iload_n dX6_name_83 rfl ?_
    refine zO_iload dX6_name_84 rfl ?_
    refine zO_iconst dX6_name_86 (by decide) ?_
    refine zO_icmp_ne (tgt := 96) dX6_name_87 rfl (fun c87 => ?_) (fun c87 => ?_)
    · refine zO_sipush dX6_name_90 (by decide) ?_
      refine zO_goto (tgt := 99) dX6_name_93 rfl ?_
      refine zO_live [0, 1, 2, 3, 4, 5] ?_
      exact sX6_name_99 hG v1 v3 v4 r_9 257 v1 D_10
    · refine zO_sipush dX6_name_96 (by decide) ?_
      refine zO_live [0, 1, 2, 3, 4, 5] ?_
      exact sX6_name_99 hG v1 v3 v4 r_9 260 v1 D_10
  · refine zO_live [0, 1, 2, 3, 4, 5] ?_
    exact sX6_name_100 hG v1 v3 v4 v5 D_8
set_option maxHeartbeats 20000000 in
theorem mX6_name {l : Launch} {E : zE} {d : Nat} {F : zFs} {n sl : Nat} (hG : zG F) (v1 : Int) (v3 : Int) (v4 : Int) {D : zDa} : ∀ r, fX6_name F  v1 v3 v4 D = some r → zMet l E (d + 5) YX6_name [zR 42, zI v1, zR 39, zI v3, zI v4] (F, D, n, sl) (zcV F n sl r) := by
  intro r hr
  refine zMet_of (plainFor_of_name (by decide)) (fun _ h => (nomatch h)) (Nat.le_of_ble_eq_true rfl) ?_
  have hz : zO l E (d + 5) YX6_name 0 [(0, zR 42), (1, zI v1), (2, zR 39), (3, zI v3), (4, zI v4)] [] (F, D, n, sl) (zcV F n sl) (fX6_name F  v1 v3 v4 D) := by
    unfold fX6_name
    refine zO_chk (fun h1 => ?_)
    refine zO_aload_n dX6_name_0 rfl (zR_P _) ?_
    refine zO_iload_n dX6_name_1 rfl ?_
    refine zO_iald dX6_name_2 (gk_39 hG) (gl_in (gl_39 hG) h1) ?_
    refine zO_callS (Y' := YX6_isDigit) (cw := zcI F n sl) (as := [zI (D 39 v3.toNat)]) (rest := []) (na := 1) dX6_name_3 wC_X6_isDigit wN_X6 wM_X6_78 wS_X6_isDigit (by decide) (by decide) rfl rfl (Nat.le_of_ble_eq_true rfl) (fun r hr => zMet_cast (Nat.add_assoc d 4 0) (mX6_isDigit (d := d + 4) hG (D 39 v3.toNat) r hr)) ?_
    rintro ⟨r_1, D_2⟩ -
    show zO _ _ _ _ _ _ [zI r_1] (F, D_2, n, sl) _ _
    refine zO_if_eq (tgt := 21) dX6_name_6 rfl (fun c6 => ?_) (fun c6 => ?_)
    · refine zO_aload_n dX6_name_21 rfl (zR_P _) ?_
      refine zO_iload_n dX6_name_22 rfl ?_
      refine zO_iald dX6_name_23 (gk_39 hG) (gl_in (gl_39 hG) h1) ?_
      refine zO_callS (Y' := YX6_isLetter) (cw := zcI F n sl) (as := [zI (D_2 39 v3.toNat)]) (rest := []) (na := 1) dX6_name_24 wC_X6_isLetter wN_X6 wM_X6_74 wS_X6_isLetter (by decide) (by decide) rfl rfl (Nat.le_of_ble_eq_true rfl) (fun r hr => zMet_cast (Nat.add_assoc d 4 0) (mX6_isLetter (d := d + 4) hG (D_2 39 v3.toNat) r hr)) ?_
      rintro ⟨r_3, D_4⟩ -
      show zO _ _ _ _ _ _ [zI r_3] (F, D_4, n, sl) _ _
      refine zO_if_eq (tgt := 152) dX6_name_27 rfl (fun c27 => ?_) (fun c27 => ?_)
      · refine zO_chk (fun h2 => ?_)
        refine zO_aload_n dX6_name_152 rfl (zR_P _) ?_
        refine gt6 (k := 0) dX6_name_153 wF_X6_9 (by decide) (gk_42 hG) (zgv (c := 6) (k := 0) rfl (Or.inl ⟨_, rfl⟩) (gf_42_0 hG)) ?_
        refine zO_iload_n dX6_name_156 rfl ?_
        refine zO_aload_n dX6_name_157 rfl (zR_P _) ?_
        refine zO_iload_n dX6_name_158 rfl ?_
        refine zO_iald dX6_name_159 (gk_39 hG) (gl_in (gl_39 hG) h1) ?_
        refine zO_iast dX6_name_160 (gk_43 hG) (gl_in (gl_43 hG) h2) ?_
        refine zO_letD (fun D_5 eD_5 => ?_)
        exact zO_ret (rv := none) dX6_name_161 rfl trivial rfl
      · refine zO_aload_n dX6_name_30 rfl (zR_P _) ?_
        refine zO_iload_n dX6_name_31 rfl ?_
        refine zO_iload dX6_name_32 rfl ?_
        refine zO_ldcS (j0 := 10 + 0) dX6_name_34 rfl (by decide) ?_
        refine zO_callS (Y' := YX6_placeOf) (cw := zcI F n sl) (as := [zR 39, zI v3, zI v4, zR (1000000 + (10 + 0))]) (rest := []) (na := 4) dX6_name_36 wC_X6_placeOf wN_X6 wM_X6_90 wS_X6_placeOf (by decide) (by decide) rfl rfl (Nat.le_of_ble_eq_true rfl) (fun r hr => zMet_cast (Nat.add_assoc d 0 4) (mX6_placeOf (d := d + 0) hG v3 v4 0 r hr)) ?_
        rintro ⟨r_6, D_7⟩ -
        show zO _ _ _ _ _ _ [zI r_6] (F, D_7, n, sl) _ _
        refine zO_istore dX6_name_39 (by decide) ?_
        refine zO_ls (ls' := [(0, zR 42), (1, zI v1), (2, zR 39), (3, zI v3), (4, zI v4), (5, zI r_6)]) rfl ?_
        refine zO_aload_n dX6_name_41 rfl (zR_P _) ?_
        refine gt6 (k := 0) dX6_name_42 wF_X6_9 (by decide) (gk_42 hG) (zgv (c := 6) (k := 0) rfl (Or.inl ⟨_, rfl⟩) (gf_42_0 hG)) ?_
        refine zO_iload_n dX6_name_45 rfl ?_
        refine zO_iload dX6_name_46 rfl ?_
        refine zO_iconst dX6_name_48 (by decide) ?_
        refine zO_icmp_ne (tgt := 58) dX6_name_49 rfl (fun c49 => ?_) (fun c49 => ?_)
        · refine zO_sipush dX6_name_52 (by decide) ?_
          refine zO_goto (tgt := 61) dX6_name_55 rfl ?_
          refine zO_live [0, 1, 2, 3, 4, 5] ?_
          exact sX6_name_61 hG v1 v3 v4 r_6 257 v1 D_7
        · refine zO_sipush dX6_name_58 (by decide) ?_
          refine zO_live [0, 1, 2, 3, 4, 5] ?_
          exact sX6_name_61 hG v1 v3 v4 r_6 259 v1 D_7
    · refine zO_aload_n dX6_name_9 rfl (zR_P _) ?_
      refine zO_iload_n dX6_name_10 rfl ?_
      refine zO_aload_n dX6_name_11 rfl (zR_P _) ?_
      refine zO_iload_n dX6_name_12 rfl ?_
      refine zO_iload dX6_name_13 rfl ?_
      refine zO_callV (Y' := YX6_nameNumber) (cw := zcV F n sl) (as := [zI v1, zR 39, zI v3, zI v4]) (rest := []) (na := 4) (ci := 6) rfl dX6_name_15 wC_X6_nameNumber wN_X6 wM_X6_85 wI_X6_nameNumber wV_X6_nameNumber (by decide) (by decide) rfl rfl (Nat.le_of_ble_eq_true rfl) rfl (by decide) (gk_42 hG) (fun r hr => zMet_cast (Nat.add_assoc d 4 0) (mX6_nameNumber (d := d + 4) hG v1 v3 v4 r hr)) ?_
      intro D_17 _
      show zO _ _ _ _ _ _ [] (F, D_17, n, sl) _ _
      refine zO_goto (tgt := 161) dX6_name_18 rfl ?_
      exact zO_ret (rv := none) dX6_name_161 rfl trivial rfl
  exact hz r hr
