/-! printed by wip/gen/emit_all.py: X6_cutTokens X6_fail X6_emit group0 X6_leadHere group1 X6_clause -/
theorem dX6_cutTokens_0 : decode cX6_cutTokens 0 = .ok (.iconst 0, 1) := by decide +kernel
theorem dX6_cutTokens_1 : decode cX6_cutTokens 1 = .ok (.istore_n 3, 1) := by decide +kernel
theorem dX6_cutTokens_2 : decode cX6_cutTokens 2 = .ok (.iconst 0, 1) := by decide +kernel
theorem dX6_cutTokens_3 : decode cX6_cutTokens 3 = .ok (.istore 4, 2) := by decide +kernel
theorem dX6_cutTokens_5 : decode cX6_cutTokens 5 = .ok (.iload 4, 2) := by decide +kernel
theorem dX6_cutTokens_7 : decode cX6_cutTokens 7 = .ok (.iload_n 2, 1) := by decide +kernel
theorem dX6_cutTokens_8 : decode cX6_cutTokens 8 = .ok (.if_icmp .ge 98, 3) := by decide +kernel
theorem dX6_cutTokens_11 : decode cX6_cutTokens 11 = .ok (.iload 4, 2) := by decide +kernel
theorem dX6_cutTokens_13 : decode cX6_cutTokens 13 = .ok (.iconst 1, 1) := by decide +kernel
theorem dX6_cutTokens_14 : decode cX6_cutTokens 14 = .ok (.iadd, 1) := by decide +kernel
theorem dX6_cutTokens_15 : decode cX6_cutTokens 15 = .ok (.istore 5, 2) := by decide +kernel
theorem dX6_cutTokens_17 : decode cX6_cutTokens 17 = .ok (.iload 5, 2) := by decide +kernel
theorem dX6_cutTokens_19 : decode cX6_cutTokens 19 = .ok (.iload_n 2, 1) := by decide +kernel
theorem dX6_cutTokens_20 : decode cX6_cutTokens 20 = .ok (.if_icmp .ge 49, 3) := by decide +kernel
theorem dX6_cutTokens_23 : decode cX6_cutTokens 23 = .ok (.aload_n 1, 1) := by decide +kernel
theorem dX6_cutTokens_24 : decode cX6_cutTokens 24 = .ok (.iload 4, 2) := by decide +kernel
theorem dX6_cutTokens_26 : decode cX6_cutTokens 26 = .ok (.iaload, 1) := by decide +kernel
theorem dX6_cutTokens_27 : decode cX6_cutTokens 27 = .ok (.invokestatic 74, 3) := by decide +kernel
theorem dX6_cutTokens_30 : decode cX6_cutTokens 30 = .ok (.ifCond .eq 13, 3) := by decide +kernel
theorem dX6_cutTokens_33 : decode cX6_cutTokens 33 = .ok (.aload_n 1, 1) := by decide +kernel
theorem dX6_cutTokens_34 : decode cX6_cutTokens 34 = .ok (.iload 5, 2) := by decide +kernel
theorem dX6_cutTokens_36 : decode cX6_cutTokens 36 = .ok (.iaload, 1) := by decide +kernel
theorem dX6_cutTokens_37 : decode cX6_cutTokens 37 = .ok (.invokestatic 74, 3) := by decide +kernel
theorem dX6_cutTokens_40 : decode cX6_cutTokens 40 = .ok (.ifCond .ne 23, 3) := by decide +kernel
theorem dX6_cutTokens_43 : decode cX6_cutTokens 43 = .ok (.aload_n 1, 1) := by decide +kernel
theorem dX6_cutTokens_44 : decode cX6_cutTokens 44 = .ok (.iload 4, 2) := by decide +kernel
theorem dX6_cutTokens_46 : decode cX6_cutTokens 46 = .ok (.iaload, 1) := by decide +kernel
theorem dX6_cutTokens_47 : decode cX6_cutTokens 47 = .ok (.invokestatic 78, 3) := by decide +kernel
theorem dX6_cutTokens_50 : decode cX6_cutTokens 50 = .ok (.ifCond .eq 19, 3) := by decide +kernel
theorem dX6_cutTokens_53 : decode cX6_cutTokens 53 = .ok (.aload_n 1, 1) := by decide +kernel
theorem dX6_cutTokens_54 : decode cX6_cutTokens 54 = .ok (.iload 5, 2) := by decide +kernel
theorem dX6_cutTokens_56 : decode cX6_cutTokens 56 = .ok (.iaload, 1) := by decide +kernel
theorem dX6_cutTokens_57 : decode cX6_cutTokens 57 = .ok (.invokestatic 78, 3) := by decide +kernel
theorem dX6_cutTokens_60 : decode cX6_cutTokens 60 = .ok (.ifCond .eq 9, 3) := by decide +kernel
theorem dX6_cutTokens_63 : decode cX6_cutTokens 63 = .ok (.iinc 5 1, 3) := by decide +kernel
theorem dX6_cutTokens_66 : decode cX6_cutTokens 66 = .ok (.goto (-49), 3) := by decide +kernel
theorem dX6_cutTokens_69 : decode cX6_cutTokens 69 = .ok (.aload_n 1, 1) := by decide +kernel
theorem dX6_cutTokens_70 : decode cX6_cutTokens 70 = .ok (.iload 4, 2) := by decide +kernel
theorem dX6_cutTokens_72 : decode cX6_cutTokens 72 = .ok (.iaload, 1) := by decide +kernel
theorem dX6_cutTokens_73 : decode cX6_cutTokens 73 = .ok (.bipush 32, 2) := by decide +kernel
theorem dX6_cutTokens_75 : decode cX6_cutTokens 75 = .ok (.if_icmp .eq 24, 3) := by decide +kernel
theorem dX6_cutTokens_78 : decode cX6_cutTokens 78 = .ok (.aload_n 0, 1) := by decide +kernel
theorem dX6_cutTokens_79 : decode cX6_cutTokens 79 = .ok (.getfield 18, 3) := by decide +kernel
theorem dX6_cutTokens_82 : decode cX6_cutTokens 82 = .ok (.iload_n 3, 1) := by decide +kernel
theorem dX6_cutTokens_83 : decode cX6_cutTokens 83 = .ok (.iload 4, 2) := by decide +kernel
theorem dX6_cutTokens_85 : decode cX6_cutTokens 85 = .ok (.iastore, 1) := by decide +kernel
theorem dX6_cutTokens_86 : decode cX6_cutTokens 86 = .ok (.aload_n 0, 1) := by decide +kernel
theorem dX6_cutTokens_87 : decode cX6_cutTokens 87 = .ok (.iload_n 3, 1) := by decide +kernel
theorem dX6_cutTokens_88 : decode cX6_cutTokens 88 = .ok (.aload_n 1, 1) := by decide +kernel
theorem dX6_cutTokens_89 : decode cX6_cutTokens 89 = .ok (.iload 4, 2) := by decide +kernel
theorem dX6_cutTokens_91 : decode cX6_cutTokens 91 = .ok (.iload 5, 2) := by decide +kernel
theorem dX6_cutTokens_93 : decode cX6_cutTokens 93 = .ok (.invokevirtual 81, 3) := by decide +kernel
theorem dX6_cutTokens_96 : decode cX6_cutTokens 96 = .ok (.iinc 3 1, 3) := by decide +kernel
theorem dX6_cutTokens_99 : decode cX6_cutTokens 99 = .ok (.iload 5, 2) := by decide +kernel
theorem dX6_cutTokens_101 : decode cX6_cutTokens 101 = .ok (.istore 4, 2) := by decide +kernel
theorem dX6_cutTokens_103 : decode cX6_cutTokens 103 = .ok (.goto (-98), 3) := by decide +kernel
theorem dX6_cutTokens_106 : decode cX6_cutTokens 106 = .ok (.aload_n 0, 1) := by decide +kernel
theorem dX6_cutTokens_107 : decode cX6_cutTokens 107 = .ok (.getfield 18, 3) := by decide +kernel
theorem dX6_cutTokens_110 : decode cX6_cutTokens 110 = .ok (.iload_n 3, 1) := by decide +kernel
theorem dX6_cutTokens_111 : decode cX6_cutTokens 111 = .ok (.iload_n 2, 1) := by decide +kernel
theorem dX6_cutTokens_112 : decode cX6_cutTokens 112 = .ok (.iastore, 1) := by decide +kernel
theorem dX6_cutTokens_113 : decode cX6_cutTokens 113 = .ok (.aload_n 0, 1) := by decide +kernel
theorem dX6_cutTokens_114 : decode cX6_cutTokens 114 = .ok (.getfield 9, 3) := by decide +kernel
theorem dX6_cutTokens_117 : decode cX6_cutTokens 117 = .ok (.iload_n 3, 1) := by decide +kernel
theorem dX6_cutTokens_118 : decode cX6_cutTokens 118 = .ok (.sipush 256, 3) := by decide +kernel
theorem dX6_cutTokens_121 : decode cX6_cutTokens 121 = .ok (.iastore, 1) := by decide +kernel
theorem dX6_cutTokens_122 : decode cX6_cutTokens 122 = .ok (.return_, 1) := by decide +kernel
abbrev YX6_cutTokens : zY := (yX6_cutTokens, cX6_cutTokens, 6, none, [])
def fX6_cutTokens_99 (F : zFs) (k_5 : Int → Int → zDa → Option zDa) (o2 : Int) (o3 : Int) (v5 : Int) (D : zDa) : Option zDa :=
  k_5 o3 v5 D
def fX6_cutTokens_69 (F : zFs) (k_5 : Int → Int → zDa → Option zDa) (o2 : Int) (o3 : Int) (o4 : Int) (v5 : Int) (D : zDa) : Option zDa :=
  if (0 ≤ o4 ∧ o4 < 400) then
    if (D 39 o4.toNat) = 32 then
      fX6_cutTokens_99 F k_5 o2 o3 v5 D
    else
      if (0 ≤ o3 ∧ o3 < 401) then
        zlet (zwr D 45 o3.toNat o4) (fun D_6 =>
          (fX6_name F o3 o4 v5 D_6).bind (fun D_8 =>
            if (-2147483648 ≤ o3 + 1 ∧ o3 + 1 ≤ 2147483647) then
              fX6_cutTokens_99 F k_5 o2 (o3 + 1) v5 D_8
            else none))
      else none
  else none
def fX6_cutTokens_63 (F : zFs) (k_5 : Int → Int → zDa → Option zDa) (k_17 : Int → zDa → Option zDa) (o2 : Int) (o3 : Int) (o4 : Int) (v5 : Int) (D : zDa) : Option zDa :=
  if (-2147483648 ≤ v5 + 1 ∧ v5 + 1 ≤ 2147483647) then
    k_17 (v5 + 1) D
  else none
def fX6_cutTokens_43 (F : zFs) (k_5 : Int → Int → zDa → Option zDa) (k_17 : Int → zDa → Option zDa) (o2 : Int) (o3 : Int) (o4 : Int) (v5 : Int) (D : zDa) : Option zDa :=
  if (0 ≤ o4 ∧ o4 < 400) then
    (fX6_isDigit F (D 39 o4.toNat) D).bind (fun (r_4, D_5) =>
      if r_4 = 0 then
        fX6_cutTokens_69 F k_5 o2 o3 o4 v5 D_5
      else
        if (0 ≤ v5 ∧ v5 < 400) then
          (fX6_isDigit F (D_5 39 v5.toNat) D_5).bind (fun (r_9, D_10) =>
            if r_9 = 0 then
              fX6_cutTokens_69 F k_5 o2 o3 o4 v5 D_10
            else
              fX6_cutTokens_63 F k_5 k_17 o2 o3 o4 v5 D_10)
        else none)
  else none
def fX6_cutTokens_17 (F : zFs) (o2 : Int) (o3 : Int) (o4 : Int) (k_5 : Int → Int → zDa → Option zDa) (k_17 : Int → zDa → Option zDa) (v5 : Int) (D : zDa) : Option zDa :=
  if v5 < o2 then
    if (0 ≤ o4 ∧ o4 < 400) then
      (fX6_isLetter F (D 39 o4.toNat) D).bind (fun (r_2, D_3) =>
        if r_2 = 0 then
          fX6_cutTokens_43 F k_5 k_17 o2 o3 o4 v5 D_3
        else
          if (0 ≤ v5 ∧ v5 < 400) then
            (fX6_isLetter F (D_3 39 v5.toNat) D_3).bind (fun (r_11, D_12) =>
              if r_11 = 0 then
                fX6_cutTokens_43 F k_5 k_17 o2 o3 o4 v5 D_12
              else
                fX6_cutTokens_63 F k_5 k_17 o2 o3 o4 v5 D_12)
          else none)
    else none
  else
    fX6_cutTokens_69 F k_5 o2 o3 o4 v5 D
def fX6_cutTokens_5 (F : zFs) (o2 : Int)  (k_5 : Int → Int → zDa → Option zDa) (v3 : Int) (v4 : Int) (D : zDa) : Option zDa :=
  if v4 < o2 then
    if (-2147483648 ≤ v4 + 1 ∧ v4 + 1 ≤ 2147483647) then
      zlet ((v4 + 1)) (fun x5_1 =>
        zfix (fun _ _ => none) (fX6_cutTokens_17 F o2 v3 v4 k_5) zfu x5_1 D)
    else none
  else
    if (0 ≤ v3 ∧ v3 < 401) then
      zlet (zwr D 45 v3.toNat o2) (fun D_13 =>
        zlet (zwr D_13 43 v3.toNat 256) (fun D_14 =>
          some D_14))
    else none
def fX6_cutTokens (F : zFs) (v2 : Int) (D : zDa) : Option zDa :=
  zfix (fun _ _ _ => none) (fX6_cutTokens_5 F v2) zfu 0 0 D
set_option maxHeartbeats 20000000 in
theorem sX6_cutTokens_99 {l : Launch} {E : zE} {d : Nat} {F : zFs} {n sl : Nat} (hG : zG F)  (o2 : Int) (o3 : Int) (v5 : Int) (k_5 : Int → Int → zDa → Option zDa) (hk_5 : ∀ (u3 : Int) (u4 : Int) (D : zDa), zO l E (d + 6) YX6_cutTokens 5 [(0, zR 42), (1, zR 39), (2, zI o2), (3, zI u3), (4, zI u4)] [] (F, D, n, sl) (zcV F n sl) (k_5 u3 u4 D)) (D : zDa) : zO l E (d + 6) YX6_cutTokens 99 [(0, zR 42), (1, zR 39), (2, zI o2), (3, zI o3), (5, zI v5)] [] (F, D, n, sl) (zcV F n sl) (fX6_cutTokens_99 F k_5 o2 o3 v5 D) := by
  unfold fX6_cutTokens_99
  refine zO_iload dX6_cutTokens_99 rfl ?_
  refine zO_istore dX6_cutTokens_101 (by decide) ?_
  refine zO_ls (ls' := [(0, zR 42), (1, zR 39), (2, zI o2), (3, zI o3), (4, zI v5), (5, zI v5)]) rfl ?_
  refine zO_goto (tgt := 5) dX6_cutTokens_103 rfl ?_
  refine zO_live [0, 1, 2, 3, 4] ?_
  exact hk_5 o3 v5 D
set_option maxHeartbeats 20000000 in
theorem sX6_cutTokens_69 {l : Launch} {E : zE} {d : Nat} {F : zFs} {n sl : Nat} (hG : zG F)  (o2 : Int) (o3 : Int) (o4 : Int) (v5 : Int) (k_5 : Int → Int → zDa → Option zDa) (hk_5 : ∀ (u3 : Int) (u4 : Int) (D : zDa), zO l E (d + 6) YX6_cutTokens 5 [(0, zR 42), (1, zR 39), (2, zI o2), (3, zI u3), (4, zI u4)] [] (F, D, n, sl) (zcV F n sl) (k_5 u3 u4 D)) (D : zDa) : zO l E (d + 6) YX6_cutTokens 69 [(0, zR 42), (1, zR 39), (2, zI o2), (3, zI o3), (4, zI o4), (5, zI v5)] [] (F, D, n, sl) (zcV F n sl) (fX6_cutTokens_69 F k_5 o2 o3 o4 v5 D) := by
  unfold fX6_cutTokens_69
  refine zO_chk (fun h4 => ?_)
  refine zO_aload_n dX6_cutTokens_69 rfl (zR_P _) ?_
  refine zO_iload dX6_cutTokens_70 rfl ?_
  refine zO_iald dX6_cutTokens_72 (gk_39 hG) (gl_in (gl_39 hG) h4) ?_
  refine zO_bipush dX6_cutTokens_73 (by decide) ?_
  refine zO_icmp_eq (tgt := 99) dX6_cutTokens_75 rfl (fun c75 => ?_) (fun c75 => ?_)
  · refine zO_live [0, 1, 2, 3, 5] ?_
    exact sX6_cutTokens_99 hG o2 o3 v5 _ hk_5 D
  · refine zO_chk (fun h5 => ?_)
    refine zO_aload_n dX6_cutTokens_78 rfl (zR_P _) ?_
    refine gt6 (k := 2) dX6_cutTokens_79 wF_X6_18 (by decide) (gk_42 hG) (zgv (c := 6) (k := 2) rfl (Or.inl ⟨_, rfl⟩) (gf_42_2 hG)) ?_
    refine zO_iload_n dX6_cutTokens_82 rfl ?_
    refine zO_iload dX6_cutTokens_83 rfl ?_
    refine zO_iast dX6_cutTokens_85 (gk_45 hG) (gl_in (gl_45 hG) h5) ?_
    refine zO_letD (fun D_6 eD_6 => ?_)
    refine zO_aload_n dX6_cutTokens_86 rfl (zR_P _) ?_
    refine zO_iload_n dX6_cutTokens_87 rfl ?_
    refine zO_aload_n dX6_cutTokens_88 rfl (zR_P _) ?_
    refine zO_iload dX6_cutTokens_89 rfl ?_
    refine zO_iload dX6_cutTokens_91 rfl ?_
    refine zO_callV (Y' := YX6_name) (cw := zcV F n sl) (as := [zI o3, zR 39, zI o4, zI v5]) (rest := []) (na := 4) (ci := 6) rfl dX6_cutTokens_93 wC_X6_name wN_X6 wM_X6_81 wI_X6_name wV_X6_name (by decide) (by decide) rfl rfl (Nat.le_of_ble_eq_true rfl) rfl (by decide) (gk_42 hG) (fun r hr => zMet_cast (Nat.add_assoc d 0 5) (mX6_name (d := d + 0) hG o3 o4 v5 r hr)) ?_
    intro D_8 _
    show zO _ _ _ _ _ _ [] (F, D_8, n, sl) _ _
    refine zO_chk (fun h6 => ?_)
    refine zO_iinc dX6_cutTokens_96 rfl h6 (by decide) ?_
    refine zO_ls (ls' := [(0, zR 42), (1, zR 39), (2, zI o2), (3, zI (o3 + 1)), (4, zI o4), (5, zI v5)]) rfl ?_
    refine zO_live [0, 1, 2, 3, 5] ?_
    exact sX6_cutTokens_99 hG o2 (o3 + 1) v5 _ hk_5 D_8
set_option maxHeartbeats 20000000 in
theorem sX6_cutTokens_63 {l : Launch} {E : zE} {d : Nat} {F : zFs} {n sl : Nat} (hG : zG F)  (o2 : Int) (o3 : Int) (o4 : Int) (v5 : Int) (k_5 : Int → Int → zDa → Option zDa) (k_17 : Int → zDa → Option zDa) (hk_5 : ∀ (u3 : Int) (u4 : Int) (D : zDa), zO l E (d + 6) YX6_cutTokens 5 [(0, zR 42), (1, zR 39), (2, zI o2), (3, zI u3), (4, zI u4)] [] (F, D, n, sl) (zcV F n sl) (k_5 u3 u4 D)) (hk_17 : ∀ (u5 : Int) (D : zDa), zO l E (d + 6) YX6_cutTokens 17 [(0, zR 42), (1, zR 39), (2, zI o2), (3, zI o3), (4, zI o4), (5, zI u5)] [] (F, D, n, sl) (zcV F n sl) (k_17 u5 D)) (D : zDa) : zO l E (d + 6) YX6_cutTokens 63 [(0, zR 42), (1, zR 39), (2, zI o2), (3, zI o3), (4, zI o4), (5, zI v5)] [] (F, D, n, sl) (zcV F n sl) (fX6_cutTokens_63 F k_5 k_17 o2 o3 o4 v5 D) := by
  unfold fX6_cutTokens_63
  refine zO_chk (fun h8 => ?_)
  refine zO_iinc dX6_cutTokens_63 rfl h8 (by decide) ?_
  refine zO_ls (ls' := [(0, zR 42), (1, zR 39), (2, zI o2), (3, zI o3), (4, zI o4), (5, zI (v5 + 1))]) rfl ?_
  refine zO_goto (tgt := 17) dX6_cutTokens_66 rfl ?_
  refine zO_live [0, 1, 2, 3, 4, 5] ?_
  exact hk_17 (v5 + 1) D
set_option maxHeartbeats 20000000 in
theorem sX6_cutTokens_43 {l : Launch} {E : zE} {d : Nat} {F : zFs} {n sl : Nat} (hG : zG F)  (o2 : Int) (o3 : Int) (o4 : Int) (v5 : Int) (k_5 : Int → Int → zDa → Option zDa) (k_17 : Int → zDa → Option zDa) (hk_5 : ∀ (u3 : Int) (u4 : Int) (D : zDa), zO l E (d + 6) YX6_cutTokens 5 [(0, zR 42), (1, zR 39), (2, zI o2), (3, zI u3), (4, zI u4)] [] (F, D, n, sl) (zcV F n sl) (k_5 u3 u4 D)) (hk_17 : ∀ (u5 : Int) (D : zDa), zO l E (d + 6) YX6_cutTokens 17 [(0, zR 42), (1, zR 39), (2, zI o2), (3, zI o3), (4, zI o4), (5, zI u5)] [] (F, D, n, sl) (zcV F n sl) (k_17 u5 D)) (D : zDa) : zO l E (d + 6) YX6_cutTokens 43 [(0, zR 42), (1, zR 39), (2, zI o2), (3, zI o3), (4, zI o4), (5, zI v5)] [] (F, D, n, sl) (zcV F n sl) (fX6_cutTokens_43 F k_5 k_17 o2 o3 o4 v5 D) := by
  unfold fX6_cutTokens_43
  refine zO_chk (fun h3 => ?_)
  refine zO_aload_n dX6_cutTokens_43 rfl (zR_P _) ?_
  refine zO_iload dX6_cutTokens_44 rfl ?_
  refine zO_iald dX6_cutTokens_46 (gk_39 hG) (gl_in (gl_39 hG) h3) ?_
  refine zO_callS (Y' := YX6_isDigit) (cw := zcI F n sl) (as := [zI (D 39 o4.toNat)]) (rest := []) (na := 1) dX6_cutTokens_47 wC_X6_isDigit wN_X6 wM_X6_78 wS_X6_isDigit (by decide) (by decide) rfl rfl (Nat.le_of_ble_eq_true rfl) (fun r hr => zMet_cast (Nat.add_assoc d 5 0) (mX6_isDigit (d := d + 5) hG (D 39 o4.toNat) r hr)) ?_
  rintro ⟨r_4, D_5⟩ -
  show zO _ _ _ _ _ _ [zI r_4] (F, D_5, n, sl) _ _
  refine zO_if_eq (tgt := 69) dX6_cutTokens_50 rfl (fun c50 => ?_) (fun c50 => ?_)
  · refine zO_live [0, 1, 2, 3, 4, 5] ?_
    exact sX6_cutTokens_69 hG o2 o3 o4 v5 _ hk_5 D_5
  · refine zO_chk (fun h7 => ?_)
    refine zO_aload_n dX6_cutTokens_53 rfl (zR_P _) ?_
    refine zO_iload dX6_cutTokens_54 rfl ?_
    refine zO_iald dX6_cutTokens_56 (gk_39 hG) (gl_in (gl_39 hG) h7) ?_
    refine zO_callS (Y' := YX6_isDigit) (cw := zcI F n sl) (as := [zI (D_5 39 v5.toNat)]) (rest := []) (na := 1) dX6_cutTokens_57 wC_X6_isDigit wN_X6 wM_X6_78 wS_X6_isDigit (by decide) (by decide) rfl rfl (Nat.le_of_ble_eq_true rfl) (fun r hr => zMet_cast (Nat.add_assoc d 5 0) (mX6_isDigit (d := d + 5) hG (D_5 39 v5.toNat) r hr)) ?_
    rintro ⟨r_9, D_10⟩ -
    show zO _ _ _ _ _ _ [zI r_9] (F, D_10, n, sl) _ _
    refine zO_if_eq (tgt := 69) dX6_cutTokens_60 rfl (fun c60 => ?_) (fun c60 => ?_)
    · refine zO_live [0, 1, 2, 3, 4, 5] ?_
      exact sX6_cutTokens_69 hG o2 o3 o4 v5 _ hk_5 D_10
    · refine zO_live [0, 1, 2, 3, 4, 5] ?_
      exact sX6_cutTokens_63 hG o2 o3 o4 v5 _ _ hk_5 hk_17 D_10
set_option maxHeartbeats 20000000 in
theorem sX6_cutTokens_17 {l : Launch} {E : zE} {d : Nat} {F : zFs} {n sl : Nat} (hG : zG F)  (o2 : Int) (o3 : Int) (o4 : Int) (k_5 : Int → Int → zDa → Option zDa) (hk_5 : ∀ (u3 : Int) (u4 : Int) (D : zDa), zO l E (d + 6) YX6_cutTokens 5 [(0, zR 42), (1, zR 39), (2, zI o2), (3, zI u3), (4, zI u4)] [] (F, D, n, sl) (zcV F n sl) (k_5 u3 u4 D)) : ∀ (N : Nat) (v5 : Int) (D : zDa), zO l E (d + 6) YX6_cutTokens 17 [(0, zR 42), (1, zR 39), (2, zI o2), (3, zI o3), (4, zI o4), (5, zI v5)] [] (F, D, n, sl) (zcV F n sl) (zfix (fun _ _ => none) (fX6_cutTokens_17 F o2 o3 o4 k_5) N v5 D) := by
  intro N
  induction N with
  | zero => intro v5 D; exact zO_none
  | succ N hk_17 =>
    intro v5 D
    show zO _ _ _ _ _ _ _ _ _ ((fX6_cutTokens_17 F o2 o3 o4 k_5) (zfix (fun _ _ => none) (fX6_cutTokens_17 F o2 o3 o4 k_5) N) v5 D)
    unfold fX6_cutTokens_17
    refine zO_iload dX6_cutTokens_17 rfl ?_
    refine zO_iload_n dX6_cutTokens_19 rfl ?_
    refine zO_icmp_ge (tgt := 69) dX6_cutTokens_20 rfl (fun c20 => ?_) (fun c20 => ?_)
    · refine zO_chk (fun h2 => ?_)
      refine zO_aload_n dX6_cutTokens_23 rfl (zR_P _) ?_
      refine zO_iload dX6_cutTokens_24 rfl ?_
      refine zO_iald dX6_cutTokens_26 (gk_39 hG) (gl_in (gl_39 hG) h2) ?_
      refine zO_callS (Y' := YX6_isLetter) (cw := zcI F n sl) (as := [zI (D 39 o4.toNat)]) (rest := []) (na := 1) dX6_cutTokens_27 wC_X6_isLetter wN_X6 wM_X6_74 wS_X6_isLetter (by decide) (by decide) rfl rfl (Nat.le_of_ble_eq_true rfl) (fun r hr => zMet_cast (Nat.add_assoc d 5 0) (mX6_isLetter (d := d + 5) hG (D 39 o4.toNat) r hr)) ?_
      rintro ⟨r_2, D_3⟩ -
      show zO _ _ _ _ _ _ [zI r_2] (F, D_3, n, sl) _ _
      refine zO_if_eq (tgt := 43) dX6_cutTokens_30 rfl (fun c30 => ?_) (fun c30 => ?_)
      · refine zO_live [0, 1, 2, 3, 4, 5] ?_
        exact sX6_cutTokens_43 hG o2 o3 o4 v5 _ _ hk_5 hk_17 D_3
      · refine zO_chk (fun h9 => ?_)
        refine zO_aload_n dX6_cutTokens_33 rfl (zR_P _) ?_
        refine zO_iload dX6_cutTokens_34 rfl ?_
        refine zO_iald dX6_cutTokens_36 (gk_39 hG) (gl_in (gl_39 hG) h9) ?_
        refine zO_callS (Y' := YX6_isLetter) (cw := zcI F n sl) (as := [zI (D_3 39 v5.toNat)]) (rest := []) (na := 1) dX6_cutTokens_37 wC_X6_isLetter wN_X6 wM_X6_74 wS_X6_isLetter (by decide) (by decide) rfl rfl (Nat.le_of_ble_eq_true rfl) (fun r hr => zMet_cast (Nat.add_assoc d 5 0) (mX6_isLetter (d := d + 5) hG (D_3 39 v5.toNat) r hr)) ?_
        rintro ⟨r_11, D_12⟩ -
        show zO _ _ _ _ _ _ [zI r_11] (F, D_12, n, sl) _ _
        refine zO_if_ne (tgt := 63) dX6_cutTokens_40 rfl (fun c40 => ?_) (fun c40 => ?_)
        · refine zO_live [0, 1, 2, 3, 4, 5] ?_
          exact sX6_cutTokens_43 hG o2 o3 o4 v5 _ _ hk_5 hk_17 D_12
        · refine zO_live [0, 1, 2, 3, 4, 5] ?_
          exact sX6_cutTokens_63 hG o2 o3 o4 v5 _ _ hk_5 hk_17 D_12
    · refine zO_live [0, 1, 2, 3, 4, 5] ?_
      exact sX6_cutTokens_69 hG o2 o3 o4 v5 _ hk_5 D
set_option maxHeartbeats 20000000 in
theorem sX6_cutTokens_5 {l : Launch} {E : zE} {d : Nat} {F : zFs} {n sl : Nat} (hG : zG F)  (o2 : Int)   : ∀ (N : Nat) (v3 : Int) (v4 : Int) (D : zDa), zO l E (d + 6) YX6_cutTokens 5 [(0, zR 42), (1, zR 39), (2, zI o2), (3, zI v3), (4, zI v4)] [] (F, D, n, sl) (zcV F n sl) (zfix (fun _ _ _ => none) (fX6_cutTokens_5 F o2) N v3 v4 D) := by
  intro N
  induction N with
  | zero => intro v3 v4 D; exact zO_none
  | succ N hk_5 =>
    intro v3 v4 D
    show zO _ _ _ _ _ _ _ _ _ ((fX6_cutTokens_5 F o2) (zfix (fun _ _ _ => none) (fX6_cutTokens_5 F o2) N) v3 v4 D)
    unfold fX6_cutTokens_5
    refine zO_iload dX6_cutTokens_5 rfl ?_
    refine zO_iload_n dX6_cutTokens_7 rfl ?_
    refine zO_icmp_ge (tgt := 106) dX6_cutTokens_8 rfl (fun c8 => ?_) (fun c8 => ?_)
    · refine zO_chk (fun h1 => ?_)
      refine zO_iload dX6_cutTokens_11 rfl ?_
      refine zO_iconst dX6_cutTokens_13 (by decide) ?_
      refine zO_iadd dX6_cutTokens_14 h1 ?_
      refine zO_letI (fun x5_1 ex5_1 => ?_)
      refine zO_istore dX6_cutTokens_15 (by decide) ?_
      refine zO_ls (ls' := [(0, zR 42), (1, zR 39), (2, zI o2), (3, zI v3), (4, zI v4), (5, zI x5_1)]) rfl ?_
      refine zO_live [0, 1, 2, 3, 4, 5] ?_
      exact sX6_cutTokens_17 hG o2 v3 v4 _ hk_5 zfu x5_1 D
    · refine zO_chk (fun h10 => ?_)
      refine zO_aload_n dX6_cutTokens_106 rfl (zR_P _) ?_
      refine gt6 (k := 2) dX6_cutTokens_107 wF_X6_18 (by decide) (gk_42 hG) (zgv (c := 6) (k := 2) rfl (Or.inl ⟨_, rfl⟩) (gf_42_2 hG)) ?_
      refine zO_iload_n dX6_cutTokens_110 rfl ?_
      refine zO_iload_n dX6_cutTokens_111 rfl ?_
      refine zO_iast dX6_cutTokens_112 (gk_45 hG) (gl_in (gl_45 hG) h10) ?_
      refine zO_letD (fun D_13 eD_13 => ?_)
      refine zO_aload_n dX6_cutTokens_113 rfl (zR_P _) ?_
      refine gt6 (k := 0) dX6_cutTokens_114 wF_X6_9 (by decide) (gk_42 hG) (zgv (c := 6) (k := 0) rfl (Or.inl ⟨_, rfl⟩) (gf_42_0 hG)) ?_
      refine zO_iload_n dX6_cutTokens_117 rfl ?_
      refine zO_sipush dX6_cutTokens_118 (by decide) ?_
      refine zO_iast dX6_cutTokens_121 (gk_43 hG) (gl_in (gl_43 hG) h10) ?_
      refine zO_letD (fun D_14 eD_14 => ?_)
      exact zO_ret (rv := none) dX6_cutTokens_122 rfl trivial rfl
set_option maxHeartbeats 20000000 in
theorem mX6_cutTokens {l : Launch} {E : zE} {d : Nat} {F : zFs} {n sl : Nat} (hG : zG F) (v2 : Int) {D : zDa} : ∀ r, fX6_cutTokens F  v2 D = some r → zMet l E (d + 6) YX6_cutTokens [zR 42, zR 39, zI v2] (F, D, n, sl) (zcV F n sl r) := by
  intro r hr
  refine zMet_of (plainFor_of_name (by decide)) (fun _ h => (nomatch h)) (Nat.le_of_ble_eq_true rfl) ?_
  have hz : zO l E (d + 6) YX6_cutTokens 0 [(0, zR 42), (1, zR 39), (2, zI v2)] [] (F, D, n, sl) (zcV F n sl) (fX6_cutTokens F  v2 D) := by
    unfold fX6_cutTokens
    refine zO_iconst dX6_cutTokens_0 (by decide) ?_
    refine zO_istore_n dX6_cutTokens_1 (by decide) ?_
    refine zO_ls (ls' := [(0, zR 42), (1, zR 39), (2, zI v2), (3, zI 0)]) rfl ?_
    refine zO_iconst dX6_cutTokens_2 (by decide) ?_
    refine zO_istore dX6_cutTokens_3 (by decide) ?_
    refine zO_ls (ls' := [(0, zR 42), (1, zR 39), (2, zI v2), (3, zI 0), (4, zI 0)]) rfl ?_
    refine zO_live [0, 1, 2, 3, 4] ?_
    exact sX6_cutTokens_5 hG v2 zfu 0 0 D
  exact hz r hr
theorem dX6_fail_0 : decode cX6_fail 0 = .ok (.aload_n 0, 1) := by decide +kernel
theorem dX6_fail_1 : decode cX6_fail 1 = .ok (.getfield 32, 3) := by decide +kernel
theorem dX6_fail_4 : decode cX6_fail 4 = .ok (.iconst (-1), 1) := by decide +kernel
theorem dX6_fail_5 : decode cX6_fail 5 = .ok (.if_icmp .ne 16, 3) := by decide +kernel
theorem dX6_fail_8 : decode cX6_fail 8 = .ok (.aload_n 0, 1) := by decide +kernel
theorem dX6_fail_9 : decode cX6_fail 9 = .ok (.aload_n 0, 1) := by decide +kernel
theorem dX6_fail_10 : decode cX6_fail 10 = .ok (.getfield 18, 3) := by decide +kernel
theorem dX6_fail_13 : decode cX6_fail 13 = .ok (.aload_n 0, 1) := by decide +kernel
theorem dX6_fail_14 : decode cX6_fail 14 = .ok (.getfield 46, 3) := by decide +kernel
theorem dX6_fail_17 : decode cX6_fail 17 = .ok (.iaload, 1) := by decide +kernel
theorem dX6_fail_18 : decode cX6_fail 18 = .ok (.putfield 32, 3) := by decide +kernel
theorem dX6_fail_21 : decode cX6_fail 21 = .ok (.iconst 0, 1) := by decide +kernel
theorem dX6_fail_22 : decode cX6_fail 22 = .ok (.ireturn, 1) := by decide +kernel
abbrev YX6_fail : zY := (yX6_fail, cX6_fail, 1, (Option.some Jvm.ClassFile.FieldType.boolean), [])
def fX6_fail (F : zFs)  (D : zDa) : Option (Int × zDa) :=
  if (D 42 10) = (-1) then
    if (0 ≤ (D 42 3) ∧ (D 42 3) < 401) then
      zlet (zwr D 42 10 (D 45 (D 42 3).toNat)) (fun D_1 =>
        some (0, D_1))
    else none
  else
    some (0, D)
set_option maxHeartbeats 20000000 in
theorem mX6_fail {l : Launch} {E : zE} {d : Nat} {F : zFs} {n sl : Nat} (hG : zG F)  {D : zDa} : ∀ r, fX6_fail F   D = some r → zMet l E (d + 0) YX6_fail [zR 42] (F, D, n, sl) (zcI F n sl r) := by
  intro r hr
  refine zMet_of (plainFor_of_name (by decide)) (fun _ h => (nomatch h)) (Nat.le_of_ble_eq_true rfl) ?_
  have hz : zO l E (d + 0) YX6_fail 0 [(0, zR 42)] [] (F, D, n, sl) (zcI F n sl) (fX6_fail F   D) := by
    unfold fX6_fail
    refine zO_aload_n dX6_fail_0 rfl (zR_P _) ?_
    refine gt6 (k := 10) (v := zI (D 42 10)) dX6_fail_1 wF_X6_32 (by decide) (gk_42 hG) rfl ?_
    refine zO_iconst dX6_fail_4 (by decide) ?_
    refine zO_icmp_ne (tgt := 21) dX6_fail_5 rfl (fun c5 => ?_) (fun c5 => ?_)
    · refine zO_chk (fun h1 => ?_)
      refine zO_aload_n dX6_fail_8 rfl (zR_P _) ?_
      refine zO_aload_n dX6_fail_9 rfl (zR_P _) ?_
      refine gt6 (k := 2) dX6_fail_10 wF_X6_18 (by decide) (gk_42 hG) (zgv (c := 6) (k := 2) rfl (Or.inl ⟨_, rfl⟩) (gf_42_2 hG)) ?_
      refine zO_aload_n dX6_fail_13 rfl (zR_P _) ?_
      refine gt6 (k := 3) (v := zI (D 42 3)) dX6_fail_14 wF_X6_46 (by decide) (gk_42 hG) rfl ?_
      refine zO_iald dX6_fail_17 (gk_45 hG) (gl_in (gl_45 hG) h1) ?_
      refine ptI6 (k := 10) (z := (D 45 (D 42 3).toNat)) dX6_fail_18 wF_X6_32 (by decide) rfl (gk_42 hG) rfl ?_
      refine zO_letD (fun D_1 eD_1 => ?_)
      refine zO_iconst dX6_fail_21 (by decide) ?_
      exact zO_ret (rv := some (zI 0)) dX6_fail_22 rfl rfl rfl
    · refine zO_iconst dX6_fail_21 (by decide) ?_
      exact zO_ret (rv := some (zI 0)) dX6_fail_22 rfl rfl rfl
  exact hz r hr
theorem dX6_emit_0 : decode cX6_emit 0 = .ok (.iload_n 1, 1) := by decide +kernel
theorem dX6_emit_1 : decode cX6_emit 1 = .ok (.iconst (-1), 1) := by decide +kernel
theorem dX6_emit_2 : decode cX6_emit 2 = .ok (.if_icmp .eq 13, 3) := by decide +kernel
theorem dX6_emit_5 : decode cX6_emit 5 = .ok (.aload_n 0, 1) := by decide +kernel
theorem dX6_emit_6 : decode cX6_emit 6 = .ok (.getfield 55, 3) := by decide +kernel
theorem dX6_emit_9 : decode cX6_emit 9 = .ok (.sipush 412, 3) := by decide +kernel
theorem dX6_emit_12 : decode cX6_emit 12 = .ok (.if_icmp .lt 5, 3) := by decide +kernel
theorem dX6_emit_15 : decode cX6_emit 15 = .ok (.iconst (-1), 1) := by decide +kernel
theorem dX6_emit_16 : decode cX6_emit 16 = .ok (.ireturn, 1) := by decide +kernel
theorem dX6_emit_17 : decode cX6_emit 17 = .ok (.aload_n 0, 1) := by decide +kernel
theorem dX6_emit_18 : decode cX6_emit 18 = .ok (.getfield 29, 3) := by decide +kernel
theorem dX6_emit_21 : decode cX6_emit 21 = .ok (.aload_n 0, 1) := by decide +kernel
theorem dX6_emit_22 : decode cX6_emit 22 = .ok (.getfield 55, 3) := by decide +kernel
theorem dX6_emit_25 : decode cX6_emit 25 = .ok (.iload_n 2, 1) := by decide +kernel
theorem dX6_emit_26 : decode cX6_emit 26 = .ok (.iconst 4, 1) := by decide +kernel
theorem dX6_emit_27 : decode cX6_emit 27 = .ok (.ishl, 1) := by decide +kernel
theorem dX6_emit_28 : decode cX6_emit 28 = .ok (.iload_n 1, 1) := by decide +kernel
theorem dX6_emit_29 : decode cX6_emit 29 = .ok (.ior, 1) := by decide +kernel
theorem dX6_emit_30 : decode cX6_emit 30 = .ok (.iastore, 1) := by decide +kernel
theorem dX6_emit_31 : decode cX6_emit 31 = .ok (.aload_n 0, 1) := by decide +kernel
theorem dX6_emit_32 : decode cX6_emit 32 = .ok (.dup, 1) := by decide +kernel
theorem dX6_emit_33 : decode cX6_emit 33 = .ok (.getfield 55, 3) := by decide +kernel
theorem dX6_emit_36 : decode cX6_emit 36 = .ok (.iconst 1, 1) := by decide +kernel
theorem dX6_emit_37 : decode cX6_emit 37 = .ok (.iadd, 1) := by decide +kernel
theorem dX6_emit_38 : decode cX6_emit 38 = .ok (.putfield 55, 3) := by decide +kernel
theorem dX6_emit_41 : decode cX6_emit 41 = .ok (.aload_n 0, 1) := by decide +kernel
theorem dX6_emit_42 : decode cX6_emit 42 = .ok (.getfield 55, 3) := by decide +kernel
theorem dX6_emit_45 : decode cX6_emit 45 = .ok (.iconst 1, 1) := by decide +kernel
theorem dX6_emit_46 : decode cX6_emit 46 = .ok (.isub, 1) := by decide +kernel
theorem dX6_emit_47 : decode cX6_emit 47 = .ok (.ireturn, 1) := by decide +kernel
abbrev YX6_emit : zY := (yX6_emit, cX6_emit, 3, (Option.some Jvm.ClassFile.FieldType.int), [])
def fX6_emit (F : zFs) (v1 : Int) (v2 : Int) (D : zDa) : Option (Int × zDa) :=
  if v1 = (-1) then
    some ((-1), D)
  else
    if (D 42 9) < 412 then
      if (0 ≤ (D 42 9) ∧ (D 42 9) < 412) then
        zlet (zwr D 48 (D 42 9).toNat (zor (zshl v2 4) v1)) (fun D_1 =>
          if (-2147483648 ≤ (D_1 42 9) + 1 ∧ (D_1 42 9) + 1 ≤ 2147483647) then
            zlet (zwr D_1 42 9 ((D_1 42 9) + 1)) (fun D_2 =>
              if (-2147483648 ≤ (D_2 42 9) - 1 ∧ (D_2 42 9) - 1 ≤ 2147483647) then
                some (((D_2 42 9) - 1), D_2)
              else none)
          else none)
      else none
    else
      some ((-1), D)
set_option maxHeartbeats 20000000 in
theorem mX6_emit {l : Launch} {E : zE} {d : Nat} {F : zFs} {n sl : Nat} (hG : zG F) (v1 : Int) (v2 : Int) {D : zDa} : ∀ r, fX6_emit F  v1 v2 D = some r → zMet l E (d + 0) YX6_emit [zR 42, zI v1, zI v2] (F, D, n, sl) (zcI F n sl r) := by
  intro r hr
  refine zMet_of (plainFor_of_name (by decide)) (fun _ h => (nomatch h)) (Nat.le_of_ble_eq_true rfl) ?_
  have hz : zO l E (d + 0) YX6_emit 0 [(0, zR 42), (1, zI v1), (2, zI v2)] [] (F, D, n, sl) (zcI F n sl) (fX6_emit F  v1 v2 D) := by
    unfold fX6_emit
    refine zO_iload_n dX6_emit_0 rfl ?_
    refine zO_iconst dX6_emit_1 (by decide) ?_
    refine zO_icmp_eq (tgt := 15) dX6_emit_2 rfl (fun c2 => ?_) (fun c2 => ?_)
    · refine zO_iconst dX6_emit_15 (by decide) ?_
      exact zO_ret (rv := some (zI (-1))) dX6_emit_16 rfl rfl rfl
    · refine zO_aload_n dX6_emit_5 rfl (zR_P _) ?_
      refine gt6 (k := 9) (v := zI (D 42 9)) dX6_emit_6 wF_X6_55 (by decide) (gk_42 hG) rfl ?_
      refine zO_sipush dX6_emit_9 (by decide) ?_
      refine zO_icmp_lt (tgt := 17) dX6_emit_12 rfl (fun c12 => ?_) (fun c12 => ?_)
      · refine zO_chk (fun h1 => ?_)
        refine zO_aload_n dX6_emit_17 rfl (zR_P _) ?_
        refine gt6 (k := 8) dX6_emit_18 wF_X6_29 (by decide) (gk_42 hG) (zgv (c := 6) (k := 8) rfl (Or.inl ⟨_, rfl⟩) (gf_42_8 hG)) ?_
        refine zO_aload_n dX6_emit_21 rfl (zR_P _) ?_
        refine gt6 (k := 9) (v := zI (D 42 9)) dX6_emit_22 wF_X6_55 (by decide) (gk_42 hG) rfl ?_
        refine zO_iload_n dX6_emit_25 rfl ?_
        refine zO_iconst dX6_emit_26 (by decide) ?_
        refine zO_ishl dX6_emit_27 ?_
        refine zO_iload_n dX6_emit_28 rfl ?_
        refine zO_ior dX6_emit_29 ?_
        refine zO_iast dX6_emit_30 (gk_48 hG) (gl_in (gl_48 hG) h1) ?_
        refine zO_letD (fun D_1 eD_1 => ?_)
        refine zO_chk (fun h2 => ?_)
        refine zO_aload_n dX6_emit_31 rfl (zR_P _) ?_
        refine zO_dup dX6_emit_32 (rfl) ?_
        refine gt6 (k := 9) (v := zI (D_1 42 9)) dX6_emit_33 wF_X6_55 (by decide) (gk_42 hG) rfl ?_
        refine zO_iconst dX6_emit_36 (by decide) ?_
        refine zO_iadd dX6_emit_37 h2 ?_
        refine ptI6 (k := 9) (z := ((D_1 42 9) + 1)) dX6_emit_38 wF_X6_55 (by decide) rfl (gk_42 hG) rfl ?_
        refine zO_letD (fun D_2 eD_2 => ?_)
        refine zO_chk (fun h3 => ?_)
        refine zO_aload_n dX6_emit_41 rfl (zR_P _) ?_
        refine gt6 (k := 9) (v := zI (D_2 42 9)) dX6_emit_42 wF_X6_55 (by decide) (gk_42 hG) rfl ?_
        refine zO_iconst dX6_emit_45 (by decide) ?_
        refine zO_isub dX6_emit_46 h3 ?_
        exact zO_ret (rv := some (zI ((D_2 42 9) - 1))) dX6_emit_47 rfl rfl rfl
      · refine zO_iconst dX6_emit_15 (by decide) ?_
        exact zO_ret (rv := some (zI (-1))) dX6_emit_16 rfl rfl rfl
  exact hz r hr
theorem dX6_sum_0 : decode cX6_sum 0 = .ok (.aload_n 0, 1) := by decide +kernel
theorem dX6_sum_1 : decode cX6_sum 1 = .ok (.iload_n 1, 1) := by decide +kernel
theorem dX6_sum_2 : decode cX6_sum 2 = .ok (.invokevirtual 124, 3) := by decide +kernel
theorem dX6_sum_5 : decode cX6_sum 5 = .ok (.istore_n 2, 1) := by decide +kernel
theorem dX6_sum_6 : decode cX6_sum 6 = .ok (.iconst (-1), 1) := by decide +kernel
theorem dX6_sum_7 : decode cX6_sum 7 = .ok (.istore_n 3, 1) := by decide +kernel
theorem dX6_sum_8 : decode cX6_sum 8 = .ok (.iconst 0, 1) := by decide +kernel
theorem dX6_sum_9 : decode cX6_sum 9 = .ok (.istore 4, 2) := by decide +kernel
theorem dX6_sum_11 : decode cX6_sum 11 = .ok (.iload 4, 2) := by decide +kernel
theorem dX6_sum_13 : decode cX6_sum 13 = .ok (.sipush 400, 3) := by decide +kernel
theorem dX6_sum_16 : decode cX6_sum 16 = .ok (.if_icmp .ge 125, 3) := by decide +kernel
theorem dX6_sum_19 : decode cX6_sum 19 = .ok (.iload_n 2, 1) := by decide +kernel
theorem dX6_sum_20 : decode cX6_sum 20 = .ok (.ifCond .eq 121, 3) := by decide +kernel
theorem dX6_sum_23 : decode cX6_sum 23 = .ok (.aload_n 0, 1) := by decide +kernel
theorem dX6_sum_24 : decode cX6_sum 24 = .ok (.getfield 9, 3) := by decide +kernel
theorem dX6_sum_27 : decode cX6_sum 27 = .ok (.aload_n 0, 1) := by decide +kernel
theorem dX6_sum_28 : decode cX6_sum 28 = .ok (.getfield 46, 3) := by decide +kernel
theorem dX6_sum_31 : decode cX6_sum 31 = .ok (.iaload, 1) := by decide +kernel
theorem dX6_sum_32 : decode cX6_sum 32 = .ok (.istore 5, 2) := by decide +kernel
theorem dX6_sum_34 : decode cX6_sum 34 = .ok (.iload 5, 2) := by decide +kernel
theorem dX6_sum_36 : decode cX6_sum 36 = .ok (.bipush 43, 2) := by decide +kernel
theorem dX6_sum_38 : decode cX6_sum 38 = .ok (.if_icmp .eq 10, 3) := by decide +kernel
theorem dX6_sum_41 : decode cX6_sum 41 = .ok (.iload 5, 2) := by decide +kernel
theorem dX6_sum_43 : decode cX6_sum 43 = .ok (.bipush 45, 2) := by decide +kernel
theorem dX6_sum_45 : decode cX6_sum 45 = .ok (.if_icmp .ne 42, 3) := by decide +kernel
theorem dX6_sum_48 : decode cX6_sum 48 = .ok (.aload_n 0, 1) := by decide +kernel
theorem dX6_sum_49 : decode cX6_sum 49 = .ok (.dup, 1) := by decide +kernel
theorem dX6_sum_50 : decode cX6_sum 50 = .ok (.getfield 46, 3) := by decide +kernel
theorem dX6_sum_53 : decode cX6_sum 53 = .ok (.iconst 1, 1) := by decide +kernel
theorem dX6_sum_54 : decode cX6_sum 54 = .ok (.iadd, 1) := by decide +kernel
theorem dX6_sum_55 : decode cX6_sum 55 = .ok (.putfield 46, 3) := by decide +kernel
theorem dX6_sum_58 : decode cX6_sum 58 = .ok (.aload_n 0, 1) := by decide +kernel
theorem dX6_sum_59 : decode cX6_sum 59 = .ok (.iload_n 3, 1) := by decide +kernel
theorem dX6_sum_60 : decode cX6_sum 60 = .ok (.iconst 0, 1) := by decide +kernel
theorem dX6_sum_61 : decode cX6_sum 61 = .ok (.invokevirtual 114, 3) := by decide +kernel
theorem dX6_sum_64 : decode cX6_sum 64 = .ok (.pop, 1) := by decide +kernel
theorem dX6_sum_65 : decode cX6_sum 65 = .ok (.iload 5, 2) := by decide +kernel
theorem dX6_sum_67 : decode cX6_sum 67 = .ok (.bipush 43, 2) := by decide +kernel
theorem dX6_sum_69 : decode cX6_sum 69 = .ok (.if_icmp .ne 7, 3) := by decide +kernel
theorem dX6_sum_72 : decode cX6_sum 72 = .ok (.iconst 2, 1) := by decide +kernel
theorem dX6_sum_73 : decode cX6_sum 73 = .ok (.goto 4, 3) := by decide +kernel
theorem dX6_sum_76 : decode cX6_sum 76 = .ok (.iconst 3, 1) := by decide +kernel
theorem dX6_sum_77 : decode cX6_sum 77 = .ok (.istore_n 3, 1) := by decide +kernel
theorem dX6_sum_78 : decode cX6_sum 78 = .ok (.aload_n 0, 1) := by decide +kernel
theorem dX6_sum_79 : decode cX6_sum 79 = .ok (.iload_n 1, 1) := by decide +kernel
theorem dX6_sum_80 : decode cX6_sum 80 = .ok (.invokevirtual 124, 3) := by decide +kernel
theorem dX6_sum_83 : decode cX6_sum 83 = .ok (.istore_n 2, 1) := by decide +kernel
theorem dX6_sum_84 : decode cX6_sum 84 = .ok (.goto 51, 3) := by decide +kernel
theorem dX6_sum_87 : decode cX6_sum 87 = .ok (.iload 5, 2) := by decide +kernel
theorem dX6_sum_89 : decode cX6_sum 89 = .ok (.bipush 42, 2) := by decide +kernel
theorem dX6_sum_91 : decode cX6_sum 91 = .ok (.if_icmp .eq 10, 3) := by decide +kernel
theorem dX6_sum_94 : decode cX6_sum 94 = .ok (.iload 5, 2) := by decide +kernel
theorem dX6_sum_96 : decode cX6_sum 96 = .ok (.bipush 47, 2) := by decide +kernel
theorem dX6_sum_98 : decode cX6_sum 98 = .ok (.if_icmp .ne 43, 3) := by decide +kernel
theorem dX6_sum_101 : decode cX6_sum 101 = .ok (.aload_n 0, 1) := by decide +kernel
theorem dX6_sum_102 : decode cX6_sum 102 = .ok (.dup, 1) := by decide +kernel
theorem dX6_sum_103 : decode cX6_sum 103 = .ok (.getfield 46, 3) := by decide +kernel
theorem dX6_sum_106 : decode cX6_sum 106 = .ok (.iconst 1, 1) := by decide +kernel
theorem dX6_sum_107 : decode cX6_sum 107 = .ok (.iadd, 1) := by decide +kernel
theorem dX6_sum_108 : decode cX6_sum 108 = .ok (.putfield 46, 3) := by decide +kernel
theorem dX6_sum_111 : decode cX6_sum 111 = .ok (.aload_n 0, 1) := by decide +kernel
theorem dX6_sum_112 : decode cX6_sum 112 = .ok (.iload_n 1, 1) := by decide +kernel
theorem dX6_sum_113 : decode cX6_sum 113 = .ok (.invokevirtual 124, 3) := by decide +kernel
theorem dX6_sum_116 : decode cX6_sum 116 = .ok (.istore_n 2, 1) := by decide +kernel
theorem dX6_sum_117 : decode cX6_sum 117 = .ok (.aload_n 0, 1) := by decide +kernel
theorem dX6_sum_118 : decode cX6_sum 118 = .ok (.iload 5, 2) := by decide +kernel
theorem dX6_sum_120 : decode cX6_sum 120 = .ok (.bipush 42, 2) := by decide +kernel
theorem dX6_sum_122 : decode cX6_sum 122 = .ok (.if_icmp .ne 7, 3) := by decide +kernel
theorem dX6_sum_125 : decode cX6_sum 125 = .ok (.iconst 4, 1) := by decide +kernel
theorem dX6_sum_126 : decode cX6_sum 126 = .ok (.goto 4, 3) := by decide +kernel
theorem dX6_sum_129 : decode cX6_sum 129 = .ok (.iconst 5, 1) := by decide +kernel
theorem dX6_sum_130 : decode cX6_sum 130 = .ok (.iconst 0, 1) := by decide +kernel
theorem dX6_sum_131 : decode cX6_sum 131 = .ok (.invokevirtual 114, 3) := by decide +kernel
theorem dX6_sum_134 : decode cX6_sum 134 = .ok (.pop, 1) := by decide +kernel
theorem dX6_sum_135 : decode cX6_sum 135 = .ok (.iinc 4 1, 3) := by decide +kernel
theorem dX6_sum_138 : decode cX6_sum 138 = .ok (.goto (-127), 3) := by decide +kernel
theorem dX6_sum_141 : decode cX6_sum 141 = .ok (.aload_n 0, 1) := by decide +kernel
theorem dX6_sum_142 : decode cX6_sum 142 = .ok (.iload_n 3, 1) := by decide +kernel
theorem dX6_sum_143 : decode cX6_sum 143 = .ok (.iconst 0, 1) := by decide +kernel
theorem dX6_sum_144 : decode cX6_sum 144 = .ok (.invokevirtual 114, 3) := by decide +kernel
theorem dX6_sum_147 : decode cX6_sum 147 = .ok (.pop, 1) := by decide +kernel
theorem dX6_sum_148 : decode cX6_sum 148 = .ok (.iload_n 2, 1) := by decide +kernel
theorem dX6_sum_149 : decode cX6_sum 149 = .ok (.ireturn, 1) := by decide +kernel
abbrev YX6_sum : zY := (yX6_sum, cX6_sum, 6, (Option.some Jvm.ClassFile.FieldType.boolean), [])
theorem dX6_part_0 : decode cX6_part 0 = .ok (.aload_n 0, 1) := by decide +kernel
theorem dX6_part_1 : decode cX6_part 1 = .ok (.getfield 9, 3) := by decide +kernel
theorem dX6_part_4 : decode cX6_part 4 = .ok (.aload_n 0, 1) := by decide +kernel
theorem dX6_part_5 : decode cX6_part 5 = .ok (.getfield 46, 3) := by decide +kernel
theorem dX6_part_8 : decode cX6_part 8 = .ok (.iaload, 1) := by decide +kernel
theorem dX6_part_9 : decode cX6_part 9 = .ok (.bipush 91, 2) := by decide +kernel
theorem dX6_part_11 : decode cX6_part 11 = .ok (.if_icmp .ne 65, 3) := by decide +kernel
theorem dX6_part_14 : decode cX6_part 14 = .ok (.iload_n 1, 1) := by decide +kernel
theorem dX6_part_15 : decode cX6_part 15 = .ok (.bipush 8, 2) := by decide +kernel
theorem dX6_part_17 : decode cX6_part 17 = .ok (.if_icmp .lt 8, 3) := by decide +kernel
theorem dX6_part_20 : decode cX6_part 20 = .ok (.aload_n 0, 1) := by decide +kernel
theorem dX6_part_21 : decode cX6_part 21 = .ok (.invokevirtual 62, 3) := by decide +kernel
theorem dX6_part_24 : decode cX6_part 24 = .ok (.ireturn, 1) := by decide +kernel
theorem dX6_part_25 : decode cX6_part 25 = .ok (.aload_n 0, 1) := by decide +kernel
theorem dX6_part_26 : decode cX6_part 26 = .ok (.dup, 1) := by decide +kernel
theorem dX6_part_27 : decode cX6_part 27 = .ok (.getfield 46, 3) := by decide +kernel
theorem dX6_part_30 : decode cX6_part 30 = .ok (.iconst 1, 1) := by decide +kernel
theorem dX6_part_31 : decode cX6_part 31 = .ok (.iadd, 1) := by decide +kernel
theorem dX6_part_32 : decode cX6_part 32 = .ok (.putfield 46, 3) := by decide +kernel
theorem dX6_part_35 : decode cX6_part 35 = .ok (.aload_n 0, 1) := by decide +kernel
theorem dX6_part_36 : decode cX6_part 36 = .ok (.iload_n 1, 1) := by decide +kernel
theorem dX6_part_37 : decode cX6_part 37 = .ok (.iconst 1, 1) := by decide +kernel
theorem dX6_part_38 : decode cX6_part 38 = .ok (.iadd, 1) := by decide +kernel
theorem dX6_part_39 : decode cX6_part 39 = .ok (.invokevirtual 108, 3) := by decide +kernel
theorem dX6_part_42 : decode cX6_part 42 = .ok (.ifCond .eq 17, 3) := by decide +kernel
theorem dX6_part_45 : decode cX6_part 45 = .ok (.aload_n 0, 1) := by decide +kernel
theorem dX6_part_46 : decode cX6_part 46 = .ok (.getfield 9, 3) := by decide +kernel
theorem dX6_part_49 : decode cX6_part 49 = .ok (.aload_n 0, 1) := by decide +kernel
theorem dX6_part_50 : decode cX6_part 50 = .ok (.getfield 46, 3) := by decide +kernel
theorem dX6_part_53 : decode cX6_part 53 = .ok (.iaload, 1) := by decide +kernel
theorem dX6_part_54 : decode cX6_part 54 = .ok (.bipush 93, 2) := by decide +kernel
theorem dX6_part_56 : decode cX6_part 56 = .ok (.if_icmp .eq 8, 3) := by decide +kernel
theorem dX6_part_59 : decode cX6_part 59 = .ok (.aload_n 0, 1) := by decide +kernel
theorem dX6_part_60 : decode cX6_part 60 = .ok (.invokevirtual 62, 3) := by decide +kernel
theorem dX6_part_63 : decode cX6_part 63 = .ok (.ireturn, 1) := by decide +kernel
theorem dX6_part_64 : decode cX6_part 64 = .ok (.aload_n 0, 1) := by decide +kernel
theorem dX6_part_65 : decode cX6_part 65 = .ok (.dup, 1) := by decide +kernel
theorem dX6_part_66 : decode cX6_part 66 = .ok (.getfield 46, 3) := by decide +kernel
theorem dX6_part_69 : decode cX6_part 69 = .ok (.iconst 1, 1) := by decide +kernel
theorem dX6_part_70 : decode cX6_part 70 = .ok (.iadd, 1) := by decide +kernel
theorem dX6_part_71 : decode cX6_part 71 = .ok (.putfield 46, 3) := by decide +kernel
theorem dX6_part_74 : decode cX6_part 74 = .ok (.iconst 1, 1) := by decide +kernel
theorem dX6_part_75 : decode cX6_part 75 = .ok (.ireturn, 1) := by decide +kernel
theorem dX6_part_76 : decode cX6_part 76 = .ok (.aload_n 0, 1) := by decide +kernel
theorem dX6_part_77 : decode cX6_part 77 = .ok (.getfield 9, 3) := by decide +kernel
theorem dX6_part_80 : decode cX6_part 80 = .ok (.aload_n 0, 1) := by decide +kernel
theorem dX6_part_81 : decode cX6_part 81 = .ok (.getfield 46, 3) := by decide +kernel
theorem dX6_part_84 : decode cX6_part 84 = .ok (.iaload, 1) := by decide +kernel
theorem dX6_part_85 : decode cX6_part 85 = .ok (.sipush 258, 3) := by decide +kernel
theorem dX6_part_88 : decode cX6_part 88 = .ok (.if_icmp .eq 18, 3) := by decide +kernel
theorem dX6_part_91 : decode cX6_part 91 = .ok (.aload_n 0, 1) := by decide +kernel
theorem dX6_part_92 : decode cX6_part 92 = .ok (.getfield 9, 3) := by decide +kernel
theorem dX6_part_95 : decode cX6_part 95 = .ok (.aload_n 0, 1) := by decide +kernel
theorem dX6_part_96 : decode cX6_part 96 = .ok (.getfield 46, 3) := by decide +kernel
theorem dX6_part_99 : decode cX6_part 99 = .ok (.iaload, 1) := by decide +kernel
theorem dX6_part_100 : decode cX6_part 100 = .ok (.sipush 260, 3) := by decide +kernel
theorem dX6_part_103 : decode cX6_part 103 = .ok (.if_icmp .ne 7, 3) := by decide +kernel
theorem dX6_part_106 : decode cX6_part 106 = .ok (.iconst 1, 1) := by decide +kernel
theorem dX6_part_107 : decode cX6_part 107 = .ok (.goto 4, 3) := by decide +kernel
theorem dX6_part_110 : decode cX6_part 110 = .ok (.iconst 0, 1) := by decide +kernel
theorem dX6_part_111 : decode cX6_part 111 = .ok (.istore_n 2, 1) := by decide +kernel
theorem dX6_part_112 : decode cX6_part 112 = .ok (.iload_n 2, 1) := by decide +kernel
theorem dX6_part_113 : decode cX6_part 113 = .ok (.ifCond .eq 12, 3) := by decide +kernel
theorem dX6_part_116 : decode cX6_part 116 = .ok (.aload_n 0, 1) := by decide +kernel
theorem dX6_part_117 : decode cX6_part 117 = .ok (.getfield 49, 3) := by decide +kernel
theorem dX6_part_120 : decode cX6_part 120 = .ok (.bipush 50, 2) := by decide +kernel
theorem dX6_part_122 : decode cX6_part 122 = .ok (.if_icmp .lt 8, 3) := by decide +kernel
theorem dX6_part_125 : decode cX6_part 125 = .ok (.aload_n 0, 1) := by decide +kernel
theorem dX6_part_126 : decode cX6_part 126 = .ok (.invokevirtual 62, 3) := by decide +kernel
theorem dX6_part_129 : decode cX6_part 129 = .ok (.ireturn, 1) := by decide +kernel
theorem dX6_part_130 : decode cX6_part 130 = .ok (.aload_n 0, 1) := by decide +kernel
theorem dX6_part_131 : decode cX6_part 131 = .ok (.dup, 1) := by decide +kernel
theorem dX6_part_132 : decode cX6_part 132 = .ok (.getfield 49, 3) := by decide +kernel
theorem dX6_part_135 : decode cX6_part 135 = .ok (.iconst 1, 1) := by decide +kernel
theorem dX6_part_136 : decode cX6_part 136 = .ok (.iadd, 1) := by decide +kernel
theorem dX6_part_137 : decode cX6_part 137 = .ok (.putfield 49, 3) := by decide +kernel
theorem dX6_part_140 : decode cX6_part 140 = .ok (.aload_n 0, 1) := by decide +kernel
theorem dX6_part_141 : decode cX6_part 141 = .ok (.aload_n 0, 1) := by decide +kernel
theorem dX6_part_142 : decode cX6_part 142 = .ok (.getfield 9, 3) := by decide +kernel
theorem dX6_part_145 : decode cX6_part 145 = .ok (.aload_n 0, 1) := by decide +kernel
theorem dX6_part_146 : decode cX6_part 146 = .ok (.getfield 46, 3) := by decide +kernel
theorem dX6_part_149 : decode cX6_part 149 = .ok (.iaload, 1) := by decide +kernel
theorem dX6_part_150 : decode cX6_part 150 = .ok (.sipush 258, 3) := by decide +kernel
theorem dX6_part_153 : decode cX6_part 153 = .ok (.if_icmp .ne 7, 3) := by decide +kernel
theorem dX6_part_156 : decode cX6_part 156 = .ok (.iconst 0, 1) := by decide +kernel
theorem dX6_part_157 : decode cX6_part 157 = .ok (.goto 4, 3) := by decide +kernel
theorem dX6_part_160 : decode cX6_part 160 = .ok (.iconst 1, 1) := by decide +kernel
theorem dX6_part_161 : decode cX6_part 161 = .ok (.aload_n 0, 1) := by decide +kernel
theorem dX6_part_162 : decode cX6_part 162 = .ok (.getfield 15, 3) := by decide +kernel
theorem dX6_part_165 : decode cX6_part 165 = .ok (.aload_n 0, 1) := by decide +kernel
theorem dX6_part_166 : decode cX6_part 166 = .ok (.getfield 46, 3) := by decide +kernel
theorem dX6_part_169 : decode cX6_part 169 = .ok (.iaload, 1) := by decide +kernel
theorem dX6_part_170 : decode cX6_part 170 = .ok (.invokevirtual 114, 3) := by decide +kernel
theorem dX6_part_173 : decode cX6_part 173 = .ok (.pop, 1) := by decide +kernel
theorem dX6_part_174 : decode cX6_part 174 = .ok (.aload_n 0, 1) := by decide +kernel
theorem dX6_part_175 : decode cX6_part 175 = .ok (.dup, 1) := by decide +kernel
theorem dX6_part_176 : decode cX6_part 176 = .ok (.getfield 46, 3) := by decide +kernel
theorem dX6_part_179 : decode cX6_part 179 = .ok (.iconst 1, 1) := by decide +kernel
theorem dX6_part_180 : decode cX6_part 180 = .ok (.iadd, 1) := by decide +kernel
theorem dX6_part_181 : decode cX6_part 181 = .ok (.putfield 46, 3) := by decide +kernel
theorem dX6_part_184 : decode cX6_part 184 = .ok (.iconst 1, 1) := by decide +kernel
theorem dX6_part_185 : decode cX6_part 185 = .ok (.ireturn, 1) := by decide +kernel
abbrev YX6_part : zY := (yX6_part, cX6_part, 3, (Option.some Jvm.ClassFile.FieldType.boolean), [])
def fX6_sum_141 (F : zFs) (rec : Nat → Int → Int → zDa → Option (Int × zDa))  (v2 : Int) (v3 : Int) (D : zDa) : Option (Int × zDa) :=
  (fX6_emit F v3 0 D).bind (fun (r_3, D_4) =>
    if (v2 = 0 ∨ v2 = 1) then
      some (v2, D_4)
    else none)
def fX6_sum_135 (F : zFs) (rec : Nat → Int → Int → zDa → Option (Int × zDa)) (k_11 : Int → Int → Int → zDa → Option (Int × zDa)) (o1 : Int) (v2 : Int) (v3 : Int) (v4 : Int) (D : zDa) : Option (Int × zDa) :=
  if (-2147483648 ≤ v4 + 1 ∧ v4 + 1 ≤ 2147483647) then
    k_11 v2 v3 (v4 + 1) D
  else none
def fX6_sum_77 (F : zFs) (rec : Nat → Int → Int → zDa → Option (Int × zDa)) (k_11 : Int → Int → Int → zDa → Option (Int × zDa)) (o1 : Int) (v4 : Int) (s0 : Int) (D : zDa) : Option (Int × zDa) :=
  (rec 1 o1 0 D).bind (fun (r_9, D_10) =>
    fX6_sum_135 F rec k_11 o1 r_9 s0 v4 D_10)
def fX6_sum_48 (F : zFs) (rec : Nat → Int → Int → zDa → Option (Int × zDa)) (k_11 : Int → Int → Int → zDa → Option (Int × zDa)) (o1 : Int) (v3 : Int) (v4 : Int) (v5 : Int) (D : zDa) : Option (Int × zDa) :=
  if (-2147483648 ≤ (D 42 3) + 1 ∧ (D 42 3) + 1 ≤ 2147483647) then
    zlet (zwr D 42 3 ((D 42 3) + 1)) (fun D_6 =>
      (fX6_emit F v3 0 D_6).bind (fun (r_7, D_8) =>
        if v5 = 43 then
          fX6_sum_77 F rec k_11 o1 v4 2 D_8
        else
          fX6_sum_77 F rec k_11 o1 v4 3 D_8))
  else none
def fX6_sum_130 (F : zFs) (rec : Nat → Int → Int → zDa → Option (Int × zDa)) (k_11 : Int → Int → Int → zDa → Option (Int × zDa)) (o1 : Int) (v2 : Int) (v3 : Int) (v4 : Int) (s0 : Int) (D : zDa) : Option (Int × zDa) :=
  (fX6_emit F s0 0 D).bind (fun (r_14, D_15) =>
    fX6_sum_135 F rec k_11 o1 v2 v3 v4 D_15)
def fX6_sum_101 (F : zFs) (rec : Nat → Int → Int → zDa → Option (Int × zDa)) (k_11 : Int → Int → Int → zDa → Option (Int × zDa)) (o1 : Int) (v3 : Int) (v4 : Int) (v5 : Int) (D : zDa) : Option (Int × zDa) :=
  if (-2147483648 ≤ (D 42 3) + 1 ∧ (D 42 3) + 1 ≤ 2147483647) then
    zlet (zwr D 42 3 ((D 42 3) + 1)) (fun D_11 =>
      (rec 1 o1 0 D_11).bind (fun (r_12, D_13) =>
        if v5 = 42 then
          fX6_sum_130 F rec k_11 o1 r_12 v3 v4 4 D_13
        else
          fX6_sum_130 F rec k_11 o1 r_12 v3 v4 5 D_13))
  else none
def fX6_sum_11 (F : zFs) (rec : Nat → Int → Int → zDa → Option (Int × zDa)) (o1 : Int)  (k_11 : Int → Int → Int → zDa → Option (Int × zDa)) (v2 : Int) (v3 : Int) (v4 : Int) (D : zDa) : Option (Int × zDa) :=
  if v4 < 400 then
    if v2 = 0 then
      fX6_sum_141 F rec v2 v3 D
    else
      if (0 ≤ (D 42 3) ∧ (D 42 3) < 401) then
        zlet ((D 43 (D 42 3).toNat)) (fun x5_5 =>
          if x5_5 = 43 then
            fX6_sum_48 F rec k_11 o1 v3 v4 x5_5 D
          else
            if x5_5 = 45 then
              fX6_sum_48 F rec k_11 o1 v3 v4 x5_5 D
            else
              if x5_5 = 42 then
                fX6_sum_101 F rec k_11 o1 v3 v4 x5_5 D
              else
                if x5_5 = 47 then
                  fX6_sum_101 F rec k_11 o1 v3 v4 x5_5 D
                else
                  fX6_sum_141 F rec v2 v3 D)
      else none
  else
    fX6_sum_141 F rec v2 v3 D
def bX6_sum (F : zFs) (rec : Nat → Int → Int → zDa → Option (Int × zDa)) (v1 : Int) (D : zDa) : Option (Int × zDa) :=
  (rec 1 v1 0 D).bind (fun (r_1, D_2) =>
    zfix (fun _ _ _ _ => none) (fX6_sum_11 F rec v1) zfu r_1 (-1) 0 D_2)
set_option maxHeartbeats 20000000 in
theorem sX6_sum_141 {l : Launch} {E : zE} {d : Nat} {F : zFs} {n sl : Nat} (hG : zG F) (rec : Nat → Int → Int → zDa → Option (Int × zDa)) (hr0 : ∀ (a b : Int) (D : zDa) r, rec 0 a b D = some r → zMet l E (d + 1) YX6_sum [zR 42, zI a] (F, D, n, sl) (zcI F n sl r)) (hr1 : ∀ (a b : Int) (D : zDa) r, rec 1 a b D = some r → zMet l E (d + 1) YX6_part [zR 42, zI a] (F, D, n, sl) (zcI F n sl r))  (v2 : Int) (v3 : Int)   (D : zDa) : zO l E (d + 2) YX6_sum 141 [(0, zR 42), (2, zI v2), (3, zI v3)] [] (F, D, n, sl) (zcI F n sl) (fX6_sum_141 F rec v2 v3 D) := by
  unfold fX6_sum_141
  refine zO_aload_n dX6_sum_141 rfl (zR_P _) ?_
  refine zO_iload_n dX6_sum_142 rfl ?_
  refine zO_iconst dX6_sum_143 (by decide) ?_
  refine zO_callV (Y' := YX6_emit) (cw := zcI F n sl) (as := [zI v3, zI 0]) (rest := []) (na := 2) (ci := 6) rfl dX6_sum_144 wC_X6_emit wN_X6 wM_X6_114 wI_X6_emit wV_X6_emit (by decide) (by decide) rfl rfl (Nat.le_of_ble_eq_true rfl) rfl (by decide) (gk_42 hG) (fun r hr => zMet_cast (Nat.add_assoc d 1 0) (mX6_emit (d := d + 1) hG v3 0 r hr)) ?_
  rintro ⟨r_3, D_4⟩ -
  show zO _ _ _ _ _ _ [zI r_3] (F, D_4, n, sl) _ _
  refine zO_chk (fun h1 => ?_)
  refine zO_pop dX6_sum_147 (rfl) ?_
  refine zO_iload_n dX6_sum_148 rfl ?_
  exact zO_ret (rv := some (zI v2)) dX6_sum_149 rfl (zretok_z h1) rfl
set_option maxHeartbeats 20000000 in
theorem sX6_sum_135 {l : Launch} {E : zE} {d : Nat} {F : zFs} {n sl : Nat} (hG : zG F) (rec : Nat → Int → Int → zDa → Option (Int × zDa)) (hr0 : ∀ (a b : Int) (D : zDa) r, rec 0 a b D = some r → zMet l E (d + 1) YX6_sum [zR 42, zI a] (F, D, n, sl) (zcI F n sl r)) (hr1 : ∀ (a b : Int) (D : zDa) r, rec 1 a b D = some r → zMet l E (d + 1) YX6_part [zR 42, zI a] (F, D, n, sl) (zcI F n sl r))  (o1 : Int) (v2 : Int) (v3 : Int) (v4 : Int) (k_11 : Int → Int → Int → zDa → Option (Int × zDa)) (hk_11 : ∀ (u2 : Int) (u3 : Int) (u4 : Int) (D : zDa), zO l E (d + 2) YX6_sum 11 [(0, zR 42), (1, zI o1), (2, zI u2), (3, zI u3), (4, zI u4)] [] (F, D, n, sl) (zcI F n sl) (k_11 u2 u3 u4 D)) (D : zDa) : zO l E (d + 2) YX6_sum 135 [(0, zR 42), (1, zI o1), (2, zI v2), (3, zI v3), (4, zI v4)] [] (F, D, n, sl) (zcI F n sl) (fX6_sum_135 F rec k_11 o1 v2 v3 v4 D) := by
  unfold fX6_sum_135
  refine zO_chk (fun h4 => ?_)
  refine zO_iinc dX6_sum_135 rfl h4 (by decide) ?_
  refine zO_ls (ls' := [(0, zR 42), (1, zI o1), (2, zI v2), (3, zI v3), (4, zI (v4 + 1))]) rfl ?_
  refine zO_goto (tgt := 11) dX6_sum_138 rfl ?_
  refine zO_live [0, 1, 2, 3, 4] ?_
  exact hk_11 v2 v3 (v4 + 1) D
set_option maxHeartbeats 20000000 in
theorem sX6_sum_77 {l : Launch} {E : zE} {d : Nat} {F : zFs} {n sl : Nat} (hG : zG F) (rec : Nat → Int → Int → zDa → Option (Int × zDa)) (hr0 : ∀ (a b : Int) (D : zDa) r, rec 0 a b D = some r → zMet l E (d + 1) YX6_sum [zR 42, zI a] (F, D, n, sl) (zcI F n sl r)) (hr1 : ∀ (a b : Int) (D : zDa) r, rec 1 a b D = some r → zMet l E (d + 1) YX6_part [zR 42, zI a] (F, D, n, sl) (zcI F n sl r))  (o1 : Int) (v4 : Int) (s0 : Int) (k_11 : Int → Int → Int → zDa → Option (Int × zDa)) (hk_11 : ∀ (u2 : Int) (u3 : Int) (u4 : Int) (D : zDa), zO l E (d + 2) YX6_sum 11 [(0, zR 42), (1, zI o1), (2, zI u2), (3, zI u3), (4, zI u4)] [] (F, D, n, sl) (zcI F n sl) (k_11 u2 u3 u4 D)) (D : zDa) : zO l E (d + 2) YX6_sum 77 [(0, zR 42), (1, zI o1), (4, zI v4)] [zI s0] (F, D, n, sl) (zcI F n sl) (fX6_sum_77 F rec k_11 o1 v4 s0 D) := by
  unfold fX6_sum_77
  refine zO_istore_n dX6_sum_77 (by decide) ?_
  refine zO_ls (ls' := [(0, zR 42), (1, zI o1), (3, zI s0), (4, zI v4)]) rfl ?_
  refine zO_aload_n dX6_sum_78 rfl (zR_P _) ?_
  refine zO_iload_n dX6_sum_79 rfl ?_
  refine zO_callV (Y' := YX6_part) (cw := zcI F n sl) (as := [zI o1]) (rest := []) (na := 1) (ci := 6) rfl dX6_sum_80 wC_X6_part wN_X6 wM_X6_124 wI_X6_part wV_X6_part (by decide) (by decide) rfl rfl (Nat.le_of_ble_eq_true rfl) rfl (by decide) (gk_42 hG) (fun r hr => hr1 o1 0 _ r hr) ?_
  rintro ⟨r_9, D_10⟩ -
  show zO _ _ _ _ _ _ [zI r_9] (F, D_10, n, sl) _ _
  refine zO_istore_n dX6_sum_83 (by decide) ?_
  refine zO_ls (ls' := [(0, zR 42), (1, zI o1), (2, zI r_9), (3, zI s0), (4, zI v4)]) rfl ?_
  refine zO_goto (tgt := 135) dX6_sum_84 rfl ?_
  refine zO_live [0, 1, 2, 3, 4] ?_
  exact sX6_sum_135 hG rec hr0 hr1 o1 r_9 s0 v4 _ hk_11 D_10
set_option maxHeartbeats 20000000 in
theorem sX6_sum_48 {l : Launch} {E : zE} {d : Nat} {F : zFs} {n sl : Nat} (hG : zG F) (rec : Nat → Int → Int → zDa → Option (Int × zDa)) (hr0 : ∀ (a b : Int) (D : zDa) r, rec 0 a b D = some r → zMet l E (d + 1) YX6_sum [zR 42, zI a] (F, D, n, sl) (zcI F n sl r)) (hr1 : ∀ (a b : Int) (D : zDa) r, rec 1 a b D = some r → zMet l E (d + 1) YX6_part [zR 42, zI a] (F, D, n, sl) (zcI F n sl r))  (o1 : Int) (v3 : Int) (v4 : Int) (v5 : Int) (k_11 : Int → Int → Int → zDa → Option (Int × zDa)) (hk_11 : ∀ (u2 : Int) (u3 : Int) (u4 : Int) (D : zDa), zO l E (d + 2) YX6_sum 11 [(0, zR 42), (1, zI o1), (2, zI u2), (3, zI u3), (4, zI u4)] [] (F, D, n, sl) (zcI F n sl) (k_11 u2 u3 u4 D)) (D : zDa) : zO l E (d + 2) YX6_sum 48 [(0, zR 42), (1, zI o1), (3, zI v3), (4, zI v4), (5, zI v5)] [] (F, D, n, sl) (zcI F n sl) (fX6_sum_48 F rec k_11 o1 v3 v4 v5 D) := by
  unfold fX6_sum_48
  refine zO_chk (fun h3 => ?_)
  refine zO_aload_n dX6_sum_48 rfl (zR_P _) ?_
  refine zO_dup dX6_sum_49 (rfl) ?_
  refine gt6 (k := 3) (v := zI (D 42 3)) dX6_sum_50 wF_X6_46 (by decide) (gk_42 hG) rfl ?_
  refine zO_iconst dX6_sum_53 (by decide) ?_
  refine zO_iadd dX6_sum_54 h3 ?_
  refine ptI6 (k := 3) (z := ((D 42 3) + 1)) dX6_sum_55 wF_X6_46 (by decide) rfl (gk_42 hG) rfl ?_
  refine zO_letD (fun D_6 eD_6 => ?_)
  refine zO_aload_n dX6_sum_58 rfl (zR_P _) ?_
  refine zO_iload_n dX6_sum_59 rfl ?_
  refine zO_iconst dX6_sum_60 (by decide) ?_
  refine zO_callV (Y' := YX6_emit) (cw := zcI F n sl) (as := [zI v3, zI 0]) (rest := []) (na := 2) (ci := 6) rfl dX6_sum_61 wC_X6_emit wN_X6 wM_X6_114 wI_X6_emit wV_X6_emit (by decide) (by decide) rfl rfl (Nat.le_of_ble_eq_true rfl) rfl (by decide) (gk_42 hG) (fun r hr => zMet_cast (Nat.add_assoc d 1 0) (mX6_emit (d := d + 1) hG v3 0 r hr)) ?_
  rintro ⟨r_7, D_8⟩ -
  show zO _ _ _ _ _ _ [zI r_7] (F, D_8, n, sl) _ _
  refine zO_pop dX6_sum_64 (rfl) ?_
  refine zO_iload dX6_sum_65 rfl ?_
  refine zO_bipush dX6_sum_67 (by decide) ?_
  refine zO_icmp_ne (tgt := 76) dX6_sum_69 rfl (fun c69 => ?_) (fun c69 => ?_)
  · refine zO_iconst dX6_sum_72 (by decide) ?_
    refine zO_goto (tgt := 77) dX6_sum_73 rfl ?_
    refine zO_live [0, 1, 4] ?_
    exact sX6_sum_77 hG rec hr0 hr1 o1 v4 2 _ hk_11 D_8
  · refine zO_iconst dX6_sum_76 (by decide) ?_
    refine zO_live [0, 1, 4] ?_
    exact sX6_sum_77 hG rec hr0 hr1 o1 v4 3 _ hk_11 D_8
set_option maxHeartbeats 20000000 in
theorem sX6_sum_130 {l : Launch} {E : zE} {d : Nat} {F : zFs} {n sl : Nat} (hG : zG F) (rec : Nat → Int → Int → zDa → Option (Int × zDa)) (hr0 : ∀ (a b : Int) (D : zDa) r, rec 0 a b D = some r → zMet l E (d + 1) YX6_sum [zR 42, zI a] (F, D, n, sl) (zcI F n sl r)) (hr1 : ∀ (a b : Int) (D : zDa) r, rec 1 a b D = some r → zMet l E (d + 1) YX6_part [zR 42, zI a] (F, D, n, sl) (zcI F n sl r))  (o1 : Int) (v2 : Int) (v3 : Int) (v4 : Int) (s0 : Int) (k_11 : Int → Int → Int → zDa → Option (Int × zDa)) (hk_11 : ∀ (u2 : Int) (u3 : Int) (u4 : Int) (D : zDa), zO l E (d + 2) YX6_sum 11 [(0, zR 42), (1, zI o1), (2, zI u2), (3, zI u3), (4, zI u4)] [] (F, D, n, sl) (zcI F n sl) (k_11 u2 u3 u4 D)) (D : zDa) : zO l E (d + 2) YX6_sum 130 [(0, zR 42), (1, zI o1), (2, zI v2), (3, zI v3), (4, zI v4)] [zI s0, zR 42] (F, D, n, sl) (zcI F n sl) (fX6_sum_130 F rec k_11 o1 v2 v3 v4 s0 D) := by
  unfold fX6_sum_130
  refine zO_iconst dX6_sum_130 (by decide) ?_
  refine zO_callV (Y' := YX6_emit) (cw := zcI F n sl) (as := [zI s0, zI 0]) (rest := []) (na := 2) (ci := 6) rfl dX6_sum_131 wC_X6_emit wN_X6 wM_X6_114 wI_X6_emit wV_X6_emit (by decide) (by decide) rfl rfl (Nat.le_of_ble_eq_true rfl) rfl (by decide) (gk_42 hG) (fun r hr => zMet_cast (Nat.add_assoc d 1 0) (mX6_emit (d := d + 1) hG s0 0 r hr)) ?_
  rintro ⟨r_14, D_15⟩ -
  show zO _ _ _ _ _ _ [zI r_14] (F, D_15, n, sl) _ _
  refine zO_pop dX6_sum_134 (rfl) ?_
  refine zO_live [0, 1, 2, 3, 4] ?_
  exact sX6_sum_135 hG rec hr0 hr1 o1 v2 v3 v4 _ hk_11 D_15
set_option maxHeartbeats 20000000 in
theorem sX6_sum_101 {l : Launch} {E : zE} {d : Nat} {F : zFs} {n sl : Nat} (hG : zG F) (rec : Nat → Int → Int → zDa → Option (Int × zDa)) (hr0 : ∀ (a b : Int) (D : zDa) r, rec 0 a b D = some r → zMet l E (d + 1) YX6_sum [zR 42, zI a] (F, D, n, sl) (zcI F n sl r)) (hr1 : ∀ (a b : Int) (D : zDa) r, rec 1 a b D = some r → zMet l E (d + 1) YX6_part [zR 42, zI a] (F, D, n, sl) (zcI F n sl r))  (o1 : Int) (v3 : Int) (v4 : Int) (v5 : Int) (k_11 : Int → Int → Int → zDa → Option (Int × zDa)) (hk_11 : ∀ (u2 : Int) (u3 : Int) (u4 : Int) (D : zDa), zO l E (d + 2) YX6_sum 11 [(0, zR 42), (1, zI o1), (2, zI u2), (3, zI u3), (4, zI u4)] [] (F, D, n, sl) (zcI F n sl) (k_11 u2 u3 u4 D)) (D : zDa) : zO l E (d + 2) YX6_sum 101 [(0, zR 42), (1, zI o1), (3, zI v3), (4, zI v4), (5, zI v5)] [] (F, D, n, sl) (zcI F n sl) (fX6_sum_101 F rec k_11 o1 v3 v4 v5 D) := by
  unfold fX6_sum_101
  refine zO_chk (fun h5 => ?_)
  refine zO_aload_n dX6_sum_101 rfl (zR_P _) ?_
  refine zO_dup dX6_sum_102 (rfl) ?_
  refine gt6 (k := 3) (v := zI (D 42 3)) dX6_sum_103 wF_X6_46 (by decide) (gk_42 hG) rfl ?_
  refine zO_iconst dX6_sum_106 (by decide) ?_
  refine zO_iadd dX6_sum_107 h5 ?_
  refine ptI6 (k := 3) (z := ((D 42 3) + 1)) dX6_sum_108 wF_X6_46 (by decide) rfl (gk_42 hG) rfl ?_
  refine zO_letD (fun D_11 eD_11 => ?_)
  refine zO_aload_n dX6_sum_111 rfl (zR_P _) ?_
  refine zO_iload_n dX6_sum_112 rfl ?_
  refine zO_callV (Y' := YX6_part) (cw := zcI F n sl) (as := [zI o1]) (rest := []) (na := 1) (ci := 6) rfl dX6_sum_113 wC_X6_part wN_X6 wM_X6_124 wI_X6_part wV_X6_part (by decide) (by decide) rfl rfl (Nat.le_of_ble_eq_true rfl) rfl (by decide) (gk_42 hG) (fun r hr => hr1 o1 0 _ r hr) ?_
  rintro ⟨r_12, D_13⟩ -
  show zO _ _ _ _ _ _ [zI r_12] (F, D_13, n, sl) _ _
  refine zO_istore_n dX6_sum_116 (by decide) ?_
  refine zO_ls (ls' := [(0, zR 42), (1, zI o1), (2, zI r_12), (3, zI v3), (4, zI v4), (5, zI v5)]) rfl ?_
  refine zO_aload_n dX6_sum_117 rfl (zR_P _) ?_
  refine zO_iload dX6_sum_118 rfl ?_
  refine zO_bipush dX6_sum_120 (by decide) ?_
  refine zO_icmp_ne (tgt := 129) dX6_sum_122 rfl (fun c122 => ?_) (fun c122 => ?_)
  · refine zO_iconst dX6_sum_125 (by decide) ?_
    refine zO_goto (tgt := 130) dX6_sum_126 rfl ?_
    refine zO_live [0, 1, 2, 3, 4] ?_
    exact sX6_sum_130 hG rec hr0 hr1 o1 r_12 v3 v4 4 _ hk_11 D_13
  · refine zO_iconst dX6_sum_129 (by decide) ?_
    refine zO_live [0, 1, 2, 3, 4] ?_
    exact sX6_sum_130 hG rec hr0 hr1 o1 r_12 v3 v4 5 _ hk_11 D_13
set_option maxHeartbeats 20000000 in
theorem sX6_sum_11 {l : Launch} {E : zE} {d : Nat} {F : zFs} {n sl : Nat} (hG : zG F) (rec : Nat → Int → Int → zDa → Option (Int × zDa)) (hr0 : ∀ (a b : Int) (D : zDa) r, rec 0 a b D = some r → zMet l E (d + 1) YX6_sum [zR 42, zI a] (F, D, n, sl) (zcI F n sl r)) (hr1 : ∀ (a b : Int) (D : zDa) r, rec 1 a b D = some r → zMet l E (d + 1) YX6_part [zR 42, zI a] (F, D, n, sl) (zcI F n sl r))  (o1 : Int)   : ∀ (N : Nat) (v2 : Int) (v3 : Int) (v4 : Int) (D : zDa), zO l E (d + 2) YX6_sum 11 [(0, zR 42), (1, zI o1), (2, zI v2), (3, zI v3), (4, zI v4)] [] (F, D, n, sl) (zcI F n sl) (zfix (fun _ _ _ _ => none) (fX6_sum_11 F rec o1) N v2 v3 v4 D) := by
  intro N
  induction N with
  | zero => intro v2 v3 v4 D; exact zO_none
  | succ N hk_11 =>
    intro v2 v3 v4 D
    show zO _ _ _ _ _ _ _ _ _ ((fX6_sum_11 F rec o1) (zfix (fun _ _ _ _ => none) (fX6_sum_11 F rec o1) N) v2 v3 v4 D)
    unfold fX6_sum_11
    refine zO_iload dX6_sum_11 rfl ?_
    refine zO_sipush dX6_sum_13 (by decide) ?_
    refine zO_icmp_ge (tgt := 141) dX6_sum_16 rfl (fun c16 => ?_) (fun c16 => ?_)
    · refine zO_iload_n dX6_sum_19 rfl ?_
      refine zO_if_eq (tgt := 141) dX6_sum_20 rfl (fun c20 => ?_) (fun c20 => ?_)
      · refine zO_live [0, 2, 3] ?_
        exact sX6_sum_141 hG rec hr0 hr1 v2 v3 D
      · refine zO_chk (fun h2 => ?_)
        refine zO_aload_n dX6_sum_23 rfl (zR_P _) ?_
        refine gt6 (k := 0) dX6_sum_24 wF_X6_9 (by decide) (gk_42 hG) (zgv (c := 6) (k := 0) rfl (Or.inl ⟨_, rfl⟩) (gf_42_0 hG)) ?_
        refine zO_aload_n dX6_sum_27 rfl (zR_P _) ?_
        refine gt6 (k := 3) (v := zI (D 42 3)) dX6_sum_28 wF_X6_46 (by decide) (gk_42 hG) rfl ?_
        refine zO_iald dX6_sum_31 (gk_43 hG) (gl_in (gl_43 hG) h2) ?_
        refine zO_letI (fun x5_5 ex5_5 => ?_)
        refine zO_istore dX6_sum_32 (by decide) ?_
        refine zO_ls (ls' := [(0, zR 42), (1, zI o1), (2, zI v2), (3, zI v3), (4, zI v4), (5, zI x5_5)]) rfl ?_
        refine zO_iload dX6_sum_34 rfl ?_
        refine zO_bipush dX6_sum_36 (by decide) ?_
        refine zO_icmp_eq (tgt := 48) dX6_sum_38 rfl (fun c38 => ?_) (fun c38 => ?_)
        · refine zO_live [0, 1, 3, 4, 5] ?_
          exact sX6_sum_48 hG rec hr0 hr1 o1 v3 v4 x5_5 _ hk_11 D
        · refine zO_iload dX6_sum_41 rfl ?_
          refine zO_bipush dX6_sum_43 (by decide) ?_
          refine zO_icmp_ne (tgt := 87) dX6_sum_45 rfl (fun c45 => ?_) (fun c45 => ?_)
          · refine zO_live [0, 1, 3, 4, 5] ?_
            exact sX6_sum_48 hG rec hr0 hr1 o1 v3 v4 x5_5 _ hk_11 D
          · refine zO_iload dX6_sum_87 rfl ?_
            refine zO_bipush dX6_sum_89 (by decide) ?_
            refine zO_icmp_eq (tgt := 101) dX6_sum_91 rfl (fun c91 => ?_) (fun c91 => ?_)
            · refine zO_live [0, 1, 3, 4, 5] ?_
              exact sX6_sum_101 hG rec hr0 hr1 o1 v3 v4 x5_5 _ hk_11 D
            · refine zO_iload dX6_sum_94 rfl ?_
              refine zO_bipush dX6_sum_96 (by decide) ?_
              refine zO_icmp_ne (tgt := 141) dX6_sum_98 rfl (fun c98 => ?_) (fun c98 => ?_)
              · refine zO_live [0, 1, 3, 4, 5] ?_
                exact sX6_sum_101 hG rec hr0 hr1 o1 v3 v4 x5_5 _ hk_11 D
              · refine zO_live [0, 2, 3] ?_
                exact sX6_sum_141 hG rec hr0 hr1 v2 v3 D
    · refine zO_live [0, 2, 3] ?_
      exact sX6_sum_141 hG rec hr0 hr1 v2 v3 D
set_option maxHeartbeats 20000000 in
theorem mbX6_sum {l : Launch} {E : zE} {d : Nat} {F : zFs} {n sl : Nat} (hG : zG F) (rec : Nat → Int → Int → zDa → Option (Int × zDa)) (hr0 : ∀ (a b : Int) (D : zDa) r, rec 0 a b D = some r → zMet l E (d + 1) YX6_sum [zR 42, zI a] (F, D, n, sl) (zcI F n sl r)) (hr1 : ∀ (a b : Int) (D : zDa) r, rec 1 a b D = some r → zMet l E (d + 1) YX6_part [zR 42, zI a] (F, D, n, sl) (zcI F n sl r)) (v1 : Int) {D : zDa} : ∀ r, bX6_sum F rec v1 D = some r → zMet l E (d + 2) YX6_sum [zR 42, zI v1] (F, D, n, sl) (zcI F n sl r) := by
  intro r hr
  refine zMet_of (plainFor_of_name (by decide)) (fun _ h => (nomatch h)) (Nat.le_of_ble_eq_true rfl) ?_
  have hz : zO l E (d + 2) YX6_sum 0 [(0, zR 42), (1, zI v1)] [] (F, D, n, sl) (zcI F n sl) (bX6_sum F rec v1 D) := by
    unfold bX6_sum
    refine zO_aload_n dX6_sum_0 rfl (zR_P _) ?_
    refine zO_iload_n dX6_sum_1 rfl ?_
    refine zO_callV (Y' := YX6_part) (cw := zcI F n sl) (as := [zI v1]) (rest := []) (na := 1) (ci := 6) rfl dX6_sum_2 wC_X6_part wN_X6 wM_X6_124 wI_X6_part wV_X6_part (by decide) (by decide) rfl rfl (Nat.le_of_ble_eq_true rfl) rfl (by decide) (gk_42 hG) (fun r hr => hr1 v1 0 _ r hr) ?_
    rintro ⟨r_1, D_2⟩ -
    show zO _ _ _ _ _ _ [zI r_1] (F, D_2, n, sl) _ _
    refine zO_istore_n dX6_sum_5 (by decide) ?_
    refine zO_ls (ls' := [(0, zR 42), (1, zI v1), (2, zI r_1)]) rfl ?_
    refine zO_iconst dX6_sum_6 (by decide) ?_
    refine zO_istore_n dX6_sum_7 (by decide) ?_
    refine zO_ls (ls' := [(0, zR 42), (1, zI v1), (2, zI r_1), (3, zI (-1))]) rfl ?_
    refine zO_iconst dX6_sum_8 (by decide) ?_
    refine zO_istore dX6_sum_9 (by decide) ?_
    refine zO_ls (ls' := [(0, zR 42), (1, zI v1), (2, zI r_1), (3, zI (-1)), (4, zI 0)]) rfl ?_
    refine zO_live [0, 1, 2, 3, 4] ?_
    exact sX6_sum_11 hG rec hr0 hr1 v1 zfu r_1 (-1) 0 D_2
  exact hz r hr
def fX6_part_59 (F : zFs) (rec : Nat → Int → Int → zDa → Option (Int × zDa))   (D : zDa) : Option (Int × zDa) :=
  (fX6_fail F D).bind (fun (r_4, D_5) =>
    if (r_4 = 0 ∨ r_4 = 1) then
      some (r_4, D_5)
    else none)
def fX6_part_125 (F : zFs) (rec : Nat → Int → Int → zDa → Option (Int × zDa))   (D : zDa) : Option (Int × zDa) :=
  (fX6_fail F D).bind (fun (r_9, D_10) =>
    if (r_9 = 0 ∨ r_9 = 1) then
      some (r_9, D_10)
    else none)
def fX6_part_161 (F : zFs) (rec : Nat → Int → Int → zDa → Option (Int × zDa))  (s0 : Int) (D : zDa) : Option (Int × zDa) :=
  if (0 ≤ (D 42 3) ∧ (D 42 3) < 401) then
    (fX6_emit F s0 (D 44 (D 42 3).toNat) D).bind (fun (r_12, D_13) =>
      if (-2147483648 ≤ (D_13 42 3) + 1 ∧ (D_13 42 3) + 1 ≤ 2147483647) then
        zlet (zwr D_13 42 3 ((D_13 42 3) + 1)) (fun D_14 =>
          some (1, D_14))
      else none)
  else none
def fX6_part_111 (F : zFs) (rec : Nat → Int → Int → zDa → Option (Int × zDa))  (s0 : Int) (D : zDa) : Option (Int × zDa) :=
  if s0 = 0 then
    fX6_part_125 F rec D
  else
    if (D 42 4) < 50 then
      if (-2147483648 ≤ (D 42 4) + 1 ∧ (D 42 4) + 1 ≤ 2147483647) then
        zlet (zwr D 42 4 ((D 42 4) + 1)) (fun D_11 =>
          if (0 ≤ (D_11 42 3) ∧ (D_11 42 3) < 401) then
            if (D_11 43 (D_11 42 3).toNat) = 258 then
              fX6_part_161 F rec 0 D_11
            else
              fX6_part_161 F rec 1 D_11
          else none)
      else none
    else
      fX6_part_125 F rec D
def fX6_part_106 (F : zFs) (rec : Nat → Int → Int → zDa → Option (Int × zDa))   (D : zDa) : Option (Int × zDa) :=
  fX6_part_111 F rec 1 D
def bX6_part (F : zFs) (rec : Nat → Int → Int → zDa → Option (Int × zDa)) (v1 : Int) (D : zDa) : Option (Int × zDa) :=
  if (0 ≤ (D 42 3) ∧ (D 42 3) < 401) then
    if (D 43 (D 42 3).toNat) = 91 then
      if v1 < 8 then
        if (-2147483648 ≤ (D 42 3) + 1 ∧ (D 42 3) + 1 ≤ 2147483647) then
          zlet (zwr D 42 3 ((D 42 3) + 1)) (fun D_1 =>
            if (-2147483648 ≤ v1 + 1 ∧ v1 + 1 ≤ 2147483647) then
              (rec 0 (v1 + 1) 0 D_1).bind (fun (r_2, D_3) =>
                if r_2 = 0 then
                  fX6_part_59 F rec D_3
                else
                  if (0 ≤ (D_3 42 3) ∧ (D_3 42 3) < 401) then
                    if (D_3 43 (D_3 42 3).toNat) = 93 then
                      if (-2147483648 ≤ (D_3 42 3) + 1 ∧ (D_3 42 3) + 1 ≤ 2147483647) then
                        zlet (zwr D_3 42 3 ((D_3 42 3) + 1)) (fun D_6 =>
                          some (1, D_6))
                      else none
                    else
                      fX6_part_59 F rec D_3
                  else none)
            else none)
        else none
      else
        (fX6_fail F D).bind (fun (r_7, D_8) =>
          if (r_7 = 0 ∨ r_7 = 1) then
            some (r_7, D_8)
          else none)
    else
      if (D 43 (D 42 3).toNat) = 258 then
        fX6_part_106 F rec D
      else
        if (D 43 (D 42 3).toNat) = 260 then
          fX6_part_106 F rec D
        else
          fX6_part_111 F rec 0 D
  else none
set_option maxHeartbeats 20000000 in
theorem sX6_part_59 {l : Launch} {E : zE} {d : Nat} {F : zFs} {n sl : Nat} (hG : zG F) (rec : Nat → Int → Int → zDa → Option (Int × zDa)) (hr0 : ∀ (a b : Int) (D : zDa) r, rec 0 a b D = some r → zMet l E (d + 1) YX6_sum [zR 42, zI a] (F, D, n, sl) (zcI F n sl r)) (hr1 : ∀ (a b : Int) (D : zDa) r, rec 1 a b D = some r → zMet l E (d + 1) YX6_part [zR 42, zI a] (F, D, n, sl) (zcI F n sl r))     (D : zDa) : zO l E (d + 2) YX6_part 59 [(0, zR 42)] [] (F, D, n, sl) (zcI F n sl) (fX6_part_59 F rec D) := by
  unfold fX6_part_59
  refine zO_aload_n dX6_part_59 rfl (zR_P _) ?_
  refine zO_callV (Y' := YX6_fail) (cw := zcI F n sl) (as := []) (rest := []) (na := 0) (ci := 6) rfl dX6_part_60 wC_X6_fail wN_X6 wM_X6_62 wI_X6_fail wV_X6_fail (by decide) (by decide) rfl rfl (Nat.le_of_ble_eq_true rfl) rfl (by decide) (gk_42 hG) (fun r hr => zMet_cast (Nat.add_assoc d 1 0) (mX6_fail (d := d + 1) hG  r hr)) ?_
  rintro ⟨r_4, D_5⟩ -
  show zO _ _ _ _ _ _ [zI r_4] (F, D_5, n, sl) _ _
  refine zO_chk (fun h4 => ?_)
  exact zO_ret (rv := some (zI r_4)) dX6_part_63 rfl (zretok_z h4) rfl
set_option maxHeartbeats 20000000 in
theorem sX6_part_125 {l : Launch} {E : zE} {d : Nat} {F : zFs} {n sl : Nat} (hG : zG F) (rec : Nat → Int → Int → zDa → Option (Int × zDa)) (hr0 : ∀ (a b : Int) (D : zDa) r, rec 0 a b D = some r → zMet l E (d + 1) YX6_sum [zR 42, zI a] (F, D, n, sl) (zcI F n sl r)) (hr1 : ∀ (a b : Int) (D : zDa) r, rec 1 a b D = some r → zMet l E (d + 1) YX6_part [zR 42, zI a] (F, D, n, sl) (zcI F n sl r))     (D : zDa) : zO l E (d + 2) YX6_part 125 [(0, zR 42)] [] (F, D, n, sl) (zcI F n sl) (fX6_part_125 F rec D) := by
  unfold fX6_part_125
  refine zO_aload_n dX6_part_125 rfl (zR_P _) ?_
  refine zO_callV (Y' := YX6_fail) (cw := zcI F n sl) (as := []) (rest := []) (na := 0) (ci := 6) rfl dX6_part_126 wC_X6_fail wN_X6 wM_X6_62 wI_X6_fail wV_X6_fail (by decide) (by decide) rfl rfl (Nat.le_of_ble_eq_true rfl) rfl (by decide) (gk_42 hG) (fun r hr => zMet_cast (Nat.add_assoc d 1 0) (mX6_fail (d := d + 1) hG  r hr)) ?_
  rintro ⟨r_9, D_10⟩ -
  show zO _ _ _ _ _ _ [zI r_9] (F, D_10, n, sl) _ _
  refine zO_chk (fun h8 => ?_)
  exact zO_ret (rv := some (zI r_9)) dX6_part_129 rfl (zretok_z h8) rfl
set_option maxHeartbeats 20000000 in
theorem sX6_part_161 {l : Launch} {E : zE} {d : Nat} {F : zFs} {n sl : Nat} (hG : zG F) (rec : Nat → Int → Int → zDa → Option (Int × zDa)) (hr0 : ∀ (a b : Int) (D : zDa) r, rec 0 a b D = some r → zMet l E (d + 1) YX6_sum [zR 42, zI a] (F, D, n, sl) (zcI F n sl r)) (hr1 : ∀ (a b : Int) (D : zDa) r, rec 1 a b D = some r → zMet l E (d + 1) YX6_part [zR 42, zI a] (F, D, n, sl) (zcI F n sl r))  (s0 : Int)   (D : zDa) : zO l E (d + 2) YX6_part 161 [(0, zR 42)] [zI s0, zR 42] (F, D, n, sl) (zcI F n sl) (fX6_part_161 F rec s0 D) := by
  unfold fX6_part_161
  refine zO_chk (fun h11 => ?_)
  refine zO_aload_n dX6_part_161 rfl (zR_P _) ?_
  refine gt6 (k := 1) dX6_part_162 wF_X6_15 (by decide) (gk_42 hG) (zgv (c := 6) (k := 1) rfl (Or.inl ⟨_, rfl⟩) (gf_42_1 hG)) ?_
  refine zO_aload_n dX6_part_165 rfl (zR_P _) ?_
  refine gt6 (k := 3) (v := zI (D 42 3)) dX6_part_166 wF_X6_46 (by decide) (gk_42 hG) rfl ?_
  refine zO_iald dX6_part_169 (gk_44 hG) (gl_in (gl_44 hG) h11) ?_
  refine zO_callV (Y' := YX6_emit) (cw := zcI F n sl) (as := [zI s0, zI (D 44 (D 42 3).toNat)]) (rest := []) (na := 2) (ci := 6) rfl dX6_part_170 wC_X6_emit wN_X6 wM_X6_114 wI_X6_emit wV_X6_emit (by decide) (by decide) rfl rfl (Nat.le_of_ble_eq_true rfl) rfl (by decide) (gk_42 hG) (fun r hr => zMet_cast (Nat.add_assoc d 1 0) (mX6_emit (d := d + 1) hG s0 (D 44 (D 42 3).toNat) r hr)) ?_
  rintro ⟨r_12, D_13⟩ -
  show zO _ _ _ _ _ _ [zI r_12] (F, D_13, n, sl) _ _
  refine zO_chk (fun h12 => ?_)
  refine zO_pop dX6_part_173 (rfl) ?_
  refine zO_aload_n dX6_part_174 rfl (zR_P _) ?_
  refine zO_dup dX6_part_175 (rfl) ?_
  refine gt6 (k := 3) (v := zI (D_13 42 3)) dX6_part_176 wF_X6_46 (by decide) (gk_42 hG) rfl ?_
  refine zO_iconst dX6_part_179 (by decide) ?_
  refine zO_iadd dX6_part_180 h12 ?_
  refine ptI6 (k := 3) (z := ((D_13 42 3) + 1)) dX6_part_181 wF_X6_46 (by decide) rfl (gk_42 hG) rfl ?_
  refine zO_letD (fun D_14 eD_14 => ?_)
  refine zO_iconst dX6_part_184 (by decide) ?_
  exact zO_ret (rv := some (zI 1)) dX6_part_185 rfl rfl rfl
set_option maxHeartbeats 20000000 in
theorem sX6_part_111 {l : Launch} {E : zE} {d : Nat} {F : zFs} {n sl : Nat} (hG : zG F) (rec : Nat → Int → Int → zDa → Option (Int × zDa)) (hr0 : ∀ (a b : Int) (D : zDa) r, rec 0 a b D = some r → zMet l E (d + 1) YX6_sum [zR 42, zI a] (F, D, n, sl) (zcI F n sl r)) (hr1 : ∀ (a b : Int) (D : zDa) r, rec 1 a b D = some r → zMet l E (d + 1) YX6_part [zR 42, zI a] (F, D, n, sl) (zcI F n sl r))  (s0 : Int)   (D : zDa) : zO l E (d + 2) YX6_part 111 [(0, zR 42)] [zI s0] (F, D, n, sl) (zcI F n sl) (fX6_part_111 F rec s0 D) := by
  unfold fX6_part_111
  refine zO_istore_n dX6_part_111 (by decide) ?_
  refine zO_ls (ls' := [(0, zR 42), (2, zI s0)]) rfl ?_
  refine zO_iload_n dX6_part_112 rfl ?_
  refine zO_if_eq (tgt := 125) dX6_part_113 rfl (fun c113 => ?_) (fun c113 => ?_)
  · refine zO_live [0] ?_
    exact sX6_part_125 hG rec hr0 hr1 D
  · refine zO_aload_n dX6_part_116 rfl (zR_P _) ?_
    refine gt6 (k := 4) (v := zI (D 42 4)) dX6_part_117 wF_X6_49 (by decide) (gk_42 hG) rfl ?_
    refine zO_bipush dX6_part_120 (by decide) ?_
    refine zO_icmp_lt (tgt := 130) dX6_part_122 rfl (fun c122 => ?_) (fun c122 => ?_)
    · refine zO_chk (fun h9 => ?_)
      refine zO_aload_n dX6_part_130 rfl (zR_P _) ?_
      refine zO_dup dX6_part_131 (rfl) ?_
      refine gt6 (k := 4) (v := zI (D 42 4)) dX6_part_132 wF_X6_49 (by decide) (gk_42 hG) rfl ?_
      refine zO_iconst dX6_part_135 (by decide) ?_
      refine zO_iadd dX6_part_136 h9 ?_
      refine ptI6 (k := 4) (z := ((D 42 4) + 1)) dX6_part_137 wF_X6_49 (by decide) rfl (gk_42 hG) rfl ?_
      refine zO_letD (fun D_11 eD_11 => ?_)
      refine zO_chk (fun h10 => ?_)
      refine zO_aload_n dX6_part_140 rfl (zR_P _) ?_
      refine zO_aload_n dX6_part_141 rfl (zR_P _) ?_
      refine gt6 (k := 0) dX6_part_142 wF_X6_9 (by decide) (gk_42 hG) (zgv (c := 6) (k := 0) rfl (Or.inl ⟨_, rfl⟩) (gf_42_0 hG)) ?_
      refine zO_aload_n dX6_part_145 rfl (zR_P _) ?_
      refine gt6 (k := 3) (v := zI (D_11 42 3)) dX6_part_146 wF_X6_46 (by decide) (gk_42 hG) rfl ?_
      refine zO_iald dX6_part_149 (gk_43 hG) (gl_in (gl_43 hG) h10) ?_
      refine zO_sipush dX6_part_150 (by decide) ?_
      refine zO_icmp_ne (tgt := 160) dX6_part_153 rfl (fun c153 => ?_) (fun c153 => ?_)
      · refine zO_iconst dX6_part_156 (by decide) ?_
        refine zO_goto (tgt := 161) dX6_part_157 rfl ?_
        refine zO_live [0] ?_
        exact sX6_part_161 hG rec hr0 hr1 0 D_11
      · refine zO_iconst dX6_part_160 (by decide) ?_
        refine zO_live [0] ?_
        exact sX6_part_161 hG rec hr0 hr1 1 D_11
    · refine zO_live [0] ?_
      exact sX6_part_125 hG rec hr0 hr1 D
set_option maxHeartbeats 20000000 in
theorem sX6_part_106 {l : Launch} {E : zE} {d : Nat} {F : zFs} {n sl : Nat} (hG : zG F) (rec : Nat → Int → Int → zDa → Option (Int × zDa)) (hr0 : ∀ (a b : Int) (D : zDa) r, rec 0 a b D = some r → zMet l E (d + 1) YX6_sum [zR 42, zI a] (F, D, n, sl) (zcI F n sl r)) (hr1 : ∀ (a b : Int) (D : zDa) r, rec 1 a b D = some r → zMet l E (d + 1) YX6_part [zR 42, zI a] (F, D, n, sl) (zcI F n sl r))     (D : zDa) : zO l E (d + 2) YX6_part 106 [(0, zR 42)] [] (F, D, n, sl) (zcI F n sl) (fX6_part_106 F rec D) := by
  unfold fX6_part_106
  refine zO_iconst dX6_part_106 (by decide) ?_
  refine zO_goto (tgt := 111) dX6_part_107 rfl ?_
  refine zO_live [0] ?_
  exact sX6_part_111 hG rec hr0 hr1 1 D
set_option maxHeartbeats 20000000 in
theorem mbX6_part {l : Launch} {E : zE} {d : Nat} {F : zFs} {n sl : Nat} (hG : zG F) (rec : Nat → Int → Int → zDa → Option (Int × zDa)) (hr0 : ∀ (a b : Int) (D : zDa) r, rec 0 a b D = some r → zMet l E (d + 1) YX6_sum [zR 42, zI a] (F, D, n, sl) (zcI F n sl r)) (hr1 : ∀ (a b : Int) (D : zDa) r, rec 1 a b D = some r → zMet l E (d + 1) YX6_part [zR 42, zI a] (F, D, n, sl) (zcI F n sl r)) (v1 : Int) {D : zDa} : ∀ r, bX6_part F rec v1 D = some r → zMet l E (d + 2) YX6_part [zR 42, zI v1] (F, D, n, sl) (zcI F n sl r) := by
  intro r hr
  refine zMet_of (plainFor_of_name (by decide)) (fun _ h => (nomatch h)) (Nat.le_of_ble_eq_true rfl) ?_
  have hz : zO l E (d + 2) YX6_part 0 [(0, zR 42), (1, zI v1)] [] (F, D, n, sl) (zcI F n sl) (bX6_part F rec v1 D) := by
    unfold bX6_part
    refine zO_chk (fun h1 => ?_)
    refine zO_aload_n dX6_part_0 rfl (zR_P _) ?_
    refine gt6 (k := 0) dX6_part_1 wF_X6_9 (by decide) (gk_42 hG) (zgv (c := 6) (k := 0) rfl (Or.inl ⟨_, rfl⟩) (gf_42_0 hG)) ?_
    refine zO_aload_n dX6_part_4 rfl (zR_P _) ?_
    refine gt6 (k := 3) (v := zI (D 42 3)) dX6_part_5 wF_X6_46 (by decide) (gk_42 hG) rfl ?_
    refine zO_iald dX6_part_8 (gk_43 hG) (gl_in (gl_43 hG) h1) ?_
    refine zO_bipush dX6_part_9 (by decide) ?_
    refine zO_icmp_ne (tgt := 76) dX6_part_11 rfl (fun c11 => ?_) (fun c11 => ?_)
    · refine zO_iload_n dX6_part_14 rfl ?_
      refine zO_bipush dX6_part_15 (by decide) ?_
      refine zO_icmp_lt (tgt := 25) dX6_part_17 rfl (fun c17 => ?_) (fun c17 => ?_)
      · refine zO_chk (fun h2 => ?_)
        refine zO_aload_n dX6_part_25 rfl (zR_P _) ?_
        refine zO_dup dX6_part_26 (rfl) ?_
        refine gt6 (k := 3) (v := zI (D 42 3)) dX6_part_27 wF_X6_46 (by decide) (gk_42 hG) rfl ?_
        refine zO_iconst dX6_part_30 (by decide) ?_
        refine zO_iadd dX6_part_31 h2 ?_
        refine ptI6 (k := 3) (z := ((D 42 3) + 1)) dX6_part_32 wF_X6_46 (by decide) rfl (gk_42 hG) rfl ?_
        refine zO_letD (fun D_1 eD_1 => ?_)
        refine zO_chk (fun h3 => ?_)
        refine zO_aload_n dX6_part_35 rfl (zR_P _) ?_
        refine zO_iload_n dX6_part_36 rfl ?_
        refine zO_iconst dX6_part_37 (by decide) ?_
        refine zO_iadd dX6_part_38 h3 ?_
        refine zO_callV (Y' := YX6_sum) (cw := zcI F n sl) (as := [zI (v1 + 1)]) (rest := []) (na := 1) (ci := 6) rfl dX6_part_39 wC_X6_sum wN_X6 wM_X6_108 wI_X6_sum wV_X6_sum (by decide) (by decide) rfl rfl (Nat.le_of_ble_eq_true rfl) rfl (by decide) (gk_42 hG) (fun r hr => hr0 (v1 + 1) 0 _ r hr) ?_
        rintro ⟨r_2, D_3⟩ -
        show zO _ _ _ _ _ _ [zI r_2] (F, D_3, n, sl) _ _
        refine zO_if_eq (tgt := 59) dX6_part_42 rfl (fun c42 => ?_) (fun c42 => ?_)
        · refine zO_live [0] ?_
          exact sX6_part_59 hG rec hr0 hr1 D_3
        · refine zO_chk (fun h5 => ?_)
          refine zO_aload_n dX6_part_45 rfl (zR_P _) ?_
          refine gt6 (k := 0) dX6_part_46 wF_X6_9 (by decide) (gk_42 hG) (zgv (c := 6) (k := 0) rfl (Or.inl ⟨_, rfl⟩) (gf_42_0 hG)) ?_
          refine zO_aload_n dX6_part_49 rfl (zR_P _) ?_
          refine gt6 (k := 3) (v := zI (D_3 42 3)) dX6_part_50 wF_X6_46 (by decide) (gk_42 hG) rfl ?_
          refine zO_iald dX6_part_53 (gk_43 hG) (gl_in (gl_43 hG) h5) ?_
          refine zO_bipush dX6_part_54 (by decide) ?_
          refine zO_icmp_eq (tgt := 64) dX6_part_56 rfl (fun c56 => ?_) (fun c56 => ?_)
          · refine zO_chk (fun h6 => ?_)
            refine zO_aload_n dX6_part_64 rfl (zR_P _) ?_
            refine zO_dup dX6_part_65 (rfl) ?_
            refine gt6 (k := 3) (v := zI (D_3 42 3)) dX6_part_66 wF_X6_46 (by decide) (gk_42 hG) rfl ?_
            refine zO_iconst dX6_part_69 (by decide) ?_
            refine zO_iadd dX6_part_70 h6 ?_
            refine ptI6 (k := 3) (z := ((D_3 42 3) + 1)) dX6_part_71 wF_X6_46 (by decide) rfl (gk_42 hG) rfl ?_
            refine zO_letD (fun D_6 eD_6 => ?_)
            refine zO_iconst dX6_part_74 (by decide) ?_
            exact zO_ret (rv := some (zI 1)) dX6_part_75 rfl rfl rfl
          · refine zO_live [0] ?_
            exact sX6_part_59 hG rec hr0 hr1 D_3
      · refine zO_aload_n dX6_part_20 rfl (zR_P _) ?_
        refine zO_callV (Y' := YX6_fail) (cw := zcI F n sl) (as := []) (rest := []) (na := 0) (ci := 6) rfl dX6_part_21 wC_X6_fail wN_X6 wM_X6_62 wI_X6_fail wV_X6_fail (by decide) (by decide) rfl rfl (Nat.le_of_ble_eq_true rfl) rfl (by decide) (gk_42 hG) (fun r hr => zMet_cast (Nat.add_assoc d 1 0) (mX6_fail (d := d + 1) hG  r hr)) ?_
        rintro ⟨r_7, D_8⟩ -
        show zO _ _ _ _ _ _ [zI r_7] (F, D_8, n, sl) _ _
        refine zO_chk (fun h7 => ?_)
        exact zO_ret (rv := some (zI r_7)) dX6_part_24 rfl (zretok_z h7) rfl
    · refine zO_aload_n dX6_part_76 rfl (zR_P _) ?_
      refine gt6 (k := 0) dX6_part_77 wF_X6_9 (by decide) (gk_42 hG) (zgv (c := 6) (k := 0) rfl (Or.inl ⟨_, rfl⟩) (gf_42_0 hG)) ?_
      refine zO_aload_n dX6_part_80 rfl (zR_P _) ?_
      refine gt6 (k := 3) (v := zI (D 42 3)) dX6_part_81 wF_X6_46 (by decide) (gk_42 hG) rfl ?_
      refine zO_iald dX6_part_84 (gk_43 hG) (gl_in (gl_43 hG) h1) ?_
      refine zO_sipush dX6_part_85 (by decide) ?_
      refine zO_icmp_eq (tgt := 106) dX6_part_88 rfl (fun c88 => ?_) (fun c88 => ?_)
      · refine zO_live [0] ?_
        exact sX6_part_106 hG rec hr0 hr1 D
      · refine zO_aload_n dX6_part_91 rfl (zR_P _) ?_
        refine gt6 (k := 0) dX6_part_92 wF_X6_9 (by decide) (gk_42 hG) (zgv (c := 6) (k := 0) rfl (Or.inl ⟨_, rfl⟩) (gf_42_0 hG)) ?_
        refine zO_aload_n dX6_part_95 rfl (zR_P _) ?_
        refine gt6 (k := 3) (v := zI (D 42 3)) dX6_part_96 wF_X6_46 (by decide) (gk_42 hG) rfl ?_
        refine zO_iald dX6_part_99 (gk_43 hG) (gl_in (gl_43 hG) h1) ?_
        refine zO_sipush dX6_part_100 (by decide) ?_
        refine zO_icmp_ne (tgt := 110) dX6_part_103 rfl (fun c103 => ?_) (fun c103 => ?_)
        · refine zO_live [0] ?_
          exact sX6_part_106 hG rec hr0 hr1 D
        · refine zO_iconst dX6_part_110 (by decide) ?_
          refine zO_live [0] ?_
          exact sX6_part_111 hG rec hr0 hr1 0 D
  exact hz r hr
def R0 (F : zFs) (N : Nat) : Nat → Int → Int → zDa → Option (Int × zDa) := zfix (fun _ _ _ _ => none) (fun rec t a b D => if t = 0 then bX6_sum F rec a D else bX6_part F rec a D) N
theorem R0_succ (F : zFs) (N t : Nat) (a b : Int) (D : zDa) : R0 F (N + 1) t a b D = (if t = 0 then bX6_sum F (R0 F N) a D else bX6_part F (R0 F N) a D) := rfl
theorem mG0 {l : Launch} {E : zE} {F : zFs} {n sl : Nat} (hG : zG F) : ∀ (N d : Nat), (∀ (a b : Int) (D : zDa) r, R0 F N 0 a b D = some r → zMet l E (d + N + 1) YX6_sum [zR 42, zI a] (F, D, n, sl) (zcI F n sl r)) ∧ (∀ (a b : Int) (D : zDa) r, R0 F N 1 a b D = some r → zMet l E (d + N + 1) YX6_part [zR 42, zI a] (F, D, n, sl) (zcI F n sl r)) := by
  intro N
  induction N with
  | zero => intro d; refine ⟨(fun a b D r h => nomatch (show (none : Option _) = some r from h)), (fun a b D r h => nomatch (show (none : Option _) = some r from h))⟩
  | succ N ih =>
    intro d
    have ih := ih d
    exact ⟨(fun a b D r h => zMet_cast (show d + N + 2 = d + (N + 1) + 1 by omega) (mbX6_sum (d := d + N) hG (R0 F N) (fun a b D r h => ih.1 a b D r h) (fun a b D r h => ih.2 a b D r h) a r (by rw [R0_succ] at h; rw [if_pos rfl] at h; exact h))), (fun a b D r h => zMet_cast (show d + N + 2 = d + (N + 1) + 1 by omega) (mbX6_part (d := d + N) hG (R0 F N) (fun a b D r h => ih.1 a b D r h) (fun a b D r h => ih.2 a b D r h) a r (by rw [R0_succ] at h; rw [if_neg (by decide)] at h; exact h)))⟩
def fX6_sum (F : zFs) (v1 : Int) (D : zDa) : Option (Int × zDa) := R0 F 40 0 v1 0 D
theorem mX6_sum {l : Launch} {E : zE} {d : Nat} {F : zFs} {n sl : Nat} (hG : zG F) (v1 : Int) {D : zDa} : ∀ r, fX6_sum F v1 D = some r → zMet l E (d + 42) YX6_sum [zR 42, zI v1] (F, D, n, sl) (zcI F n sl r) := fun r h => zMet_cast (show d + 1 + 40 + 1 = d + 42 by omega) ((mG0 hG 40 (d + 1)).1 v1 0 D r h)
def fX6_part (F : zFs) (v1 : Int) (D : zDa) : Option (Int × zDa) := R0 F 40 1 v1 0 D
theorem mX6_part {l : Launch} {E : zE} {d : Nat} {F : zFs} {n sl : Nat} (hG : zG F) (v1 : Int) {D : zDa} : ∀ r, fX6_part F v1 D = some r → zMet l E (d + 42) YX6_part [zR 42, zI v1] (F, D, n, sl) (zcI F n sl r) := fun r h => zMet_cast (show d + 1 + 40 + 1 = d + 42 by omega) ((mG0 hG 40 (d + 1)).2 v1 0 D r h)
theorem dX6_leadHere_0 : decode cX6_leadHere 0 = .ok (.iload_n 1, 1) := by decide +kernel
theorem dX6_leadHere_1 : decode cX6_leadHere 1 = .ok (.ifCond .lt 26, 3) := by decide +kernel
theorem dX6_leadHere_4 : decode cX6_leadHere 4 = .ok (.iload_n 1, 1) := by decide +kernel
theorem dX6_leadHere_5 : decode cX6_leadHere 5 = .ok (.aload_n 0, 1) := by decide +kernel
theorem dX6_leadHere_6 : decode cX6_leadHere 6 = .ok (.getfield 55, 3) := by decide +kernel
theorem dX6_leadHere_9 : decode cX6_leadHere 9 = .ok (.if_icmp .ge 18, 3) := by decide +kernel
theorem dX6_leadHere_12 : decode cX6_leadHere 12 = .ok (.aload_n 0, 1) := by decide +kernel
theorem dX6_leadHere_13 : decode cX6_leadHere 13 = .ok (.getfield 29, 3) := by decide +kernel
theorem dX6_leadHere_16 : decode cX6_leadHere 16 = .ok (.iload_n 1, 1) := by decide +kernel
theorem dX6_leadHere_17 : decode cX6_leadHere 17 = .ok (.dup2, 1) := by decide +kernel
theorem dX6_leadHere_18 : decode cX6_leadHere 18 = .ok (.iaload, 1) := by decide +kernel
theorem dX6_leadHere_19 : decode cX6_leadHere 19 = .ok (.aload_n 0, 1) := by decide +kernel
theorem dX6_leadHere_20 : decode cX6_leadHere 20 = .ok (.getfield 55, 3) := by decide +kernel
theorem dX6_leadHere_23 : decode cX6_leadHere 23 = .ok (.iconst 4, 1) := by decide +kernel
theorem dX6_leadHere_24 : decode cX6_leadHere 24 = .ok (.ishl, 1) := by decide +kernel
theorem dX6_leadHere_25 : decode cX6_leadHere 25 = .ok (.ior, 1) := by decide +kernel
theorem dX6_leadHere_26 : decode cX6_leadHere 26 = .ok (.iastore, 1) := by decide +kernel
theorem dX6_leadHere_27 : decode cX6_leadHere 27 = .ok (.return_, 1) := by decide +kernel
abbrev YX6_leadHere : zY := (yX6_leadHere, cX6_leadHere, 2, none, [])
def fX6_leadHere (F : zFs) (v1 : Int) (D : zDa) : Option zDa :=
  if v1 < 0 then
    some D
  else
    if v1 < (D 42 9) then
      if (0 ≤ v1 ∧ v1 < 412) then
        zlet (zwr D 48 v1.toNat (zor (D 48 v1.toNat) (zshl (D 42 9) 4))) (fun D_1 =>
          some D_1)
      else none
    else
      some D
set_option maxHeartbeats 20000000 in
theorem mX6_leadHere {l : Launch} {E : zE} {d : Nat} {F : zFs} {n sl : Nat} (hG : zG F) (v1 : Int) {D : zDa} : ∀ r, fX6_leadHere F  v1 D = some r → zMet l E (d + 0) YX6_leadHere [zR 42, zI v1] (F, D, n, sl) (zcV F n sl r) := by
  intro r hr
  refine zMet_of (plainFor_of_name (by decide)) (fun _ h => (nomatch h)) (Nat.le_of_ble_eq_true rfl) ?_
  have hz : zO l E (d + 0) YX6_leadHere 0 [(0, zR 42), (1, zI v1)] [] (F, D, n, sl) (zcV F n sl) (fX6_leadHere F  v1 D) := by
    unfold fX6_leadHere
    refine zO_iload_n dX6_leadHere_0 rfl ?_
    refine zO_if_lt (tgt := 27) dX6_leadHere_1 rfl (fun c1 => ?_) (fun c1 => ?_)
    · exact zO_ret (rv := none) dX6_leadHere_27 rfl trivial rfl
    · refine zO_iload_n dX6_leadHere_4 rfl ?_
      refine zO_aload_n dX6_leadHere_5 rfl (zR_P _) ?_
      refine gt6 (k := 9) (v := zI (D 42 9)) dX6_leadHere_6 wF_X6_55 (by decide) (gk_42 hG) rfl ?_
      refine zO_icmp_ge (tgt := 27) dX6_leadHere_9 rfl (fun c9 => ?_) (fun c9 => ?_)
      · refine zO_chk (fun h1 => ?_)
        refine zO_aload_n dX6_leadHere_12 rfl (zR_P _) ?_
        refine gt6 (k := 8) dX6_leadHere_13 wF_X6_29 (by decide) (gk_42 hG) (zgv (c := 6) (k := 8) rfl (Or.inl ⟨_, rfl⟩) (gf_42_8 hG)) ?_
        refine zO_iload_n dX6_leadHere_16 rfl ?_
        refine zO_dup2a dX6_leadHere_17 (rfl) (rfl) ?_
        refine zO_iald dX6_leadHere_18 (gk_48 hG) (gl_in (gl_48 hG) h1) ?_
        refine zO_aload_n dX6_leadHere_19 rfl (zR_P _) ?_
        refine gt6 (k := 9) (v := zI (D 42 9)) dX6_leadHere_20 wF_X6_55 (by decide) (gk_42 hG) rfl ?_
        refine zO_iconst dX6_leadHere_23 (by decide) ?_
        refine zO_ishl dX6_leadHere_24 ?_
        refine zO_ior dX6_leadHere_25 ?_
        refine zO_iast dX6_leadHere_26 (gk_48 hG) (gl_in (gl_48 hG) h1) ?_
        refine zO_letD (fun D_1 eD_1 => ?_)
        exact zO_ret (rv := none) dX6_leadHere_27 rfl trivial rfl
      · exact zO_ret (rv := none) dX6_leadHere_27 rfl trivial rfl
  exact hz r hr
theorem dX6_test_0 : decode cX6_test 0 = .ok (.aload_n 0, 1) := by decide +kernel
theorem dX6_test_1 : decode cX6_test 1 = .ok (.iload_n 1, 1) := by decide +kernel
theorem dX6_test_2 : decode cX6_test 2 = .ok (.invokevirtual 117, 3) := by decide +kernel
theorem dX6_test_5 : decode cX6_test 5 = .ok (.istore_n 2, 1) := by decide +kernel
theorem dX6_test_6 : decode cX6_test 6 = .ok (.iconst (-1), 1) := by decide +kernel
theorem dX6_test_7 : decode cX6_test 7 = .ok (.istore_n 3, 1) := by decide +kernel
theorem dX6_test_8 : decode cX6_test 8 = .ok (.iconst 0, 1) := by decide +kernel
theorem dX6_test_9 : decode cX6_test 9 = .ok (.istore 4, 2) := by decide +kernel
theorem dX6_test_11 : decode cX6_test 11 = .ok (.iload 4, 2) := by decide +kernel
theorem dX6_test_13 : decode cX6_test 13 = .ok (.sipush 400, 3) := by decide +kernel
theorem dX6_test_16 : decode cX6_test 16 = .ok (.if_icmp .ge 121, 3) := by decide +kernel
theorem dX6_test_19 : decode cX6_test 19 = .ok (.iload_n 2, 1) := by decide +kernel
theorem dX6_test_20 : decode cX6_test 20 = .ok (.ifCond .eq 117, 3) := by decide +kernel
theorem dX6_test_23 : decode cX6_test 23 = .ok (.aload_n 0, 1) := by decide +kernel
theorem dX6_test_24 : decode cX6_test 24 = .ok (.getfield 9, 3) := by decide +kernel
theorem dX6_test_27 : decode cX6_test 27 = .ok (.aload_n 0, 1) := by decide +kernel
theorem dX6_test_28 : decode cX6_test 28 = .ok (.getfield 46, 3) := by decide +kernel
theorem dX6_test_31 : decode cX6_test 31 = .ok (.iaload, 1) := by decide +kernel
theorem dX6_test_32 : decode cX6_test 32 = .ok (.sipush 263, 3) := by decide +kernel
theorem dX6_test_35 : decode cX6_test 35 = .ok (.if_icmp .eq 18, 3) := by decide +kernel
theorem dX6_test_38 : decode cX6_test 38 = .ok (.aload_n 0, 1) := by decide +kernel
theorem dX6_test_39 : decode cX6_test 39 = .ok (.getfield 9, 3) := by decide +kernel
theorem dX6_test_42 : decode cX6_test 42 = .ok (.aload_n 0, 1) := by decide +kernel
theorem dX6_test_43 : decode cX6_test 43 = .ok (.getfield 46, 3) := by decide +kernel
theorem dX6_test_46 : decode cX6_test 46 = .ok (.iaload, 1) := by decide +kernel
theorem dX6_test_47 : decode cX6_test 47 = .ok (.sipush 262, 3) := by decide +kernel
theorem dX6_test_50 : decode cX6_test 50 = .ok (.if_icmp .ne 87, 3) := by decide +kernel
theorem dX6_test_53 : decode cX6_test 53 = .ok (.aload_n 0, 1) := by decide +kernel
theorem dX6_test_54 : decode cX6_test 54 = .ok (.getfield 9, 3) := by decide +kernel
theorem dX6_test_57 : decode cX6_test 57 = .ok (.aload_n 0, 1) := by decide +kernel
theorem dX6_test_58 : decode cX6_test 58 = .ok (.getfield 46, 3) := by decide +kernel
theorem dX6_test_61 : decode cX6_test 61 = .ok (.iaload, 1) := by decide +kernel
theorem dX6_test_62 : decode cX6_test 62 = .ok (.sipush 263, 3) := by decide +kernel
theorem dX6_test_65 : decode cX6_test 65 = .ok (.if_icmp .ne 37, 3) := by decide +kernel
theorem dX6_test_68 : decode cX6_test 68 = .ok (.aload_n 0, 1) := by decide +kernel
theorem dX6_test_69 : decode cX6_test 69 = .ok (.dup, 1) := by decide +kernel
theorem dX6_test_70 : decode cX6_test 70 = .ok (.getfield 46, 3) := by decide +kernel
theorem dX6_test_73 : decode cX6_test 73 = .ok (.iconst 1, 1) := by decide +kernel
theorem dX6_test_74 : decode cX6_test 74 = .ok (.iadd, 1) := by decide +kernel
theorem dX6_test_75 : decode cX6_test 75 = .ok (.putfield 46, 3) := by decide +kernel
theorem dX6_test_78 : decode cX6_test 78 = .ok (.aload_n 0, 1) := by decide +kernel
theorem dX6_test_79 : decode cX6_test 79 = .ok (.bipush 10, 2) := by decide +kernel
theorem dX6_test_81 : decode cX6_test 81 = .ok (.iconst 0, 1) := by decide +kernel
theorem dX6_test_82 : decode cX6_test 82 = .ok (.invokevirtual 114, 3) := by decide +kernel
theorem dX6_test_85 : decode cX6_test 85 = .ok (.istore 5, 2) := by decide +kernel
theorem dX6_test_87 : decode cX6_test 87 = .ok (.aload_n 0, 1) := by decide +kernel
theorem dX6_test_88 : decode cX6_test 88 = .ok (.iload_n 1, 1) := by decide +kernel
theorem dX6_test_89 : decode cX6_test 89 = .ok (.invokevirtual 117, 3) := by decide +kernel
theorem dX6_test_92 : decode cX6_test 92 = .ok (.istore_n 2, 1) := by decide +kernel
theorem dX6_test_93 : decode cX6_test 93 = .ok (.aload_n 0, 1) := by decide +kernel
theorem dX6_test_94 : decode cX6_test 94 = .ok (.iload 5, 2) := by decide +kernel
theorem dX6_test_96 : decode cX6_test 96 = .ok (.invokevirtual 120, 3) := by decide +kernel
theorem dX6_test_99 : decode cX6_test 99 = .ok (.goto 32, 3) := by decide +kernel
theorem dX6_test_102 : decode cX6_test 102 = .ok (.aload_n 0, 1) := by decide +kernel
theorem dX6_test_103 : decode cX6_test 103 = .ok (.dup, 1) := by decide +kernel
theorem dX6_test_104 : decode cX6_test 104 = .ok (.getfield 46, 3) := by decide +kernel
theorem dX6_test_107 : decode cX6_test 107 = .ok (.iconst 1, 1) := by decide +kernel
theorem dX6_test_108 : decode cX6_test 108 = .ok (.iadd, 1) := by decide +kernel
theorem dX6_test_109 : decode cX6_test 109 = .ok (.putfield 46, 3) := by decide +kernel
theorem dX6_test_112 : decode cX6_test 112 = .ok (.aload_n 0, 1) := by decide +kernel
theorem dX6_test_113 : decode cX6_test 113 = .ok (.iload_n 3, 1) := by decide +kernel
theorem dX6_test_114 : decode cX6_test 114 = .ok (.invokevirtual 120, 3) := by decide +kernel
theorem dX6_test_117 : decode cX6_test 117 = .ok (.aload_n 0, 1) := by decide +kernel
theorem dX6_test_118 : decode cX6_test 118 = .ok (.bipush 11, 2) := by decide +kernel
theorem dX6_test_120 : decode cX6_test 120 = .ok (.iconst 0, 1) := by decide +kernel
theorem dX6_test_121 : decode cX6_test 121 = .ok (.invokevirtual 114, 3) := by decide +kernel
theorem dX6_test_124 : decode cX6_test 124 = .ok (.istore_n 3, 1) := by decide +kernel
theorem dX6_test_125 : decode cX6_test 125 = .ok (.aload_n 0, 1) := by decide +kernel
theorem dX6_test_126 : decode cX6_test 126 = .ok (.iload_n 1, 1) := by decide +kernel
theorem dX6_test_127 : decode cX6_test 127 = .ok (.invokevirtual 117, 3) := by decide +kernel
theorem dX6_test_130 : decode cX6_test 130 = .ok (.istore_n 2, 1) := by decide +kernel
theorem dX6_test_131 : decode cX6_test 131 = .ok (.iinc 4 1, 3) := by decide +kernel
theorem dX6_test_134 : decode cX6_test 134 = .ok (.goto (-123), 3) := by decide +kernel
theorem dX6_test_137 : decode cX6_test 137 = .ok (.aload_n 0, 1) := by decide +kernel
theorem dX6_test_138 : decode cX6_test 138 = .ok (.iload_n 3, 1) := by decide +kernel
theorem dX6_test_139 : decode cX6_test 139 = .ok (.invokevirtual 120, 3) := by decide +kernel
theorem dX6_test_142 : decode cX6_test 142 = .ok (.iload_n 2, 1) := by decide +kernel
theorem dX6_test_143 : decode cX6_test 143 = .ok (.ireturn, 1) := by decide +kernel
abbrev YX6_test : zY := (yX6_test, cX6_test, 6, (Option.some Jvm.ClassFile.FieldType.boolean), [])
theorem dX6_plain_0 : decode cX6_plain 0 = .ok (.iconst 0, 1) := by decide +kernel
theorem dX6_plain_1 : decode cX6_plain 1 = .ok (.istore_n 2, 1) := by decide +kernel
theorem dX6_plain_2 : decode cX6_plain 2 = .ok (.iload_n 2, 1) := by decide +kernel
theorem dX6_plain_3 : decode cX6_plain 3 = .ok (.sipush 400, 3) := by decide +kernel
theorem dX6_plain_6 : decode cX6_plain 6 = .ok (.if_icmp .ge 34, 3) := by decide +kernel
theorem dX6_plain_9 : decode cX6_plain 9 = .ok (.aload_n 0, 1) := by decide +kernel
theorem dX6_plain_10 : decode cX6_plain 10 = .ok (.getfield 9, 3) := by decide +kernel
theorem dX6_plain_13 : decode cX6_plain 13 = .ok (.aload_n 0, 1) := by decide +kernel
theorem dX6_plain_14 : decode cX6_plain 14 = .ok (.getfield 46, 3) := by decide +kernel
theorem dX6_plain_17 : decode cX6_plain 17 = .ok (.iaload, 1) := by decide +kernel
theorem dX6_plain_18 : decode cX6_plain 18 = .ok (.sipush 264, 3) := by decide +kernel
theorem dX6_plain_21 : decode cX6_plain 21 = .ok (.if_icmp .ne 19, 3) := by decide +kernel
theorem dX6_plain_24 : decode cX6_plain 24 = .ok (.aload_n 0, 1) := by decide +kernel
theorem dX6_plain_25 : decode cX6_plain 25 = .ok (.dup, 1) := by decide +kernel
theorem dX6_plain_26 : decode cX6_plain 26 = .ok (.getfield 46, 3) := by decide +kernel
theorem dX6_plain_29 : decode cX6_plain 29 = .ok (.iconst 1, 1) := by decide +kernel
theorem dX6_plain_30 : decode cX6_plain 30 = .ok (.iadd, 1) := by decide +kernel
theorem dX6_plain_31 : decode cX6_plain 31 = .ok (.putfield 46, 3) := by decide +kernel
theorem dX6_plain_34 : decode cX6_plain 34 = .ok (.iinc 2 1, 3) := by decide +kernel
theorem dX6_plain_37 : decode cX6_plain 37 = .ok (.goto (-35), 3) := by decide +kernel
theorem dX6_plain_40 : decode cX6_plain 40 = .ok (.aload_n 0, 1) := by decide +kernel
theorem dX6_plain_41 : decode cX6_plain 41 = .ok (.getfield 9, 3) := by decide +kernel
theorem dX6_plain_44 : decode cX6_plain 44 = .ok (.aload_n 0, 1) := by decide +kernel
theorem dX6_plain_45 : decode cX6_plain 45 = .ok (.getfield 46, 3) := by decide +kernel
theorem dX6_plain_48 : decode cX6_plain 48 = .ok (.iaload, 1) := by decide +kernel
theorem dX6_plain_49 : decode cX6_plain 49 = .ok (.bipush 40, 2) := by decide +kernel
theorem dX6_plain_51 : decode cX6_plain 51 = .ok (.if_icmp .ne 66, 3) := by decide +kernel
theorem dX6_plain_54 : decode cX6_plain 54 = .ok (.iload_n 1, 1) := by decide +kernel
theorem dX6_plain_55 : decode cX6_plain 55 = .ok (.bipush 8, 2) := by decide +kernel
theorem dX6_plain_57 : decode cX6_plain 57 = .ok (.if_icmp .lt 8, 3) := by decide +kernel
theorem dX6_plain_60 : decode cX6_plain 60 = .ok (.aload_n 0, 1) := by decide +kernel
theorem dX6_plain_61 : decode cX6_plain 61 = .ok (.invokevirtual 62, 3) := by decide +kernel
theorem dX6_plain_64 : decode cX6_plain 64 = .ok (.ireturn, 1) := by decide +kernel
theorem dX6_plain_65 : decode cX6_plain 65 = .ok (.aload_n 0, 1) := by decide +kernel
theorem dX6_plain_66 : decode cX6_plain 66 = .ok (.dup, 1) := by decide +kernel
theorem dX6_plain_67 : decode cX6_plain 67 = .ok (.getfield 46, 3) := by decide +kernel
theorem dX6_plain_70 : decode cX6_plain 70 = .ok (.iconst 1, 1) := by decide +kernel
theorem dX6_plain_71 : decode cX6_plain 71 = .ok (.iadd, 1) := by decide +kernel
theorem dX6_plain_72 : decode cX6_plain 72 = .ok (.putfield 46, 3) := by decide +kernel
theorem dX6_plain_75 : decode cX6_plain 75 = .ok (.aload_n 0, 1) := by decide +kernel
theorem dX6_plain_76 : decode cX6_plain 76 = .ok (.iload_n 1, 1) := by decide +kernel
theorem dX6_plain_77 : decode cX6_plain 77 = .ok (.iconst 1, 1) := by decide +kernel
theorem dX6_plain_78 : decode cX6_plain 78 = .ok (.iadd, 1) := by decide +kernel
theorem dX6_plain_79 : decode cX6_plain 79 = .ok (.invokevirtual 111, 3) := by decide +kernel
theorem dX6_plain_82 : decode cX6_plain 82 = .ok (.ifCond .eq 17, 3) := by decide +kernel
theorem dX6_plain_85 : decode cX6_plain 85 = .ok (.aload_n 0, 1) := by decide +kernel
theorem dX6_plain_86 : decode cX6_plain 86 = .ok (.getfield 9, 3) := by decide +kernel
theorem dX6_plain_89 : decode cX6_plain 89 = .ok (.aload_n 0, 1) := by decide +kernel
theorem dX6_plain_90 : decode cX6_plain 90 = .ok (.getfield 46, 3) := by decide +kernel
theorem dX6_plain_93 : decode cX6_plain 93 = .ok (.iaload, 1) := by decide +kernel
theorem dX6_plain_94 : decode cX6_plain 94 = .ok (.bipush 41, 2) := by decide +kernel
theorem dX6_plain_96 : decode cX6_plain 96 = .ok (.if_icmp .eq 8, 3) := by decide +kernel
theorem dX6_plain_99 : decode cX6_plain 99 = .ok (.aload_n 0, 1) := by decide +kernel
theorem dX6_plain_100 : decode cX6_plain 100 = .ok (.invokevirtual 62, 3) := by decide +kernel
theorem dX6_plain_103 : decode cX6_plain 103 = .ok (.ireturn, 1) := by decide +kernel
theorem dX6_plain_104 : decode cX6_plain 104 = .ok (.aload_n 0, 1) := by decide +kernel
theorem dX6_plain_105 : decode cX6_plain 105 = .ok (.dup, 1) := by decide +kernel
theorem dX6_plain_106 : decode cX6_plain 106 = .ok (.getfield 46, 3) := by decide +kernel
theorem dX6_plain_109 : decode cX6_plain 109 = .ok (.iconst 1, 1) := by decide +kernel
theorem dX6_plain_110 : decode cX6_plain 110 = .ok (.iadd, 1) := by decide +kernel
theorem dX6_plain_111 : decode cX6_plain 111 = .ok (.putfield 46, 3) := by decide +kernel
theorem dX6_plain_114 : decode cX6_plain 114 = .ok (.goto 102, 3) := by decide +kernel
theorem dX6_plain_117 : decode cX6_plain 117 = .ok (.aload_n 0, 1) := by decide +kernel
theorem dX6_plain_118 : decode cX6_plain 118 = .ok (.iload_n 1, 1) := by decide +kernel
theorem dX6_plain_119 : decode cX6_plain 119 = .ok (.invokevirtual 108, 3) := by decide +kernel
theorem dX6_plain_122 : decode cX6_plain 122 = .ok (.istore_n 3, 1) := by decide +kernel
theorem dX6_plain_123 : decode cX6_plain 123 = .ok (.aload_n 0, 1) := by decide +kernel
theorem dX6_plain_124 : decode cX6_plain 124 = .ok (.getfield 9, 3) := by decide +kernel
theorem dX6_plain_127 : decode cX6_plain 127 = .ok (.aload_n 0, 1) := by decide +kernel
theorem dX6_plain_128 : decode cX6_plain 128 = .ok (.getfield 46, 3) := by decide +kernel
theorem dX6_plain_131 : decode cX6_plain 131 = .ok (.iaload, 1) := by decide +kernel
theorem dX6_plain_132 : decode cX6_plain 132 = .ok (.istore 4, 2) := by decide +kernel
theorem dX6_plain_134 : decode cX6_plain 134 = .ok (.iload_n 3, 1) := by decide +kernel
theorem dX6_plain_135 : decode cX6_plain 135 = .ok (.ifCond .eq 24, 3) := by decide +kernel
theorem dX6_plain_138 : decode cX6_plain 138 = .ok (.iload 4, 2) := by decide +kernel
theorem dX6_plain_140 : decode cX6_plain 140 = .ok (.bipush 60, 2) := by decide +kernel
theorem dX6_plain_142 : decode cX6_plain 142 = .ok (.if_icmp .eq 22, 3) := by decide +kernel
theorem dX6_plain_145 : decode cX6_plain 145 = .ok (.iload 4, 2) := by decide +kernel
theorem dX6_plain_147 : decode cX6_plain 147 = .ok (.bipush 62, 2) := by decide +kernel
theorem dX6_plain_149 : decode cX6_plain 149 = .ok (.if_icmp .eq 15, 3) := by decide +kernel
theorem dX6_plain_152 : decode cX6_plain 152 = .ok (.iload 4, 2) := by decide +kernel
theorem dX6_plain_154 : decode cX6_plain 154 = .ok (.bipush 61, 2) := by decide +kernel
theorem dX6_plain_156 : decode cX6_plain 156 = .ok (.if_icmp .eq 8, 3) := by decide +kernel
theorem dX6_plain_159 : decode cX6_plain 159 = .ok (.aload_n 0, 1) := by decide +kernel
theorem dX6_plain_160 : decode cX6_plain 160 = .ok (.invokevirtual 62, 3) := by decide +kernel
theorem dX6_plain_163 : decode cX6_plain 163 = .ok (.ireturn, 1) := by decide +kernel
theorem dX6_plain_164 : decode cX6_plain 164 = .ok (.aload_n 0, 1) := by decide +kernel
theorem dX6_plain_165 : decode cX6_plain 165 = .ok (.dup, 1) := by decide +kernel
theorem dX6_plain_166 : decode cX6_plain 166 = .ok (.getfield 46, 3) := by decide +kernel
theorem dX6_plain_169 : decode cX6_plain 169 = .ok (.iconst 1, 1) := by decide +kernel
theorem dX6_plain_170 : decode cX6_plain 170 = .ok (.iadd, 1) := by decide +kernel
theorem dX6_plain_171 : decode cX6_plain 171 = .ok (.putfield 46, 3) := by decide +kernel
theorem dX6_plain_174 : decode cX6_plain 174 = .ok (.aload_n 0, 1) := by decide +kernel
theorem dX6_plain_175 : decode cX6_plain 175 = .ok (.iload_n 1, 1) := by decide +kernel
theorem dX6_plain_176 : decode cX6_plain 176 = .ok (.invokevirtual 108, 3) := by decide +kernel
theorem dX6_plain_179 : decode cX6_plain 179 = .ok (.ifCond .ne 5, 3) := by decide +kernel
theorem dX6_plain_182 : decode cX6_plain 182 = .ok (.iconst 0, 1) := by decide +kernel
theorem dX6_plain_183 : decode cX6_plain 183 = .ok (.ireturn, 1) := by decide +kernel
theorem dX6_plain_184 : decode cX6_plain 184 = .ok (.aload_n 0, 1) := by decide +kernel
theorem dX6_plain_185 : decode cX6_plain 185 = .ok (.iload 4, 2) := by decide +kernel
theorem dX6_plain_187 : decode cX6_plain 187 = .ok (.bipush 60, 2) := by decide +kernel
theorem dX6_plain_189 : decode cX6_plain 189 = .ok (.if_icmp .ne 8, 3) := by decide +kernel
theorem dX6_plain_192 : decode cX6_plain 192 = .ok (.bipush 6, 2) := by decide +kernel
theorem dX6_plain_194 : decode cX6_plain 194 = .ok (.goto 17, 3) := by decide +kernel
theorem dX6_plain_197 : decode cX6_plain 197 = .ok (.iload 4, 2) := by decide +kernel
theorem dX6_plain_199 : decode cX6_plain 199 = .ok (.bipush 62, 2) := by decide +kernel
theorem dX6_plain_201 : decode cX6_plain 201 = .ok (.if_icmp .ne 8, 3) := by decide +kernel
theorem dX6_plain_204 : decode cX6_plain 204 = .ok (.bipush 7, 2) := by decide +kernel
theorem dX6_plain_206 : decode cX6_plain 206 = .ok (.goto 5, 3) := by decide +kernel
theorem dX6_plain_209 : decode cX6_plain 209 = .ok (.bipush 8, 2) := by decide +kernel
theorem dX6_plain_211 : decode cX6_plain 211 = .ok (.iconst 0, 1) := by decide +kernel
theorem dX6_plain_212 : decode cX6_plain 212 = .ok (.invokevirtual 114, 3) := by decide +kernel
theorem dX6_plain_215 : decode cX6_plain 215 = .ok (.pop, 1) := by decide +kernel
theorem dX6_plain_216 : decode cX6_plain 216 = .ok (.iload_n 2, 1) := by decide +kernel
theorem dX6_plain_217 : decode cX6_plain 217 = .ok (.iconst 2, 1) := by decide +kernel
theorem dX6_plain_218 : decode cX6_plain 218 = .ok (.irem, 1) := by decide +kernel
theorem dX6_plain_219 : decode cX6_plain 219 = .ok (.iconst 1, 1) := by decide +kernel
theorem dX6_plain_220 : decode cX6_plain 220 = .ok (.if_icmp .ne 11, 3) := by decide +kernel
theorem dX6_plain_223 : decode cX6_plain 223 = .ok (.aload_n 0, 1) := by decide +kernel
theorem dX6_plain_224 : decode cX6_plain 224 = .ok (.bipush 9, 2) := by decide +kernel
theorem dX6_plain_226 : decode cX6_plain 226 = .ok (.iconst 0, 1) := by decide +kernel
theorem dX6_plain_227 : decode cX6_plain 227 = .ok (.invokevirtual 114, 3) := by decide +kernel
theorem dX6_plain_230 : decode cX6_plain 230 = .ok (.pop, 1) := by decide +kernel
theorem dX6_plain_231 : decode cX6_plain 231 = .ok (.iconst 1, 1) := by decide +kernel
theorem dX6_plain_232 : decode cX6_plain 232 = .ok (.ireturn, 1) := by decide +kernel
abbrev YX6_plain : zY := (yX6_plain, cX6_plain, 5, (Option.some Jvm.ClassFile.FieldType.boolean), [])
def fX6_test_137 (F : zFs) (rec : Nat → Int → Int → zDa → Option (Int × zDa))  (v2 : Int) (v3 : Int) (D : zDa) : Option (Int × zDa) :=
  (fX6_leadHere F v3 D).bind (fun D_4 =>
    if (v2 = 0 ∨ v2 = 1) then
      some (v2, D_4)
    else none)
def fX6_test_131 (F : zFs) (rec : Nat → Int → Int → zDa → Option (Int × zDa)) (k_11 : Int → Int → Int → zDa → Option (Int × zDa)) (o1 : Int) (v2 : Int) (v3 : Int) (v4 : Int) (D : zDa) : Option (Int × zDa) :=
  if (-2147483648 ≤ v4 + 1 ∧ v4 + 1 ≤ 2147483647) then
    k_11 v2 v3 (v4 + 1) D
  else none
def fX6_test_53 (F : zFs) (rec : Nat → Int → Int → zDa → Option (Int × zDa)) (k_11 : Int → Int → Int → zDa → Option (Int × zDa)) (o1 : Int) (v3 : Int) (v4 : Int) (D : zDa) : Option (Int × zDa) :=
  if (0 ≤ (D 42 3) ∧ (D 42 3) < 401) then
    if (D 43 (D 42 3).toNat) = 263 then
      if (-2147483648 ≤ (D 42 3) + 1 ∧ (D 42 3) + 1 ≤ 2147483647) then
        zlet (zwr D 42 3 ((D 42 3) + 1)) (fun D_5 =>
          (fX6_emit F 10 0 D_5).bind (fun (r_6, D_7) =>
            (rec 1 o1 0 D_7).bind (fun (r_8, D_9) =>
              (fX6_leadHere F r_6 D_9).bind (fun D_11 =>
                fX6_test_131 F rec k_11 o1 r_8 v3 v4 D_11))))
      else none
    else
      if (-2147483648 ≤ (D 42 3) + 1 ∧ (D 42 3) + 1 ≤ 2147483647) then
        zlet (zwr D 42 3 ((D 42 3) + 1)) (fun D_12 =>
          (fX6_leadHere F v3 D_12).bind (fun D_14 =>
            (fX6_emit F 11 0 D_14).bind (fun (r_15, D_16) =>
              (rec 1 o1 0 D_16).bind (fun (r_17, D_18) =>
                fX6_test_131 F rec k_11 o1 r_17 r_15 v4 D_18))))
      else none
  else none
def fX6_test_11 (F : zFs) (rec : Nat → Int → Int → zDa → Option (Int × zDa)) (o1 : Int)  (k_11 : Int → Int → Int → zDa → Option (Int × zDa)) (v2 : Int) (v3 : Int) (v4 : Int) (D : zDa) : Option (Int × zDa) :=
  if v4 < 400 then
    if v2 = 0 then
      fX6_test_137 F rec v2 v3 D
    else
      if (0 ≤ (D 42 3) ∧ (D 42 3) < 401) then
        if (D 43 (D 42 3).toNat) = 263 then
          fX6_test_53 F rec k_11 o1 v3 v4 D
        else
          if (D 43 (D 42 3).toNat) = 262 then
            fX6_test_53 F rec k_11 o1 v3 v4 D
          else
            fX6_test_137 F rec v2 v3 D
      else none
  else
    fX6_test_137 F rec v2 v3 D
def bX6_test (F : zFs) (rec : Nat → Int → Int → zDa → Option (Int × zDa)) (v1 : Int) (D : zDa) : Option (Int × zDa) :=
  (rec 1 v1 0 D).bind (fun (r_1, D_2) =>
    zfix (fun _ _ _ _ => none) (fX6_test_11 F rec v1) zfu r_1 (-1) 0 D_2)
set_option maxHeartbeats 20000000 in
theorem sX6_test_137 {l : Launch} {E : zE} {d : Nat} {F : zFs} {n sl : Nat} (hG : zG F) (rec : Nat → Int → Int → zDa → Option (Int × zDa)) (hr0 : ∀ (a b : Int) (D : zDa) r, rec 0 a b D = some r → zMet l E (d + 43) YX6_test [zR 42, zI a] (F, D, n, sl) (zcI F n sl r)) (hr1 : ∀ (a b : Int) (D : zDa) r, rec 1 a b D = some r → zMet l E (d + 43) YX6_plain [zR 42, zI a] (F, D, n, sl) (zcI F n sl r))  (v2 : Int) (v3 : Int)   (D : zDa) : zO l E (d + 44) YX6_test 137 [(0, zR 42), (2, zI v2), (3, zI v3)] [] (F, D, n, sl) (zcI F n sl) (fX6_test_137 F rec v2 v3 D) := by
  unfold fX6_test_137
  refine zO_aload_n dX6_test_137 rfl (zR_P _) ?_
  refine zO_iload_n dX6_test_138 rfl ?_
  refine zO_callV (Y' := YX6_leadHere) (cw := zcV F n sl) (as := [zI v3]) (rest := []) (na := 1) (ci := 6) rfl dX6_test_139 wC_X6_leadHere wN_X6 wM_X6_120 wI_X6_leadHere wV_X6_leadHere (by decide) (by decide) rfl rfl (Nat.le_of_ble_eq_true rfl) rfl (by decide) (gk_42 hG) (fun r hr => zMet_cast (Nat.add_assoc d 43 0) (mX6_leadHere (d := d + 43) hG v3 r hr)) ?_
  intro D_4 _
  show zO _ _ _ _ _ _ [] (F, D_4, n, sl) _ _
  refine zO_chk (fun h1 => ?_)
  refine zO_iload_n dX6_test_142 rfl ?_
  exact zO_ret (rv := some (zI v2)) dX6_test_143 rfl (zretok_z h1) rfl
set_option maxHeartbeats 20000000 in
theorem sX6_test_131 {l : Launch} {E : zE} {d : Nat} {F : zFs} {n sl : Nat} (hG : zG F) (rec : Nat → Int → Int → zDa → Option (Int × zDa)) (hr0 : ∀ (a b : Int) (D : zDa) r, rec 0 a b D = some r → zMet l E (d + 43) YX6_test [zR 42, zI a] (F, D, n, sl) (zcI F n sl r)) (hr1 : ∀ (a b : Int) (D : zDa) r, rec 1 a b D = some r → zMet l E (d + 43) YX6_plain [zR 42, zI a] (F, D, n, sl) (zcI F n sl r))  (o1 : Int) (v2 : Int) (v3 : Int) (v4 : Int) (k_11 : Int → Int → Int → zDa → Option (Int × zDa)) (hk_11 : ∀ (u2 : Int) (u3 : Int) (u4 : Int) (D : zDa), zO l E (d + 44) YX6_test 11 [(0, zR 42), (1, zI o1), (2, zI u2), (3, zI u3), (4, zI u4)] [] (F, D, n, sl) (zcI F n sl) (k_11 u2 u3 u4 D)) (D : zDa) : zO l E (d + 44) YX6_test 131 [(0, zR 42), (1, zI o1), (2, zI v2), (3, zI v3), (4, zI v4)] [] (F, D, n, sl) (zcI F n sl) (fX6_test_131 F rec k_11 o1 v2 v3 v4 D) := by
  unfold fX6_test_131
  refine zO_chk (fun h5 => ?_)
  refine zO_iinc dX6_test_131 rfl h5 (by decide) ?_
  refine zO_ls (ls' := [(0, zR 42), (1, zI o1), (2, zI v2), (3, zI v3), (4, zI (v4 + 1))]) rfl ?_
  refine zO_goto (tgt := 11) dX6_test_134 rfl ?_
  refine zO_live [0, 1, 2, 3, 4] ?_
  exact hk_11 v2 v3 (v4 + 1) D
set_option maxHeartbeats 20000000 in
theorem sX6_test_53 {l : Launch} {E : zE} {d : Nat} {F : zFs} {n sl : Nat} (hG : zG F) (rec : Nat → Int → Int → zDa → Option (Int × zDa)) (hr0 : ∀ (a b : Int) (D : zDa) r, rec 0 a b D = some r → zMet l E (d + 43) YX6_test [zR 42, zI a] (F, D, n, sl) (zcI F n sl r)) (hr1 : ∀ (a b : Int) (D : zDa) r, rec 1 a b D = some r → zMet l E (d + 43) YX6_plain [zR 42, zI a] (F, D, n, sl) (zcI F n sl r))  (o1 : Int) (v3 : Int) (v4 : Int) (k_11 : Int → Int → Int → zDa → Option (Int × zDa)) (hk_11 : ∀ (u2 : Int) (u3 : Int) (u4 : Int) (D : zDa), zO l E (d + 44) YX6_test 11 [(0, zR 42), (1, zI o1), (2, zI u2), (3, zI u3), (4, zI u4)] [] (F, D, n, sl) (zcI F n sl) (k_11 u2 u3 u4 D)) (D : zDa) : zO l E (d + 44) YX6_test 53 [(0, zR 42), (1, zI o1), (3, zI v3), (4, zI v4)] [] (F, D, n, sl) (zcI F n sl) (fX6_test_53 F rec k_11 o1 v3 v4 D) := by
  unfold fX6_test_53
  refine zO_chk (fun h3 => ?_)
  refine zO_aload_n dX6_test_53 rfl (zR_P _) ?_
  refine gt6 (k := 0) dX6_test_54 wF_X6_9 (by decide) (gk_42 hG) (zgv (c := 6) (k := 0) rfl (Or.inl ⟨_, rfl⟩) (gf_42_0 hG)) ?_
  refine zO_aload_n dX6_test_57 rfl (zR_P _) ?_
  refine gt6 (k := 3) (v := zI (D 42 3)) dX6_test_58 wF_X6_46 (by decide) (gk_42 hG) rfl ?_
  refine zO_iald dX6_test_61 (gk_43 hG) (gl_in (gl_43 hG) h3) ?_
  refine zO_sipush dX6_test_62 (by decide) ?_
  refine zO_icmp_ne (tgt := 102) dX6_test_65 rfl (fun c65 => ?_) (fun c65 => ?_)
  · refine zO_chk (fun h4 => ?_)
    refine zO_aload_n dX6_test_68 rfl (zR_P _) ?_
    refine zO_dup dX6_test_69 (rfl) ?_
    refine gt6 (k := 3) (v := zI (D 42 3)) dX6_test_70 wF_X6_46 (by decide) (gk_42 hG) rfl ?_
    refine zO_iconst dX6_test_73 (by decide) ?_
    refine zO_iadd dX6_test_74 h4 ?_
    refine ptI6 (k := 3) (z := ((D 42 3) + 1)) dX6_test_75 wF_X6_46 (by decide) rfl (gk_42 hG) rfl ?_
    refine zO_letD (fun D_5 eD_5 => ?_)
    refine zO_aload_n dX6_test_78 rfl (zR_P _) ?_
    refine zO_bipush dX6_test_79 (by decide) ?_
    refine zO_iconst dX6_test_81 (by decide) ?_
    refine zO_callV (Y' := YX6_emit) (cw := zcI F n sl) (as := [zI 10, zI 0]) (rest := []) (na := 2) (ci := 6) rfl dX6_test_82 wC_X6_emit wN_X6 wM_X6_114 wI_X6_emit wV_X6_emit (by decide) (by decide) rfl rfl (Nat.le_of_ble_eq_true rfl) rfl (by decide) (gk_42 hG) (fun r hr => zMet_cast (Nat.add_assoc d 43 0) (mX6_emit (d := d + 43) hG 10 0 r hr)) ?_
    rintro ⟨r_6, D_7⟩ -
    show zO _ _ _ _ _ _ [zI r_6] (F, D_7, n, sl) _ _
    refine zO_istore dX6_test_85 (by decide) ?_
    refine zO_ls (ls' := [(0, zR 42), (1, zI o1), (3, zI v3), (4, zI v4), (5, zI r_6)]) rfl ?_
    refine zO_aload_n dX6_test_87 rfl (zR_P _) ?_
    refine zO_iload_n dX6_test_88 rfl ?_
    refine zO_callV (Y' := YX6_plain) (cw := zcI F n sl) (as := [zI o1]) (rest := []) (na := 1) (ci := 6) rfl dX6_test_89 wC_X6_plain wN_X6 wM_X6_117 wI_X6_plain wV_X6_plain (by decide) (by decide) rfl rfl (Nat.le_of_ble_eq_true rfl) rfl (by decide) (gk_42 hG) (fun r hr => hr1 o1 0 _ r hr) ?_
    rintro ⟨r_8, D_9⟩ -
    show zO _ _ _ _ _ _ [zI r_8] (F, D_9, n, sl) _ _
    refine zO_istore_n dX6_test_92 (by decide) ?_
    refine zO_ls (ls' := [(0, zR 42), (1, zI o1), (2, zI r_8), (3, zI v3), (4, zI v4), (5, zI r_6)]) rfl ?_
    refine zO_aload_n dX6_test_93 rfl (zR_P _) ?_
    refine zO_iload dX6_test_94 rfl ?_
    refine zO_callV (Y' := YX6_leadHere) (cw := zcV F n sl) (as := [zI r_6]) (rest := []) (na := 1) (ci := 6) rfl dX6_test_96 wC_X6_leadHere wN_X6 wM_X6_120 wI_X6_leadHere wV_X6_leadHere (by decide) (by decide) rfl rfl (Nat.le_of_ble_eq_true rfl) rfl (by decide) (gk_42 hG) (fun r hr => zMet_cast (Nat.add_assoc d 43 0) (mX6_leadHere (d := d + 43) hG r_6 r hr)) ?_
    intro D_11 _
    show zO _ _ _ _ _ _ [] (F, D_11, n, sl) _ _
    refine zO_goto (tgt := 131) dX6_test_99 rfl ?_
    refine zO_live [0, 1, 2, 3, 4] ?_
    exact sX6_test_131 hG rec hr0 hr1 o1 r_8 v3 v4 _ hk_11 D_11
  · refine zO_chk (fun h6 => ?_)
    refine zO_aload_n dX6_test_102 rfl (zR_P _) ?_
    refine zO_dup dX6_test_103 (rfl) ?_
    refine gt6 (k := 3) (v := zI (D 42 3)) dX6_test_104 wF_X6_46 (by decide) (gk_42 hG) rfl ?_
    refine zO_iconst dX6_test_107 (by decide) ?_
    refine zO_iadd dX6_test_108 h6 ?_
    refine ptI6 (k := 3) (z := ((D 42 3) + 1)) dX6_test_109 wF_X6_46 (by decide) rfl (gk_42 hG) rfl ?_
    refine zO_letD (fun D_12 eD_12 => ?_)
    refine zO_aload_n dX6_test_112 rfl (zR_P _) ?_
    refine zO_iload_n dX6_test_113 rfl ?_
    refine zO_callV (Y' := YX6_leadHere) (cw := zcV F n sl) (as := [zI v3]) (rest := []) (na := 1) (ci := 6) rfl dX6_test_114 wC_X6_leadHere wN_X6 wM_X6_120 wI_X6_leadHere wV_X6_leadHere (by decide) (by decide) rfl rfl (Nat.le_of_ble_eq_true rfl) rfl (by decide) (gk_42 hG) (fun r hr => zMet_cast (Nat.add_assoc d 43 0) (mX6_leadHere (d := d + 43) hG v3 r hr)) ?_
    intro D_14 _
    show zO _ _ _ _ _ _ [] (F, D_14, n, sl) _ _
    refine zO_aload_n dX6_test_117 rfl (zR_P _) ?_
    refine zO_bipush dX6_test_118 (by decide) ?_
    refine zO_iconst dX6_test_120 (by decide) ?_
    refine zO_callV (Y' := YX6_emit) (cw := zcI F n sl) (as := [zI 11, zI 0]) (rest := []) (na := 2) (ci := 6) rfl dX6_test_121 wC_X6_emit wN_X6 wM_X6_114 wI_X6_emit wV_X6_emit (by decide) (by decide) rfl rfl (Nat.le_of_ble_eq_true rfl) rfl (by decide) (gk_42 hG) (fun r hr => zMet_cast (Nat.add_assoc d 43 0) (mX6_emit (d := d + 43) hG 11 0 r hr)) ?_
    rintro ⟨r_15, D_16⟩ -
    show zO _ _ _ _ _ _ [zI r_15] (F, D_16, n, sl) _ _
    refine zO_istore_n dX6_test_124 (by decide) ?_
    refine zO_ls (ls' := [(0, zR 42), (1, zI o1), (3, zI r_15), (4, zI v4)]) rfl ?_
    refine zO_aload_n dX6_test_125 rfl (zR_P _) ?_
    refine zO_iload_n dX6_test_126 rfl ?_
    refine zO_callV (Y' := YX6_plain) (cw := zcI F n sl) (as := [zI o1]) (rest := []) (na := 1) (ci := 6) rfl dX6_test_127 wC_X6_plain wN_X6 wM_X6_117 wI_X6_plain wV_X6_plain (by decide) (by decide) rfl rfl (Nat.le_of_ble_eq_true rfl) rfl (by decide) (gk_42 hG) (fun r hr => hr1 o1 0 _ r hr) ?_
    rintro ⟨r_17, D_18⟩ -
    show zO _ _ _ _ _ _ [zI r_17] (F, D_18, n, sl) _ _
    refine zO_istore_n dX6_test_130 (by decide) ?_
    refine zO_ls (ls' := [(0, zR 42), (1, zI o1), (2, zI r_17), (3, zI r_15), (4, zI v4)]) rfl ?_
    refine zO_live [0, 1, 2, 3, 4] ?_
    exact sX6_test_131 hG rec hr0 hr1 o1 r_17 r_15 v4 _ hk_11 D_18
set_option maxHeartbeats 20000000 in
theorem sX6_test_11 {l : Launch} {E : zE} {d : Nat} {F : zFs} {n sl : Nat} (hG : zG F) (rec : Nat → Int → Int → zDa → Option (Int × zDa)) (hr0 : ∀ (a b : Int) (D : zDa) r, rec 0 a b D = some r → zMet l E (d + 43) YX6_test [zR 42, zI a] (F, D, n, sl) (zcI F n sl r)) (hr1 : ∀ (a b : Int) (D : zDa) r, rec 1 a b D = some r → zMet l E (d + 43) YX6_plain [zR 42, zI a] (F, D, n, sl) (zcI F n sl r))  (o1 : Int)   : ∀ (N : Nat) (v2 : Int) (v3 : Int) (v4 : Int) (D : zDa), zO l E (d + 44) YX6_test 11 [(0, zR 42), (1, zI o1), (2, zI v2), (3, zI v3), (4, zI v4)] [] (F, D, n, sl) (zcI F n sl) (zfix (fun _ _ _ _ => none) (fX6_test_11 F rec o1) N v2 v3 v4 D) := by
  intro N
  induction N with
  | zero => intro v2 v3 v4 D; exact zO_none
  | succ N hk_11 =>
    intro v2 v3 v4 D
    show zO _ _ _ _ _ _ _ _ _ ((fX6_test_11 F rec o1) (zfix (fun _ _ _ _ => none) (fX6_test_11 F rec o1) N) v2 v3 v4 D)
    unfold fX6_test_11
    refine zO_iload dX6_test_11 rfl ?_
    refine zO_sipush dX6_test_13 (by decide) ?_
    refine zO_icmp_ge (tgt := 137) dX6_test_16 rfl (fun c16 => ?_) (fun c16 => ?_)
    · refine zO_iload_n dX6_test_19 rfl ?_
      refine zO_if_eq (tgt := 137) dX6_test_20 rfl (fun c20 => ?_) (fun c20 => ?_)
      · refine zO_live [0, 2, 3] ?_
        exact sX6_test_137 hG rec hr0 hr1 v2 v3 D
      · refine zO_chk (fun h2 => ?_)
        refine zO_aload_n dX6_test_23 rfl (zR_P _) ?_
        refine gt6 (k := 0) dX6_test_24 wF_X6_9 (by decide) (gk_42 hG) (zgv (c := 6) (k := 0) rfl (Or.inl ⟨_, rfl⟩) (gf_42_0 hG)) ?_
        refine zO_aload_n dX6_test_27 rfl (zR_P _) ?_
        refine gt6 (k := 3) (v := zI (D 42 3)) dX6_test_28 wF_X6_46 (by decide) (gk_42 hG) rfl ?_
        refine zO_iald dX6_test_31 (gk_43 hG) (gl_in (gl_43 hG) h2) ?_
        refine zO_sipush dX6_test_32 (by decide) ?_
        refine zO_icmp_eq (tgt := 53) dX6_test_35 rfl (fun c35 => ?_) (fun c35 => ?_)
        · refine zO_live [0, 1, 3, 4] ?_
          exact sX6_test_53 hG rec hr0 hr1 o1 v3 v4 _ hk_11 D
        · refine zO_aload_n dX6_test_38 rfl (zR_P _) ?_
          refine gt6 (k := 0) dX6_test_39 wF_X6_9 (by decide) (gk_42 hG) (zgv (c := 6) (k := 0) rfl (Or.inl ⟨_, rfl⟩) (gf_42_0 hG)) ?_
          refine zO_aload_n dX6_test_42 rfl (zR_P _) ?_
          refine gt6 (k := 3) (v := zI (D 42 3)) dX6_test_43 wF_X6_46 (by decide) (gk_42 hG) rfl ?_
          refine zO_iald dX6_test_46 (gk_43 hG) (gl_in (gl_43 hG) h2) ?_
          refine zO_sipush dX6_test_47 (by decide) ?_
          refine zO_icmp_ne (tgt := 137) dX6_test_50 rfl (fun c50 => ?_) (fun c50 => ?_)
          · refine zO_live [0, 1, 3, 4] ?_
            exact sX6_test_53 hG rec hr0 hr1 o1 v3 v4 _ hk_11 D
          · refine zO_live [0, 2, 3] ?_
            exact sX6_test_137 hG rec hr0 hr1 v2 v3 D
    · refine zO_live [0, 2, 3] ?_
      exact sX6_test_137 hG rec hr0 hr1 v2 v3 D
set_option maxHeartbeats 20000000 in
theorem mbX6_test {l : Launch} {E : zE} {d : Nat} {F : zFs} {n sl : Nat} (hG : zG F) (rec : Nat → Int → Int → zDa → Option (Int × zDa)) (hr0 : ∀ (a b : Int) (D : zDa) r, rec 0 a b D = some r → zMet l E (d + 43) YX6_test [zR 42, zI a] (F, D, n, sl) (zcI F n sl r)) (hr1 : ∀ (a b : Int) (D : zDa) r, rec 1 a b D = some r → zMet l E (d + 43) YX6_plain [zR 42, zI a] (F, D, n, sl) (zcI F n sl r)) (v1 : Int) {D : zDa} : ∀ r, bX6_test F rec v1 D = some r → zMet l E (d + 44) YX6_test [zR 42, zI v1] (F, D, n, sl) (zcI F n sl r) := by
  intro r hr
  refine zMet_of (plainFor_of_name (by decide)) (fun _ h => (nomatch h)) (Nat.le_of_ble_eq_true rfl) ?_
  have hz : zO l E (d + 44) YX6_test 0 [(0, zR 42), (1, zI v1)] [] (F, D, n, sl) (zcI F n sl) (bX6_test F rec v1 D) := by
    unfold bX6_test
    refine zO_aload_n dX6_test_0 rfl (zR_P _) ?_
    refine zO_iload_n dX6_test_1 rfl ?_
    refine zO_callV (Y' := YX6_plain) (cw := zcI F n sl) (as := [zI v1]) (rest := []) (na := 1) (ci := 6) rfl dX6_test_2 wC_X6_plain wN_X6 wM_X6_117 wI_X6_plain wV_X6_plain (by decide) (by decide) rfl rfl (Nat.le_of_ble_eq_true rfl) rfl (by decide) (gk_42 hG) (fun r hr => hr1 v1 0 _ r hr) ?_
    rintro ⟨r_1, D_2⟩ -
    show zO _ _ _ _ _ _ [zI r_1] (F, D_2, n, sl) _ _
    refine zO_istore_n dX6_test_5 (by decide) ?_
    refine zO_ls (ls' := [(0, zR 42), (1, zI v1), (2, zI r_1)]) rfl ?_
    refine zO_iconst dX6_test_6 (by decide) ?_
    refine zO_istore_n dX6_test_7 (by decide) ?_
    refine zO_ls (ls' := [(0, zR 42), (1, zI v1), (2, zI r_1), (3, zI (-1))]) rfl ?_
    refine zO_iconst dX6_test_8 (by decide) ?_
    refine zO_istore dX6_test_9 (by decide) ?_
    refine zO_ls (ls' := [(0, zR 42), (1, zI v1), (2, zI r_1), (3, zI (-1)), (4, zI 0)]) rfl ?_
    refine zO_live [0, 1, 2, 3, 4] ?_
    exact sX6_test_11 hG rec hr0 hr1 v1 zfu r_1 (-1) 0 D_2
  exact hz r hr
def fX6_plain_99 (F : zFs) (rec : Nat → Int → Int → zDa → Option (Int × zDa))   (D : zDa) : Option (Int × zDa) :=
  (fX6_fail F D).bind (fun (r_5, D_6) =>
    if (r_5 = 0 ∨ r_5 = 1) then
      some (r_5, D_6)
    else none)
def fX6_plain_216 (F : zFs) (rec : Nat → Int → Int → zDa → Option (Int × zDa))  (v2 : Int) (D : zDa) : Option (Int × zDa) :=
  if (Int.tmod v2 2) = 1 then
    (fX6_emit F 9 0 D).bind (fun (r_8, D_9) =>
      some (1, D_9))
  else
    some (1, D)
def fX6_plain_159 (F : zFs) (rec : Nat → Int → Int → zDa → Option (Int × zDa))   (D : zDa) : Option (Int × zDa) :=
  (fX6_fail F D).bind (fun (r_15, D_16) =>
    if (r_15 = 0 ∨ r_15 = 1) then
      some (r_15, D_16)
    else none)
def fX6_plain_211 (F : zFs) (rec : Nat → Int → Int → zDa → Option (Int × zDa))  (v2 : Int) (s0 : Int) (D : zDa) : Option (Int × zDa) :=
  (fX6_emit F s0 0 D).bind (fun (r_20, D_21) =>
    fX6_plain_216 F rec v2 D_21)
def fX6_plain_164 (F : zFs) (rec : Nat → Int → Int → zDa → Option (Int × zDa))  (o1 : Int) (v2 : Int) (v4 : Int) (D : zDa) : Option (Int × zDa) :=
  if (-2147483648 ≤ (D 42 3) + 1 ∧ (D 42 3) + 1 ≤ 2147483647) then
    zlet (zwr D 42 3 ((D 42 3) + 1)) (fun D_17 =>
      (fX6_sum F o1 D_17).bind (fun (r_18, D_19) =>
        if r_18 = 0 then
          some (0, D_19)
        else
          if v4 = 60 then
            fX6_plain_211 F rec v2 6 D_19
          else
            if v4 = 62 then
              fX6_plain_211 F rec v2 7 D_19
            else
              fX6_plain_211 F rec v2 8 D_19))
  else none
def fX6_plain_40 (F : zFs) (rec : Nat → Int → Int → zDa → Option (Int × zDa))  (o1 : Int) (v2 : Int) (D : zDa) : Option (Int × zDa) :=
  if (0 ≤ (D 42 3) ∧ (D 42 3) < 401) then
    if (D 43 (D 42 3).toNat) = 40 then
      if o1 < 8 then
        if (-2147483648 ≤ (D 42 3) + 1 ∧ (D 42 3) + 1 ≤ 2147483647) then
          zlet (zwr D 42 3 ((D 42 3) + 1)) (fun D_2 =>
            if (-2147483648 ≤ o1 + 1 ∧ o1 + 1 ≤ 2147483647) then
              (rec 0 (o1 + 1) 0 D_2).bind (fun (r_3, D_4) =>
                if r_3 = 0 then
                  fX6_plain_99 F rec D_4
                else
                  if (0 ≤ (D_4 42 3) ∧ (D_4 42 3) < 401) then
                    if (D_4 43 (D_4 42 3).toNat) = 41 then
                      if (-2147483648 ≤ (D_4 42 3) + 1 ∧ (D_4 42 3) + 1 ≤ 2147483647) then
                        zlet (zwr D_4 42 3 ((D_4 42 3) + 1)) (fun D_7 =>
                          fX6_plain_216 F rec v2 D_7)
                      else none
                    else
                      fX6_plain_99 F rec D_4
                  else none)
            else none)
        else none
      else
        (fX6_fail F D).bind (fun (r_10, D_11) =>
          if (r_10 = 0 ∨ r_10 = 1) then
            some (r_10, D_11)
          else none)
    else
      (fX6_sum F o1 D).bind (fun (r_12, D_13) =>
        if (0 ≤ (D_13 42 3) ∧ (D_13 42 3) < 401) then
          zlet ((D_13 43 (D_13 42 3).toNat)) (fun x4_14 =>
            if r_12 = 0 then
              fX6_plain_159 F rec D_13
            else
              if x4_14 = 60 then
                fX6_plain_164 F rec o1 v2 x4_14 D_13
              else
                if x4_14 = 62 then
                  fX6_plain_164 F rec o1 v2 x4_14 D_13
                else
                  if x4_14 = 61 then
                    fX6_plain_164 F rec o1 v2 x4_14 D_13
                  else
                    fX6_plain_159 F rec D_13)
        else none)
  else none
def fX6_plain_2 (F : zFs) (rec : Nat → Int → Int → zDa → Option (Int × zDa)) (o1 : Int)  (k_2 : Int → zDa → Option (Int × zDa)) (v2 : Int) (D : zDa) : Option (Int × zDa) :=
  if v2 < 400 then
    if (0 ≤ (D 42 3) ∧ (D 42 3) < 401) then
      if (D 43 (D 42 3).toNat) = 264 then
        if (-2147483648 ≤ (D 42 3) + 1 ∧ (D 42 3) + 1 ≤ 2147483647) then
          zlet (zwr D 42 3 ((D 42 3) + 1)) (fun D_1 =>
            if (-2147483648 ≤ v2 + 1 ∧ v2 + 1 ≤ 2147483647) then
              k_2 (v2 + 1) D_1
            else none)
        else none
      else
        fX6_plain_40 F rec o1 v2 D
    else none
  else
    fX6_plain_40 F rec o1 v2 D
def bX6_plain (F : zFs) (rec : Nat → Int → Int → zDa → Option (Int × zDa)) (v1 : Int) (D : zDa) : Option (Int × zDa) :=
  zfix (fun _ _ => none) (fX6_plain_2 F rec v1) zfu 0 D
set_option maxHeartbeats 20000000 in
theorem sX6_plain_99 {l : Launch} {E : zE} {d : Nat} {F : zFs} {n sl : Nat} (hG : zG F) (rec : Nat → Int → Int → zDa → Option (Int × zDa)) (hr0 : ∀ (a b : Int) (D : zDa) r, rec 0 a b D = some r → zMet l E (d + 43) YX6_test [zR 42, zI a] (F, D, n, sl) (zcI F n sl r)) (hr1 : ∀ (a b : Int) (D : zDa) r, rec 1 a b D = some r → zMet l E (d + 43) YX6_plain [zR 42, zI a] (F, D, n, sl) (zcI F n sl r))     (D : zDa) : zO l E (d + 44) YX6_plain 99 [(0, zR 42)] [] (F, D, n, sl) (zcI F n sl) (fX6_plain_99 F rec D) := by
  unfold fX6_plain_99
  refine zO_aload_n dX6_plain_99 rfl (zR_P _) ?_
  refine zO_callV (Y' := YX6_fail) (cw := zcI F n sl) (as := []) (rest := []) (na := 0) (ci := 6) rfl dX6_plain_100 wC_X6_fail wN_X6 wM_X6_62 wI_X6_fail wV_X6_fail (by decide) (by decide) rfl rfl (Nat.le_of_ble_eq_true rfl) rfl (by decide) (gk_42 hG) (fun r hr => zMet_cast (Nat.add_assoc d 43 0) (mX6_fail (d := d + 43) hG  r hr)) ?_
  rintro ⟨r_5, D_6⟩ -
  show zO _ _ _ _ _ _ [zI r_5] (F, D_6, n, sl) _ _
  refine zO_chk (fun h7 => ?_)
  exact zO_ret (rv := some (zI r_5)) dX6_plain_103 rfl (zretok_z h7) rfl
set_option maxHeartbeats 20000000 in
theorem sX6_plain_216 {l : Launch} {E : zE} {d : Nat} {F : zFs} {n sl : Nat} (hG : zG F) (rec : Nat → Int → Int → zDa → Option (Int × zDa)) (hr0 : ∀ (a b : Int) (D : zDa) r, rec 0 a b D = some r → zMet l E (d + 43) YX6_test [zR 42, zI a] (F, D, n, sl) (zcI F n sl r)) (hr1 : ∀ (a b : Int) (D : zDa) r, rec 1 a b D = some r → zMet l E (d + 43) YX6_plain [zR 42, zI a] (F, D, n, sl) (zcI F n sl r))  (v2 : Int)   (D : zDa) : zO l E (d + 44) YX6_plain 216 [(0, zR 42), (2, zI v2)] [] (F, D, n, sl) (zcI F n sl) (fX6_plain_216 F rec v2 D) := by
  unfold fX6_plain_216
  refine zO_iload_n dX6_plain_216 rfl ?_
  refine zO_iconst dX6_plain_217 (by decide) ?_
  refine zO_irem dX6_plain_218 (by decide) ?_
  refine zO_iconst dX6_plain_219 (by decide) ?_
  refine zO_icmp_ne (tgt := 231) dX6_plain_220 rfl (fun c220 => ?_) (fun c220 => ?_)
  · refine zO_aload_n dX6_plain_223 rfl (zR_P _) ?_
    refine zO_bipush dX6_plain_224 (by decide) ?_
    refine zO_iconst dX6_plain_226 (by decide) ?_
    refine zO_callV (Y' := YX6_emit) (cw := zcI F n sl) (as := [zI 9, zI 0]) (rest := []) (na := 2) (ci := 6) rfl dX6_plain_227 wC_X6_emit wN_X6 wM_X6_114 wI_X6_emit wV_X6_emit (by decide) (by decide) rfl rfl (Nat.le_of_ble_eq_true rfl) rfl (by decide) (gk_42 hG) (fun r hr => zMet_cast (Nat.add_assoc d 43 0) (mX6_emit (d := d + 43) hG 9 0 r hr)) ?_
    rintro ⟨r_8, D_9⟩ -
    show zO _ _ _ _ _ _ [zI r_8] (F, D_9, n, sl) _ _
    refine zO_pop dX6_plain_230 (rfl) ?_
    refine zO_iconst dX6_plain_231 (by decide) ?_
    exact zO_ret (rv := some (zI 1)) dX6_plain_232 rfl rfl rfl
  · refine zO_iconst dX6_plain_231 (by decide) ?_
    exact zO_ret (rv := some (zI 1)) dX6_plain_232 rfl rfl rfl
set_option maxHeartbeats 20000000 in
theorem sX6_plain_159 {l : Launch} {E : zE} {d : Nat} {F : zFs} {n sl : Nat} (hG : zG F) (rec : Nat → Int → Int → zDa → Option (Int × zDa)) (hr0 : ∀ (a b : Int) (D : zDa) r, rec 0 a b D = some r → zMet l E (d + 43) YX6_test [zR 42, zI a] (F, D, n, sl) (zcI F n sl r)) (hr1 : ∀ (a b : Int) (D : zDa) r, rec 1 a b D = some r → zMet l E (d + 43) YX6_plain [zR 42, zI a] (F, D, n, sl) (zcI F n sl r))     (D : zDa) : zO l E (d + 44) YX6_plain 159 [(0, zR 42)] [] (F, D, n, sl) (zcI F n sl) (fX6_plain_159 F rec D) := by
  unfold fX6_plain_159
  refine zO_aload_n dX6_plain_159 rfl (zR_P _) ?_
  refine zO_callV (Y' := YX6_fail) (cw := zcI F n sl) (as := []) (rest := []) (na := 0) (ci := 6) rfl dX6_plain_160 wC_X6_fail wN_X6 wM_X6_62 wI_X6_fail wV_X6_fail (by decide) (by decide) rfl rfl (Nat.le_of_ble_eq_true rfl) rfl (by decide) (gk_42 hG) (fun r hr => zMet_cast (Nat.add_assoc d 43 0) (mX6_fail (d := d + 43) hG  r hr)) ?_
  rintro ⟨r_15, D_16⟩ -
  show zO _ _ _ _ _ _ [zI r_15] (F, D_16, n, sl) _ _
  refine zO_chk (fun h12 => ?_)
  exact zO_ret (rv := some (zI r_15)) dX6_plain_163 rfl (zretok_z h12) rfl
set_option maxHeartbeats 20000000 in
theorem sX6_plain_211 {l : Launch} {E : zE} {d : Nat} {F : zFs} {n sl : Nat} (hG : zG F) (rec : Nat → Int → Int → zDa → Option (Int × zDa)) (hr0 : ∀ (a b : Int) (D : zDa) r, rec 0 a b D = some r → zMet l E (d + 43) YX6_test [zR 42, zI a] (F, D, n, sl) (zcI F n sl r)) (hr1 : ∀ (a b : Int) (D : zDa) r, rec 1 a b D = some r → zMet l E (d + 43) YX6_plain [zR 42, zI a] (F, D, n, sl) (zcI F n sl r))  (v2 : Int) (s0 : Int)   (D : zDa) : zO l E (d + 44) YX6_plain 211 [(0, zR 42), (2, zI v2)] [zI s0, zR 42] (F, D, n, sl) (zcI F n sl) (fX6_plain_211 F rec v2 s0 D) := by
  unfold fX6_plain_211
  refine zO_iconst dX6_plain_211 (by decide) ?_
  refine zO_callV (Y' := YX6_emit) (cw := zcI F n sl) (as := [zI s0, zI 0]) (rest := []) (na := 2) (ci := 6) rfl dX6_plain_212 wC_X6_emit wN_X6 wM_X6_114 wI_X6_emit wV_X6_emit (by decide) (by decide) rfl rfl (Nat.le_of_ble_eq_true rfl) rfl (by decide) (gk_42 hG) (fun r hr => zMet_cast (Nat.add_assoc d 43 0) (mX6_emit (d := d + 43) hG s0 0 r hr)) ?_
  rintro ⟨r_20, D_21⟩ -
  show zO _ _ _ _ _ _ [zI r_20] (F, D_21, n, sl) _ _
  refine zO_pop dX6_plain_215 (rfl) ?_
  refine zO_live [0, 2] ?_
  exact sX6_plain_216 hG rec hr0 hr1 v2 D_21
set_option maxHeartbeats 20000000 in
theorem sX6_plain_164 {l : Launch} {E : zE} {d : Nat} {F : zFs} {n sl : Nat} (hG : zG F) (rec : Nat → Int → Int → zDa → Option (Int × zDa)) (hr0 : ∀ (a b : Int) (D : zDa) r, rec 0 a b D = some r → zMet l E (d + 43) YX6_test [zR 42, zI a] (F, D, n, sl) (zcI F n sl r)) (hr1 : ∀ (a b : Int) (D : zDa) r, rec 1 a b D = some r → zMet l E (d + 43) YX6_plain [zR 42, zI a] (F, D, n, sl) (zcI F n sl r))  (o1 : Int) (v2 : Int) (v4 : Int)   (D : zDa) : zO l E (d + 44) YX6_plain 164 [(0, zR 42), (1, zI o1), (2, zI v2), (4, zI v4)] [] (F, D, n, sl) (zcI F n sl) (fX6_plain_164 F rec o1 v2 v4 D) := by
  unfold fX6_plain_164
  refine zO_chk (fun h13 => ?_)
  refine zO_aload_n dX6_plain_164 rfl (zR_P _) ?_
  refine zO_dup dX6_plain_165 (rfl) ?_
  refine gt6 (k := 3) (v := zI (D 42 3)) dX6_plain_166 wF_X6_46 (by decide) (gk_42 hG) rfl ?_
  refine zO_iconst dX6_plain_169 (by decide) ?_
  refine zO_iadd dX6_plain_170 h13 ?_
  refine ptI6 (k := 3) (z := ((D 42 3) + 1)) dX6_plain_171 wF_X6_46 (by decide) rfl (gk_42 hG) rfl ?_
  refine zO_letD (fun D_17 eD_17 => ?_)
  refine zO_aload_n dX6_plain_174 rfl (zR_P _) ?_
  refine zO_iload_n dX6_plain_175 rfl ?_
  refine zO_callV (Y' := YX6_sum) (cw := zcI F n sl) (as := [zI o1]) (rest := []) (na := 1) (ci := 6) rfl dX6_plain_176 wC_X6_sum wN_X6 wM_X6_108 wI_X6_sum wV_X6_sum (by decide) (by decide) rfl rfl (Nat.le_of_ble_eq_true rfl) rfl (by decide) (gk_42 hG) (fun r hr => zMet_cast (Nat.add_assoc d 1 42) (mX6_sum (d := d + 1) hG o1 r hr)) ?_
  rintro ⟨r_18, D_19⟩ -
  show zO _ _ _ _ _ _ [zI r_18] (F, D_19, n, sl) _ _
  refine zO_if_ne (tgt := 184) dX6_plain_179 rfl (fun c179 => ?_) (fun c179 => ?_)
  · refine zO_iconst dX6_plain_182 (by decide) ?_
    exact zO_ret (rv := some (zI 0)) dX6_plain_183 rfl rfl rfl
  · refine zO_aload_n dX6_plain_184 rfl (zR_P _) ?_
    refine zO_iload dX6_plain_185 rfl ?_
    refine zO_bipush dX6_plain_187 (by decide) ?_
    refine zO_icmp_ne (tgt := 197) dX6_plain_189 rfl (fun c189 => ?_) (fun c189 => ?_)
    · refine zO_bipush dX6_plain_192 (by decide) ?_
      refine zO_goto (tgt := 211) dX6_plain_194 rfl ?_
      refine zO_live [0, 2] ?_
      exact sX6_plain_211 hG rec hr0 hr1 v2 6 D_19
    · refine zO_iload dX6_plain_197 rfl ?_
      refine zO_bipush dX6_plain_199 (by decide) ?_
      refine zO_icmp_ne (tgt := 209) dX6_plain_201 rfl (fun c201 => ?_) (fun c201 => ?_)
      · refine zO_bipush dX6_plain_204 (by decide) ?_
        refine zO_goto (tgt := 211) dX6_plain_206 rfl ?_
        refine zO_live [0, 2] ?_
        exact sX6_plain_211 hG rec hr0 hr1 v2 7 D_19
      · refine zO_bipush dX6_plain_209 (by decide) ?_
        refine zO_live [0, 2] ?_
        exact sX6_plain_211 hG rec hr0 hr1 v2 8 D_19
set_option maxHeartbeats 20000000 in
theorem sX6_plain_40 {l : Launch} {E : zE} {d : Nat} {F : zFs} {n sl : Nat} (hG : zG F) (rec : Nat → Int → Int → zDa → Option (Int × zDa)) (hr0 : ∀ (a b : Int) (D : zDa) r, rec 0 a b D = some r → zMet l E (d + 43) YX6_test [zR 42, zI a] (F, D, n, sl) (zcI F n sl r)) (hr1 : ∀ (a b : Int) (D : zDa) r, rec 1 a b D = some r → zMet l E (d + 43) YX6_plain [zR 42, zI a] (F, D, n, sl) (zcI F n sl r))  (o1 : Int) (v2 : Int)   (D : zDa) : zO l E (d + 44) YX6_plain 40 [(0, zR 42), (1, zI o1), (2, zI v2)] [] (F, D, n, sl) (zcI F n sl) (fX6_plain_40 F rec o1 v2 D) := by
  unfold fX6_plain_40
  refine zO_chk (fun h4 => ?_)
  refine zO_aload_n dX6_plain_40 rfl (zR_P _) ?_
  refine gt6 (k := 0) dX6_plain_41 wF_X6_9 (by decide) (gk_42 hG) (zgv (c := 6) (k := 0) rfl (Or.inl ⟨_, rfl⟩) (gf_42_0 hG)) ?_
  refine zO_aload_n dX6_plain_44 rfl (zR_P _) ?_
  refine gt6 (k := 3) (v := zI (D 42 3)) dX6_plain_45 wF_X6_46 (by decide) (gk_42 hG) rfl ?_
  refine zO_iald dX6_plain_48 (gk_43 hG) (gl_in (gl_43 hG) h4) ?_
  refine zO_bipush dX6_plain_49 (by decide) ?_
  refine zO_icmp_ne (tgt := 117) dX6_plain_51 rfl (fun c51 => ?_) (fun c51 => ?_)
  · refine zO_iload_n dX6_plain_54 rfl ?_
    refine zO_bipush dX6_plain_55 (by decide) ?_
    refine zO_icmp_lt (tgt := 65) dX6_plain_57 rfl (fun c57 => ?_) (fun c57 => ?_)
    · refine zO_chk (fun h5 => ?_)
      refine zO_aload_n dX6_plain_65 rfl (zR_P _) ?_
      refine zO_dup dX6_plain_66 (rfl) ?_
      refine gt6 (k := 3) (v := zI (D 42 3)) dX6_plain_67 wF_X6_46 (by decide) (gk_42 hG) rfl ?_
      refine zO_iconst dX6_plain_70 (by decide) ?_
      refine zO_iadd dX6_plain_71 h5 ?_
      refine ptI6 (k := 3) (z := ((D 42 3) + 1)) dX6_plain_72 wF_X6_46 (by decide) rfl (gk_42 hG) rfl ?_
      refine zO_letD (fun D_2 eD_2 => ?_)
      refine zO_chk (fun h6 => ?_)
      refine zO_aload_n dX6_plain_75 rfl (zR_P _) ?_
      refine zO_iload_n dX6_plain_76 rfl ?_
      refine zO_iconst dX6_plain_77 (by decide) ?_
      refine zO_iadd dX6_plain_78 h6 ?_
      refine zO_callV (Y' := YX6_test) (cw := zcI F n sl) (as := [zI (o1 + 1)]) (rest := []) (na := 1) (ci := 6) rfl dX6_plain_79 wC_X6_test wN_X6 wM_X6_111 wI_X6_test wV_X6_test (by decide) (by decide) rfl rfl (Nat.le_of_ble_eq_true rfl) rfl (by decide) (gk_42 hG) (fun r hr => hr0 (o1 + 1) 0 _ r hr) ?_
      rintro ⟨r_3, D_4⟩ -
      show zO _ _ _ _ _ _ [zI r_3] (F, D_4, n, sl) _ _
      refine zO_if_eq (tgt := 99) dX6_plain_82 rfl (fun c82 => ?_) (fun c82 => ?_)
      · refine zO_live [0] ?_
        exact sX6_plain_99 hG rec hr0 hr1 D_4
      · refine zO_chk (fun h8 => ?_)
        refine zO_aload_n dX6_plain_85 rfl (zR_P _) ?_
        refine gt6 (k := 0) dX6_plain_86 wF_X6_9 (by decide) (gk_42 hG) (zgv (c := 6) (k := 0) rfl (Or.inl ⟨_, rfl⟩) (gf_42_0 hG)) ?_
        refine zO_aload_n dX6_plain_89 rfl (zR_P _) ?_
        refine gt6 (k := 3) (v := zI (D_4 42 3)) dX6_plain_90 wF_X6_46 (by decide) (gk_42 hG) rfl ?_
        refine zO_iald dX6_plain_93 (gk_43 hG) (gl_in (gl_43 hG) h8) ?_
        refine zO_bipush dX6_plain_94 (by decide) ?_
        refine zO_icmp_eq (tgt := 104) dX6_plain_96 rfl (fun c96 => ?_) (fun c96 => ?_)
        · refine zO_chk (fun h9 => ?_)
          refine zO_aload_n dX6_plain_104 rfl (zR_P _) ?_
          refine zO_dup dX6_plain_105 (rfl) ?_
          refine gt6 (k := 3) (v := zI (D_4 42 3)) dX6_plain_106 wF_X6_46 (by decide) (gk_42 hG) rfl ?_
          refine zO_iconst dX6_plain_109 (by decide) ?_
          refine zO_iadd dX6_plain_110 h9 ?_
          refine ptI6 (k := 3) (z := ((D_4 42 3) + 1)) dX6_plain_111 wF_X6_46 (by decide) rfl (gk_42 hG) rfl ?_
          refine zO_letD (fun D_7 eD_7 => ?_)
          refine zO_goto (tgt := 216) dX6_plain_114 rfl ?_
          refine zO_live [0, 2] ?_
          exact sX6_plain_216 hG rec hr0 hr1 v2 D_7
        · refine zO_live [0] ?_
          exact sX6_plain_99 hG rec hr0 hr1 D_4
    · refine zO_aload_n dX6_plain_60 rfl (zR_P _) ?_
      refine zO_callV (Y' := YX6_fail) (cw := zcI F n sl) (as := []) (rest := []) (na := 0) (ci := 6) rfl dX6_plain_61 wC_X6_fail wN_X6 wM_X6_62 wI_X6_fail wV_X6_fail (by decide) (by decide) rfl rfl (Nat.le_of_ble_eq_true rfl) rfl (by decide) (gk_42 hG) (fun r hr => zMet_cast (Nat.add_assoc d 43 0) (mX6_fail (d := d + 43) hG  r hr)) ?_
      rintro ⟨r_10, D_11⟩ -
      show zO _ _ _ _ _ _ [zI r_10] (F, D_11, n, sl) _ _
      refine zO_chk (fun h10 => ?_)
      exact zO_ret (rv := some (zI r_10)) dX6_plain_64 rfl (zretok_z h10) rfl
  · refine zO_aload_n dX6_plain_117 rfl (zR_P _) ?_
    refine zO_iload_n dX6_plain_118 rfl ?_
    refine zO_callV (Y' := YX6_sum) (cw := zcI F n sl) (as := [zI o1]) (rest := []) (na := 1) (ci := 6) rfl dX6_plain_119 wC_X6_sum wN_X6 wM_X6_108 wI_X6_sum wV_X6_sum (by decide) (by decide) rfl rfl (Nat.le_of_ble_eq_true rfl) rfl (by decide) (gk_42 hG) (fun r hr => zMet_cast (Nat.add_assoc d 1 42) (mX6_sum (d := d + 1) hG o1 r hr)) ?_
    rintro ⟨r_12, D_13⟩ -
    show zO _ _ _ _ _ _ [zI r_12] (F, D_13, n, sl) _ _
    refine zO_chk (fun h11 => ?_)
    refine zO_istore_n dX6_plain_122 (by decide) ?_
    refine zO_ls (ls' := [(0, zR 42), (1, zI o1), (2, zI v2), (3, zI r_12)]) rfl ?_
    refine zO_aload_n dX6_plain_123 rfl (zR_P _) ?_
    refine gt6 (k := 0) dX6_plain_124 wF_X6_9 (by decide) (gk_42 hG) (zgv (c := 6) (k := 0) rfl (Or.inl ⟨_, rfl⟩) (gf_42_0 hG)) ?_
    refine zO_aload_n dX6_plain_127 rfl (zR_P _) ?_
    refine gt6 (k := 3) (v := zI (D_13 42 3)) dX6_plain_128 wF_X6_46 (by decide) (gk_42 hG) rfl ?_
    refine zO_iald dX6_plain_131 (gk_43 hG) (gl_in (gl_43 hG) h11) ?_
    refine zO_letI (fun x4_14 ex4_14 => ?_)
    refine zO_istore dX6_plain_132 (by decide) ?_
    refine zO_ls (ls' := [(0, zR 42), (1, zI o1), (2, zI v2), (3, zI r_12), (4, zI x4_14)]) rfl ?_
    refine zO_iload_n dX6_plain_134 rfl ?_
    refine zO_if_eq (tgt := 159) dX6_plain_135 rfl (fun c135 => ?_) (fun c135 => ?_)
    · refine zO_live [0] ?_
      exact sX6_plain_159 hG rec hr0 hr1 D_13
    · refine zO_iload dX6_plain_138 rfl ?_
      refine zO_bipush dX6_plain_140 (by decide) ?_
      refine zO_icmp_eq (tgt := 164) dX6_plain_142 rfl (fun c142 => ?_) (fun c142 => ?_)
      · refine zO_live [0, 1, 2, 4] ?_
        exact sX6_plain_164 hG rec hr0 hr1 o1 v2 x4_14 D_13
      · refine zO_iload dX6_plain_145 rfl ?_
        refine zO_bipush dX6_plain_147 (by decide) ?_
        refine zO_icmp_eq (tgt := 164) dX6_plain_149 rfl (fun c149 => ?_) (fun c149 => ?_)
        · refine zO_live [0, 1, 2, 4] ?_
          exact sX6_plain_164 hG rec hr0 hr1 o1 v2 x4_14 D_13
        · refine zO_iload dX6_plain_152 rfl ?_
          refine zO_bipush dX6_plain_154 (by decide) ?_
          refine zO_icmp_eq (tgt := 164) dX6_plain_156 rfl (fun c156 => ?_) (fun c156 => ?_)
          · refine zO_live [0, 1, 2, 4] ?_
            exact sX6_plain_164 hG rec hr0 hr1 o1 v2 x4_14 D_13
          · refine zO_live [0] ?_
            exact sX6_plain_159 hG rec hr0 hr1 D_13
set_option maxHeartbeats 20000000 in
theorem sX6_plain_2 {l : Launch} {E : zE} {d : Nat} {F : zFs} {n sl : Nat} (hG : zG F) (rec : Nat → Int → Int → zDa → Option (Int × zDa)) (hr0 : ∀ (a b : Int) (D : zDa) r, rec 0 a b D = some r → zMet l E (d + 43) YX6_test [zR 42, zI a] (F, D, n, sl) (zcI F n sl r)) (hr1 : ∀ (a b : Int) (D : zDa) r, rec 1 a b D = some r → zMet l E (d + 43) YX6_plain [zR 42, zI a] (F, D, n, sl) (zcI F n sl r))  (o1 : Int)   : ∀ (N : Nat) (v2 : Int) (D : zDa), zO l E (d + 44) YX6_plain 2 [(0, zR 42), (1, zI o1), (2, zI v2)] [] (F, D, n, sl) (zcI F n sl) (zfix (fun _ _ => none) (fX6_plain_2 F rec o1) N v2 D) := by
  intro N
  induction N with
  | zero => intro v2 D; exact zO_none
  | succ N hk_2 =>
    intro v2 D
    show zO _ _ _ _ _ _ _ _ _ ((fX6_plain_2 F rec o1) (zfix (fun _ _ => none) (fX6_plain_2 F rec o1) N) v2 D)
    unfold fX6_plain_2
    refine zO_iload_n dX6_plain_2 rfl ?_
    refine zO_sipush dX6_plain_3 (by decide) ?_
    refine zO_icmp_ge (tgt := 40) dX6_plain_6 rfl (fun c6 => ?_) (fun c6 => ?_)
    · refine zO_chk (fun h1 => ?_)
      refine zO_aload_n dX6_plain_9 rfl (zR_P _) ?_
      refine gt6 (k := 0) dX6_plain_10 wF_X6_9 (by decide) (gk_42 hG) (zgv (c := 6) (k := 0) rfl (Or.inl ⟨_, rfl⟩) (gf_42_0 hG)) ?_
      refine zO_aload_n dX6_plain_13 rfl (zR_P _) ?_
      refine gt6 (k := 3) (v := zI (D 42 3)) dX6_plain_14 wF_X6_46 (by decide) (gk_42 hG) rfl ?_
      refine zO_iald dX6_plain_17 (gk_43 hG) (gl_in (gl_43 hG) h1) ?_
      refine zO_sipush dX6_plain_18 (by decide) ?_
      refine zO_icmp_ne (tgt := 40) dX6_plain_21 rfl (fun c21 => ?_) (fun c21 => ?_)
      · refine zO_chk (fun h2 => ?_)
        refine zO_aload_n dX6_plain_24 rfl (zR_P _) ?_
        refine zO_dup dX6_plain_25 (rfl) ?_
        refine gt6 (k := 3) (v := zI (D 42 3)) dX6_plain_26 wF_X6_46 (by decide) (gk_42 hG) rfl ?_
        refine zO_iconst dX6_plain_29 (by decide) ?_
        refine zO_iadd dX6_plain_30 h2 ?_
        refine ptI6 (k := 3) (z := ((D 42 3) + 1)) dX6_plain_31 wF_X6_46 (by decide) rfl (gk_42 hG) rfl ?_
        refine zO_letD (fun D_1 eD_1 => ?_)
        refine zO_chk (fun h3 => ?_)
        refine zO_iinc dX6_plain_34 rfl h3 (by decide) ?_
        refine zO_ls (ls' := [(0, zR 42), (1, zI o1), (2, zI (v2 + 1))]) rfl ?_
        refine zO_goto (tgt := 2) dX6_plain_37 rfl ?_
        refine zO_live [0, 1, 2] ?_
        exact hk_2 (v2 + 1) D_1
      · refine zO_live [0, 1, 2] ?_
        exact sX6_plain_40 hG rec hr0 hr1 o1 v2 D
    · refine zO_live [0, 1, 2] ?_
      exact sX6_plain_40 hG rec hr0 hr1 o1 v2 D
set_option maxHeartbeats 20000000 in
theorem mbX6_plain {l : Launch} {E : zE} {d : Nat} {F : zFs} {n sl : Nat} (hG : zG F) (rec : Nat → Int → Int → zDa → Option (Int × zDa)) (hr0 : ∀ (a b : Int) (D : zDa) r, rec 0 a b D = some r → zMet l E (d + 43) YX6_test [zR 42, zI a] (F, D, n, sl) (zcI F n sl r)) (hr1 : ∀ (a b : Int) (D : zDa) r, rec 1 a b D = some r → zMet l E (d + 43) YX6_plain [zR 42, zI a] (F, D, n, sl) (zcI F n sl r)) (v1 : Int) {D : zDa} : ∀ r, bX6_plain F rec v1 D = some r → zMet l E (d + 44) YX6_plain [zR 42, zI v1] (F, D, n, sl) (zcI F n sl r) := by
  intro r hr
  refine zMet_of (plainFor_of_name (by decide)) (fun _ h => (nomatch h)) (Nat.le_of_ble_eq_true rfl) ?_
  have hz : zO l E (d + 44) YX6_plain 0 [(0, zR 42), (1, zI v1)] [] (F, D, n, sl) (zcI F n sl) (bX6_plain F rec v1 D) := by
    unfold bX6_plain
    refine zO_iconst dX6_plain_0 (by decide) ?_
    refine zO_istore_n dX6_plain_1 (by decide) ?_
    refine zO_ls (ls' := [(0, zR 42), (1, zI v1), (2, zI 0)]) rfl ?_
    refine zO_live [0, 1, 2] ?_
    exact sX6_plain_2 hG rec hr0 hr1 v1 zfu 0 D
  exact hz r hr
def R1 (F : zFs) (N : Nat) : Nat → Int → Int → zDa → Option (Int × zDa) := zfix (fun _ _ _ _ => none) (fun rec t a b D => if t = 0 then bX6_test F rec a D else bX6_plain F rec a D) N
theorem R1_succ (F : zFs) (N t : Nat) (a b : Int) (D : zDa) : R1 F (N + 1) t a b D = (if t = 0 then bX6_test F (R1 F N) a D else bX6_plain F (R1 F N) a D) := rfl
theorem mG1 {l : Launch} {E : zE} {F : zFs} {n sl : Nat} (hG : zG F) : ∀ (N d : Nat), (∀ (a b : Int) (D : zDa) r, R1 F N 0 a b D = some r → zMet l E (d + N + 43) YX6_test [zR 42, zI a] (F, D, n, sl) (zcI F n sl r)) ∧ (∀ (a b : Int) (D : zDa) r, R1 F N 1 a b D = some r → zMet l E (d + N + 43) YX6_plain [zR 42, zI a] (F, D, n, sl) (zcI F n sl r)) := by
  intro N
  induction N with
  | zero => intro d; refine ⟨(fun a b D r h => nomatch (show (none : Option _) = some r from h)), (fun a b D r h => nomatch (show (none : Option _) = some r from h))⟩
  | succ N ih =>
    intro d
    have ih := ih d
    exact ⟨(fun a b D r h => zMet_cast (show d + N + 44 = d + (N + 1) + 43 by omega) (mbX6_test (d := d + N) hG (R1 F N) (fun a b D r h => ih.1 a b D r h) (fun a b D r h => ih.2 a b D r h) a r (by rw [R1_succ] at h; rw [if_pos rfl] at h; exact h))), (fun a b D r h => zMet_cast (show d + N + 44 = d + (N + 1) + 43 by omega) (mbX6_plain (d := d + N) hG (R1 F N) (fun a b D r h => ih.1 a b D r h) (fun a b D r h => ih.2 a b D r h) a r (by rw [R1_succ] at h; rw [if_neg (by decide)] at h; exact h)))⟩
def fX6_test (F : zFs) (v1 : Int) (D : zDa) : Option (Int × zDa) := R1 F 40 0 v1 0 D
theorem mX6_test {l : Launch} {E : zE} {d : Nat} {F : zFs} {n sl : Nat} (hG : zG F) (v1 : Int) {D : zDa} : ∀ r, fX6_test F v1 D = some r → zMet l E (d + 84) YX6_test [zR 42, zI v1] (F, D, n, sl) (zcI F n sl r) := fun r h => zMet_cast (show d + 1 + 40 + 43 = d + 84 by omega) ((mG1 hG 40 (d + 1)).1 v1 0 D r h)
def fX6_plain (F : zFs) (v1 : Int) (D : zDa) : Option (Int × zDa) := R1 F 40 1 v1 0 D
theorem mX6_plain {l : Launch} {E : zE} {d : Nat} {F : zFs} {n sl : Nat} (hG : zG F) (v1 : Int) {D : zDa} : ∀ r, fX6_plain F v1 D = some r → zMet l E (d + 84) YX6_plain [zR 42, zI v1] (F, D, n, sl) (zcI F n sl r) := fun r h => zMet_cast (show d + 1 + 40 + 43 = d + 84 by omega) ((mG1 hG 40 (d + 1)).2 v1 0 D r h)
theorem dX6_clause_0 : decode cX6_clause 0 = .ok (.aload_n 0, 1) := by decide +kernel
theorem dX6_clause_1 : decode cX6_clause 1 = .ok (.getfield 52, 3) := by decide +kernel
theorem dX6_clause_4 : decode cX6_clause 4 = .ok (.bipush 12, 2) := by decide +kernel
theorem dX6_clause_6 : decode cX6_clause 6 = .ok (.if_icmp .ge 18, 3) := by decide +kernel
theorem dX6_clause_9 : decode cX6_clause 9 = .ok (.aload_n 0, 1) := by decide +kernel
theorem dX6_clause_10 : decode cX6_clause 10 = .ok (.getfield 9, 3) := by decide +kernel
theorem dX6_clause_13 : decode cX6_clause 13 = .ok (.aload_n 0, 1) := by decide +kernel
theorem dX6_clause_14 : decode cX6_clause 14 = .ok (.getfield 46, 3) := by decide +kernel
theorem dX6_clause_17 : decode cX6_clause 17 = .ok (.iaload, 1) := by decide +kernel
theorem dX6_clause_18 : decode cX6_clause 18 = .ok (.sipush 259, 3) := by decide +kernel
theorem dX6_clause_21 : decode cX6_clause 21 = .ok (.if_icmp .eq 8, 3) := by decide +kernel
theorem dX6_clause_24 : decode cX6_clause 24 = .ok (.aload_n 0, 1) := by decide +kernel
theorem dX6_clause_25 : decode cX6_clause 25 = .ok (.invokevirtual 62, 3) := by decide +kernel
theorem dX6_clause_28 : decode cX6_clause 28 = .ok (.ireturn, 1) := by decide +kernel
theorem dX6_clause_29 : decode cX6_clause 29 = .ok (.aload_n 0, 1) := by decide +kernel
theorem dX6_clause_30 : decode cX6_clause 30 = .ok (.getfield 23, 3) := by decide +kernel
theorem dX6_clause_33 : decode cX6_clause 33 = .ok (.aload_n 0, 1) := by decide +kernel
theorem dX6_clause_34 : decode cX6_clause 34 = .ok (.getfield 52, 3) := by decide +kernel
theorem dX6_clause_37 : decode cX6_clause 37 = .ok (.aload_n 0, 1) := by decide +kernel
theorem dX6_clause_38 : decode cX6_clause 38 = .ok (.getfield 15, 3) := by decide +kernel
theorem dX6_clause_41 : decode cX6_clause 41 = .ok (.aload_n 0, 1) := by decide +kernel
theorem dX6_clause_42 : decode cX6_clause 42 = .ok (.getfield 46, 3) := by decide +kernel
theorem dX6_clause_45 : decode cX6_clause 45 = .ok (.iaload, 1) := by decide +kernel
theorem dX6_clause_46 : decode cX6_clause 46 = .ok (.iastore, 1) := by decide +kernel
theorem dX6_clause_47 : decode cX6_clause 47 = .ok (.aload_n 0, 1) := by decide +kernel
theorem dX6_clause_48 : decode cX6_clause 48 = .ok (.getfield 26, 3) := by decide +kernel
theorem dX6_clause_51 : decode cX6_clause 51 = .ok (.aload_n 0, 1) := by decide +kernel
theorem dX6_clause_52 : decode cX6_clause 52 = .ok (.getfield 52, 3) := by decide +kernel
theorem dX6_clause_55 : decode cX6_clause 55 = .ok (.aload_n 0, 1) := by decide +kernel
theorem dX6_clause_56 : decode cX6_clause 56 = .ok (.getfield 55, 3) := by decide +kernel
theorem dX6_clause_59 : decode cX6_clause 59 = .ok (.iastore, 1) := by decide +kernel
theorem dX6_clause_60 : decode cX6_clause 60 = .ok (.aload_n 0, 1) := by decide +kernel
theorem dX6_clause_61 : decode cX6_clause 61 = .ok (.dup, 1) := by decide +kernel
theorem dX6_clause_62 : decode cX6_clause 62 = .ok (.getfield 46, 3) := by decide +kernel
theorem dX6_clause_65 : decode cX6_clause 65 = .ok (.iconst 1, 1) := by decide +kernel
theorem dX6_clause_66 : decode cX6_clause 66 = .ok (.iadd, 1) := by decide +kernel
theorem dX6_clause_67 : decode cX6_clause 67 = .ok (.putfield 46, 3) := by decide +kernel
theorem dX6_clause_70 : decode cX6_clause 70 = .ok (.aload_n 0, 1) := by decide +kernel
theorem dX6_clause_71 : decode cX6_clause 71 = .ok (.iconst 0, 1) := by decide +kernel
theorem dX6_clause_72 : decode cX6_clause 72 = .ok (.invokevirtual 108, 3) := by decide +kernel
theorem dX6_clause_75 : decode cX6_clause 75 = .ok (.ifCond .ne 5, 3) := by decide +kernel
theorem dX6_clause_78 : decode cX6_clause 78 = .ok (.iconst 0, 1) := by decide +kernel
theorem dX6_clause_79 : decode cX6_clause 79 = .ok (.ireturn, 1) := by decide +kernel
theorem dX6_clause_80 : decode cX6_clause 80 = .ok (.aload_n 0, 1) := by decide +kernel
theorem dX6_clause_81 : decode cX6_clause 81 = .ok (.getfield 9, 3) := by decide +kernel
theorem dX6_clause_84 : decode cX6_clause 84 = .ok (.aload_n 0, 1) := by decide +kernel
theorem dX6_clause_85 : decode cX6_clause 85 = .ok (.getfield 46, 3) := by decide +kernel
theorem dX6_clause_88 : decode cX6_clause 88 = .ok (.iaload, 1) := by decide +kernel
theorem dX6_clause_89 : decode cX6_clause 89 = .ok (.sipush 261, 3) := by decide +kernel
theorem dX6_clause_92 : decode cX6_clause 92 = .ok (.if_icmp .ne 23, 3) := by decide +kernel
theorem dX6_clause_95 : decode cX6_clause 95 = .ok (.aload_n 0, 1) := by decide +kernel
theorem dX6_clause_96 : decode cX6_clause 96 = .ok (.dup, 1) := by decide +kernel
theorem dX6_clause_97 : decode cX6_clause 97 = .ok (.getfield 46, 3) := by decide +kernel
theorem dX6_clause_100 : decode cX6_clause 100 = .ok (.iconst 1, 1) := by decide +kernel
theorem dX6_clause_101 : decode cX6_clause 101 = .ok (.iadd, 1) := by decide +kernel
theorem dX6_clause_102 : decode cX6_clause 102 = .ok (.putfield 46, 3) := by decide +kernel
theorem dX6_clause_105 : decode cX6_clause 105 = .ok (.aload_n 0, 1) := by decide +kernel
theorem dX6_clause_106 : decode cX6_clause 106 = .ok (.iconst 0, 1) := by decide +kernel
theorem dX6_clause_107 : decode cX6_clause 107 = .ok (.invokevirtual 111, 3) := by decide +kernel
theorem dX6_clause_110 : decode cX6_clause 110 = .ok (.ifCond .ne 12, 3) := by decide +kernel
theorem dX6_clause_113 : decode cX6_clause 113 = .ok (.iconst 0, 1) := by decide +kernel
theorem dX6_clause_114 : decode cX6_clause 114 = .ok (.ireturn, 1) := by decide +kernel
theorem dX6_clause_115 : decode cX6_clause 115 = .ok (.aload_n 0, 1) := by decide +kernel
theorem dX6_clause_116 : decode cX6_clause 116 = .ok (.iconst 0, 1) := by decide +kernel
theorem dX6_clause_117 : decode cX6_clause 117 = .ok (.iconst 1, 1) := by decide +kernel
theorem dX6_clause_118 : decode cX6_clause 118 = .ok (.invokevirtual 114, 3) := by decide +kernel
theorem dX6_clause_121 : decode cX6_clause 121 = .ok (.pop, 1) := by decide +kernel
theorem dX6_clause_122 : decode cX6_clause 122 = .ok (.aload_n 0, 1) := by decide +kernel
theorem dX6_clause_123 : decode cX6_clause 123 = .ok (.dup, 1) := by decide +kernel
theorem dX6_clause_124 : decode cX6_clause 124 = .ok (.getfield 52, 3) := by decide +kernel
theorem dX6_clause_127 : decode cX6_clause 127 = .ok (.iconst 1, 1) := by decide +kernel
theorem dX6_clause_128 : decode cX6_clause 128 = .ok (.iadd, 1) := by decide +kernel
theorem dX6_clause_129 : decode cX6_clause 129 = .ok (.putfield 52, 3) := by decide +kernel
theorem dX6_clause_132 : decode cX6_clause 132 = .ok (.aload_n 0, 1) := by decide +kernel
theorem dX6_clause_133 : decode cX6_clause 133 = .ok (.getfield 26, 3) := by decide +kernel
theorem dX6_clause_136 : decode cX6_clause 136 = .ok (.aload_n 0, 1) := by decide +kernel
theorem dX6_clause_137 : decode cX6_clause 137 = .ok (.getfield 52, 3) := by decide +kernel
theorem dX6_clause_140 : decode cX6_clause 140 = .ok (.aload_n 0, 1) := by decide +kernel
theorem dX6_clause_141 : decode cX6_clause 141 = .ok (.getfield 55, 3) := by decide +kernel
theorem dX6_clause_144 : decode cX6_clause 144 = .ok (.iastore, 1) := by decide +kernel
theorem dX6_clause_145 : decode cX6_clause 145 = .ok (.iconst 1, 1) := by decide +kernel
theorem dX6_clause_146 : decode cX6_clause 146 = .ok (.ireturn, 1) := by decide +kernel
abbrev YX6_clause : zY := (yX6_clause, cX6_clause, 1, (Option.some Jvm.ClassFile.FieldType.boolean), [])
def fX6_clause_122 (F : zFs)   (D : zDa) : Option (Int × zDa) :=
  if (-2147483648 ≤ (D 42 5) + 1 ∧ (D 42 5) + 1 ≤ 2147483647) then
    zlet (zwr D 42 5 ((D 42 5) + 1)) (fun D_9 =>
      if (0 ≤ (D_9 42 5) ∧ (D_9 42 5) < 13) then
        zlet (zwr D_9 47 (D_9 42 5).toNat (D_9 42 9)) (fun D_10 =>
          some (1, D_10))
      else none)
  else none
def fX6_clause_24 (F : zFs)   (D : zDa) : Option (Int × zDa) :=
  (fX6_fail F D).bind (fun (r_13, D_14) =>
    if (r_13 = 0 ∨ r_13 = 1) then
      some (r_13, D_14)
    else none)
def fX6_clause (F : zFs)  (D : zDa) : Option (Int × zDa) :=
  if (D 42 5) < 12 then
    if (0 ≤ (D 42 3) ∧ (D 42 3) < 401) then
      if (D 43 (D 42 3).toNat) = 259 then
        if (0 ≤ (D 42 5) ∧ (D 42 5) < 12) then
          zlet (zwr D 46 (D 42 5).toNat (D 44 (D 42 3).toNat)) (fun D_1 =>
            if (0 ≤ (D_1 42 5) ∧ (D_1 42 5) < 13) then
              zlet (zwr D_1 47 (D_1 42 5).toNat (D_1 42 9)) (fun D_2 =>
                if (-2147483648 ≤ (D_2 42 3) + 1 ∧ (D_2 42 3) + 1 ≤ 2147483647) then
                  zlet (zwr D_2 42 3 ((D_2 42 3) + 1)) (fun D_3 =>
                    (fX6_sum F 0 D_3).bind (fun (r_4, D_5) =>
                      if r_4 = 0 then
                        some (0, D_5)
                      else
                        if (0 ≤ (D_5 42 3) ∧ (D_5 42 3) < 401) then
                          if (D_5 43 (D_5 42 3).toNat) = 261 then
                            if (-2147483648 ≤ (D_5 42 3) + 1 ∧ (D_5 42 3) + 1 ≤ 2147483647) then
                              zlet (zwr D_5 42 3 ((D_5 42 3) + 1)) (fun D_6 =>
                                (fX6_test F 0 D_6).bind (fun (r_7, D_8) =>
                                  if r_7 = 0 then
                                    some (0, D_8)
                                  else
                                    fX6_clause_122 F D_8))
                            else none
                          else
                            (fX6_emit F 0 1 D_5).bind (fun (r_11, D_12) =>
                              fX6_clause_122 F D_12)
                        else none))
                else none)
            else none)
        else none
      else
        fX6_clause_24 F D
    else none
  else
    fX6_clause_24 F D
set_option maxHeartbeats 20000000 in
theorem sX6_clause_122 {l : Launch} {E : zE} {d : Nat} {F : zFs} {n sl : Nat} (hG : zG F)     (D : zDa) : zO l E (d + 85) YX6_clause 122 [(0, zR 42)] [] (F, D, n, sl) (zcI F n sl) (fX6_clause_122 F D) := by
  unfold fX6_clause_122
  refine zO_chk (fun h7 => ?_)
  refine zO_aload_n dX6_clause_122 rfl (zR_P _) ?_
  refine zO_dup dX6_clause_123 (rfl) ?_
  refine gt6 (k := 5) (v := zI (D 42 5)) dX6_clause_124 wF_X6_52 (by decide) (gk_42 hG) rfl ?_
  refine zO_iconst dX6_clause_127 (by decide) ?_
  refine zO_iadd dX6_clause_128 h7 ?_
  refine ptI6 (k := 5) (z := ((D 42 5) + 1)) dX6_clause_129 wF_X6_52 (by decide) rfl (gk_42 hG) rfl ?_
  refine zO_letD (fun D_9 eD_9 => ?_)
  refine zO_chk (fun h8 => ?_)
  refine zO_aload_n dX6_clause_132 rfl (zR_P _) ?_
  refine gt6 (k := 7) dX6_clause_133 wF_X6_26 (by decide) (gk_42 hG) (zgv (c := 6) (k := 7) rfl (Or.inl ⟨_, rfl⟩) (gf_42_7 hG)) ?_
  refine zO_aload_n dX6_clause_136 rfl (zR_P _) ?_
  refine gt6 (k := 5) (v := zI (D_9 42 5)) dX6_clause_137 wF_X6_52 (by decide) (gk_42 hG) rfl ?_
  refine zO_aload_n dX6_clause_140 rfl (zR_P _) ?_
  refine gt6 (k := 9) (v := zI (D_9 42 9)) dX6_clause_141 wF_X6_55 (by decide) (gk_42 hG) rfl ?_
  refine zO_iast dX6_clause_144 (gk_47 hG) (gl_in (gl_47 hG) h8) ?_
  refine zO_letD (fun D_10 eD_10 => ?_)
  refine zO_iconst dX6_clause_145 (by decide) ?_
  exact zO_ret (rv := some (zI 1)) dX6_clause_146 rfl rfl rfl
set_option maxHeartbeats 20000000 in
theorem sX6_clause_24 {l : Launch} {E : zE} {d : Nat} {F : zFs} {n sl : Nat} (hG : zG F)     (D : zDa) : zO l E (d + 85) YX6_clause 24 [(0, zR 42)] [] (F, D, n, sl) (zcI F n sl) (fX6_clause_24 F D) := by
  unfold fX6_clause_24
  refine zO_aload_n dX6_clause_24 rfl (zR_P _) ?_
  refine zO_callV (Y' := YX6_fail) (cw := zcI F n sl) (as := []) (rest := []) (na := 0) (ci := 6) rfl dX6_clause_25 wC_X6_fail wN_X6 wM_X6_62 wI_X6_fail wV_X6_fail (by decide) (by decide) rfl rfl (Nat.le_of_ble_eq_true rfl) rfl (by decide) (gk_42 hG) (fun r hr => zMet_cast (Nat.add_assoc d 84 0) (mX6_fail (d := d + 84) hG  r hr)) ?_
  rintro ⟨r_13, D_14⟩ -
  show zO _ _ _ _ _ _ [zI r_13] (F, D_14, n, sl) _ _
  refine zO_chk (fun h9 => ?_)
  exact zO_ret (rv := some (zI r_13)) dX6_clause_28 rfl (zretok_z h9) rfl
set_option maxHeartbeats 20000000 in
theorem mX6_clause {l : Launch} {E : zE} {d : Nat} {F : zFs} {n sl : Nat} (hG : zG F)  {D : zDa} : ∀ r, fX6_clause F   D = some r → zMet l E (d + 85) YX6_clause [zR 42] (F, D, n, sl) (zcI F n sl r) := by
  intro r hr
  refine zMet_of (plainFor_of_name (by decide)) (fun _ h => (nomatch h)) (Nat.le_of_ble_eq_true rfl) ?_
  have hz : zO l E (d + 85) YX6_clause 0 [(0, zR 42)] [] (F, D, n, sl) (zcI F n sl) (fX6_clause F   D) := by
    unfold fX6_clause
    refine zO_aload_n dX6_clause_0 rfl (zR_P _) ?_
    refine gt6 (k := 5) (v := zI (D 42 5)) dX6_clause_1 wF_X6_52 (by decide) (gk_42 hG) rfl ?_
    refine zO_bipush dX6_clause_4 (by decide) ?_
    refine zO_icmp_ge (tgt := 24) dX6_clause_6 rfl (fun c6 => ?_) (fun c6 => ?_)
    · refine zO_chk (fun h1 => ?_)
      refine zO_aload_n dX6_clause_9 rfl (zR_P _) ?_
      refine gt6 (k := 0) dX6_clause_10 wF_X6_9 (by decide) (gk_42 hG) (zgv (c := 6) (k := 0) rfl (Or.inl ⟨_, rfl⟩) (gf_42_0 hG)) ?_
      refine zO_aload_n dX6_clause_13 rfl (zR_P _) ?_
      refine gt6 (k := 3) (v := zI (D 42 3)) dX6_clause_14 wF_X6_46 (by decide) (gk_42 hG) rfl ?_
      refine zO_iald dX6_clause_17 (gk_43 hG) (gl_in (gl_43 hG) h1) ?_
      refine zO_sipush dX6_clause_18 (by decide) ?_
      refine zO_icmp_eq (tgt := 29) dX6_clause_21 rfl (fun c21 => ?_) (fun c21 => ?_)
      · refine zO_chk (fun h2 => ?_)
        refine zO_aload_n dX6_clause_29 rfl (zR_P _) ?_
        refine gt6 (k := 6) dX6_clause_30 wF_X6_23 (by decide) (gk_42 hG) (zgv (c := 6) (k := 6) rfl (Or.inl ⟨_, rfl⟩) (gf_42_6 hG)) ?_
        refine zO_aload_n dX6_clause_33 rfl (zR_P _) ?_
        refine gt6 (k := 5) (v := zI (D 42 5)) dX6_clause_34 wF_X6_52 (by decide) (gk_42 hG) rfl ?_
        refine zO_aload_n dX6_clause_37 rfl (zR_P _) ?_
        refine gt6 (k := 1) dX6_clause_38 wF_X6_15 (by decide) (gk_42 hG) (zgv (c := 6) (k := 1) rfl (Or.inl ⟨_, rfl⟩) (gf_42_1 hG)) ?_
        refine zO_aload_n dX6_clause_41 rfl (zR_P _) ?_
        refine gt6 (k := 3) (v := zI (D 42 3)) dX6_clause_42 wF_X6_46 (by decide) (gk_42 hG) rfl ?_
        refine zO_iald dX6_clause_45 (gk_44 hG) (gl_in (gl_44 hG) h1) ?_
        refine zO_iast dX6_clause_46 (gk_46 hG) (gl_in (gl_46 hG) h2) ?_
        refine zO_letD (fun D_1 eD_1 => ?_)
        refine zO_chk (fun h3 => ?_)
        refine zO_aload_n dX6_clause_47 rfl (zR_P _) ?_
        refine gt6 (k := 7) dX6_clause_48 wF_X6_26 (by decide) (gk_42 hG) (zgv (c := 6) (k := 7) rfl (Or.inl ⟨_, rfl⟩) (gf_42_7 hG)) ?_
        refine zO_aload_n dX6_clause_51 rfl (zR_P _) ?_
        refine gt6 (k := 5) (v := zI (D_1 42 5)) dX6_clause_52 wF_X6_52 (by decide) (gk_42 hG) rfl ?_
        refine zO_aload_n dX6_clause_55 rfl (zR_P _) ?_
        refine gt6 (k := 9) (v := zI (D_1 42 9)) dX6_clause_56 wF_X6_55 (by decide) (gk_42 hG) rfl ?_
        refine zO_iast dX6_clause_59 (gk_47 hG) (gl_in (gl_47 hG) h3) ?_
        refine zO_letD (fun D_2 eD_2 => ?_)
        refine zO_chk (fun h4 => ?_)
        refine zO_aload_n dX6_clause_60 rfl (zR_P _) ?_
        refine zO_dup dX6_clause_61 (rfl) ?_
        refine gt6 (k := 3) (v := zI (D_2 42 3)) dX6_clause_62 wF_X6_46 (by decide) (gk_42 hG) rfl ?_
        refine zO_iconst dX6_clause_65 (by decide) ?_
        refine zO_iadd dX6_clause_66 h4 ?_
        refine ptI6 (k := 3) (z := ((D_2 42 3) + 1)) dX6_clause_67 wF_X6_46 (by decide) rfl (gk_42 hG) rfl ?_
        refine zO_letD (fun D_3 eD_3 => ?_)
        refine zO_aload_n dX6_clause_70 rfl (zR_P _) ?_
        refine zO_iconst dX6_clause_71 (by decide) ?_
        refine zO_callV (Y' := YX6_sum) (cw := zcI F n sl) (as := [zI 0]) (rest := []) (na := 1) (ci := 6) rfl dX6_clause_72 wC_X6_sum wN_X6 wM_X6_108 wI_X6_sum wV_X6_sum (by decide) (by decide) rfl rfl (Nat.le_of_ble_eq_true rfl) rfl (by decide) (gk_42 hG) (fun r hr => zMet_cast (Nat.add_assoc d 42 42) (mX6_sum (d := d + 42) hG 0 r hr)) ?_
        rintro ⟨r_4, D_5⟩ -
        show zO _ _ _ _ _ _ [zI r_4] (F, D_5, n, sl) _ _
        refine zO_if_ne (tgt := 80) dX6_clause_75 rfl (fun c75 => ?_) (fun c75 => ?_)
        · refine zO_iconst dX6_clause_78 (by decide) ?_
          exact zO_ret (rv := some (zI 0)) dX6_clause_79 rfl rfl rfl
        · refine zO_chk (fun h5 => ?_)
          refine zO_aload_n dX6_clause_80 rfl (zR_P _) ?_
          refine gt6 (k := 0) dX6_clause_81 wF_X6_9 (by decide) (gk_42 hG) (zgv (c := 6) (k := 0) rfl (Or.inl ⟨_, rfl⟩) (gf_42_0 hG)) ?_
          refine zO_aload_n dX6_clause_84 rfl (zR_P _) ?_
          refine gt6 (k := 3) (v := zI (D_5 42 3)) dX6_clause_85 wF_X6_46 (by decide) (gk_42 hG) rfl ?_
          refine zO_iald dX6_clause_88 (gk_43 hG) (gl_in (gl_43 hG) h5) ?_
          refine zO_sipush dX6_clause_89 (by decide) ?_
          refine zO_icmp_ne (tgt := 115) dX6_clause_92 rfl (fun c92 => ?_) (fun c92 => ?_)
          · refine zO_chk (fun h6 => ?_)
            refine zO_aload_n dX6_clause_95 rfl (zR_P _) ?_
            refine zO_dup dX6_clause_96 (rfl) ?_
            refine gt6 (k := 3) (v := zI (D_5 42 3)) dX6_clause_97 wF_X6_46 (by decide) (gk_42 hG) rfl ?_
            refine zO_iconst dX6_clause_100 (by decide) ?_
            refine zO_iadd dX6_clause_101 h6 ?_
            refine ptI6 (k := 3) (z := ((D_5 42 3) + 1)) dX6_clause_102 wF_X6_46 (by decide) rfl (gk_42 hG) rfl ?_
            refine zO_letD (fun D_6 eD_6 => ?_)
            refine zO_aload_n dX6_clause_105 rfl (zR_P _) ?_
            refine zO_iconst dX6_clause_106 (by decide) ?_
            refine zO_callV (Y' := YX6_test) (cw := zcI F n sl) (as := [zI 0]) (rest := []) (na := 1) (ci := 6) rfl dX6_clause_107 wC_X6_test wN_X6 wM_X6_111 wI_X6_test wV_X6_test (by decide) (by decide) rfl rfl (Nat.le_of_ble_eq_true rfl) rfl (by decide) (gk_42 hG) (fun r hr => zMet_cast (Nat.add_assoc d 0 84) (mX6_test (d := d + 0) hG 0 r hr)) ?_
            rintro ⟨r_7, D_8⟩ -
            show zO _ _ _ _ _ _ [zI r_7] (F, D_8, n, sl) _ _
            refine zO_if_ne (tgt := 122) dX6_clause_110 rfl (fun c110 => ?_) (fun c110 => ?_)
            · refine zO_iconst dX6_clause_113 (by decide) ?_
              exact zO_ret (rv := some (zI 0)) dX6_clause_114 rfl rfl rfl
            · refine zO_live [0] ?_
              exact sX6_clause_122 hG D_8
          · refine zO_aload_n dX6_clause_115 rfl (zR_P _) ?_
            refine zO_iconst dX6_clause_116 (by decide) ?_
            refine zO_iconst dX6_clause_117 (by decide) ?_
            refine zO_callV (Y' := YX6_emit) (cw := zcI F n sl) (as := [zI 0, zI 1]) (rest := []) (na := 2) (ci := 6) rfl dX6_clause_118 wC_X6_emit wN_X6 wM_X6_114 wI_X6_emit wV_X6_emit (by decide) (by decide) rfl rfl (Nat.le_of_ble_eq_true rfl) rfl (by decide) (gk_42 hG) (fun r hr => zMet_cast (Nat.add_assoc d 84 0) (mX6_emit (d := d + 84) hG 0 1 r hr)) ?_
            rintro ⟨r_11, D_12⟩ -
            show zO _ _ _ _ _ _ [zI r_11] (F, D_12, n, sl) _ _
            refine zO_pop dX6_clause_121 (rfl) ?_
            refine zO_live [0] ?_
            exact sX6_clause_122 hG D_12
      · refine zO_live [0] ?_
        exact sX6_clause_24 hG D
    · refine zO_live [0] ?_
      exact sX6_clause_24 hG D
  exact hz r hr
