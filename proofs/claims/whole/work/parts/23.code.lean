/-! printed by wip/gen/emit_all.py: X4_price X4_helpMatters X4_nameKings J9_max_7cf53 X4_fillFrom X4_fillHours X4_waysOf -/
theorem dX4_price_0 : decode cX4_price 0 = .ok (.iconst 0, 1) := by decide +kernel
theorem dX4_price_1 : decode cX4_price 1 = .ok (.istore_n 3, 1) := by decide +kernel
theorem dX4_price_2 : decode cX4_price 2 = .ok (.iload_n 3, 1) := by decide +kernel
theorem dX4_price_3 : decode cX4_price 3 = .ok (.iconst 1, 1) := by decide +kernel
theorem dX4_price_4 : decode cX4_price 4 = .ok (.if_icmp .gt 58, 3) := by decide +kernel
theorem dX4_price_7 : decode cX4_price 7 = .ok (.iconst 0, 1) := by decide +kernel
theorem dX4_price_8 : decode cX4_price 8 = .ok (.istore 4, 2) := by decide +kernel
theorem dX4_price_10 : decode cX4_price 10 = .ok (.iconst 1, 1) := by decide +kernel
theorem dX4_price_11 : decode cX4_price 11 = .ok (.istore 5, 2) := by decide +kernel
theorem dX4_price_13 : decode cX4_price 13 = .ok (.iload 5, 2) := by decide +kernel
theorem dX4_price_15 : decode cX4_price 15 = .ok (.iconst 3, 1) := by decide +kernel
theorem dX4_price_16 : decode cX4_price 16 = .ok (.if_icmp .ge 40, 3) := by decide +kernel
theorem dX4_price_19 : decode cX4_price 19 = .ok (.iload 4, 2) := by decide +kernel
theorem dX4_price_21 : decode cX4_price 21 = .ok (.aload_n 0, 1) := by decide +kernel
theorem dX4_price_22 : decode cX4_price 22 = .ok (.getfield 61, 3) := by decide +kernel
theorem dX4_price_25 : decode cX4_price 25 = .ok (.iload_n 2, 1) := by decide +kernel
theorem dX4_price_26 : decode cX4_price 26 = .ok (.iload 5, 2) := by decide +kernel
theorem dX4_price_28 : decode cX4_price 28 = .ok (.iload_n 3, 1) := by decide +kernel
theorem dX4_price_29 : decode cX4_price 29 = .ok (.iconst 0, 1) := by decide +kernel
theorem dX4_price_30 : decode cX4_price 30 = .ok (.invokevirtual 113, 3) := by decide +kernel
theorem dX4_price_33 : decode cX4_price 33 = .ok (.iadd, 1) := by decide +kernel
theorem dX4_price_34 : decode cX4_price 34 = .ok (.istore 4, 2) := by decide +kernel
theorem dX4_price_36 : decode cX4_price 36 = .ok (.aload_n 0, 1) := by decide +kernel
theorem dX4_price_37 : decode cX4_price 37 = .ok (.getfield 22, 3) := by decide +kernel
theorem dX4_price_40 : decode cX4_price 40 = .ok (.iload_n 1, 1) := by decide +kernel
theorem dX4_price_41 : decode cX4_price 41 = .ok (.iload_n 3, 1) := by decide +kernel
theorem dX4_price_42 : decode cX4_price 42 = .ok (.iload 5, 2) := by decide +kernel
theorem dX4_price_44 : decode cX4_price 44 = .ok (.invokestatic 119, 3) := by decide +kernel
theorem dX4_price_47 : decode cX4_price 47 = .ok (.iload 4, 2) := by decide +kernel
theorem dX4_price_49 : decode cX4_price 49 = .ok (.iastore, 1) := by decide +kernel
theorem dX4_price_50 : decode cX4_price 50 = .ok (.iinc 5 1, 3) := by decide +kernel
theorem dX4_price_53 : decode cX4_price 53 = .ok (.goto (-40), 3) := by decide +kernel
theorem dX4_price_56 : decode cX4_price 56 = .ok (.iinc 3 1, 3) := by decide +kernel
theorem dX4_price_59 : decode cX4_price 59 = .ok (.goto (-57), 3) := by decide +kernel
theorem dX4_price_62 : decode cX4_price 62 = .ok (.return_, 1) := by decide +kernel
abbrev YX4_price : zY := (yX4_price, cX4_price, 6, none, [])
def fX4_price_13 (F : zFs) (o1 : Int) (o2 : Int) (o3 : Int) (k_2 : Int → zDa → Option zDa) (k_13 : Int → Int → zDa → Option zDa) (v4 : Int) (v5 : Int) (D : zDa) : Option zDa :=
  if v5 < 3 then
    (fX10_hoursOf F o2 v5 o3 0 D).bind (fun (r_1, D_2) =>
      if (-2147483648 ≤ v4 + r_1 ∧ v4 + r_1 ≤ 2147483647) then
        zlet ((v4 + r_1)) (fun x4_3 =>
          (fX4_priceAt F o1 o3 v5 D_2).bind (fun (r_4, D_5) =>
            if (0 ≤ r_4 ∧ r_4 < 120) then
              zlet (zwr D_5 62 r_4.toNat x4_3) (fun D_6 =>
                if (-2147483648 ≤ v5 + 1 ∧ v5 + 1 ≤ 2147483647) then
                  k_13 x4_3 (v5 + 1) D_6
                else none)
            else none))
      else none)
  else
    if (-2147483648 ≤ o3 + 1 ∧ o3 + 1 ≤ 2147483647) then
      k_2 (o3 + 1) D
    else none
def fX4_price_2 (F : zFs) (o1 : Int) (o2 : Int)  (k_2 : Int → zDa → Option zDa) (v3 : Int) (D : zDa) : Option zDa :=
  if 1 < v3 then
    some D
  else
    zfix (fun _ _ _ => none) (fX4_price_13 F o1 o2 v3 k_2) zfu 0 1 D
def fX4_price (F : zFs) (v1 : Int) (v2 : Int) (D : zDa) : Option zDa :=
  zfix (fun _ _ => none) (fX4_price_2 F v1 v2) zfu 0 D
set_option maxHeartbeats 20000000 in
theorem sX4_price_13 {l : Launch} {E : zE} {d : Nat} {F : zFs} {n sl : Nat} (hG : zG F)  (o1 : Int) (o2 : Int) (o3 : Int) (k_2 : Int → zDa → Option zDa) (hk_2 : ∀ (u3 : Int) (D : zDa), zO l E (d + 4) YX4_price 2 [(0, zR 60), (1, zI o1), (2, zI o2), (3, zI u3)] [] (F, D, n, sl) (zcV F n sl) (k_2 u3 D)) : ∀ (N : Nat) (v4 : Int) (v5 : Int) (D : zDa), zO l E (d + 4) YX4_price 13 [(0, zR 60), (1, zI o1), (2, zI o2), (3, zI o3), (4, zI v4), (5, zI v5)] [] (F, D, n, sl) (zcV F n sl) (zfix (fun _ _ _ => none) (fX4_price_13 F o1 o2 o3 k_2) N v4 v5 D) := by
  intro N
  induction N with
  | zero => intro v4 v5 D; exact zO_none
  | succ N hk_13 =>
    intro v4 v5 D
    show zO _ _ _ _ _ _ _ _ _ ((fX4_price_13 F o1 o2 o3 k_2) (zfix (fun _ _ _ => none) (fX4_price_13 F o1 o2 o3 k_2) N) v4 v5 D)
    unfold fX4_price_13
    refine zO_iload dX4_price_13 rfl ?_
    refine zO_iconst dX4_price_15 (by decide) ?_
    refine zO_icmp_ge (tgt := 56) dX4_price_16 rfl (fun c16 => ?_) (fun c16 => ?_)
    · refine zO_iload dX4_price_19 rfl ?_
      refine zO_aload_n dX4_price_21 rfl (zR_P _) ?_
      refine gt4 (k := 1) dX4_price_22 wF_X4_61 (by decide) (gk_60 hG) (zgv (c := 4) (k := 1) rfl (Or.inr ⟨_, rfl⟩) (gf_60_1 hG)) ?_
      refine zO_iload_n dX4_price_25 rfl ?_
      refine zO_iload dX4_price_26 rfl ?_
      refine zO_iload_n dX4_price_28 rfl ?_
      refine zO_iconst dX4_price_29 (by decide) ?_
      refine zO_callV (Y' := YX10_hoursOf) (cw := zcI F n sl) (as := [zI o2, zI v5, zI o3, zI 0]) (rest := [zI v4]) (na := 4) (ci := 10) rfl dX4_price_30 wC_X10_hoursOf wN_X10 wM_X4_113 wI_X10_hoursOf wV_X10_hoursOf (by decide) (by decide) rfl rfl (Nat.le_of_ble_eq_true rfl) rfl (by decide) (gk_49 hG) (fun r hr => zMet_cast (Nat.add_assoc d 0 3) (mX10_hoursOf (d := d + 0) hG o2 v5 o3 0 r hr)) ?_
      rintro ⟨r_1, D_2⟩ -
      show zO _ _ _ _ _ _ [zI r_1, zI v4] (F, D_2, n, sl) _ _
      refine zO_chk (fun h1 => ?_)
      refine zO_iadd dX4_price_33 h1 ?_
      refine zO_letI (fun x4_3 ex4_3 => ?_)
      refine zO_istore dX4_price_34 (by decide) ?_
      refine zO_ls (ls' := [(0, zR 60), (1, zI o1), (2, zI o2), (3, zI o3), (4, zI x4_3), (5, zI v5)]) rfl ?_
      refine zO_aload_n dX4_price_36 rfl (zR_P _) ?_
      refine gt4 (k := 7) dX4_price_37 wF_X4_22 (by decide) (gk_60 hG) (zgv (c := 4) (k := 7) rfl (Or.inl ⟨_, rfl⟩) (gf_60_7 hG)) ?_
      refine zO_iload_n dX4_price_40 rfl ?_
      refine zO_iload_n dX4_price_41 rfl ?_
      refine zO_iload dX4_price_42 rfl ?_
      refine zO_callS (Y' := YX4_priceAt) (cw := zcI F n sl) (as := [zI o1, zI o3, zI v5]) (rest := [zR 62]) (na := 3) dX4_price_44 wC_X4_priceAt wN_X4 wM_X4_119 wS_X4_priceAt (by decide) (by decide) rfl rfl (Nat.le_of_ble_eq_true rfl) (fun r hr => zMet_cast (Nat.add_assoc d 3 0) (mX4_priceAt (d := d + 3) hG o1 o3 v5 r hr)) ?_
      rintro ⟨r_4, D_5⟩ -
      show zO _ _ _ _ _ _ [zI r_4, zR 62] (F, D_5, n, sl) _ _
      refine zO_chk (fun h2 => ?_)
      refine zO_iload dX4_price_47 rfl ?_
      refine zO_iast dX4_price_49 (gk_62 hG) (gl_in (gl_62 hG) h2) ?_
      refine zO_letD (fun D_6 eD_6 => ?_)
      refine zO_chk (fun h3 => ?_)
      refine zO_iinc dX4_price_50 rfl h3 (by decide) ?_
      refine zO_ls (ls' := [(0, zR 60), (1, zI o1), (2, zI o2), (3, zI o3), (4, zI x4_3), (5, zI (v5 + 1))]) rfl ?_
      refine zO_goto (tgt := 13) dX4_price_53 rfl ?_
      refine zO_live [0, 1, 2, 3, 4, 5] ?_
      exact hk_13 x4_3 (v5 + 1) D_6
    · refine zO_chk (fun h4 => ?_)
      refine zO_iinc dX4_price_56 rfl h4 (by decide) ?_
      refine zO_ls (ls' := [(0, zR 60), (1, zI o1), (2, zI o2), (3, zI (o3 + 1)), (4, zI v4), (5, zI v5)]) rfl ?_
      refine zO_goto (tgt := 2) dX4_price_59 rfl ?_
      refine zO_live [0, 1, 2, 3] ?_
      exact hk_2 (o3 + 1) D
set_option maxHeartbeats 20000000 in
theorem sX4_price_2 {l : Launch} {E : zE} {d : Nat} {F : zFs} {n sl : Nat} (hG : zG F)  (o1 : Int) (o2 : Int)   : ∀ (N : Nat) (v3 : Int) (D : zDa), zO l E (d + 4) YX4_price 2 [(0, zR 60), (1, zI o1), (2, zI o2), (3, zI v3)] [] (F, D, n, sl) (zcV F n sl) (zfix (fun _ _ => none) (fX4_price_2 F o1 o2) N v3 D) := by
  intro N
  induction N with
  | zero => intro v3 D; exact zO_none
  | succ N hk_2 =>
    intro v3 D
    show zO _ _ _ _ _ _ _ _ _ ((fX4_price_2 F o1 o2) (zfix (fun _ _ => none) (fX4_price_2 F o1 o2) N) v3 D)
    unfold fX4_price_2
    refine zO_iload_n dX4_price_2 rfl ?_
    refine zO_iconst dX4_price_3 (by decide) ?_
    refine zO_icmp_gt (tgt := 62) dX4_price_4 rfl (fun c4 => ?_) (fun c4 => ?_)
    · exact zO_ret (rv := none) dX4_price_62 rfl trivial rfl
    · refine zO_iconst dX4_price_7 (by decide) ?_
      refine zO_istore dX4_price_8 (by decide) ?_
      refine zO_ls (ls' := [(0, zR 60), (1, zI o1), (2, zI o2), (3, zI v3), (4, zI 0)]) rfl ?_
      refine zO_iconst dX4_price_10 (by decide) ?_
      refine zO_istore dX4_price_11 (by decide) ?_
      refine zO_ls (ls' := [(0, zR 60), (1, zI o1), (2, zI o2), (3, zI v3), (4, zI 0), (5, zI 1)]) rfl ?_
      refine zO_live [0, 1, 2, 3, 4, 5] ?_
      exact sX4_price_13 hG o1 o2 v3 _ hk_2 zfu 0 1 D
set_option maxHeartbeats 20000000 in
theorem mX4_price {l : Launch} {E : zE} {d : Nat} {F : zFs} {n sl : Nat} (hG : zG F) (v1 : Int) (v2 : Int) {D : zDa} : ∀ r, fX4_price F  v1 v2 D = some r → zMet l E (d + 4) YX4_price [zR 60, zI v1, zI v2] (F, D, n, sl) (zcV F n sl r) := by
  intro r hr
  refine zMet_of (plainFor_of_name (by decide)) (fun _ h => (nomatch h)) (Nat.le_of_ble_eq_true rfl) ?_
  have hz : zO l E (d + 4) YX4_price 0 [(0, zR 60), (1, zI v1), (2, zI v2)] [] (F, D, n, sl) (zcV F n sl) (fX4_price F  v1 v2 D) := by
    unfold fX4_price
    refine zO_iconst dX4_price_0 (by decide) ?_
    refine zO_istore_n dX4_price_1 (by decide) ?_
    refine zO_ls (ls' := [(0, zR 60), (1, zI v1), (2, zI v2), (3, zI 0)]) rfl ?_
    refine zO_live [0, 1, 2, 3] ?_
    exact sX4_price_2 hG v1 v2 zfu 0 D
  exact hz r hr
theorem dX4_helpMatters_0 : decode cX4_helpMatters 0 = .ok (.iconst 0, 1) := by decide +kernel
theorem dX4_helpMatters_1 : decode cX4_helpMatters 1 = .ok (.istore_n 2, 1) := by decide +kernel
theorem dX4_helpMatters_2 : decode cX4_helpMatters 2 = .ok (.iload_n 2, 1) := by decide +kernel
theorem dX4_helpMatters_3 : decode cX4_helpMatters 3 = .ok (.aload_n 0, 1) := by decide +kernel
theorem dX4_helpMatters_4 : decode cX4_helpMatters 4 = .ok (.getfield 83, 3) := by decide +kernel
theorem dX4_helpMatters_7 : decode cX4_helpMatters 7 = .ok (.if_icmp .ge 79, 3) := by decide +kernel
theorem dX4_helpMatters_10 : decode cX4_helpMatters 10 = .ok (.aload_n 0, 1) := by decide +kernel
theorem dX4_helpMatters_11 : decode cX4_helpMatters 11 = .ok (.getfield 57, 3) := by decide +kernel
theorem dX4_helpMatters_14 : decode cX4_helpMatters 14 = .ok (.getfield 123, 3) := by decide +kernel
theorem dX4_helpMatters_17 : decode cX4_helpMatters 17 = .ok (.aload_n 0, 1) := by decide +kernel
theorem dX4_helpMatters_18 : decode cX4_helpMatters 18 = .ok (.getfield 18, 3) := by decide +kernel
theorem dX4_helpMatters_21 : decode cX4_helpMatters 21 = .ok (.iload_n 2, 1) := by decide +kernel
theorem dX4_helpMatters_22 : decode cX4_helpMatters 22 = .ok (.iaload, 1) := by decide +kernel
theorem dX4_helpMatters_23 : decode cX4_helpMatters 23 = .ok (.iaload, 1) := by decide +kernel
theorem dX4_helpMatters_24 : decode cX4_helpMatters 24 = .ok (.iload_n 1, 1) := by decide +kernel
theorem dX4_helpMatters_25 : decode cX4_helpMatters 25 = .ok (.if_icmp .ne 55, 3) := by decide +kernel
theorem dX4_helpMatters_28 : decode cX4_helpMatters 28 = .ok (.aload_n 0, 1) := by decide +kernel
theorem dX4_helpMatters_29 : decode cX4_helpMatters 29 = .ok (.getfield 22, 3) := by decide +kernel
theorem dX4_helpMatters_32 : decode cX4_helpMatters 32 = .ok (.iload_n 2, 1) := by decide +kernel
theorem dX4_helpMatters_33 : decode cX4_helpMatters 33 = .ok (.iconst 0, 1) := by decide +kernel
theorem dX4_helpMatters_34 : decode cX4_helpMatters 34 = .ok (.iconst 1, 1) := by decide +kernel
theorem dX4_helpMatters_35 : decode cX4_helpMatters 35 = .ok (.invokestatic 119, 3) := by decide +kernel
theorem dX4_helpMatters_38 : decode cX4_helpMatters 38 = .ok (.iaload, 1) := by decide +kernel
theorem dX4_helpMatters_39 : decode cX4_helpMatters 39 = .ok (.aload_n 0, 1) := by decide +kernel
theorem dX4_helpMatters_40 : decode cX4_helpMatters 40 = .ok (.getfield 22, 3) := by decide +kernel
theorem dX4_helpMatters_43 : decode cX4_helpMatters 43 = .ok (.iload_n 2, 1) := by decide +kernel
theorem dX4_helpMatters_44 : decode cX4_helpMatters 44 = .ok (.iconst 1, 1) := by decide +kernel
theorem dX4_helpMatters_45 : decode cX4_helpMatters 45 = .ok (.iconst 1, 1) := by decide +kernel
theorem dX4_helpMatters_46 : decode cX4_helpMatters 46 = .ok (.invokestatic 119, 3) := by decide +kernel
theorem dX4_helpMatters_49 : decode cX4_helpMatters 49 = .ok (.iaload, 1) := by decide +kernel
theorem dX4_helpMatters_50 : decode cX4_helpMatters 50 = .ok (.if_icmp .ne 28, 3) := by decide +kernel
theorem dX4_helpMatters_53 : decode cX4_helpMatters 53 = .ok (.aload_n 0, 1) := by decide +kernel
theorem dX4_helpMatters_54 : decode cX4_helpMatters 54 = .ok (.getfield 22, 3) := by decide +kernel
theorem dX4_helpMatters_57 : decode cX4_helpMatters 57 = .ok (.iload_n 2, 1) := by decide +kernel
theorem dX4_helpMatters_58 : decode cX4_helpMatters 58 = .ok (.iconst 0, 1) := by decide +kernel
theorem dX4_helpMatters_59 : decode cX4_helpMatters 59 = .ok (.iconst 2, 1) := by decide +kernel
theorem dX4_helpMatters_60 : decode cX4_helpMatters 60 = .ok (.invokestatic 119, 3) := by decide +kernel
theorem dX4_helpMatters_63 : decode cX4_helpMatters 63 = .ok (.iaload, 1) := by decide +kernel
theorem dX4_helpMatters_64 : decode cX4_helpMatters 64 = .ok (.aload_n 0, 1) := by decide +kernel
theorem dX4_helpMatters_65 : decode cX4_helpMatters 65 = .ok (.getfield 22, 3) := by decide +kernel
theorem dX4_helpMatters_68 : decode cX4_helpMatters 68 = .ok (.iload_n 2, 1) := by decide +kernel
theorem dX4_helpMatters_69 : decode cX4_helpMatters 69 = .ok (.iconst 1, 1) := by decide +kernel
theorem dX4_helpMatters_70 : decode cX4_helpMatters 70 = .ok (.iconst 2, 1) := by decide +kernel
theorem dX4_helpMatters_71 : decode cX4_helpMatters 71 = .ok (.invokestatic 119, 3) := by decide +kernel
theorem dX4_helpMatters_74 : decode cX4_helpMatters 74 = .ok (.iaload, 1) := by decide +kernel
theorem dX4_helpMatters_75 : decode cX4_helpMatters 75 = .ok (.if_icmp .eq 5, 3) := by decide +kernel
theorem dX4_helpMatters_78 : decode cX4_helpMatters 78 = .ok (.iconst 1, 1) := by decide +kernel
theorem dX4_helpMatters_79 : decode cX4_helpMatters 79 = .ok (.ireturn, 1) := by decide +kernel
theorem dX4_helpMatters_80 : decode cX4_helpMatters 80 = .ok (.iinc 2 1, 3) := by decide +kernel
theorem dX4_helpMatters_83 : decode cX4_helpMatters 83 = .ok (.goto (-81), 3) := by decide +kernel
theorem dX4_helpMatters_86 : decode cX4_helpMatters 86 = .ok (.iconst 0, 1) := by decide +kernel
theorem dX4_helpMatters_87 : decode cX4_helpMatters 87 = .ok (.ireturn, 1) := by decide +kernel
abbrev YX4_helpMatters : zY := (yX4_helpMatters, cX4_helpMatters, 3, (Option.some Jvm.ClassFile.FieldType.boolean), [])
def fX4_helpMatters_80 (F : zFs) (k_2 : Int → zDa → Option (Int × zDa)) (o1 : Int) (v2 : Int) (D : zDa) : Option (Int × zDa) :=
  if (-2147483648 ≤ v2 + 1 ∧ v2 + 1 ≤ 2147483647) then
    k_2 (v2 + 1) D
  else none
def fX4_helpMatters_2 (F : zFs) (o1 : Int)  (k_2 : Int → zDa → Option (Int × zDa)) (v2 : Int) (D : zDa) : Option (Int × zDa) :=
  if v2 < (D 60 5) then
    if (0 ≤ v2 ∧ v2 < 20) ∧ (0 ≤ (D 61 v2.toNat) ∧ (D 61 v2.toNat) < 20) then
      if (D 2 (D 61 v2.toNat).toNat) = o1 then
        (fX4_priceAt F v2 0 1 D).bind (fun (r_1, D_2) =>
          if (0 ≤ r_1 ∧ r_1 < 120) then
            (fX4_priceAt F v2 1 1 D_2).bind (fun (r_3, D_4) =>
              if (0 ≤ r_3 ∧ r_3 < 120) then
                if (D_2 62 r_1.toNat) = (D_4 62 r_3.toNat) then
                  (fX4_priceAt F v2 0 2 D_4).bind (fun (r_5, D_6) =>
                    if (0 ≤ r_5 ∧ r_5 < 120) then
                      (fX4_priceAt F v2 1 2 D_6).bind (fun (r_7, D_8) =>
                        if (0 ≤ r_7 ∧ r_7 < 120) then
                          if (D_6 62 r_5.toNat) = (D_8 62 r_7.toNat) then
                            fX4_helpMatters_80 F k_2 o1 v2 D_8
                          else
                            some (1, D_8)
                        else none)
                    else none)
                else
                  some (1, D_4)
              else none)
          else none)
      else
        fX4_helpMatters_80 F k_2 o1 v2 D
    else none
  else
    some (0, D)
def fX4_helpMatters (F : zFs) (v1 : Int) (D : zDa) : Option (Int × zDa) :=
  zfix (fun _ _ => none) (fX4_helpMatters_2 F v1) zfu 0 D
set_option maxHeartbeats 20000000 in
theorem sX4_helpMatters_80 {l : Launch} {E : zE} {d : Nat} {F : zFs} {n sl : Nat} (hG : zG F)  (o1 : Int) (v2 : Int) (k_2 : Int → zDa → Option (Int × zDa)) (hk_2 : ∀ (u2 : Int) (D : zDa), zO l E (d + 1) YX4_helpMatters 2 [(0, zR 60), (1, zI o1), (2, zI u2)] [] (F, D, n, sl) (zcI F n sl) (k_2 u2 D)) (D : zDa) : zO l E (d + 1) YX4_helpMatters 80 [(0, zR 60), (1, zI o1), (2, zI v2)] [] (F, D, n, sl) (zcI F n sl) (fX4_helpMatters_80 F k_2 o1 v2 D) := by
  unfold fX4_helpMatters_80
  refine zO_chk (fun h6 => ?_)
  refine zO_iinc dX4_helpMatters_80 rfl h6 (by decide) ?_
  refine zO_ls (ls' := [(0, zR 60), (1, zI o1), (2, zI (v2 + 1))]) rfl ?_
  refine zO_goto (tgt := 2) dX4_helpMatters_83 rfl ?_
  refine zO_live [0, 1, 2] ?_
  exact hk_2 (v2 + 1) D
set_option maxHeartbeats 20000000 in
theorem sX4_helpMatters_2 {l : Launch} {E : zE} {d : Nat} {F : zFs} {n sl : Nat} (hG : zG F)  (o1 : Int)   : ∀ (N : Nat) (v2 : Int) (D : zDa), zO l E (d + 1) YX4_helpMatters 2 [(0, zR 60), (1, zI o1), (2, zI v2)] [] (F, D, n, sl) (zcI F n sl) (zfix (fun _ _ => none) (fX4_helpMatters_2 F o1) N v2 D) := by
  intro N
  induction N with
  | zero => intro v2 D; exact zO_none
  | succ N hk_2 =>
    intro v2 D
    show zO _ _ _ _ _ _ _ _ _ ((fX4_helpMatters_2 F o1) (zfix (fun _ _ => none) (fX4_helpMatters_2 F o1) N) v2 D)
    unfold fX4_helpMatters_2
    refine zO_iload_n dX4_helpMatters_2 rfl ?_
    refine zO_aload_n dX4_helpMatters_3 rfl (zR_P _) ?_
    refine gt4 (k := 5) (v := zI (D 60 5)) dX4_helpMatters_4 wF_X4_83 (by decide) (gk_60 hG) rfl ?_
    refine zO_icmp_ge (tgt := 86) dX4_helpMatters_7 rfl (fun c7 => ?_) (fun c7 => ?_)
    · refine zO_chk (fun h1 => ?_)
      refine zO_aload_n dX4_helpMatters_10 rfl (zR_P _) ?_
      refine gt4 (k := 0) dX4_helpMatters_11 wF_X4_57 (by decide) (gk_60 hG) (zgv (c := 4) (k := 0) rfl (Or.inr ⟨_, rfl⟩) (gf_60_0 hG)) ?_
      refine gt9 (k := 0) dX4_helpMatters_14 wF_X4_123 (by decide) (gk_1 hG) (zgv (c := 9) (k := 0) rfl (Or.inl ⟨_, rfl⟩) (gf_1_0 hG)) ?_
      refine zO_aload_n dX4_helpMatters_17 rfl (zR_P _) ?_
      refine gt4 (k := 6) dX4_helpMatters_18 wF_X4_18 (by decide) (gk_60 hG) (zgv (c := 4) (k := 6) rfl (Or.inl ⟨_, rfl⟩) (gf_60_6 hG)) ?_
      refine zO_iload_n dX4_helpMatters_21 rfl ?_
      refine zO_iald dX4_helpMatters_22 (gk_61 hG) (gl_in (gl_61 hG) h1.1) ?_
      refine zO_iald dX4_helpMatters_23 (gk_2 hG) (gl_in (gl_2 hG) h1.2) ?_
      refine zO_iload_n dX4_helpMatters_24 rfl ?_
      refine zO_icmp_ne (tgt := 80) dX4_helpMatters_25 rfl (fun c25 => ?_) (fun c25 => ?_)
      · refine zO_aload_n dX4_helpMatters_28 rfl (zR_P _) ?_
        refine gt4 (k := 7) dX4_helpMatters_29 wF_X4_22 (by decide) (gk_60 hG) (zgv (c := 4) (k := 7) rfl (Or.inl ⟨_, rfl⟩) (gf_60_7 hG)) ?_
        refine zO_iload_n dX4_helpMatters_32 rfl ?_
        refine zO_iconst dX4_helpMatters_33 (by decide) ?_
        refine zO_iconst dX4_helpMatters_34 (by decide) ?_
        refine zO_callS (Y' := YX4_priceAt) (cw := zcI F n sl) (as := [zI v2, zI 0, zI 1]) (rest := [zR 62]) (na := 3) dX4_helpMatters_35 wC_X4_priceAt wN_X4 wM_X4_119 wS_X4_priceAt (by decide) (by decide) rfl rfl (Nat.le_of_ble_eq_true rfl) (fun r hr => zMet_cast (Nat.add_assoc d 0 0) (mX4_priceAt (d := d + 0) hG v2 0 1 r hr)) ?_
        rintro ⟨r_1, D_2⟩ -
        show zO _ _ _ _ _ _ [zI r_1, zR 62] (F, D_2, n, sl) _ _
        refine zO_chk (fun h2 => ?_)
        refine zO_iald dX4_helpMatters_38 (gk_62 hG) (gl_in (gl_62 hG) h2) ?_
        refine zO_aload_n dX4_helpMatters_39 rfl (zR_P _) ?_
        refine gt4 (k := 7) dX4_helpMatters_40 wF_X4_22 (by decide) (gk_60 hG) (zgv (c := 4) (k := 7) rfl (Or.inl ⟨_, rfl⟩) (gf_60_7 hG)) ?_
        refine zO_iload_n dX4_helpMatters_43 rfl ?_
        refine zO_iconst dX4_helpMatters_44 (by decide) ?_
        refine zO_iconst dX4_helpMatters_45 (by decide) ?_
        refine zO_callS (Y' := YX4_priceAt) (cw := zcI F n sl) (as := [zI v2, zI 1, zI 1]) (rest := [zR 62, zI (D_2 62 r_1.toNat)]) (na := 3) dX4_helpMatters_46 wC_X4_priceAt wN_X4 wM_X4_119 wS_X4_priceAt (by decide) (by decide) rfl rfl (Nat.le_of_ble_eq_true rfl) (fun r hr => zMet_cast (Nat.add_assoc d 0 0) (mX4_priceAt (d := d + 0) hG v2 1 1 r hr)) ?_
        rintro ⟨r_3, D_4⟩ -
        show zO _ _ _ _ _ _ [zI r_3, zR 62, zI (D_2 62 r_1.toNat)] (F, D_4, n, sl) _ _
        refine zO_chk (fun h3 => ?_)
        refine zO_iald dX4_helpMatters_49 (gk_62 hG) (gl_in (gl_62 hG) h3) ?_
        refine zO_icmp_ne (tgt := 78) dX4_helpMatters_50 rfl (fun c50 => ?_) (fun c50 => ?_)
        · refine zO_aload_n dX4_helpMatters_53 rfl (zR_P _) ?_
          refine gt4 (k := 7) dX4_helpMatters_54 wF_X4_22 (by decide) (gk_60 hG) (zgv (c := 4) (k := 7) rfl (Or.inl ⟨_, rfl⟩) (gf_60_7 hG)) ?_
          refine zO_iload_n dX4_helpMatters_57 rfl ?_
          refine zO_iconst dX4_helpMatters_58 (by decide) ?_
          refine zO_iconst dX4_helpMatters_59 (by decide) ?_
          refine zO_callS (Y' := YX4_priceAt) (cw := zcI F n sl) (as := [zI v2, zI 0, zI 2]) (rest := [zR 62]) (na := 3) dX4_helpMatters_60 wC_X4_priceAt wN_X4 wM_X4_119 wS_X4_priceAt (by decide) (by decide) rfl rfl (Nat.le_of_ble_eq_true rfl) (fun r hr => zMet_cast (Nat.add_assoc d 0 0) (mX4_priceAt (d := d + 0) hG v2 0 2 r hr)) ?_
          rintro ⟨r_5, D_6⟩ -
          show zO _ _ _ _ _ _ [zI r_5, zR 62] (F, D_6, n, sl) _ _
          refine zO_chk (fun h4 => ?_)
          refine zO_iald dX4_helpMatters_63 (gk_62 hG) (gl_in (gl_62 hG) h4) ?_
          refine zO_aload_n dX4_helpMatters_64 rfl (zR_P _) ?_
          refine gt4 (k := 7) dX4_helpMatters_65 wF_X4_22 (by decide) (gk_60 hG) (zgv (c := 4) (k := 7) rfl (Or.inl ⟨_, rfl⟩) (gf_60_7 hG)) ?_
          refine zO_iload_n dX4_helpMatters_68 rfl ?_
          refine zO_iconst dX4_helpMatters_69 (by decide) ?_
          refine zO_iconst dX4_helpMatters_70 (by decide) ?_
          refine zO_callS (Y' := YX4_priceAt) (cw := zcI F n sl) (as := [zI v2, zI 1, zI 2]) (rest := [zR 62, zI (D_6 62 r_5.toNat)]) (na := 3) dX4_helpMatters_71 wC_X4_priceAt wN_X4 wM_X4_119 wS_X4_priceAt (by decide) (by decide) rfl rfl (Nat.le_of_ble_eq_true rfl) (fun r hr => zMet_cast (Nat.add_assoc d 0 0) (mX4_priceAt (d := d + 0) hG v2 1 2 r hr)) ?_
          rintro ⟨r_7, D_8⟩ -
          show zO _ _ _ _ _ _ [zI r_7, zR 62, zI (D_6 62 r_5.toNat)] (F, D_8, n, sl) _ _
          refine zO_chk (fun h5 => ?_)
          refine zO_iald dX4_helpMatters_74 (gk_62 hG) (gl_in (gl_62 hG) h5) ?_
          refine zO_icmp_eq (tgt := 80) dX4_helpMatters_75 rfl (fun c75 => ?_) (fun c75 => ?_)
          · refine zO_live [0, 1, 2] ?_
            exact sX4_helpMatters_80 hG o1 v2 _ hk_2 D_8
          · refine zO_iconst dX4_helpMatters_78 (by decide) ?_
            exact zO_ret (rv := some (zI 1)) dX4_helpMatters_79 rfl rfl rfl
        · refine zO_iconst dX4_helpMatters_78 (by decide) ?_
          exact zO_ret (rv := some (zI 1)) dX4_helpMatters_79 rfl rfl rfl
      · refine zO_live [0, 1, 2] ?_
        exact sX4_helpMatters_80 hG o1 v2 _ hk_2 D
    · refine zO_iconst dX4_helpMatters_86 (by decide) ?_
      exact zO_ret (rv := some (zI 0)) dX4_helpMatters_87 rfl rfl rfl
set_option maxHeartbeats 20000000 in
theorem mX4_helpMatters {l : Launch} {E : zE} {d : Nat} {F : zFs} {n sl : Nat} (hG : zG F) (v1 : Int) {D : zDa} : ∀ r, fX4_helpMatters F  v1 D = some r → zMet l E (d + 1) YX4_helpMatters [zR 60, zI v1] (F, D, n, sl) (zcI F n sl r) := by
  intro r hr
  refine zMet_of (plainFor_of_name (by decide)) (fun _ h => (nomatch h)) (Nat.le_of_ble_eq_true rfl) ?_
  have hz : zO l E (d + 1) YX4_helpMatters 0 [(0, zR 60), (1, zI v1)] [] (F, D, n, sl) (zcI F n sl) (fX4_helpMatters F  v1 D) := by
    unfold fX4_helpMatters
    refine zO_iconst dX4_helpMatters_0 (by decide) ?_
    refine zO_istore_n dX4_helpMatters_1 (by decide) ?_
    refine zO_ls (ls' := [(0, zR 60), (1, zI v1), (2, zI 0)]) rfl ?_
    refine zO_live [0, 1, 2] ?_
    exact sX4_helpMatters_2 hG v1 zfu 0 D
  exact hz r hr
theorem dX4_nameKings_0 : decode cX4_nameKings 0 = .ok (.iconst 0, 1) := by decide +kernel
theorem dX4_nameKings_1 : decode cX4_nameKings 1 = .ok (.istore_n 1, 1) := by decide +kernel
theorem dX4_nameKings_2 : decode cX4_nameKings 2 = .ok (.iconst 0, 1) := by decide +kernel
theorem dX4_nameKings_3 : decode cX4_nameKings 3 = .ok (.istore_n 2, 1) := by decide +kernel
theorem dX4_nameKings_4 : decode cX4_nameKings 4 = .ok (.iload_n 2, 1) := by decide +kernel
theorem dX4_nameKings_5 : decode cX4_nameKings 5 = .ok (.aload_n 0, 1) := by decide +kernel
theorem dX4_nameKings_6 : decode cX4_nameKings 6 = .ok (.getfield 83, 3) := by decide +kernel
theorem dX4_nameKings_9 : decode cX4_nameKings 9 = .ok (.if_icmp .ge 117, 3) := by decide +kernel
theorem dX4_nameKings_12 : decode cX4_nameKings 12 = .ok (.aload_n 0, 1) := by decide +kernel
theorem dX4_nameKings_13 : decode cX4_nameKings 13 = .ok (.getfield 28, 3) := by decide +kernel
theorem dX4_nameKings_16 : decode cX4_nameKings 16 = .ok (.iload_n 2, 1) := by decide +kernel
theorem dX4_nameKings_17 : decode cX4_nameKings 17 = .ok (.iload_n 1, 1) := by decide +kernel
theorem dX4_nameKings_18 : decode cX4_nameKings 18 = .ok (.iastore, 1) := by decide +kernel
theorem dX4_nameKings_19 : decode cX4_nameKings 19 = .ok (.aload_n 0, 1) := by decide +kernel
theorem dX4_nameKings_20 : decode cX4_nameKings 20 = .ok (.getfield 57, 3) := by decide +kernel
theorem dX4_nameKings_23 : decode cX4_nameKings 23 = .ok (.getfield 123, 3) := by decide +kernel
theorem dX4_nameKings_26 : decode cX4_nameKings 26 = .ok (.aload_n 0, 1) := by decide +kernel
theorem dX4_nameKings_27 : decode cX4_nameKings 27 = .ok (.getfield 18, 3) := by decide +kernel
theorem dX4_nameKings_30 : decode cX4_nameKings 30 = .ok (.iload_n 2, 1) := by decide +kernel
theorem dX4_nameKings_31 : decode cX4_nameKings 31 = .ok (.iaload, 1) := by decide +kernel
theorem dX4_nameKings_32 : decode cX4_nameKings 32 = .ok (.iaload, 1) := by decide +kernel
theorem dX4_nameKings_33 : decode cX4_nameKings 33 = .ok (.istore_n 3, 1) := by decide +kernel
theorem dX4_nameKings_34 : decode cX4_nameKings 34 = .ok (.aload_n 0, 1) := by decide +kernel
theorem dX4_nameKings_35 : decode cX4_nameKings 35 = .ok (.getfield 25, 3) := by decide +kernel
theorem dX4_nameKings_38 : decode cX4_nameKings 38 = .ok (.iload_n 2, 1) := by decide +kernel
theorem dX4_nameKings_39 : decode cX4_nameKings 39 = .ok (.iconst (-1), 1) := by decide +kernel
theorem dX4_nameKings_40 : decode cX4_nameKings 40 = .ok (.iastore, 1) := by decide +kernel
theorem dX4_nameKings_41 : decode cX4_nameKings 41 = .ok (.iconst 0, 1) := by decide +kernel
theorem dX4_nameKings_42 : decode cX4_nameKings 42 = .ok (.istore 4, 2) := by decide +kernel
theorem dX4_nameKings_44 : decode cX4_nameKings 44 = .ok (.iload 4, 2) := by decide +kernel
theorem dX4_nameKings_46 : decode cX4_nameKings 46 = .ok (.iload_n 2, 1) := by decide +kernel
theorem dX4_nameKings_47 : decode cX4_nameKings 47 = .ok (.if_icmp .ge 41, 3) := by decide +kernel
theorem dX4_nameKings_50 : decode cX4_nameKings 50 = .ok (.aload_n 0, 1) := by decide +kernel
theorem dX4_nameKings_51 : decode cX4_nameKings 51 = .ok (.getfield 57, 3) := by decide +kernel
theorem dX4_nameKings_54 : decode cX4_nameKings 54 = .ok (.getfield 123, 3) := by decide +kernel
theorem dX4_nameKings_57 : decode cX4_nameKings 57 = .ok (.aload_n 0, 1) := by decide +kernel
theorem dX4_nameKings_58 : decode cX4_nameKings 58 = .ok (.getfield 18, 3) := by decide +kernel
theorem dX4_nameKings_61 : decode cX4_nameKings 61 = .ok (.iload 4, 2) := by decide +kernel
theorem dX4_nameKings_63 : decode cX4_nameKings 63 = .ok (.iaload, 1) := by decide +kernel
theorem dX4_nameKings_64 : decode cX4_nameKings 64 = .ok (.iaload, 1) := by decide +kernel
theorem dX4_nameKings_65 : decode cX4_nameKings 65 = .ok (.iload_n 3, 1) := by decide +kernel
theorem dX4_nameKings_66 : decode cX4_nameKings 66 = .ok (.if_icmp .ne 16, 3) := by decide +kernel
theorem dX4_nameKings_69 : decode cX4_nameKings 69 = .ok (.aload_n 0, 1) := by decide +kernel
theorem dX4_nameKings_70 : decode cX4_nameKings 70 = .ok (.getfield 25, 3) := by decide +kernel
theorem dX4_nameKings_73 : decode cX4_nameKings 73 = .ok (.iload_n 2, 1) := by decide +kernel
theorem dX4_nameKings_74 : decode cX4_nameKings 74 = .ok (.aload_n 0, 1) := by decide +kernel
theorem dX4_nameKings_75 : decode cX4_nameKings 75 = .ok (.getfield 25, 3) := by decide +kernel
theorem dX4_nameKings_78 : decode cX4_nameKings 78 = .ok (.iload 4, 2) := by decide +kernel
theorem dX4_nameKings_80 : decode cX4_nameKings 80 = .ok (.iaload, 1) := by decide +kernel
theorem dX4_nameKings_81 : decode cX4_nameKings 81 = .ok (.iastore, 1) := by decide +kernel
theorem dX4_nameKings_82 : decode cX4_nameKings 82 = .ok (.iinc 4 1, 3) := by decide +kernel
theorem dX4_nameKings_85 : decode cX4_nameKings 85 = .ok (.goto (-41), 3) := by decide +kernel
theorem dX4_nameKings_88 : decode cX4_nameKings 88 = .ok (.aload_n 0, 1) := by decide +kernel
theorem dX4_nameKings_89 : decode cX4_nameKings 89 = .ok (.getfield 25, 3) := by decide +kernel
theorem dX4_nameKings_92 : decode cX4_nameKings 92 = .ok (.iload_n 2, 1) := by decide +kernel
theorem dX4_nameKings_93 : decode cX4_nameKings 93 = .ok (.iaload, 1) := by decide +kernel
theorem dX4_nameKings_94 : decode cX4_nameKings 94 = .ok (.iconst (-1), 1) := by decide +kernel
theorem dX4_nameKings_95 : decode cX4_nameKings 95 = .ok (.if_icmp .ne 25, 3) := by decide +kernel
theorem dX4_nameKings_98 : decode cX4_nameKings 98 = .ok (.iload_n 3, 1) := by decide +kernel
theorem dX4_nameKings_99 : decode cX4_nameKings 99 = .ok (.ifCond .eq 21, 3) := by decide +kernel
theorem dX4_nameKings_102 : decode cX4_nameKings 102 = .ok (.aload_n 0, 1) := by decide +kernel
theorem dX4_nameKings_103 : decode cX4_nameKings 103 = .ok (.iload_n 3, 1) := by decide +kernel
theorem dX4_nameKings_104 : decode cX4_nameKings 104 = .ok (.invokevirtual 126, 3) := by decide +kernel
theorem dX4_nameKings_107 : decode cX4_nameKings 107 = .ok (.ifCond .eq 13, 3) := by decide +kernel
theorem dX4_nameKings_110 : decode cX4_nameKings 110 = .ok (.aload_n 0, 1) := by decide +kernel
theorem dX4_nameKings_111 : decode cX4_nameKings 111 = .ok (.getfield 25, 3) := by decide +kernel
theorem dX4_nameKings_114 : decode cX4_nameKings 114 = .ok (.iload_n 2, 1) := by decide +kernel
theorem dX4_nameKings_115 : decode cX4_nameKings 115 = .ok (.iload_n 1, 1) := by decide +kernel
theorem dX4_nameKings_116 : decode cX4_nameKings 116 = .ok (.iastore, 1) := by decide +kernel
theorem dX4_nameKings_117 : decode cX4_nameKings 117 = .ok (.iinc 1 1, 3) := by decide +kernel
theorem dX4_nameKings_120 : decode cX4_nameKings 120 = .ok (.iinc 2 1, 3) := by decide +kernel
theorem dX4_nameKings_123 : decode cX4_nameKings 123 = .ok (.goto (-119), 3) := by decide +kernel
theorem dX4_nameKings_126 : decode cX4_nameKings 126 = .ok (.aload_n 0, 1) := by decide +kernel
theorem dX4_nameKings_127 : decode cX4_nameKings 127 = .ok (.getfield 28, 3) := by decide +kernel
theorem dX4_nameKings_130 : decode cX4_nameKings 130 = .ok (.aload_n 0, 1) := by decide +kernel
theorem dX4_nameKings_131 : decode cX4_nameKings 131 = .ok (.getfield 83, 3) := by decide +kernel
theorem dX4_nameKings_134 : decode cX4_nameKings 134 = .ok (.iload_n 1, 1) := by decide +kernel
theorem dX4_nameKings_135 : decode cX4_nameKings 135 = .ok (.iastore, 1) := by decide +kernel
theorem dX4_nameKings_136 : decode cX4_nameKings 136 = .ok (.return_, 1) := by decide +kernel
abbrev YX4_nameKings : zY := (yX4_nameKings, cX4_nameKings, 5, none, [])
def fX4_nameKings_82 (F : zFs) (k_4 : Int → Int → zDa → Option zDa) (k_44 : Int → zDa → Option zDa) (o1 : Int) (o2 : Int) (o3 : Int) (v4 : Int) (D : zDa) : Option zDa :=
  if (-2147483648 ≤ v4 + 1 ∧ v4 + 1 ≤ 2147483647) then
    k_44 (v4 + 1) D
  else none
def fX4_nameKings_120 (F : zFs) (k_4 : Int → Int → zDa → Option zDa) (o1 : Int) (o2 : Int) (D : zDa) : Option zDa :=
  if (-2147483648 ≤ o2 + 1 ∧ o2 + 1 ≤ 2147483647) then
    k_4 o1 (o2 + 1) D
  else none
def fX4_nameKings_44 (F : zFs) (o1 : Int) (o2 : Int) (o3 : Int) (k_4 : Int → Int → zDa → Option zDa) (k_44 : Int → zDa → Option zDa) (v4 : Int) (D : zDa) : Option zDa :=
  if v4 < o2 then
    if (0 ≤ v4 ∧ v4 < 20) ∧ (0 ≤ (D 61 v4.toNat) ∧ (D 61 v4.toNat) < 20) then
      if (D 2 (D 61 v4.toNat).toNat) = o3 then
        if (0 ≤ o2 ∧ o2 < 20) then
          zlet (zwr D 63 o2.toNat (D 63 v4.toNat)) (fun D_4 =>
            fX4_nameKings_82 F k_4 k_44 o1 o2 o3 v4 D_4)
        else none
      else
        fX4_nameKings_82 F k_4 k_44 o1 o2 o3 v4 D
    else none
  else
    if (0 ≤ o2 ∧ o2 < 20) then
      if (D 63 o2.toNat) = (-1) then
        if o3 = 0 then
          fX4_nameKings_120 F k_4 o1 o2 D
        else
          (fX4_helpMatters F o3 D).bind (fun (r_5, D_6) =>
            if r_5 = 0 then
              fX4_nameKings_120 F k_4 o1 o2 D_6
            else
              zlet (zwr D_6 63 o2.toNat o1) (fun D_7 =>
                if (-2147483648 ≤ o1 + 1 ∧ o1 + 1 ≤ 2147483647) then
                  fX4_nameKings_120 F k_4 (o1 + 1) o2 D_7
                else none))
      else
        fX4_nameKings_120 F k_4 o1 o2 D
    else none
def fX4_nameKings_4 (F : zFs)   (k_4 : Int → Int → zDa → Option zDa) (v1 : Int) (v2 : Int) (D : zDa) : Option zDa :=
  if v2 < (D 60 5) then
    if (0 ≤ v2 ∧ v2 < 21) then
      zlet (zwr D 64 v2.toNat v1) (fun D_1 =>
        if (0 ≤ v2 ∧ v2 < 20) ∧ (0 ≤ (D_1 61 v2.toNat) ∧ (D_1 61 v2.toNat) < 20) then
          zlet ((D_1 2 (D_1 61 v2.toNat).toNat)) (fun x3_2 =>
            zlet (zwr D_1 63 v2.toNat (-1)) (fun D_3 =>
              zfix (fun _ _ => none) (fX4_nameKings_44 F v1 v2 x3_2 k_4) zfu 0 D_3))
        else none)
    else none
  else
    if (0 ≤ (D 60 5) ∧ (D 60 5) < 21) then
      zlet (zwr D 64 (D 60 5).toNat v1) (fun D_8 =>
        some D_8)
    else none
def fX4_nameKings (F : zFs)  (D : zDa) : Option zDa :=
  zfix (fun _ _ _ => none) (fX4_nameKings_4 F) zfu 0 0 D
set_option maxHeartbeats 20000000 in
theorem sX4_nameKings_82 {l : Launch} {E : zE} {d : Nat} {F : zFs} {n sl : Nat} (hG : zG F)  (o1 : Int) (o2 : Int) (o3 : Int) (v4 : Int) (k_4 : Int → Int → zDa → Option zDa) (k_44 : Int → zDa → Option zDa) (hk_4 : ∀ (u1 : Int) (u2 : Int) (D : zDa), zO l E (d + 2) YX4_nameKings 4 [(0, zR 60), (1, zI u1), (2, zI u2)] [] (F, D, n, sl) (zcV F n sl) (k_4 u1 u2 D)) (hk_44 : ∀ (u4 : Int) (D : zDa), zO l E (d + 2) YX4_nameKings 44 [(0, zR 60), (1, zI o1), (2, zI o2), (3, zI o3), (4, zI u4)] [] (F, D, n, sl) (zcV F n sl) (k_44 u4 D)) (D : zDa) : zO l E (d + 2) YX4_nameKings 82 [(0, zR 60), (1, zI o1), (2, zI o2), (3, zI o3), (4, zI v4)] [] (F, D, n, sl) (zcV F n sl) (fX4_nameKings_82 F k_4 k_44 o1 o2 o3 v4 D) := by
  unfold fX4_nameKings_82
  refine zO_chk (fun h5 => ?_)
  refine zO_iinc dX4_nameKings_82 rfl h5 (by decide) ?_
  refine zO_ls (ls' := [(0, zR 60), (1, zI o1), (2, zI o2), (3, zI o3), (4, zI (v4 + 1))]) rfl ?_
  refine zO_goto (tgt := 44) dX4_nameKings_85 rfl ?_
  refine zO_live [0, 1, 2, 3, 4] ?_
  exact hk_44 (v4 + 1) D
set_option maxHeartbeats 20000000 in
theorem sX4_nameKings_120 {l : Launch} {E : zE} {d : Nat} {F : zFs} {n sl : Nat} (hG : zG F)  (o1 : Int) (o2 : Int) (k_4 : Int → Int → zDa → Option zDa) (hk_4 : ∀ (u1 : Int) (u2 : Int) (D : zDa), zO l E (d + 2) YX4_nameKings 4 [(0, zR 60), (1, zI u1), (2, zI u2)] [] (F, D, n, sl) (zcV F n sl) (k_4 u1 u2 D)) (D : zDa) : zO l E (d + 2) YX4_nameKings 120 [(0, zR 60), (1, zI o1), (2, zI o2)] [] (F, D, n, sl) (zcV F n sl) (fX4_nameKings_120 F k_4 o1 o2 D) := by
  unfold fX4_nameKings_120
  refine zO_chk (fun h7 => ?_)
  refine zO_iinc dX4_nameKings_120 rfl h7 (by decide) ?_
  refine zO_ls (ls' := [(0, zR 60), (1, zI o1), (2, zI (o2 + 1))]) rfl ?_
  refine zO_goto (tgt := 4) dX4_nameKings_123 rfl ?_
  refine zO_live [0, 1, 2] ?_
  exact hk_4 o1 (o2 + 1) D
set_option maxHeartbeats 20000000 in
theorem sX4_nameKings_44 {l : Launch} {E : zE} {d : Nat} {F : zFs} {n sl : Nat} (hG : zG F)  (o1 : Int) (o2 : Int) (o3 : Int) (k_4 : Int → Int → zDa → Option zDa) (hk_4 : ∀ (u1 : Int) (u2 : Int) (D : zDa), zO l E (d + 2) YX4_nameKings 4 [(0, zR 60), (1, zI u1), (2, zI u2)] [] (F, D, n, sl) (zcV F n sl) (k_4 u1 u2 D)) : ∀ (N : Nat) (v4 : Int) (D : zDa), zO l E (d + 2) YX4_nameKings 44 [(0, zR 60), (1, zI o1), (2, zI o2), (3, zI o3), (4, zI v4)] [] (F, D, n, sl) (zcV F n sl) (zfix (fun _ _ => none) (fX4_nameKings_44 F o1 o2 o3 k_4) N v4 D) := by
  intro N
  induction N with
  | zero => intro v4 D; exact zO_none
  | succ N hk_44 =>
    intro v4 D
    show zO _ _ _ _ _ _ _ _ _ ((fX4_nameKings_44 F o1 o2 o3 k_4) (zfix (fun _ _ => none) (fX4_nameKings_44 F o1 o2 o3 k_4) N) v4 D)
    unfold fX4_nameKings_44
    refine zO_iload dX4_nameKings_44 rfl ?_
    refine zO_iload_n dX4_nameKings_46 rfl ?_
    refine zO_icmp_ge (tgt := 88) dX4_nameKings_47 rfl (fun c47 => ?_) (fun c47 => ?_)
    · refine zO_chk (fun h3 => ?_)
      refine zO_aload_n dX4_nameKings_50 rfl (zR_P _) ?_
      refine gt4 (k := 0) dX4_nameKings_51 wF_X4_57 (by decide) (gk_60 hG) (zgv (c := 4) (k := 0) rfl (Or.inr ⟨_, rfl⟩) (gf_60_0 hG)) ?_
      refine gt9 (k := 0) dX4_nameKings_54 wF_X4_123 (by decide) (gk_1 hG) (zgv (c := 9) (k := 0) rfl (Or.inl ⟨_, rfl⟩) (gf_1_0 hG)) ?_
      refine zO_aload_n dX4_nameKings_57 rfl (zR_P _) ?_
      refine gt4 (k := 6) dX4_nameKings_58 wF_X4_18 (by decide) (gk_60 hG) (zgv (c := 4) (k := 6) rfl (Or.inl ⟨_, rfl⟩) (gf_60_6 hG)) ?_
      refine zO_iload dX4_nameKings_61 rfl ?_
      refine zO_iald dX4_nameKings_63 (gk_61 hG) (gl_in (gl_61 hG) h3.1) ?_
      refine zO_iald dX4_nameKings_64 (gk_2 hG) (gl_in (gl_2 hG) h3.2) ?_
      refine zO_iload_n dX4_nameKings_65 rfl ?_
      refine zO_icmp_ne (tgt := 82) dX4_nameKings_66 rfl (fun c66 => ?_) (fun c66 => ?_)
      · refine zO_chk (fun h4 => ?_)
        refine zO_aload_n dX4_nameKings_69 rfl (zR_P _) ?_
        refine gt4 (k := 8) dX4_nameKings_70 wF_X4_25 (by decide) (gk_60 hG) (zgv (c := 4) (k := 8) rfl (Or.inl ⟨_, rfl⟩) (gf_60_8 hG)) ?_
        refine zO_iload_n dX4_nameKings_73 rfl ?_
        refine zO_aload_n dX4_nameKings_74 rfl (zR_P _) ?_
        refine gt4 (k := 8) dX4_nameKings_75 wF_X4_25 (by decide) (gk_60 hG) (zgv (c := 4) (k := 8) rfl (Or.inl ⟨_, rfl⟩) (gf_60_8 hG)) ?_
        refine zO_iload dX4_nameKings_78 rfl ?_
        refine zO_iald dX4_nameKings_80 (gk_63 hG) (gl_in (gl_63 hG) h3.1) ?_
        refine zO_iast dX4_nameKings_81 (gk_63 hG) (gl_in (gl_63 hG) h4) ?_
        refine zO_letD (fun D_4 eD_4 => ?_)
        refine zO_live [0, 1, 2, 3, 4] ?_
        exact sX4_nameKings_82 hG o1 o2 o3 v4 _ _ hk_4 hk_44 D_4
      · refine zO_live [0, 1, 2, 3, 4] ?_
        exact sX4_nameKings_82 hG o1 o2 o3 v4 _ _ hk_4 hk_44 D
    · refine zO_chk (fun h6 => ?_)
      refine zO_aload_n dX4_nameKings_88 rfl (zR_P _) ?_
      refine gt4 (k := 8) dX4_nameKings_89 wF_X4_25 (by decide) (gk_60 hG) (zgv (c := 4) (k := 8) rfl (Or.inl ⟨_, rfl⟩) (gf_60_8 hG)) ?_
      refine zO_iload_n dX4_nameKings_92 rfl ?_
      refine zO_iald dX4_nameKings_93 (gk_63 hG) (gl_in (gl_63 hG) h6) ?_
      refine zO_iconst dX4_nameKings_94 (by decide) ?_
      refine zO_icmp_ne (tgt := 120) dX4_nameKings_95 rfl (fun c95 => ?_) (fun c95 => ?_)
      · refine zO_iload_n dX4_nameKings_98 rfl ?_
        refine zO_if_eq (tgt := 120) dX4_nameKings_99 rfl (fun c99 => ?_) (fun c99 => ?_)
        · refine zO_live [0, 1, 2] ?_
          exact sX4_nameKings_120 hG o1 o2 _ hk_4 D
        · refine zO_aload_n dX4_nameKings_102 rfl (zR_P _) ?_
          refine zO_iload_n dX4_nameKings_103 rfl ?_
          refine zO_callV (Y' := YX4_helpMatters) (cw := zcI F n sl) (as := [zI o3]) (rest := []) (na := 1) (ci := 4) rfl dX4_nameKings_104 wC_X4_helpMatters wN_X4 wM_X4_126 wI_X4_helpMatters wV_X4_helpMatters (by decide) (by decide) rfl rfl (Nat.le_of_ble_eq_true rfl) rfl (by decide) (gk_60 hG) (fun r hr => zMet_cast (Nat.add_assoc d 0 1) (mX4_helpMatters (d := d + 0) hG o3 r hr)) ?_
          rintro ⟨r_5, D_6⟩ -
          show zO _ _ _ _ _ _ [zI r_5] (F, D_6, n, sl) _ _
          refine zO_if_eq (tgt := 120) dX4_nameKings_107 rfl (fun c107 => ?_) (fun c107 => ?_)
          · refine zO_live [0, 1, 2] ?_
            exact sX4_nameKings_120 hG o1 o2 _ hk_4 D_6
          · refine zO_aload_n dX4_nameKings_110 rfl (zR_P _) ?_
            refine gt4 (k := 8) dX4_nameKings_111 wF_X4_25 (by decide) (gk_60 hG) (zgv (c := 4) (k := 8) rfl (Or.inl ⟨_, rfl⟩) (gf_60_8 hG)) ?_
            refine zO_iload_n dX4_nameKings_114 rfl ?_
            refine zO_iload_n dX4_nameKings_115 rfl ?_
            refine zO_iast dX4_nameKings_116 (gk_63 hG) (gl_in (gl_63 hG) h6) ?_
            refine zO_letD (fun D_7 eD_7 => ?_)
            refine zO_chk (fun h8 => ?_)
            refine zO_iinc dX4_nameKings_117 rfl h8 (by decide) ?_
            refine zO_ls (ls' := [(0, zR 60), (1, zI (o1 + 1)), (2, zI o2), (3, zI o3), (4, zI v4)]) rfl ?_
            refine zO_live [0, 1, 2] ?_
            exact sX4_nameKings_120 hG (o1 + 1) o2 _ hk_4 D_7
      · refine zO_live [0, 1, 2] ?_
        exact sX4_nameKings_120 hG o1 o2 _ hk_4 D
set_option maxHeartbeats 20000000 in
theorem sX4_nameKings_4 {l : Launch} {E : zE} {d : Nat} {F : zFs} {n sl : Nat} (hG : zG F)     : ∀ (N : Nat) (v1 : Int) (v2 : Int) (D : zDa), zO l E (d + 2) YX4_nameKings 4 [(0, zR 60), (1, zI v1), (2, zI v2)] [] (F, D, n, sl) (zcV F n sl) (zfix (fun _ _ _ => none) (fX4_nameKings_4 F) N v1 v2 D) := by
  intro N
  induction N with
  | zero => intro v1 v2 D; exact zO_none
  | succ N hk_4 =>
    intro v1 v2 D
    show zO _ _ _ _ _ _ _ _ _ ((fX4_nameKings_4 F) (zfix (fun _ _ _ => none) (fX4_nameKings_4 F) N) v1 v2 D)
    unfold fX4_nameKings_4
    refine zO_iload_n dX4_nameKings_4 rfl ?_
    refine zO_aload_n dX4_nameKings_5 rfl (zR_P _) ?_
    refine gt4 (k := 5) (v := zI (D 60 5)) dX4_nameKings_6 wF_X4_83 (by decide) (gk_60 hG) rfl ?_
    refine zO_icmp_ge (tgt := 126) dX4_nameKings_9 rfl (fun c9 => ?_) (fun c9 => ?_)
    · refine zO_chk (fun h1 => ?_)
      refine zO_aload_n dX4_nameKings_12 rfl (zR_P _) ?_
      refine gt4 (k := 9) dX4_nameKings_13 wF_X4_28 (by decide) (gk_60 hG) (zgv (c := 4) (k := 9) rfl (Or.inl ⟨_, rfl⟩) (gf_60_9 hG)) ?_
      refine zO_iload_n dX4_nameKings_16 rfl ?_
      refine zO_iload_n dX4_nameKings_17 rfl ?_
      refine zO_iast dX4_nameKings_18 (gk_64 hG) (gl_in (gl_64 hG) h1) ?_
      refine zO_letD (fun D_1 eD_1 => ?_)
      refine zO_chk (fun h2 => ?_)
      refine zO_aload_n dX4_nameKings_19 rfl (zR_P _) ?_
      refine gt4 (k := 0) dX4_nameKings_20 wF_X4_57 (by decide) (gk_60 hG) (zgv (c := 4) (k := 0) rfl (Or.inr ⟨_, rfl⟩) (gf_60_0 hG)) ?_
      refine gt9 (k := 0) dX4_nameKings_23 wF_X4_123 (by decide) (gk_1 hG) (zgv (c := 9) (k := 0) rfl (Or.inl ⟨_, rfl⟩) (gf_1_0 hG)) ?_
      refine zO_aload_n dX4_nameKings_26 rfl (zR_P _) ?_
      refine gt4 (k := 6) dX4_nameKings_27 wF_X4_18 (by decide) (gk_60 hG) (zgv (c := 4) (k := 6) rfl (Or.inl ⟨_, rfl⟩) (gf_60_6 hG)) ?_
      refine zO_iload_n dX4_nameKings_30 rfl ?_
      refine zO_iald dX4_nameKings_31 (gk_61 hG) (gl_in (gl_61 hG) h2.1) ?_
      refine zO_iald dX4_nameKings_32 (gk_2 hG) (gl_in (gl_2 hG) h2.2) ?_
      refine zO_letI (fun x3_2 ex3_2 => ?_)
      refine zO_istore_n dX4_nameKings_33 (by decide) ?_
      refine zO_ls (ls' := [(0, zR 60), (1, zI v1), (2, zI v2), (3, zI x3_2)]) rfl ?_
      refine zO_aload_n dX4_nameKings_34 rfl (zR_P _) ?_
      refine gt4 (k := 8) dX4_nameKings_35 wF_X4_25 (by decide) (gk_60 hG) (zgv (c := 4) (k := 8) rfl (Or.inl ⟨_, rfl⟩) (gf_60_8 hG)) ?_
      refine zO_iload_n dX4_nameKings_38 rfl ?_
      refine zO_iconst dX4_nameKings_39 (by decide) ?_
      refine zO_iast dX4_nameKings_40 (gk_63 hG) (gl_in (gl_63 hG) h2.1) ?_
      refine zO_letD (fun D_3 eD_3 => ?_)
      refine zO_iconst dX4_nameKings_41 (by decide) ?_
      refine zO_istore dX4_nameKings_42 (by decide) ?_
      refine zO_ls (ls' := [(0, zR 60), (1, zI v1), (2, zI v2), (3, zI x3_2), (4, zI 0)]) rfl ?_
      refine zO_live [0, 1, 2, 3, 4] ?_
      exact sX4_nameKings_44 hG v1 v2 x3_2 _ hk_4 zfu 0 D_3
    · refine zO_chk (fun h9 => ?_)
      refine zO_aload_n dX4_nameKings_126 rfl (zR_P _) ?_
      refine gt4 (k := 9) dX4_nameKings_127 wF_X4_28 (by decide) (gk_60 hG) (zgv (c := 4) (k := 9) rfl (Or.inl ⟨_, rfl⟩) (gf_60_9 hG)) ?_
      refine zO_aload_n dX4_nameKings_130 rfl (zR_P _) ?_
      refine gt4 (k := 5) (v := zI (D 60 5)) dX4_nameKings_131 wF_X4_83 (by decide) (gk_60 hG) rfl ?_
      refine zO_iload_n dX4_nameKings_134 rfl ?_
      refine zO_iast dX4_nameKings_135 (gk_64 hG) (gl_in (gl_64 hG) h9) ?_
      refine zO_letD (fun D_8 eD_8 => ?_)
      exact zO_ret (rv := none) dX4_nameKings_136 rfl trivial rfl
set_option maxHeartbeats 20000000 in
theorem mX4_nameKings {l : Launch} {E : zE} {d : Nat} {F : zFs} {n sl : Nat} (hG : zG F)  {D : zDa} : ∀ r, fX4_nameKings F   D = some r → zMet l E (d + 2) YX4_nameKings [zR 60] (F, D, n, sl) (zcV F n sl r) := by
  intro r hr
  refine zMet_of (plainFor_of_name (by decide)) (fun _ h => (nomatch h)) (Nat.le_of_ble_eq_true rfl) ?_
  have hz : zO l E (d + 2) YX4_nameKings 0 [(0, zR 60)] [] (F, D, n, sl) (zcV F n sl) (fX4_nameKings F   D) := by
    unfold fX4_nameKings
    refine zO_iconst dX4_nameKings_0 (by decide) ?_
    refine zO_istore_n dX4_nameKings_1 (by decide) ?_
    refine zO_ls (ls' := [(0, zR 60), (1, zI 0)]) rfl ?_
    refine zO_iconst dX4_nameKings_2 (by decide) ?_
    refine zO_istore_n dX4_nameKings_3 (by decide) ?_
    refine zO_ls (ls' := [(0, zR 60), (1, zI 0), (2, zI 0)]) rfl ?_
    refine zO_live [0, 1, 2] ?_
    exact sX4_nameKings_4 hG zfu 0 0 D
  exact hz r hr
theorem dJ9_max_7cf53_0 : decode cJ9_max_7cf53 0 = .ok (.iload_n 0, 1) := by decide +kernel
theorem dJ9_max_7cf53_1 : decode cJ9_max_7cf53 1 = .ok (.iload_n 1, 1) := by decide +kernel
theorem dJ9_max_7cf53_2 : decode cJ9_max_7cf53 2 = .ok (.if_icmp .lt 7, 3) := by decide +kernel
theorem dJ9_max_7cf53_5 : decode cJ9_max_7cf53 5 = .ok (.iload_n 0, 1) := by decide +kernel
theorem dJ9_max_7cf53_6 : decode cJ9_max_7cf53 6 = .ok (.goto 4, 3) := by decide +kernel
theorem dJ9_max_7cf53_9 : decode cJ9_max_7cf53 9 = .ok (.iload_n 1, 1) := by decide +kernel
theorem dJ9_max_7cf53_10 : decode cJ9_max_7cf53 10 = .ok (.ireturn, 1) := by decide +kernel
abbrev YJ9_max_7cf53 : zY := (yJ9_max_7cf53, cJ9_max_7cf53, 2, (Option.some Jvm.ClassFile.FieldType.int), [])
def fJ9_max_7cf53 (F : zFs) (v0 : Int) (v1 : Int) (D : zDa) : Option (Int × zDa) :=
  if v0 < v1 then
    some (v1, D)
  else
    some (v0, D)
set_option maxHeartbeats 20000000 in
theorem mJ9_max_7cf53 {l : Launch} {E : zE} {d : Nat} {F : zFs} {n sl : Nat} (hG : zG F) (v0 : Int) (v1 : Int) {D : zDa} : ∀ r, fJ9_max_7cf53 F  v0 v1 D = some r → zMet l E (d + 0) YJ9_max_7cf53 [zI v0, zI v1] (F, D, n, sl) (zcI F n sl r) := by
  intro r hr
  refine zMet_of (by decide +kernel) (fun _ h => (nomatch h)) (Nat.le_of_ble_eq_true rfl) ?_
  have hz : zO l E (d + 0) YJ9_max_7cf53 0 [(0, zI v0), (1, zI v1)] [] (F, D, n, sl) (zcI F n sl) (fJ9_max_7cf53 F  v0 v1 D) := by
    unfold fJ9_max_7cf53
    refine zO_iload_n dJ9_max_7cf53_0 rfl ?_
    refine zO_iload_n dJ9_max_7cf53_1 rfl ?_
    refine zO_icmp_lt (tgt := 9) dJ9_max_7cf53_2 rfl (fun c2 => ?_) (fun c2 => ?_)
    · refine zO_iload_n dJ9_max_7cf53_9 rfl ?_
      exact zO_ret (rv := some (zI v1)) dJ9_max_7cf53_10 rfl rfl rfl
    · refine zO_iload_n dJ9_max_7cf53_5 rfl ?_
      refine zO_goto (tgt := 10) dJ9_max_7cf53_6 rfl ?_
      exact zO_ret (rv := some (zI v0)) dJ9_max_7cf53_10 rfl rfl rfl
  exact hz r hr
theorem dX4_fillFrom_0 : decode cX4_fillFrom 0 = .ok (.aload_n 0, 1) := by decide +kernel
theorem dX4_fillFrom_1 : decode cX4_fillFrom 1 = .ok (.getfield 83, 3) := by decide +kernel
theorem dX4_fillFrom_4 : decode cX4_fillFrom 4 = .ok (.iload_n 1, 1) := by decide +kernel
theorem dX4_fillFrom_5 : decode cX4_fillFrom 5 = .ok (.isub, 1) := by decide +kernel
theorem dX4_fillFrom_6 : decode cX4_fillFrom 6 = .ok (.istore_n 2, 1) := by decide +kernel
theorem dX4_fillFrom_7 : decode cX4_fillFrom 7 = .ok (.iconst 0, 1) := by decide +kernel
theorem dX4_fillFrom_8 : decode cX4_fillFrom 8 = .ok (.istore_n 3, 1) := by decide +kernel
theorem dX4_fillFrom_9 : decode cX4_fillFrom 9 = .ok (.iload_n 3, 1) := by decide +kernel
theorem dX4_fillFrom_10 : decode cX4_fillFrom 10 = .ok (.iconst 1, 1) := by decide +kernel
theorem dX4_fillFrom_11 : decode cX4_fillFrom 11 = .ok (.aload_n 0, 1) := by decide +kernel
theorem dX4_fillFrom_12 : decode cX4_fillFrom 12 = .ok (.getfield 28, 3) := by decide +kernel
theorem dX4_fillFrom_15 : decode cX4_fillFrom 15 = .ok (.iload_n 1, 1) := by decide +kernel
theorem dX4_fillFrom_16 : decode cX4_fillFrom 16 = .ok (.iaload, 1) := by decide +kernel
theorem dX4_fillFrom_17 : decode cX4_fillFrom 17 = .ok (.ishl, 1) := by decide +kernel
theorem dX4_fillFrom_18 : decode cX4_fillFrom 18 = .ok (.if_icmp .ge 255, 3) := by decide +kernel
theorem dX4_fillFrom_21 : decode cX4_fillFrom 21 = .ok (.aload_n 0, 1) := by decide +kernel
theorem dX4_fillFrom_22 : decode cX4_fillFrom 22 = .ok (.iload_n 1, 1) := by decide +kernel
theorem dX4_fillFrom_23 : decode cX4_fillFrom 23 = .ok (.iload_n 3, 1) := by decide +kernel
theorem dX4_fillFrom_24 : decode cX4_fillFrom 24 = .ok (.invokevirtual 130, 3) := by decide +kernel
theorem dX4_fillFrom_27 : decode cX4_fillFrom 27 = .ok (.istore 4, 2) := by decide +kernel
theorem dX4_fillFrom_29 : decode cX4_fillFrom 29 = .ok (.iload_n 2, 1) := by decide +kernel
theorem dX4_fillFrom_30 : decode cX4_fillFrom 30 = .ok (.ifCond .ne 14, 3) := by decide +kernel
theorem dX4_fillFrom_33 : decode cX4_fillFrom 33 = .ok (.aload_n 0, 1) := by decide +kernel
theorem dX4_fillFrom_34 : decode cX4_fillFrom 34 = .ok (.getfield 34, 3) := by decide +kernel
theorem dX4_fillFrom_37 : decode cX4_fillFrom 37 = .ok (.iload 4, 2) := by decide +kernel
theorem dX4_fillFrom_39 : decode cX4_fillFrom 39 = .ok (.iconst 0, 1) := by decide +kernel
theorem dX4_fillFrom_40 : decode cX4_fillFrom 40 = .ok (.iastore, 1) := by decide +kernel
theorem dX4_fillFrom_41 : decode cX4_fillFrom 41 = .ok (.goto 226, 3) := by decide +kernel
theorem dX4_fillFrom_44 : decode cX4_fillFrom 44 = .ok (.aload_n 0, 1) := by decide +kernel
theorem dX4_fillFrom_45 : decode cX4_fillFrom 45 = .ok (.iload_n 1, 1) := by decide +kernel
theorem dX4_fillFrom_46 : decode cX4_fillFrom 46 = .ok (.iload_n 3, 1) := by decide +kernel
theorem dX4_fillFrom_47 : decode cX4_fillFrom 47 = .ok (.invokevirtual 133, 3) := by decide +kernel
theorem dX4_fillFrom_50 : decode cX4_fillFrom 50 = .ok (.istore 5, 2) := by decide +kernel
theorem dX4_fillFrom_52 : decode cX4_fillFrom 52 = .ok (.aload_n 0, 1) := by decide +kernel
theorem dX4_fillFrom_53 : decode cX4_fillFrom 53 = .ok (.getfield 22, 3) := by decide +kernel
theorem dX4_fillFrom_56 : decode cX4_fillFrom 56 = .ok (.iload_n 1, 1) := by decide +kernel
theorem dX4_fillFrom_57 : decode cX4_fillFrom 57 = .ok (.iload 5, 2) := by decide +kernel
theorem dX4_fillFrom_59 : decode cX4_fillFrom 59 = .ok (.iconst 1, 1) := by decide +kernel
theorem dX4_fillFrom_60 : decode cX4_fillFrom 60 = .ok (.invokestatic 119, 3) := by decide +kernel
theorem dX4_fillFrom_63 : decode cX4_fillFrom 63 = .ok (.iaload, 1) := by decide +kernel
theorem dX4_fillFrom_64 : decode cX4_fillFrom 64 = .ok (.istore 6, 2) := by decide +kernel
theorem dX4_fillFrom_66 : decode cX4_fillFrom 66 = .ok (.aload_n 0, 1) := by decide +kernel
theorem dX4_fillFrom_67 : decode cX4_fillFrom 67 = .ok (.getfield 22, 3) := by decide +kernel
theorem dX4_fillFrom_70 : decode cX4_fillFrom 70 = .ok (.iload_n 1, 1) := by decide +kernel
theorem dX4_fillFrom_71 : decode cX4_fillFrom 71 = .ok (.iload 5, 2) := by decide +kernel
theorem dX4_fillFrom_73 : decode cX4_fillFrom 73 = .ok (.iconst 2, 1) := by decide +kernel
theorem dX4_fillFrom_74 : decode cX4_fillFrom 74 = .ok (.invokestatic 119, 3) := by decide +kernel
theorem dX4_fillFrom_77 : decode cX4_fillFrom 77 = .ok (.iaload, 1) := by decide +kernel
theorem dX4_fillFrom_78 : decode cX4_fillFrom 78 = .ok (.istore 7, 2) := by decide +kernel
theorem dX4_fillFrom_80 : decode cX4_fillFrom 80 = .ok (.aload_n 0, 1) := by decide +kernel
theorem dX4_fillFrom_81 : decode cX4_fillFrom 81 = .ok (.iload_n 1, 1) := by decide +kernel
theorem dX4_fillFrom_82 : decode cX4_fillFrom 82 = .ok (.iconst 1, 1) := by decide +kernel
theorem dX4_fillFrom_83 : decode cX4_fillFrom 83 = .ok (.iadd, 1) := by decide +kernel
theorem dX4_fillFrom_84 : decode cX4_fillFrom 84 = .ok (.iload_n 3, 1) := by decide +kernel
theorem dX4_fillFrom_85 : decode cX4_fillFrom 85 = .ok (.invokevirtual 130, 3) := by decide +kernel
theorem dX4_fillFrom_88 : decode cX4_fillFrom 88 = .ok (.istore 8, 2) := by decide +kernel
theorem dX4_fillFrom_90 : decode cX4_fillFrom 90 = .ok (.aload_n 0, 1) := by decide +kernel
theorem dX4_fillFrom_91 : decode cX4_fillFrom 91 = .ok (.iload_n 1, 1) := by decide +kernel
theorem dX4_fillFrom_92 : decode cX4_fillFrom 92 = .ok (.iconst 1, 1) := by decide +kernel
theorem dX4_fillFrom_93 : decode cX4_fillFrom 93 = .ok (.iadd, 1) := by decide +kernel
theorem dX4_fillFrom_94 : decode cX4_fillFrom 94 = .ok (.aload_n 0, 1) := by decide +kernel
theorem dX4_fillFrom_95 : decode cX4_fillFrom 95 = .ok (.iload_n 1, 1) := by decide +kernel
theorem dX4_fillFrom_96 : decode cX4_fillFrom 96 = .ok (.iload_n 3, 1) := by decide +kernel
theorem dX4_fillFrom_97 : decode cX4_fillFrom 97 = .ok (.invokevirtual 136, 3) := by decide +kernel
theorem dX4_fillFrom_100 : decode cX4_fillFrom 100 = .ok (.invokevirtual 130, 3) := by decide +kernel
theorem dX4_fillFrom_103 : decode cX4_fillFrom 103 = .ok (.istore 9, 2) := by decide +kernel
theorem dX4_fillFrom_105 : decode cX4_fillFrom 105 = .ok (.iconst 0, 1) := by decide +kernel
theorem dX4_fillFrom_106 : decode cX4_fillFrom 106 = .ok (.istore 10, 2) := by decide +kernel
theorem dX4_fillFrom_108 : decode cX4_fillFrom 108 = .ok (.iload 10, 2) := by decide +kernel
theorem dX4_fillFrom_110 : decode cX4_fillFrom 110 = .ok (.iload_n 2, 1) := by decide +kernel
theorem dX4_fillFrom_111 : decode cX4_fillFrom 111 = .ok (.if_icmp .gt 156, 3) := by decide +kernel
theorem dX4_fillFrom_114 : decode cX4_fillFrom 114 = .ok (.iload 4, 2) := by decide +kernel
theorem dX4_fillFrom_116 : decode cX4_fillFrom 116 = .ok (.iload 10, 2) := by decide +kernel
theorem dX4_fillFrom_118 : decode cX4_fillFrom 118 = .ok (.iload 10, 2) := by decide +kernel
theorem dX4_fillFrom_120 : decode cX4_fillFrom 120 = .ok (.iconst 1, 1) := by decide +kernel
theorem dX4_fillFrom_121 : decode cX4_fillFrom 121 = .ok (.iadd, 1) := by decide +kernel
theorem dX4_fillFrom_122 : decode cX4_fillFrom 122 = .ok (.imul, 1) := by decide +kernel
theorem dX4_fillFrom_123 : decode cX4_fillFrom 123 = .ok (.iconst 2, 1) := by decide +kernel
theorem dX4_fillFrom_124 : decode cX4_fillFrom 124 = .ok (.idiv, 1) := by decide +kernel
theorem dX4_fillFrom_125 : decode cX4_fillFrom 125 = .ok (.iadd, 1) := by decide +kernel
theorem dX4_fillFrom_126 : decode cX4_fillFrom 126 = .ok (.istore 11, 2) := by decide +kernel
theorem dX4_fillFrom_128 : decode cX4_fillFrom 128 = .ok (.iload 9, 2) := by decide +kernel
theorem dX4_fillFrom_130 : decode cX4_fillFrom 130 = .ok (.iload 10, 2) := by decide +kernel
theorem dX4_fillFrom_132 : decode cX4_fillFrom 132 = .ok (.iload 10, 2) := by decide +kernel
theorem dX4_fillFrom_134 : decode cX4_fillFrom 134 = .ok (.iconst 1, 1) := by decide +kernel
theorem dX4_fillFrom_135 : decode cX4_fillFrom 135 = .ok (.isub, 1) := by decide +kernel
theorem dX4_fillFrom_136 : decode cX4_fillFrom 136 = .ok (.imul, 1) := by decide +kernel
theorem dX4_fillFrom_137 : decode cX4_fillFrom 137 = .ok (.iconst 2, 1) := by decide +kernel
theorem dX4_fillFrom_138 : decode cX4_fillFrom 138 = .ok (.idiv, 1) := by decide +kernel
theorem dX4_fillFrom_139 : decode cX4_fillFrom 139 = .ok (.iadd, 1) := by decide +kernel
theorem dX4_fillFrom_140 : decode cX4_fillFrom 140 = .ok (.istore 12, 2) := by decide +kernel
theorem dX4_fillFrom_142 : decode cX4_fillFrom 142 = .ok (.iload 8, 2) := by decide +kernel
theorem dX4_fillFrom_144 : decode cX4_fillFrom 144 = .ok (.iload 10, 2) := by decide +kernel
theorem dX4_fillFrom_146 : decode cX4_fillFrom 146 = .ok (.iload 10, 2) := by decide +kernel
theorem dX4_fillFrom_148 : decode cX4_fillFrom 148 = .ok (.iconst 1, 1) := by decide +kernel
theorem dX4_fillFrom_149 : decode cX4_fillFrom 149 = .ok (.iadd, 1) := by decide +kernel
theorem dX4_fillFrom_150 : decode cX4_fillFrom 150 = .ok (.imul, 1) := by decide +kernel
theorem dX4_fillFrom_151 : decode cX4_fillFrom 151 = .ok (.iconst 2, 1) := by decide +kernel
theorem dX4_fillFrom_152 : decode cX4_fillFrom 152 = .ok (.idiv, 1) := by decide +kernel
theorem dX4_fillFrom_153 : decode cX4_fillFrom 153 = .ok (.iadd, 1) := by decide +kernel
theorem dX4_fillFrom_154 : decode cX4_fillFrom 154 = .ok (.istore 13, 2) := by decide +kernel
theorem dX4_fillFrom_156 : decode cX4_fillFrom 156 = .ok (.iconst 0, 1) := by decide +kernel
theorem dX4_fillFrom_157 : decode cX4_fillFrom 157 = .ok (.istore 14, 2) := by decide +kernel
theorem dX4_fillFrom_159 : decode cX4_fillFrom 159 = .ok (.iload 14, 2) := by decide +kernel
theorem dX4_fillFrom_161 : decode cX4_fillFrom 161 = .ok (.iload 10, 2) := by decide +kernel
theorem dX4_fillFrom_163 : decode cX4_fillFrom 163 = .ok (.if_icmp .gt 98, 3) := by decide +kernel
theorem dX4_fillFrom_166 : decode cX4_fillFrom 166 = .ok (.iload 10, 2) := by decide +kernel
theorem dX4_fillFrom_168 : decode cX4_fillFrom 168 = .ok (.iload_n 2, 1) := by decide +kernel
theorem dX4_fillFrom_169 : decode cX4_fillFrom 169 = .ok (.if_icmp .ge 16, 3) := by decide +kernel
theorem dX4_fillFrom_172 : decode cX4_fillFrom 172 = .ok (.aload_n 0, 1) := by decide +kernel
theorem dX4_fillFrom_173 : decode cX4_fillFrom 173 = .ok (.getfield 34, 3) := by decide +kernel
theorem dX4_fillFrom_176 : decode cX4_fillFrom 176 = .ok (.iload 13, 2) := by decide +kernel
theorem dX4_fillFrom_178 : decode cX4_fillFrom 178 = .ok (.iload 14, 2) := by decide +kernel
theorem dX4_fillFrom_180 : decode cX4_fillFrom 180 = .ok (.iadd, 1) := by decide +kernel
theorem dX4_fillFrom_181 : decode cX4_fillFrom 181 = .ok (.iaload, 1) := by decide +kernel
theorem dX4_fillFrom_182 : decode cX4_fillFrom 182 = .ok (.goto 5, 3) := by decide +kernel
theorem dX4_fillFrom_185 : decode cX4_fillFrom 185 = .ok (.ldc 139, 2) := by decide +kernel
theorem dX4_fillFrom_187 : decode cX4_fillFrom 187 = .ok (.istore 15, 2) := by decide +kernel
theorem dX4_fillFrom_189 : decode cX4_fillFrom 189 = .ok (.iload 14, 2) := by decide +kernel
theorem dX4_fillFrom_191 : decode cX4_fillFrom 191 = .ok (.iload 10, 2) := by decide +kernel
theorem dX4_fillFrom_193 : decode cX4_fillFrom 193 = .ok (.if_icmp .ge 23, 3) := by decide +kernel
theorem dX4_fillFrom_196 : decode cX4_fillFrom 196 = .ok (.iload 15, 2) := by decide +kernel
theorem dX4_fillFrom_198 : decode cX4_fillFrom 198 = .ok (.iload 6, 2) := by decide +kernel
theorem dX4_fillFrom_200 : decode cX4_fillFrom 200 = .ok (.aload_n 0, 1) := by decide +kernel
theorem dX4_fillFrom_201 : decode cX4_fillFrom 201 = .ok (.getfield 34, 3) := by decide +kernel
theorem dX4_fillFrom_204 : decode cX4_fillFrom 204 = .ok (.iload 12, 2) := by decide +kernel
theorem dX4_fillFrom_206 : decode cX4_fillFrom 206 = .ok (.iload 14, 2) := by decide +kernel
theorem dX4_fillFrom_208 : decode cX4_fillFrom 208 = .ok (.iadd, 1) := by decide +kernel
theorem dX4_fillFrom_209 : decode cX4_fillFrom 209 = .ok (.iaload, 1) := by decide +kernel
theorem dX4_fillFrom_210 : decode cX4_fillFrom 210 = .ok (.iadd, 1) := by decide +kernel
theorem dX4_fillFrom_211 : decode cX4_fillFrom 211 = .ok (.invokestatic 140, 3) := by decide +kernel
theorem dX4_fillFrom_214 : decode cX4_fillFrom 214 = .ok (.istore 15, 2) := by decide +kernel
theorem dX4_fillFrom_216 : decode cX4_fillFrom 216 = .ok (.iload 14, 2) := by decide +kernel
theorem dX4_fillFrom_218 : decode cX4_fillFrom 218 = .ok (.ifCond .le 25, 3) := by decide +kernel
theorem dX4_fillFrom_221 : decode cX4_fillFrom 221 = .ok (.iload 15, 2) := by decide +kernel
theorem dX4_fillFrom_223 : decode cX4_fillFrom 223 = .ok (.iload 7, 2) := by decide +kernel
theorem dX4_fillFrom_225 : decode cX4_fillFrom 225 = .ok (.aload_n 0, 1) := by decide +kernel
theorem dX4_fillFrom_226 : decode cX4_fillFrom 226 = .ok (.getfield 34, 3) := by decide +kernel
theorem dX4_fillFrom_229 : decode cX4_fillFrom 229 = .ok (.iload 12, 2) := by decide +kernel
theorem dX4_fillFrom_231 : decode cX4_fillFrom 231 = .ok (.iload 14, 2) := by decide +kernel
theorem dX4_fillFrom_233 : decode cX4_fillFrom 233 = .ok (.iadd, 1) := by decide +kernel
theorem dX4_fillFrom_234 : decode cX4_fillFrom 234 = .ok (.iconst 1, 1) := by decide +kernel
theorem dX4_fillFrom_235 : decode cX4_fillFrom 235 = .ok (.isub, 1) := by decide +kernel
theorem dX4_fillFrom_236 : decode cX4_fillFrom 236 = .ok (.iaload, 1) := by decide +kernel
theorem dX4_fillFrom_237 : decode cX4_fillFrom 237 = .ok (.iadd, 1) := by decide +kernel
theorem dX4_fillFrom_238 : decode cX4_fillFrom 238 = .ok (.invokestatic 140, 3) := by decide +kernel
theorem dX4_fillFrom_241 : decode cX4_fillFrom 241 = .ok (.istore 15, 2) := by decide +kernel
theorem dX4_fillFrom_243 : decode cX4_fillFrom 243 = .ok (.aload_n 0, 1) := by decide +kernel
theorem dX4_fillFrom_244 : decode cX4_fillFrom 244 = .ok (.getfield 34, 3) := by decide +kernel
theorem dX4_fillFrom_247 : decode cX4_fillFrom 247 = .ok (.iload 11, 2) := by decide +kernel
theorem dX4_fillFrom_249 : decode cX4_fillFrom 249 = .ok (.iload 14, 2) := by decide +kernel
theorem dX4_fillFrom_251 : decode cX4_fillFrom 251 = .ok (.iadd, 1) := by decide +kernel
theorem dX4_fillFrom_252 : decode cX4_fillFrom 252 = .ok (.iload 15, 2) := by decide +kernel
theorem dX4_fillFrom_254 : decode cX4_fillFrom 254 = .ok (.iastore, 1) := by decide +kernel
theorem dX4_fillFrom_255 : decode cX4_fillFrom 255 = .ok (.iinc 14 1, 3) := by decide +kernel
theorem dX4_fillFrom_258 : decode cX4_fillFrom 258 = .ok (.goto (-99), 3) := by decide +kernel
theorem dX4_fillFrom_261 : decode cX4_fillFrom 261 = .ok (.iinc 10 1, 3) := by decide +kernel
theorem dX4_fillFrom_264 : decode cX4_fillFrom 264 = .ok (.goto (-156), 3) := by decide +kernel
theorem dX4_fillFrom_267 : decode cX4_fillFrom 267 = .ok (.iinc 3 1, 3) := by decide +kernel
theorem dX4_fillFrom_270 : decode cX4_fillFrom 270 = .ok (.goto (-261), 3) := by decide +kernel
theorem dX4_fillFrom_273 : decode cX4_fillFrom 273 = .ok (.return_, 1) := by decide +kernel
abbrev YX4_fillFrom : zY := (yX4_fillFrom, cX4_fillFrom, 16, none, [])
def fX4_fillFrom_267 (F : zFs) (k_9 : Int → zDa → Option zDa) (o1 : Int) (o2 : Int) (v3 : Int) (D : zDa) : Option zDa :=
  if (-2147483648 ≤ v3 + 1 ∧ v3 + 1 ≤ 2147483647) then
    k_9 (v3 + 1) D
  else none
def fX4_fillFrom_243 (F : zFs) (k_9 : Int → zDa → Option zDa) (k_108 : Int → zDa → Option zDa) (k_159 : Int → zDa → Option zDa) (o1 : Int) (o2 : Int) (o3 : Int) (o4 : Int) (o6 : Int) (o7 : Int) (o8 : Int) (o9 : Int) (o10 : Int) (o11 : Int) (o12 : Int) (o13 : Int) (v14 : Int) (v15 : Int) (D : zDa) : Option zDa :=
  if (-2147483648 ≤ o11 + v14 ∧ o11 + v14 ≤ 2147483647) ∧ (0 ≤ (D 60 11)) ∧ ((F ((D 60 11).toNat)).1 = 20) ∧ ((0 : Int) ≤ (o11 + v14) ∧ ((o11 + v14) : Int) < ((F ((D 60 11).toNat)).2.1 : Int)) then
    zlet (zwr D ((D 60 11).toNat) (o11 + v14).toNat v15) (fun D_26 =>
      if (-2147483648 ≤ v14 + 1 ∧ v14 + 1 ≤ 2147483647) then
        k_159 (v14 + 1) D_26
      else none)
  else none
def fX4_fillFrom_216 (F : zFs) (k_9 : Int → zDa → Option zDa) (k_108 : Int → zDa → Option zDa) (k_159 : Int → zDa → Option zDa) (o1 : Int) (o2 : Int) (o3 : Int) (o4 : Int) (o6 : Int) (o7 : Int) (o8 : Int) (o9 : Int) (o10 : Int) (o11 : Int) (o12 : Int) (o13 : Int) (v14 : Int) (v15 : Int) (D : zDa) : Option zDa :=
  if 0 < v14 then
    if (-2147483648 ≤ o12 + v14 ∧ o12 + v14 ≤ 2147483647) ∧ (-2147483648 ≤ (o12 + v14) - 1 ∧ (o12 + v14) - 1 ≤ 2147483647) ∧ (0 ≤ (D 60 11)) ∧ ((F ((D 60 11).toNat)).1 = 20) ∧ ((0 : Int) ≤ ((o12 + v14) - 1) ∧ (((o12 + v14) - 1) : Int) < ((F ((D 60 11).toNat)).2.1 : Int)) ∧ (-2147483648 ≤ o7 + (D ((D 60 11).toNat) ((o12 + v14) - 1).toNat) ∧ o7 + (D ((D 60 11).toNat) ((o12 + v14) - 1).toNat) ≤ 2147483647) then
      (fJ9_min_7cf53 F v15 (o7 + (D ((D 60 11).toNat) ((o12 + v14) - 1).toNat)) D).bind (fun (r_24, D_25) =>
        fX4_fillFrom_243 F k_9 k_108 k_159 o1 o2 o3 o4 o6 o7 o8 o9 o10 o11 o12 o13 v14 r_24 D_25)
    else none
  else
    fX4_fillFrom_243 F k_9 k_108 k_159 o1 o2 o3 o4 o6 o7 o8 o9 o10 o11 o12 o13 v14 v15 D
def fX4_fillFrom_187 (F : zFs) (k_9 : Int → zDa → Option zDa) (k_108 : Int → zDa → Option zDa) (k_159 : Int → zDa → Option zDa) (o1 : Int) (o2 : Int) (o3 : Int) (o4 : Int) (o6 : Int) (o7 : Int) (o8 : Int) (o9 : Int) (o10 : Int) (o11 : Int) (o12 : Int) (o13 : Int) (v14 : Int) (s0 : Int) (D : zDa) : Option zDa :=
  if v14 < o10 then
    if (-2147483648 ≤ o12 + v14 ∧ o12 + v14 ≤ 2147483647) ∧ (0 ≤ (D 60 11)) ∧ ((F ((D 60 11).toNat)).1 = 20) ∧ ((0 : Int) ≤ (o12 + v14) ∧ ((o12 + v14) : Int) < ((F ((D 60 11).toNat)).2.1 : Int)) ∧ (-2147483648 ≤ o6 + (D ((D 60 11).toNat) (o12 + v14).toNat) ∧ o6 + (D ((D 60 11).toNat) (o12 + v14).toNat) ≤ 2147483647) then
      (fJ9_min_7cf53 F s0 (o6 + (D ((D 60 11).toNat) (o12 + v14).toNat)) D).bind (fun (r_22, D_23) =>
        fX4_fillFrom_216 F k_9 k_108 k_159 o1 o2 o3 o4 o6 o7 o8 o9 o10 o11 o12 o13 v14 r_22 D_23)
    else none
  else
    fX4_fillFrom_216 F k_9 k_108 k_159 o1 o2 o3 o4 o6 o7 o8 o9 o10 o11 o12 o13 v14 s0 D
def fX4_fillFrom_159 (F : zFs) (o1 : Int) (o2 : Int) (o3 : Int) (o4 : Int) (o6 : Int) (o7 : Int) (o8 : Int) (o9 : Int) (o10 : Int) (o11 : Int) (o12 : Int) (o13 : Int) (k_9 : Int → zDa → Option zDa) (k_108 : Int → zDa → Option zDa) (k_159 : Int → zDa → Option zDa) (v14 : Int) (D : zDa) : Option zDa :=
  if o10 < v14 then
    if (-2147483648 ≤ o10 + 1 ∧ o10 + 1 ≤ 2147483647) then
      k_108 (o10 + 1) D
    else none
  else
    if o10 < o2 then
      if (-2147483648 ≤ o13 + v14 ∧ o13 + v14 ≤ 2147483647) ∧ (0 ≤ (D 60 11)) ∧ ((F ((D 60 11).toNat)).1 = 20) ∧ ((0 : Int) ≤ (o13 + v14) ∧ ((o13 + v14) : Int) < ((F ((D 60 11).toNat)).2.1 : Int)) then
        fX4_fillFrom_187 F k_9 k_108 k_159 o1 o2 o3 o4 o6 o7 o8 o9 o10 o11 o12 o13 v14 (D ((D 60 11).toNat) (o13 + v14).toNat) D
      else none
    else
      fX4_fillFrom_187 F k_9 k_108 k_159 o1 o2 o3 o4 o6 o7 o8 o9 o10 o11 o12 o13 v14 100000 D
def fX4_fillFrom_108 (F : zFs) (o1 : Int) (o2 : Int) (o3 : Int) (o4 : Int) (o6 : Int) (o7 : Int) (o8 : Int) (o9 : Int) (k_9 : Int → zDa → Option zDa) (k_108 : Int → zDa → Option zDa) (v10 : Int) (D : zDa) : Option zDa :=
  if o2 < v10 then
    fX4_fillFrom_267 F k_9 o1 o2 o3 D
  else
    if (-2147483648 ≤ v10 + 1 ∧ v10 + 1 ≤ 2147483647) ∧ (-2147483648 ≤ v10 * (v10 + 1) ∧ v10 * (v10 + 1) ≤ 2147483647) ∧ (-2147483648 ≤ o4 + (Int.tdiv (v10 * (v10 + 1)) 2) ∧ o4 + (Int.tdiv (v10 * (v10 + 1)) 2) ≤ 2147483647) then
      zlet ((o4 + (Int.tdiv (v10 * (v10 + 1)) 2))) (fun x11_19 =>
        if (-2147483648 ≤ v10 - 1 ∧ v10 - 1 ≤ 2147483647) ∧ (-2147483648 ≤ v10 * (v10 - 1) ∧ v10 * (v10 - 1) ≤ 2147483647) ∧ (-2147483648 ≤ o9 + (Int.tdiv (v10 * (v10 - 1)) 2) ∧ o9 + (Int.tdiv (v10 * (v10 - 1)) 2) ≤ 2147483647) then
          zlet ((o9 + (Int.tdiv (v10 * (v10 - 1)) 2))) (fun x12_20 =>
            if (-2147483648 ≤ o8 + (Int.tdiv (v10 * (v10 + 1)) 2) ∧ o8 + (Int.tdiv (v10 * (v10 + 1)) 2) ≤ 2147483647) then
              zlet ((o8 + (Int.tdiv (v10 * (v10 + 1)) 2))) (fun x13_21 =>
                zfix (fun _ _ => none) (fX4_fillFrom_159 F o1 o2 o3 o4 o6 o7 o8 o9 v10 x11_19 x12_20 x13_21 k_9 k_108) zfu 0 D)
            else none)
        else none)
    else none
def fX4_fillFrom_9 (F : zFs) (o1 : Int) (o2 : Int)  (k_9 : Int → zDa → Option zDa) (v3 : Int) (D : zDa) : Option zDa :=
  if (0 ≤ o1 ∧ o1 < 21) then
    if v3 < (zshl 1 (D 64 o1.toNat)) then
      (fX4_rowAt F o1 v3 D).bind (fun (r_2, D_3) =>
        if o2 = 0 then
          if (0 ≤ (D_3 60 11)) ∧ ((F ((D_3 60 11).toNat)).1 = 20) ∧ ((0 : Int) ≤ r_2 ∧ (r_2 : Int) < ((F ((D_3 60 11).toNat)).2.1 : Int)) then
            zlet (zwr D_3 ((D_3 60 11).toNat) r_2.toNat 0) (fun D_4 =>
              fX4_fillFrom_267 F k_9 o1 o2 v3 D_4)
          else none
        else
          (fX4_helpedBy F o1 v3 D_3).bind (fun (r_5, D_6) =>
            (fX4_priceAt F o1 r_5 1 D_6).bind (fun (r_7, D_8) =>
              if (0 ≤ r_7 ∧ r_7 < 120) then
                zlet ((D_8 62 r_7.toNat)) (fun x6_9 =>
                  (fX4_priceAt F o1 r_5 2 D_8).bind (fun (r_10, D_11) =>
                    if (0 ≤ r_10 ∧ r_10 < 120) then
                      zlet ((D_11 62 r_10.toNat)) (fun x7_12 =>
                        if (-2147483648 ≤ o1 + 1 ∧ o1 + 1 ≤ 2147483647) then
                          (fX4_rowAt F (o1 + 1) v3 D_11).bind (fun (r_13, D_14) =>
                            (fX4_kingsWith F o1 v3 D_14).bind (fun (r_15, D_16) =>
                              (fX4_rowAt F (o1 + 1) r_15 D_16).bind (fun (r_17, D_18) =>
                                zfix (fun _ _ => none) (fX4_fillFrom_108 F o1 o2 v3 r_2 x6_9 x7_12 r_13 r_17 k_9) zfu 0 D_18)))
                        else none)
                    else none))
              else none)))
    else
      some D
  else none
def fX4_fillFrom (F : zFs) (v1 : Int) (D : zDa) : Option zDa :=
  if (-2147483648 ≤ (D 60 5) - v1 ∧ (D 60 5) - v1 ≤ 2147483647) then
    zlet (((D 60 5) - v1)) (fun x2_1 =>
      zfix (fun _ _ => none) (fX4_fillFrom_9 F v1 x2_1) zfu 0 D)
  else none
set_option maxHeartbeats 20000000 in
theorem sX4_fillFrom_267 {l : Launch} {E : zE} {d : Nat} {F : zFs} {n sl : Nat} (hG : zG F)  (o1 : Int) (o2 : Int) (v3 : Int) (k_9 : Int → zDa → Option zDa) (hk_9 : ∀ (u3 : Int) (D : zDa), zO l E (d + 2) YX4_fillFrom 9 [(0, zR 60), (1, zI o1), (2, zI o2), (3, zI u3)] [] (F, D, n, sl) (zcV F n sl) (k_9 u3 D)) (D : zDa) : zO l E (d + 2) YX4_fillFrom 267 [(0, zR 60), (1, zI o1), (2, zI o2), (3, zI v3)] [] (F, D, n, sl) (zcV F n sl) (fX4_fillFrom_267 F k_9 o1 o2 v3 D) := by
  unfold fX4_fillFrom_267
  refine zO_chk (fun h4 => ?_)
  refine zO_iinc dX4_fillFrom_267 rfl h4 (by decide) ?_
  refine zO_ls (ls' := [(0, zR 60), (1, zI o1), (2, zI o2), (3, zI (v3 + 1))]) rfl ?_
  refine zO_goto (tgt := 9) dX4_fillFrom_270 rfl ?_
  refine zO_live [0, 1, 2, 3] ?_
  exact hk_9 (v3 + 1) D
set_option maxHeartbeats 20000000 in
theorem sX4_fillFrom_243 {l : Launch} {E : zE} {d : Nat} {F : zFs} {n sl : Nat} (hG : zG F)  (o1 : Int) (o2 : Int) (o3 : Int) (o4 : Int) (o6 : Int) (o7 : Int) (o8 : Int) (o9 : Int) (o10 : Int) (o11 : Int) (o12 : Int) (o13 : Int) (v14 : Int) (v15 : Int) (k_9 : Int → zDa → Option zDa) (k_108 : Int → zDa → Option zDa) (k_159 : Int → zDa → Option zDa) (hk_9 : ∀ (u3 : Int) (D : zDa), zO l E (d + 2) YX4_fillFrom 9 [(0, zR 60), (1, zI o1), (2, zI o2), (3, zI u3)] [] (F, D, n, sl) (zcV F n sl) (k_9 u3 D)) (hk_108 : ∀ (u10 : Int) (D : zDa), zO l E (d + 2) YX4_fillFrom 108 [(0, zR 60), (1, zI o1), (2, zI o2), (3, zI o3), (4, zI o4), (6, zI o6), (7, zI o7), (8, zI o8), (9, zI o9), (10, zI u10)] [] (F, D, n, sl) (zcV F n sl) (k_108 u10 D)) (hk_159 : ∀ (u14 : Int) (D : zDa), zO l E (d + 2) YX4_fillFrom 159 [(0, zR 60), (1, zI o1), (2, zI o2), (3, zI o3), (4, zI o4), (6, zI o6), (7, zI o7), (8, zI o8), (9, zI o9), (10, zI o10), (11, zI o11), (12, zI o12), (13, zI o13), (14, zI u14)] [] (F, D, n, sl) (zcV F n sl) (k_159 u14 D)) (D : zDa) : zO l E (d + 2) YX4_fillFrom 243 [(0, zR 60), (1, zI o1), (2, zI o2), (3, zI o3), (4, zI o4), (6, zI o6), (7, zI o7), (8, zI o8), (9, zI o9), (10, zI o10), (11, zI o11), (12, zI o12), (13, zI o13), (14, zI v14), (15, zI v15)] [] (F, D, n, sl) (zcV F n sl) (fX4_fillFrom_243 F k_9 k_108 k_159 o1 o2 o3 o4 o6 o7 o8 o9 o10 o11 o12 o13 v14 v15 D) := by
  unfold fX4_fillFrom_243
  refine zO_chk (fun h15 => ?_)
  refine zO_aload_n dX4_fillFrom_243 rfl (zR_P _) ?_
  refine gt4 (k := 11) (v := zq (D 60 11)) dX4_fillFrom_244 wF_X4_34 (by decide) (gk_60 hG) rfl ?_
  refine zO_iload dX4_fillFrom_247 rfl ?_
  refine zO_iload dX4_fillFrom_249 rfl ?_
  refine zO_iadd dX4_fillFrom_251 h15.1 ?_
  refine zO_iload dX4_fillFrom_252 rfl ?_
  refine zO_q2 h15.2.1 ?_
  refine zO_iast dX4_fillFrom_254 h15.2.2.1 h15.2.2.2 ?_
  refine zO_letD (fun D_26 eD_26 => ?_)
  refine zO_chk (fun h16 => ?_)
  refine zO_iinc dX4_fillFrom_255 rfl h16 (by decide) ?_
  refine zO_ls (ls' := [(0, zR 60), (1, zI o1), (2, zI o2), (3, zI o3), (4, zI o4), (6, zI o6), (7, zI o7), (8, zI o8), (9, zI o9), (10, zI o10), (11, zI o11), (12, zI o12), (13, zI o13), (14, zI (v14 + 1)), (15, zI v15)]) rfl ?_
  refine zO_goto (tgt := 159) dX4_fillFrom_258 rfl ?_
  refine zO_live [0, 1, 2, 3, 4, 6, 7, 8, 9, 10, 11, 12, 13, 14] ?_
  exact hk_159 (v14 + 1) D_26
set_option maxHeartbeats 20000000 in
theorem sX4_fillFrom_216 {l : Launch} {E : zE} {d : Nat} {F : zFs} {n sl : Nat} (hG : zG F)  (o1 : Int) (o2 : Int) (o3 : Int) (o4 : Int) (o6 : Int) (o7 : Int) (o8 : Int) (o9 : Int) (o10 : Int) (o11 : Int) (o12 : Int) (o13 : Int) (v14 : Int) (v15 : Int) (k_9 : Int → zDa → Option zDa) (k_108 : Int → zDa → Option zDa) (k_159 : Int → zDa → Option zDa) (hk_9 : ∀ (u3 : Int) (D : zDa), zO l E (d + 2) YX4_fillFrom 9 [(0, zR 60), (1, zI o1), (2, zI o2), (3, zI u3)] [] (F, D, n, sl) (zcV F n sl) (k_9 u3 D)) (hk_108 : ∀ (u10 : Int) (D : zDa), zO l E (d + 2) YX4_fillFrom 108 [(0, zR 60), (1, zI o1), (2, zI o2), (3, zI o3), (4, zI o4), (6, zI o6), (7, zI o7), (8, zI o8), (9, zI o9), (10, zI u10)] [] (F, D, n, sl) (zcV F n sl) (k_108 u10 D)) (hk_159 : ∀ (u14 : Int) (D : zDa), zO l E (d + 2) YX4_fillFrom 159 [(0, zR 60), (1, zI o1), (2, zI o2), (3, zI o3), (4, zI o4), (6, zI o6), (7, zI o7), (8, zI o8), (9, zI o9), (10, zI o10), (11, zI o11), (12, zI o12), (13, zI o13), (14, zI u14)] [] (F, D, n, sl) (zcV F n sl) (k_159 u14 D)) (D : zDa) : zO l E (d + 2) YX4_fillFrom 216 [(0, zR 60), (1, zI o1), (2, zI o2), (3, zI o3), (4, zI o4), (6, zI o6), (7, zI o7), (8, zI o8), (9, zI o9), (10, zI o10), (11, zI o11), (12, zI o12), (13, zI o13), (14, zI v14), (15, zI v15)] [] (F, D, n, sl) (zcV F n sl) (fX4_fillFrom_216 F k_9 k_108 k_159 o1 o2 o3 o4 o6 o7 o8 o9 o10 o11 o12 o13 v14 v15 D) := by
  unfold fX4_fillFrom_216
  refine zO_iload dX4_fillFrom_216 rfl ?_
  refine zO_if_le (tgt := 243) dX4_fillFrom_218 rfl (fun c218 => ?_) (fun c218 => ?_)
  · refine zO_chk (fun h14 => ?_)
    refine zO_iload dX4_fillFrom_221 rfl ?_
    refine zO_iload dX4_fillFrom_223 rfl ?_
    refine zO_aload_n dX4_fillFrom_225 rfl (zR_P _) ?_
    refine gt4 (k := 11) (v := zq (D 60 11)) dX4_fillFrom_226 wF_X4_34 (by decide) (gk_60 hG) rfl ?_
    refine zO_iload dX4_fillFrom_229 rfl ?_
    refine zO_iload dX4_fillFrom_231 rfl ?_
    refine zO_iadd dX4_fillFrom_233 h14.1 ?_
    refine zO_iconst dX4_fillFrom_234 (by decide) ?_
    refine zO_isub dX4_fillFrom_235 h14.2.1 ?_
    refine zO_q1 h14.2.2.1 ?_
    refine zO_iald dX4_fillFrom_236 h14.2.2.2.1 h14.2.2.2.2.1 ?_
    refine zO_iadd dX4_fillFrom_237 h14.2.2.2.2.2 ?_
    refine zO_callS (Y' := YJ9_min_7cf53) (cw := zcI F n sl) (as := [zI v15, zI (o7 + (D ((D 60 11).toNat) ((o12 + v14) - 1).toNat))]) (rest := []) (na := 2) dX4_fillFrom_238 wC_J9_min_7cf53 wN_J9 wM_X4_140 wS_J9_min_7cf53 (by decide) (by decide) rfl rfl (Nat.le_of_ble_eq_true rfl) (fun r hr => zMet_cast (Nat.add_assoc d 1 0) (mJ9_min_7cf53 (d := d + 1) hG v15 (o7 + (D ((D 60 11).toNat) ((o12 + v14) - 1).toNat)) r hr)) ?_
    rintro ⟨r_24, D_25⟩ -
    show zO _ _ _ _ _ _ [zI r_24] (F, D_25, n, sl) _ _
    refine zO_istore dX4_fillFrom_241 (by decide) ?_
    refine zO_ls (ls' := [(0, zR 60), (1, zI o1), (2, zI o2), (3, zI o3), (4, zI o4), (6, zI o6), (7, zI o7), (8, zI o8), (9, zI o9), (10, zI o10), (11, zI o11), (12, zI o12), (13, zI o13), (14, zI v14), (15, zI r_24)]) rfl ?_
    refine zO_live [0, 1, 2, 3, 4, 6, 7, 8, 9, 10, 11, 12, 13, 14, 15] ?_
    exact sX4_fillFrom_243 hG o1 o2 o3 o4 o6 o7 o8 o9 o10 o11 o12 o13 v14 r_24 _ _ _ hk_9 hk_108 hk_159 D_25
  · refine zO_live [0, 1, 2, 3, 4, 6, 7, 8, 9, 10, 11, 12, 13, 14, 15] ?_
    exact sX4_fillFrom_243 hG o1 o2 o3 o4 o6 o7 o8 o9 o10 o11 o12 o13 v14 v15 _ _ _ hk_9 hk_108 hk_159 D
set_option maxHeartbeats 20000000 in
theorem sX4_fillFrom_187 {l : Launch} {E : zE} {d : Nat} {F : zFs} {n sl : Nat} (hG : zG F)  (o1 : Int) (o2 : Int) (o3 : Int) (o4 : Int) (o6 : Int) (o7 : Int) (o8 : Int) (o9 : Int) (o10 : Int) (o11 : Int) (o12 : Int) (o13 : Int) (v14 : Int) (s0 : Int) (k_9 : Int → zDa → Option zDa) (k_108 : Int → zDa → Option zDa) (k_159 : Int → zDa → Option zDa) (hk_9 : ∀ (u3 : Int) (D : zDa), zO l E (d + 2) YX4_fillFrom 9 [(0, zR 60), (1, zI o1), (2, zI o2), (3, zI u3)] [] (F, D, n, sl) (zcV F n sl) (k_9 u3 D)) (hk_108 : ∀ (u10 : Int) (D : zDa), zO l E (d + 2) YX4_fillFrom 108 [(0, zR 60), (1, zI o1), (2, zI o2), (3, zI o3), (4, zI o4), (6, zI o6), (7, zI o7), (8, zI o8), (9, zI o9), (10, zI u10)] [] (F, D, n, sl) (zcV F n sl) (k_108 u10 D)) (hk_159 : ∀ (u14 : Int) (D : zDa), zO l E (d + 2) YX4_fillFrom 159 [(0, zR 60), (1, zI o1), (2, zI o2), (3, zI o3), (4, zI o4), (6, zI o6), (7, zI o7), (8, zI o8), (9, zI o9), (10, zI o10), (11, zI o11), (12, zI o12), (13, zI o13), (14, zI u14)] [] (F, D, n, sl) (zcV F n sl) (k_159 u14 D)) (D : zDa) : zO l E (d + 2) YX4_fillFrom 187 [(0, zR 60), (1, zI o1), (2, zI o2), (3, zI o3), (4, zI o4), (6, zI o6), (7, zI o7), (8, zI o8), (9, zI o9), (10, zI o10), (11, zI o11), (12, zI o12), (13, zI o13), (14, zI v14)] [zI s0] (F, D, n, sl) (zcV F n sl) (fX4_fillFrom_187 F k_9 k_108 k_159 o1 o2 o3 o4 o6 o7 o8 o9 o10 o11 o12 o13 v14 s0 D) := by
  unfold fX4_fillFrom_187
  refine zO_istore dX4_fillFrom_187 (by decide) ?_
  refine zO_ls (ls' := [(0, zR 60), (1, zI o1), (2, zI o2), (3, zI o3), (4, zI o4), (6, zI o6), (7, zI o7), (8, zI o8), (9, zI o9), (10, zI o10), (11, zI o11), (12, zI o12), (13, zI o13), (14, zI v14), (15, zI s0)]) rfl ?_
  refine zO_iload dX4_fillFrom_189 rfl ?_
  refine zO_iload dX4_fillFrom_191 rfl ?_
  refine zO_icmp_ge (tgt := 216) dX4_fillFrom_193 rfl (fun c193 => ?_) (fun c193 => ?_)
  · refine zO_chk (fun h13 => ?_)
    refine zO_iload dX4_fillFrom_196 rfl ?_
    refine zO_iload dX4_fillFrom_198 rfl ?_
    refine zO_aload_n dX4_fillFrom_200 rfl (zR_P _) ?_
    refine gt4 (k := 11) (v := zq (D 60 11)) dX4_fillFrom_201 wF_X4_34 (by decide) (gk_60 hG) rfl ?_
    refine zO_iload dX4_fillFrom_204 rfl ?_
    refine zO_iload dX4_fillFrom_206 rfl ?_
    refine zO_iadd dX4_fillFrom_208 h13.1 ?_
    refine zO_q1 h13.2.1 ?_
    refine zO_iald dX4_fillFrom_209 h13.2.2.1 h13.2.2.2.1 ?_
    refine zO_iadd dX4_fillFrom_210 h13.2.2.2.2 ?_
    refine zO_callS (Y' := YJ9_min_7cf53) (cw := zcI F n sl) (as := [zI s0, zI (o6 + (D ((D 60 11).toNat) (o12 + v14).toNat))]) (rest := []) (na := 2) dX4_fillFrom_211 wC_J9_min_7cf53 wN_J9 wM_X4_140 wS_J9_min_7cf53 (by decide) (by decide) rfl rfl (Nat.le_of_ble_eq_true rfl) (fun r hr => zMet_cast (Nat.add_assoc d 1 0) (mJ9_min_7cf53 (d := d + 1) hG s0 (o6 + (D ((D 60 11).toNat) (o12 + v14).toNat)) r hr)) ?_
    rintro ⟨r_22, D_23⟩ -
    show zO _ _ _ _ _ _ [zI r_22] (F, D_23, n, sl) _ _
    refine zO_istore dX4_fillFrom_214 (by decide) ?_
    refine zO_ls (ls' := [(0, zR 60), (1, zI o1), (2, zI o2), (3, zI o3), (4, zI o4), (6, zI o6), (7, zI o7), (8, zI o8), (9, zI o9), (10, zI o10), (11, zI o11), (12, zI o12), (13, zI o13), (14, zI v14), (15, zI r_22)]) rfl ?_
    refine zO_live [0, 1, 2, 3, 4, 6, 7, 8, 9, 10, 11, 12, 13, 14, 15] ?_
    exact sX4_fillFrom_216 hG o1 o2 o3 o4 o6 o7 o8 o9 o10 o11 o12 o13 v14 r_22 _ _ _ hk_9 hk_108 hk_159 D_23
  · refine zO_live [0, 1, 2, 3, 4, 6, 7, 8, 9, 10, 11, 12, 13, 14, 15] ?_
    exact sX4_fillFrom_216 hG o1 o2 o3 o4 o6 o7 o8 o9 o10 o11 o12 o13 v14 s0 _ _ _ hk_9 hk_108 hk_159 D
set_option maxHeartbeats 20000000 in
theorem sX4_fillFrom_159 {l : Launch} {E : zE} {d : Nat} {F : zFs} {n sl : Nat} (hG : zG F)  (o1 : Int) (o2 : Int) (o3 : Int) (o4 : Int) (o6 : Int) (o7 : Int) (o8 : Int) (o9 : Int) (o10 : Int) (o11 : Int) (o12 : Int) (o13 : Int) (k_9 : Int → zDa → Option zDa) (k_108 : Int → zDa → Option zDa) (hk_9 : ∀ (u3 : Int) (D : zDa), zO l E (d + 2) YX4_fillFrom 9 [(0, zR 60), (1, zI o1), (2, zI o2), (3, zI u3)] [] (F, D, n, sl) (zcV F n sl) (k_9 u3 D)) (hk_108 : ∀ (u10 : Int) (D : zDa), zO l E (d + 2) YX4_fillFrom 108 [(0, zR 60), (1, zI o1), (2, zI o2), (3, zI o3), (4, zI o4), (6, zI o6), (7, zI o7), (8, zI o8), (9, zI o9), (10, zI u10)] [] (F, D, n, sl) (zcV F n sl) (k_108 u10 D)) : ∀ (N : Nat) (v14 : Int) (D : zDa), zO l E (d + 2) YX4_fillFrom 159 [(0, zR 60), (1, zI o1), (2, zI o2), (3, zI o3), (4, zI o4), (6, zI o6), (7, zI o7), (8, zI o8), (9, zI o9), (10, zI o10), (11, zI o11), (12, zI o12), (13, zI o13), (14, zI v14)] [] (F, D, n, sl) (zcV F n sl) (zfix (fun _ _ => none) (fX4_fillFrom_159 F o1 o2 o3 o4 o6 o7 o8 o9 o10 o11 o12 o13 k_9 k_108) N v14 D) := by
  intro N
  induction N with
  | zero => intro v14 D; exact zO_none
  | succ N hk_159 =>
    intro v14 D
    show zO _ _ _ _ _ _ _ _ _ ((fX4_fillFrom_159 F o1 o2 o3 o4 o6 o7 o8 o9 o10 o11 o12 o13 k_9 k_108) (zfix (fun _ _ => none) (fX4_fillFrom_159 F o1 o2 o3 o4 o6 o7 o8 o9 o10 o11 o12 o13 k_9 k_108) N) v14 D)
    unfold fX4_fillFrom_159
    refine zO_iload dX4_fillFrom_159 rfl ?_
    refine zO_iload dX4_fillFrom_161 rfl ?_
    refine zO_icmp_gt (tgt := 261) dX4_fillFrom_163 rfl (fun c163 => ?_) (fun c163 => ?_)
    · refine zO_chk (fun h11 => ?_)
      refine zO_iinc dX4_fillFrom_261 rfl h11 (by decide) ?_
      refine zO_ls (ls' := [(0, zR 60), (1, zI o1), (2, zI o2), (3, zI o3), (4, zI o4), (6, zI o6), (7, zI o7), (8, zI o8), (9, zI o9), (10, zI (o10 + 1)), (11, zI o11), (12, zI o12), (13, zI o13), (14, zI v14)]) rfl ?_
      refine zO_goto (tgt := 108) dX4_fillFrom_264 rfl ?_
      refine zO_live [0, 1, 2, 3, 4, 6, 7, 8, 9, 10] ?_
      exact hk_108 (o10 + 1) D
    · refine zO_iload dX4_fillFrom_166 rfl ?_
      refine zO_iload_n dX4_fillFrom_168 rfl ?_
      refine zO_icmp_ge (tgt := 185) dX4_fillFrom_169 rfl (fun c169 => ?_) (fun c169 => ?_)
      · refine zO_chk (fun h12 => ?_)
        refine zO_aload_n dX4_fillFrom_172 rfl (zR_P _) ?_
        refine gt4 (k := 11) (v := zq (D 60 11)) dX4_fillFrom_173 wF_X4_34 (by decide) (gk_60 hG) rfl ?_
        refine zO_iload dX4_fillFrom_176 rfl ?_
        refine zO_iload dX4_fillFrom_178 rfl ?_
        refine zO_iadd dX4_fillFrom_180 h12.1 ?_
        refine zO_q1 h12.2.1 ?_
        refine zO_iald dX4_fillFrom_181 h12.2.2.1 h12.2.2.2 ?_
        refine zO_goto (tgt := 187) dX4_fillFrom_182 rfl ?_
        refine zO_live [0, 1, 2, 3, 4, 6, 7, 8, 9, 10, 11, 12, 13, 14] ?_
        exact sX4_fillFrom_187 hG o1 o2 o3 o4 o6 o7 o8 o9 o10 o11 o12 o13 v14 (D ((D 60 11).toNat) (o13 + v14).toNat) _ _ _ hk_9 hk_108 hk_159 D
      · refine zO_ldc (n := 100000) dX4_fillFrom_185 wK_X4_139 (by decide) ?_
        refine zO_live [0, 1, 2, 3, 4, 6, 7, 8, 9, 10, 11, 12, 13, 14] ?_
        exact sX4_fillFrom_187 hG o1 o2 o3 o4 o6 o7 o8 o9 o10 o11 o12 o13 v14 100000 _ _ _ hk_9 hk_108 hk_159 D
set_option maxHeartbeats 20000000 in
theorem sX4_fillFrom_108 {l : Launch} {E : zE} {d : Nat} {F : zFs} {n sl : Nat} (hG : zG F)  (o1 : Int) (o2 : Int) (o3 : Int) (o4 : Int) (o6 : Int) (o7 : Int) (o8 : Int) (o9 : Int) (k_9 : Int → zDa → Option zDa) (hk_9 : ∀ (u3 : Int) (D : zDa), zO l E (d + 2) YX4_fillFrom 9 [(0, zR 60), (1, zI o1), (2, zI o2), (3, zI u3)] [] (F, D, n, sl) (zcV F n sl) (k_9 u3 D)) : ∀ (N : Nat) (v10 : Int) (D : zDa), zO l E (d + 2) YX4_fillFrom 108 [(0, zR 60), (1, zI o1), (2, zI o2), (3, zI o3), (4, zI o4), (6, zI o6), (7, zI o7), (8, zI o8), (9, zI o9), (10, zI v10)] [] (F, D, n, sl) (zcV F n sl) (zfix (fun _ _ => none) (fX4_fillFrom_108 F o1 o2 o3 o4 o6 o7 o8 o9 k_9) N v10 D) := by
  intro N
  induction N with
  | zero => intro v10 D; exact zO_none
  | succ N hk_108 =>
    intro v10 D
    show zO _ _ _ _ _ _ _ _ _ ((fX4_fillFrom_108 F o1 o2 o3 o4 o6 o7 o8 o9 k_9) (zfix (fun _ _ => none) (fX4_fillFrom_108 F o1 o2 o3 o4 o6 o7 o8 o9 k_9) N) v10 D)
    unfold fX4_fillFrom_108
    refine zO_iload dX4_fillFrom_108 rfl ?_
    refine zO_iload_n dX4_fillFrom_110 rfl ?_
    refine zO_icmp_gt (tgt := 267) dX4_fillFrom_111 rfl (fun c111 => ?_) (fun c111 => ?_)
    · refine zO_live [0, 1, 2, 3] ?_
      exact sX4_fillFrom_267 hG o1 o2 o3 _ hk_9 D
    · refine zO_chk (fun h8 => ?_)
      refine zO_iload dX4_fillFrom_114 rfl ?_
      refine zO_iload dX4_fillFrom_116 rfl ?_
      refine zO_iload dX4_fillFrom_118 rfl ?_
      refine zO_iconst dX4_fillFrom_120 (by decide) ?_
      refine zO_iadd dX4_fillFrom_121 h8.1 ?_
      refine zO_imul dX4_fillFrom_122 h8.2.1 ?_
      refine zO_iconst dX4_fillFrom_123 (by decide) ?_
      refine zO_idiv dX4_fillFrom_124 (by decide) (fun q => absurd q.2 (by decide)) ?_
      refine zO_iadd dX4_fillFrom_125 h8.2.2 ?_
      refine zO_letI (fun x11_19 ex11_19 => ?_)
      refine zO_istore dX4_fillFrom_126 (by decide) ?_
      refine zO_ls (ls' := [(0, zR 60), (1, zI o1), (2, zI o2), (3, zI o3), (4, zI o4), (6, zI o6), (7, zI o7), (8, zI o8), (9, zI o9), (10, zI v10), (11, zI x11_19)]) rfl ?_
      refine zO_chk (fun h9 => ?_)
      refine zO_iload dX4_fillFrom_128 rfl ?_
      refine zO_iload dX4_fillFrom_130 rfl ?_
      refine zO_iload dX4_fillFrom_132 rfl ?_
      refine zO_iconst dX4_fillFrom_134 (by decide) ?_
      refine zO_isub dX4_fillFrom_135 h9.1 ?_
      refine zO_imul dX4_fillFrom_136 h9.2.1 ?_
      refine zO_iconst dX4_fillFrom_137 (by decide) ?_
      refine zO_idiv dX4_fillFrom_138 (by decide) (fun q => absurd q.2 (by decide)) ?_
      refine zO_iadd dX4_fillFrom_139 h9.2.2 ?_
      refine zO_letI (fun x12_20 ex12_20 => ?_)
      refine zO_istore dX4_fillFrom_140 (by decide) ?_
      refine zO_ls (ls' := [(0, zR 60), (1, zI o1), (2, zI o2), (3, zI o3), (4, zI o4), (6, zI o6), (7, zI o7), (8, zI o8), (9, zI o9), (10, zI v10), (11, zI x11_19), (12, zI x12_20)]) rfl ?_
      refine zO_chk (fun h10 => ?_)
      refine zO_iload dX4_fillFrom_142 rfl ?_
      refine zO_iload dX4_fillFrom_144 rfl ?_
      refine zO_iload dX4_fillFrom_146 rfl ?_
      refine zO_iconst dX4_fillFrom_148 (by decide) ?_
      refine zO_iadd dX4_fillFrom_149 h8.1 ?_
      refine zO_imul dX4_fillFrom_150 h8.2.1 ?_
      refine zO_iconst dX4_fillFrom_151 (by decide) ?_
      refine zO_idiv dX4_fillFrom_152 (by decide) (fun q => absurd q.2 (by decide)) ?_
      refine zO_iadd dX4_fillFrom_153 h10 ?_
      refine zO_letI (fun x13_21 ex13_21 => ?_)
      refine zO_istore dX4_fillFrom_154 (by decide) ?_
      refine zO_ls (ls' := [(0, zR 60), (1, zI o1), (2, zI o2), (3, zI o3), (4, zI o4), (6, zI o6), (7, zI o7), (8, zI o8), (9, zI o9), (10, zI v10), (11, zI x11_19), (12, zI x12_20), (13, zI x13_21)]) rfl ?_
      refine zO_iconst dX4_fillFrom_156 (by decide) ?_
      refine zO_istore dX4_fillFrom_157 (by decide) ?_
      refine zO_ls (ls' := [(0, zR 60), (1, zI o1), (2, zI o2), (3, zI o3), (4, zI o4), (6, zI o6), (7, zI o7), (8, zI o8), (9, zI o9), (10, zI v10), (11, zI x11_19), (12, zI x12_20), (13, zI x13_21), (14, zI 0)]) rfl ?_
      refine zO_live [0, 1, 2, 3, 4, 6, 7, 8, 9, 10, 11, 12, 13, 14] ?_
      exact sX4_fillFrom_159 hG o1 o2 o3 o4 o6 o7 o8 o9 v10 x11_19 x12_20 x13_21 _ _ hk_9 hk_108 zfu 0 D
set_option maxHeartbeats 20000000 in
theorem sX4_fillFrom_9 {l : Launch} {E : zE} {d : Nat} {F : zFs} {n sl : Nat} (hG : zG F)  (o1 : Int) (o2 : Int)   : ∀ (N : Nat) (v3 : Int) (D : zDa), zO l E (d + 2) YX4_fillFrom 9 [(0, zR 60), (1, zI o1), (2, zI o2), (3, zI v3)] [] (F, D, n, sl) (zcV F n sl) (zfix (fun _ _ => none) (fX4_fillFrom_9 F o1 o2) N v3 D) := by
  intro N
  induction N with
  | zero => intro v3 D; exact zO_none
  | succ N hk_9 =>
    intro v3 D
    show zO _ _ _ _ _ _ _ _ _ ((fX4_fillFrom_9 F o1 o2) (zfix (fun _ _ => none) (fX4_fillFrom_9 F o1 o2) N) v3 D)
    unfold fX4_fillFrom_9
    refine zO_chk (fun h2 => ?_)
    refine zO_iload_n dX4_fillFrom_9 rfl ?_
    refine zO_iconst dX4_fillFrom_10 (by decide) ?_
    refine zO_aload_n dX4_fillFrom_11 rfl (zR_P _) ?_
    refine gt4 (k := 9) dX4_fillFrom_12 wF_X4_28 (by decide) (gk_60 hG) (zgv (c := 4) (k := 9) rfl (Or.inl ⟨_, rfl⟩) (gf_60_9 hG)) ?_
    refine zO_iload_n dX4_fillFrom_15 rfl ?_
    refine zO_iald dX4_fillFrom_16 (gk_64 hG) (gl_in (gl_64 hG) h2) ?_
    refine zO_ishl dX4_fillFrom_17 ?_
    refine zO_icmp_ge (tgt := 273) dX4_fillFrom_18 rfl (fun c18 => ?_) (fun c18 => ?_)
    · refine zO_aload_n dX4_fillFrom_21 rfl (zR_P _) ?_
      refine zO_iload_n dX4_fillFrom_22 rfl ?_
      refine zO_iload_n dX4_fillFrom_23 rfl ?_
      refine zO_callV (Y' := YX4_rowAt) (cw := zcI F n sl) (as := [zI o1, zI v3]) (rest := []) (na := 2) (ci := 4) rfl dX4_fillFrom_24 wC_X4_rowAt wN_X4 wM_X4_130 wI_X4_rowAt wV_X4_rowAt (by decide) (by decide) rfl rfl (Nat.le_of_ble_eq_true rfl) rfl (by decide) (gk_60 hG) (fun r hr => zMet_cast (Nat.add_assoc d 0 1) (mX4_rowAt (d := d + 0) hG o1 v3 r hr)) ?_
      rintro ⟨r_2, D_3⟩ -
      show zO _ _ _ _ _ _ [zI r_2] (F, D_3, n, sl) _ _
      refine zO_istore dX4_fillFrom_27 (by decide) ?_
      refine zO_ls (ls' := [(0, zR 60), (1, zI o1), (2, zI o2), (3, zI v3), (4, zI r_2)]) rfl ?_
      refine zO_iload_n dX4_fillFrom_29 rfl ?_
      refine zO_if_ne (tgt := 44) dX4_fillFrom_30 rfl (fun c30 => ?_) (fun c30 => ?_)
      · refine zO_chk (fun h3 => ?_)
        refine zO_aload_n dX4_fillFrom_33 rfl (zR_P _) ?_
        refine gt4 (k := 11) (v := zq (D_3 60 11)) dX4_fillFrom_34 wF_X4_34 (by decide) (gk_60 hG) rfl ?_
        refine zO_iload dX4_fillFrom_37 rfl ?_
        refine zO_iconst dX4_fillFrom_39 (by decide) ?_
        refine zO_q2 h3.1 ?_
        refine zO_iast dX4_fillFrom_40 h3.2.1 h3.2.2 ?_
        refine zO_letD (fun D_4 eD_4 => ?_)
        refine zO_goto (tgt := 267) dX4_fillFrom_41 rfl ?_
        refine zO_live [0, 1, 2, 3] ?_
        exact sX4_fillFrom_267 hG o1 o2 v3 _ hk_9 D_4
      · refine zO_aload_n dX4_fillFrom_44 rfl (zR_P _) ?_
        refine zO_iload_n dX4_fillFrom_45 rfl ?_
        refine zO_iload_n dX4_fillFrom_46 rfl ?_
        refine zO_callV (Y' := YX4_helpedBy) (cw := zcI F n sl) (as := [zI o1, zI v3]) (rest := []) (na := 2) (ci := 4) rfl dX4_fillFrom_47 wC_X4_helpedBy wN_X4 wM_X4_133 wI_X4_helpedBy wV_X4_helpedBy (by decide) (by decide) rfl rfl (Nat.le_of_ble_eq_true rfl) rfl (by decide) (gk_60 hG) (fun r hr => zMet_cast (Nat.add_assoc d 1 0) (mX4_helpedBy (d := d + 1) hG o1 v3 r hr)) ?_
        rintro ⟨r_5, D_6⟩ -
        show zO _ _ _ _ _ _ [zI r_5] (F, D_6, n, sl) _ _
        refine zO_istore dX4_fillFrom_50 (by decide) ?_
        refine zO_ls (ls' := [(0, zR 60), (1, zI o1), (2, zI o2), (3, zI v3), (4, zI r_2), (5, zI r_5)]) rfl ?_
        refine zO_aload_n dX4_fillFrom_52 rfl (zR_P _) ?_
        refine gt4 (k := 7) dX4_fillFrom_53 wF_X4_22 (by decide) (gk_60 hG) (zgv (c := 4) (k := 7) rfl (Or.inl ⟨_, rfl⟩) (gf_60_7 hG)) ?_
        refine zO_iload_n dX4_fillFrom_56 rfl ?_
        refine zO_iload dX4_fillFrom_57 rfl ?_
        refine zO_iconst dX4_fillFrom_59 (by decide) ?_
        refine zO_callS (Y' := YX4_priceAt) (cw := zcI F n sl) (as := [zI o1, zI r_5, zI 1]) (rest := [zR 62]) (na := 3) dX4_fillFrom_60 wC_X4_priceAt wN_X4 wM_X4_119 wS_X4_priceAt (by decide) (by decide) rfl rfl (Nat.le_of_ble_eq_true rfl) (fun r hr => zMet_cast (Nat.add_assoc d 1 0) (mX4_priceAt (d := d + 1) hG o1 r_5 1 r hr)) ?_
        rintro ⟨r_7, D_8⟩ -
        show zO _ _ _ _ _ _ [zI r_7, zR 62] (F, D_8, n, sl) _ _
        refine zO_chk (fun h5 => ?_)
        refine zO_iald dX4_fillFrom_63 (gk_62 hG) (gl_in (gl_62 hG) h5) ?_
        refine zO_letI (fun x6_9 ex6_9 => ?_)
        refine zO_istore dX4_fillFrom_64 (by decide) ?_
        refine zO_ls (ls' := [(0, zR 60), (1, zI o1), (2, zI o2), (3, zI v3), (4, zI r_2), (5, zI r_5), (6, zI x6_9)]) rfl ?_
        refine zO_aload_n dX4_fillFrom_66 rfl (zR_P _) ?_
        refine gt4 (k := 7) dX4_fillFrom_67 wF_X4_22 (by decide) (gk_60 hG) (zgv (c := 4) (k := 7) rfl (Or.inl ⟨_, rfl⟩) (gf_60_7 hG)) ?_
        refine zO_iload_n dX4_fillFrom_70 rfl ?_
        refine zO_iload dX4_fillFrom_71 rfl ?_
        refine zO_iconst dX4_fillFrom_73 (by decide) ?_
        refine zO_callS (Y' := YX4_priceAt) (cw := zcI F n sl) (as := [zI o1, zI r_5, zI 2]) (rest := [zR 62]) (na := 3) dX4_fillFrom_74 wC_X4_priceAt wN_X4 wM_X4_119 wS_X4_priceAt (by decide) (by decide) rfl rfl (Nat.le_of_ble_eq_true rfl) (fun r hr => zMet_cast (Nat.add_assoc d 1 0) (mX4_priceAt (d := d + 1) hG o1 r_5 2 r hr)) ?_
        rintro ⟨r_10, D_11⟩ -
        show zO _ _ _ _ _ _ [zI r_10, zR 62] (F, D_11, n, sl) _ _
        refine zO_chk (fun h6 => ?_)
        refine zO_iald dX4_fillFrom_77 (gk_62 hG) (gl_in (gl_62 hG) h6) ?_
        refine zO_letI (fun x7_12 ex7_12 => ?_)
        refine zO_istore dX4_fillFrom_78 (by decide) ?_
        refine zO_ls (ls' := [(0, zR 60), (1, zI o1), (2, zI o2), (3, zI v3), (4, zI r_2), (5, zI r_5), (6, zI x6_9), (7, zI x7_12)]) rfl ?_
        refine zO_chk (fun h7 => ?_)
        refine zO_aload_n dX4_fillFrom_80 rfl (zR_P _) ?_
        refine zO_iload_n dX4_fillFrom_81 rfl ?_
        refine zO_iconst dX4_fillFrom_82 (by decide) ?_
        refine zO_iadd dX4_fillFrom_83 h7 ?_
        refine zO_iload_n dX4_fillFrom_84 rfl ?_
        refine zO_callV (Y' := YX4_rowAt) (cw := zcI F n sl) (as := [zI (o1 + 1), zI v3]) (rest := []) (na := 2) (ci := 4) rfl dX4_fillFrom_85 wC_X4_rowAt wN_X4 wM_X4_130 wI_X4_rowAt wV_X4_rowAt (by decide) (by decide) rfl rfl (Nat.le_of_ble_eq_true rfl) rfl (by decide) (gk_60 hG) (fun r hr => zMet_cast (Nat.add_assoc d 0 1) (mX4_rowAt (d := d + 0) hG (o1 + 1) v3 r hr)) ?_
        rintro ⟨r_13, D_14⟩ -
        show zO _ _ _ _ _ _ [zI r_13] (F, D_14, n, sl) _ _
        refine zO_istore dX4_fillFrom_88 (by decide) ?_
        refine zO_ls (ls' := [(0, zR 60), (1, zI o1), (2, zI o2), (3, zI v3), (4, zI r_2), (5, zI r_5), (6, zI x6_9), (7, zI x7_12), (8, zI r_13)]) rfl ?_
        refine zO_aload_n dX4_fillFrom_90 rfl (zR_P _) ?_
        refine zO_iload_n dX4_fillFrom_91 rfl ?_
        refine zO_iconst dX4_fillFrom_92 (by decide) ?_
        refine zO_iadd dX4_fillFrom_93 h7 ?_
        refine zO_aload_n dX4_fillFrom_94 rfl (zR_P _) ?_
        refine zO_iload_n dX4_fillFrom_95 rfl ?_
        refine zO_iload_n dX4_fillFrom_96 rfl ?_
        refine zO_callV (Y' := YX4_kingsWith) (cw := zcI F n sl) (as := [zI o1, zI v3]) (rest := [zI (o1 + 1), zR 60]) (na := 2) (ci := 4) rfl dX4_fillFrom_97 wC_X4_kingsWith wN_X4 wM_X4_136 wI_X4_kingsWith wV_X4_kingsWith (by decide) (by decide) rfl rfl (Nat.le_of_ble_eq_true rfl) rfl (by decide) (gk_60 hG) (fun r hr => zMet_cast (Nat.add_assoc d 1 0) (mX4_kingsWith (d := d + 1) hG o1 v3 r hr)) ?_
        rintro ⟨r_15, D_16⟩ -
        show zO _ _ _ _ _ _ [zI r_15, zI (o1 + 1), zR 60] (F, D_16, n, sl) _ _
        refine zO_callV (Y' := YX4_rowAt) (cw := zcI F n sl) (as := [zI (o1 + 1), zI r_15]) (rest := []) (na := 2) (ci := 4) rfl dX4_fillFrom_100 wC_X4_rowAt wN_X4 wM_X4_130 wI_X4_rowAt wV_X4_rowAt (by decide) (by decide) rfl rfl (Nat.le_of_ble_eq_true rfl) rfl (by decide) (gk_60 hG) (fun r hr => zMet_cast (Nat.add_assoc d 0 1) (mX4_rowAt (d := d + 0) hG (o1 + 1) r_15 r hr)) ?_
        rintro ⟨r_17, D_18⟩ -
        show zO _ _ _ _ _ _ [zI r_17] (F, D_18, n, sl) _ _
        refine zO_istore dX4_fillFrom_103 (by decide) ?_
        refine zO_ls (ls' := [(0, zR 60), (1, zI o1), (2, zI o2), (3, zI v3), (4, zI r_2), (5, zI r_5), (6, zI x6_9), (7, zI x7_12), (8, zI r_13), (9, zI r_17)]) rfl ?_
        refine zO_iconst dX4_fillFrom_105 (by decide) ?_
        refine zO_istore dX4_fillFrom_106 (by decide) ?_
        refine zO_ls (ls' := [(0, zR 60), (1, zI o1), (2, zI o2), (3, zI v3), (4, zI r_2), (5, zI r_5), (6, zI x6_9), (7, zI x7_12), (8, zI r_13), (9, zI r_17), (10, zI 0)]) rfl ?_
        refine zO_live [0, 1, 2, 3, 4, 6, 7, 8, 9, 10] ?_
        exact sX4_fillFrom_108 hG o1 o2 v3 r_2 x6_9 x7_12 r_13 r_17 _ hk_9 zfu 0 D_18
    · exact zO_ret (rv := none) dX4_fillFrom_273 rfl trivial rfl
set_option maxHeartbeats 20000000 in
theorem mX4_fillFrom {l : Launch} {E : zE} {d : Nat} {F : zFs} {n sl : Nat} (hG : zG F) (v1 : Int) {D : zDa} : ∀ r, fX4_fillFrom F  v1 D = some r → zMet l E (d + 2) YX4_fillFrom [zR 60, zI v1] (F, D, n, sl) (zcV F n sl r) := by
  intro r hr
  refine zMet_of (plainFor_of_name (by decide)) (fun _ h => (nomatch h)) (Nat.le_of_ble_eq_true rfl) ?_
  have hz : zO l E (d + 2) YX4_fillFrom 0 [(0, zR 60), (1, zI v1)] [] (F, D, n, sl) (zcV F n sl) (fX4_fillFrom F  v1 D) := by
    unfold fX4_fillFrom
    refine zO_chk (fun h1 => ?_)
    refine zO_aload_n dX4_fillFrom_0 rfl (zR_P _) ?_
    refine gt4 (k := 5) (v := zI (D 60 5)) dX4_fillFrom_1 wF_X4_83 (by decide) (gk_60 hG) rfl ?_
    refine zO_iload_n dX4_fillFrom_4 rfl ?_
    refine zO_isub dX4_fillFrom_5 h1 ?_
    refine zO_letI (fun x2_1 ex2_1 => ?_)
    refine zO_istore_n dX4_fillFrom_6 (by decide) ?_
    refine zO_ls (ls' := [(0, zR 60), (1, zI v1), (2, zI x2_1)]) rfl ?_
    refine zO_iconst dX4_fillFrom_7 (by decide) ?_
    refine zO_istore_n dX4_fillFrom_8 (by decide) ?_
    refine zO_ls (ls' := [(0, zR 60), (1, zI v1), (2, zI x2_1), (3, zI 0)]) rfl ?_
    refine zO_live [0, 1, 2, 3] ?_
    exact sX4_fillFrom_9 hG v1 x2_1 zfu 0 D
  exact hz r hr
theorem dX4_fillHours_0 : decode cX4_fillHours 0 = .ok (.aload_n 0, 1) := by decide +kernel
theorem dX4_fillHours_1 : decode cX4_fillHours 1 = .ok (.iconst 0, 1) := by decide +kernel
theorem dX4_fillHours_2 : decode cX4_fillHours 2 = .ok (.putfield 83, 3) := by decide +kernel
theorem dX4_fillHours_5 : decode cX4_fillHours 5 = .ok (.iconst 0, 1) := by decide +kernel
theorem dX4_fillHours_6 : decode cX4_fillHours 6 = .ok (.istore_n 1, 1) := by decide +kernel
theorem dX4_fillHours_7 : decode cX4_fillHours 7 = .ok (.iload_n 1, 1) := by decide +kernel
theorem dX4_fillHours_8 : decode cX4_fillHours 8 = .ok (.aload_n 0, 1) := by decide +kernel
theorem dX4_fillHours_9 : decode cX4_fillHours 9 = .ok (.getfield 57, 3) := by decide +kernel
theorem dX4_fillHours_12 : decode cX4_fillHours 12 = .ok (.getfield 86, 3) := by decide +kernel
theorem dX4_fillHours_15 : decode cX4_fillHours 15 = .ok (.if_icmp .ge 50, 3) := by decide +kernel
theorem dX4_fillHours_18 : decode cX4_fillHours 18 = .ok (.aload_n 0, 1) := by decide +kernel
theorem dX4_fillHours_19 : decode cX4_fillHours 19 = .ok (.getfield 57, 3) := by decide +kernel
theorem dX4_fillHours_22 : decode cX4_fillHours 22 = .ok (.getfield 89, 3) := by decide +kernel
theorem dX4_fillHours_25 : decode cX4_fillHours 25 = .ok (.iload_n 1, 1) := by decide +kernel
theorem dX4_fillHours_26 : decode cX4_fillHours 26 = .ok (.iaload, 1) := by decide +kernel
theorem dX4_fillHours_27 : decode cX4_fillHours 27 = .ok (.ifCond .ne 32, 3) := by decide +kernel
theorem dX4_fillHours_30 : decode cX4_fillHours 30 = .ok (.aload_n 0, 1) := by decide +kernel
theorem dX4_fillHours_31 : decode cX4_fillHours 31 = .ok (.getfield 18, 3) := by decide +kernel
theorem dX4_fillHours_34 : decode cX4_fillHours 34 = .ok (.aload_n 0, 1) := by decide +kernel
theorem dX4_fillHours_35 : decode cX4_fillHours 35 = .ok (.getfield 83, 3) := by decide +kernel
theorem dX4_fillHours_38 : decode cX4_fillHours 38 = .ok (.iload_n 1, 1) := by decide +kernel
theorem dX4_fillHours_39 : decode cX4_fillHours 39 = .ok (.iastore, 1) := by decide +kernel
theorem dX4_fillHours_40 : decode cX4_fillHours 40 = .ok (.aload_n 0, 1) := by decide +kernel
theorem dX4_fillHours_41 : decode cX4_fillHours 41 = .ok (.aload_n 0, 1) := by decide +kernel
theorem dX4_fillHours_42 : decode cX4_fillHours 42 = .ok (.getfield 83, 3) := by decide +kernel
theorem dX4_fillHours_45 : decode cX4_fillHours 45 = .ok (.iload_n 1, 1) := by decide +kernel
theorem dX4_fillHours_46 : decode cX4_fillHours 46 = .ok (.invokevirtual 92, 3) := by decide +kernel
theorem dX4_fillHours_49 : decode cX4_fillHours 49 = .ok (.aload_n 0, 1) := by decide +kernel
theorem dX4_fillHours_50 : decode cX4_fillHours 50 = .ok (.dup, 1) := by decide +kernel
theorem dX4_fillHours_51 : decode cX4_fillHours 51 = .ok (.getfield 83, 3) := by decide +kernel
theorem dX4_fillHours_54 : decode cX4_fillHours 54 = .ok (.iconst 1, 1) := by decide +kernel
theorem dX4_fillHours_55 : decode cX4_fillHours 55 = .ok (.iadd, 1) := by decide +kernel
theorem dX4_fillHours_56 : decode cX4_fillHours 56 = .ok (.putfield 83, 3) := by decide +kernel
theorem dX4_fillHours_59 : decode cX4_fillHours 59 = .ok (.iinc 1 1, 3) := by decide +kernel
theorem dX4_fillHours_62 : decode cX4_fillHours 62 = .ok (.goto (-55), 3) := by decide +kernel
theorem dX4_fillHours_65 : decode cX4_fillHours 65 = .ok (.aload_n 0, 1) := by decide +kernel
theorem dX4_fillHours_66 : decode cX4_fillHours 66 = .ok (.invokevirtual 96, 3) := by decide +kernel
theorem dX4_fillHours_69 : decode cX4_fillHours 69 = .ok (.iconst 0, 1) := by decide +kernel
theorem dX4_fillHours_70 : decode cX4_fillHours 70 = .ok (.istore_n 1, 1) := by decide +kernel
theorem dX4_fillHours_71 : decode cX4_fillHours 71 = .ok (.iconst 0, 1) := by decide +kernel
theorem dX4_fillHours_72 : decode cX4_fillHours 72 = .ok (.istore_n 2, 1) := by decide +kernel
theorem dX4_fillHours_73 : decode cX4_fillHours 73 = .ok (.iload_n 2, 1) := by decide +kernel
theorem dX4_fillHours_74 : decode cX4_fillHours 74 = .ok (.aload_n 0, 1) := by decide +kernel
theorem dX4_fillHours_75 : decode cX4_fillHours 75 = .ok (.getfield 83, 3) := by decide +kernel
theorem dX4_fillHours_78 : decode cX4_fillHours 78 = .ok (.if_icmp .gt 35, 3) := by decide +kernel
theorem dX4_fillHours_81 : decode cX4_fillHours 81 = .ok (.aload_n 0, 1) := by decide +kernel
theorem dX4_fillHours_82 : decode cX4_fillHours 82 = .ok (.getfield 31, 3) := by decide +kernel
theorem dX4_fillHours_85 : decode cX4_fillHours 85 = .ok (.iload_n 2, 1) := by decide +kernel
theorem dX4_fillHours_86 : decode cX4_fillHours 86 = .ok (.iload_n 1, 1) := by decide +kernel
theorem dX4_fillHours_87 : decode cX4_fillHours 87 = .ok (.iastore, 1) := by decide +kernel
theorem dX4_fillHours_88 : decode cX4_fillHours 88 = .ok (.iload_n 1, 1) := by decide +kernel
theorem dX4_fillHours_89 : decode cX4_fillHours 89 = .ok (.aload_n 0, 1) := by decide +kernel
theorem dX4_fillHours_90 : decode cX4_fillHours 90 = .ok (.getfield 83, 3) := by decide +kernel
theorem dX4_fillHours_93 : decode cX4_fillHours 93 = .ok (.iload_n 2, 1) := by decide +kernel
theorem dX4_fillHours_94 : decode cX4_fillHours 94 = .ok (.isub, 1) := by decide +kernel
theorem dX4_fillHours_95 : decode cX4_fillHours 95 = .ok (.invokestatic 99, 3) := by decide +kernel
theorem dX4_fillHours_98 : decode cX4_fillHours 98 = .ok (.aload_n 0, 1) := by decide +kernel
theorem dX4_fillHours_99 : decode cX4_fillHours 99 = .ok (.getfield 28, 3) := by decide +kernel
theorem dX4_fillHours_102 : decode cX4_fillHours 102 = .ok (.iload_n 2, 1) := by decide +kernel
theorem dX4_fillHours_103 : decode cX4_fillHours 103 = .ok (.iaload, 1) := by decide +kernel
theorem dX4_fillHours_104 : decode cX4_fillHours 104 = .ok (.ishl, 1) := by decide +kernel
theorem dX4_fillHours_105 : decode cX4_fillHours 105 = .ok (.iadd, 1) := by decide +kernel
theorem dX4_fillHours_106 : decode cX4_fillHours 106 = .ok (.istore_n 1, 1) := by decide +kernel
theorem dX4_fillHours_107 : decode cX4_fillHours 107 = .ok (.iinc 2 1, 3) := by decide +kernel
theorem dX4_fillHours_110 : decode cX4_fillHours 110 = .ok (.goto (-37), 3) := by decide +kernel
theorem dX4_fillHours_113 : decode cX4_fillHours 113 = .ok (.aload_n 0, 1) := by decide +kernel
theorem dX4_fillHours_114 : decode cX4_fillHours 114 = .ok (.getfield 34, 3) := by decide +kernel
theorem dX4_fillHours_117 : decode cX4_fillHours 117 = .ok (.arraylength, 1) := by decide +kernel
theorem dX4_fillHours_118 : decode cX4_fillHours 118 = .ok (.iload_n 1, 1) := by decide +kernel
theorem dX4_fillHours_119 : decode cX4_fillHours 119 = .ok (.if_icmp .ge 20, 3) := by decide +kernel
theorem dX4_fillHours_122 : decode cX4_fillHours 122 = .ok (.aload_n 0, 1) := by decide +kernel
theorem dX4_fillHours_123 : decode cX4_fillHours 123 = .ok (.iload_n 1, 1) := by decide +kernel
theorem dX4_fillHours_124 : decode cX4_fillHours 124 = .ok (.iconst 2, 1) := by decide +kernel
theorem dX4_fillHours_125 : decode cX4_fillHours 125 = .ok (.aload_n 0, 1) := by decide +kernel
theorem dX4_fillHours_126 : decode cX4_fillHours 126 = .ok (.getfield 34, 3) := by decide +kernel
theorem dX4_fillHours_129 : decode cX4_fillHours 129 = .ok (.arraylength, 1) := by decide +kernel
theorem dX4_fillHours_130 : decode cX4_fillHours 130 = .ok (.imul, 1) := by decide +kernel
theorem dX4_fillHours_131 : decode cX4_fillHours 131 = .ok (.invokestatic 103, 3) := by decide +kernel
theorem dX4_fillHours_134 : decode cX4_fillHours 134 = .ok (.newarray .int, 2) := by decide +kernel
theorem dX4_fillHours_136 : decode cX4_fillHours 136 = .ok (.putfield 34, 3) := by decide +kernel
theorem dX4_fillHours_139 : decode cX4_fillHours 139 = .ok (.aload_n 0, 1) := by decide +kernel
theorem dX4_fillHours_140 : decode cX4_fillHours 140 = .ok (.getfield 83, 3) := by decide +kernel
theorem dX4_fillHours_143 : decode cX4_fillHours 143 = .ok (.istore_n 2, 1) := by decide +kernel
theorem dX4_fillHours_144 : decode cX4_fillHours 144 = .ok (.iload_n 2, 1) := by decide +kernel
theorem dX4_fillHours_145 : decode cX4_fillHours 145 = .ok (.ifCond .lt 14, 3) := by decide +kernel
theorem dX4_fillHours_148 : decode cX4_fillHours 148 = .ok (.aload_n 0, 1) := by decide +kernel
theorem dX4_fillHours_149 : decode cX4_fillHours 149 = .ok (.iload_n 2, 1) := by decide +kernel
theorem dX4_fillHours_150 : decode cX4_fillHours 150 = .ok (.invokevirtual 109, 3) := by decide +kernel
theorem dX4_fillHours_153 : decode cX4_fillHours 153 = .ok (.iinc 2 (-1), 3) := by decide +kernel
theorem dX4_fillHours_156 : decode cX4_fillHours 156 = .ok (.goto (-12), 3) := by decide +kernel
theorem dX4_fillHours_159 : decode cX4_fillHours 159 = .ok (.return_, 1) := by decide +kernel
abbrev YX4_fillHours : zY := (yX4_fillHours, cX4_fillHours, 3, none, [])
def fX4_fillHours_59 (k_7 : Int → zFs → zDa → Nat → Nat → Option zM) (v1 : Int) (F : zFs) (D : zDa) (n sl : Nat) : Option zM :=
  if (-2147483648 ≤ v1 + 1 ∧ v1 + 1 ≤ 2147483647) then
    k_7 (v1 + 1) F D n sl
  else none
def fX4_fillHours_144   (k_144 : Int → zFs → zDa → Nat → Nat → Option zM) (v2 : Int) (F : zFs) (D : zDa) (n sl : Nat) : Option zM :=
  if v2 < 0 then
    some (F, D, n, sl)
  else
    (fX4_fillFrom F v2 D).bind (fun D_13 =>
      if (-2147483648 ≤ v2 + (-1) ∧ v2 + (-1) ≤ 2147483647) then
        k_144 (v2 + (-1)) F D_13 n sl
      else none)
def fX4_fillHours_139   (F : zFs) (D : zDa) (n sl : Nat) : Option zM :=
  zlet ((D 60 5)) (fun x2_11 =>
    zfix (fun _ _ _ _ _ => none) (fX4_fillHours_144 ) zfu x2_11 F D n sl)
def fX4_fillHours_73   (k_73 : Int → Int → zFs → zDa → Nat → Nat → Option zM) (v1 : Int) (v2 : Int) (F : zFs) (D : zDa) (n sl : Nat) : Option zM :=
  if (D 60 5) < v2 then
    if (0 ≤ (D 60 11)) ∧ ((F ((D 60 11).toNat)).1 = 20) then
      if ((F ((D 60 11).toNat)).2.1 : Int) < v1 then
        if (-2147483648 ≤ 2 * ((F ((D 60 11).toNat)).2.1 : Int) ∧ 2 * ((F ((D 60 11).toNat)).2.1 : Int) ≤ 2147483647) then
          (fJ9_max_7cf53 F v1 (2 * ((F ((D 60 11).toNat)).2.1 : Int)) D).bind (fun (r_8, D_9) =>
            if (0 ≤ r_8 ∧ r_8 ≤ 1000000) ∧ (n < 900000) then
              zlet (zwr (zrow D_9 n (fun _ => 0)) 60 11 (((n : Nat) : Int) : Int)) (fun D_10 =>
                fX4_fillHours_139 (znew F n (20, r_8.toNat, fun _ => 0)) D_10 (n + 1) (sl + r_8.toNat))
            else none)
        else none
      else
        fX4_fillHours_139 F D n sl
    else none
  else
    if (0 ≤ v2 ∧ v2 < 21) then
      zlet (zwr D 65 v2.toNat v1) (fun D_14 =>
        if (-2147483648 ≤ (D_14 60 5) - v2 ∧ (D_14 60 5) - v2 ≤ 2147483647) then
          (fX4_pairs F ((D_14 60 5) - v2) D_14).bind (fun (r_15, D_16) =>
            if (-2147483648 ≤ v1 + (zshl r_15 (D_16 64 v2.toNat)) ∧ v1 + (zshl r_15 (D_16 64 v2.toNat)) ≤ 2147483647) then
              zlet ((v1 + (zshl r_15 (D_16 64 v2.toNat)))) (fun x1_17 =>
                if (-2147483648 ≤ v2 + 1 ∧ v2 + 1 ≤ 2147483647) then
                  k_73 x1_17 (v2 + 1) F D_16 n sl
                else none)
            else none)
        else none)
    else none
def fX4_fillHours_7   (k_7 : Int → zFs → zDa → Nat → Nat → Option zM) (v1 : Int) (F : zFs) (D : zDa) (n sl : Nat) : Option zM :=
  if v1 < (D 1 5) then
    if (0 ≤ v1 ∧ v1 < 20) then
      if (D 6 v1.toNat) = 0 then
        if (0 ≤ (D 60 5) ∧ (D 60 5) < 20) then
          zlet (zwr D 61 (D 60 5).toNat v1) (fun D_2 =>
            (fX4_price F (D_2 60 5) v1 D_2).bind (fun D_4 =>
              if (-2147483648 ≤ (D_4 60 5) + 1 ∧ (D_4 60 5) + 1 ≤ 2147483647) then
                zlet (zwr D_4 60 5 ((D_4 60 5) + 1)) (fun D_5 =>
                  fX4_fillHours_59 k_7 v1 F D_5 n sl)
              else none))
        else none
      else
        fX4_fillHours_59 k_7 v1 F D n sl
    else none
  else
    (fX4_nameKings F D).bind (fun D_7 =>
      zfix (fun _ _ _ _ _ _ => none) (fX4_fillHours_73 ) zfu 0 0 F D_7 n sl)
def fX4_fillHours  (F : zFs) (D : zDa) (n sl : Nat) : Option zM :=
  zlet (zwr D 60 5 0) (fun D_1 =>
    zfix (fun _ _ _ _ _ => none) (fX4_fillHours_7 ) zfu 0 F D_1 n sl)
set_option maxHeartbeats 20000000 in
theorem sX4_fillHours_59 {l : Launch} {E : zE} {d : Nat}  (v1 : Int) (k_7 : Int → zFs → zDa → Nat → Nat → Option zM) (hk_7 : ∀ (u1 : Int) (F : zFs) (D : zDa) (n sl : Nat), zG F → 126 ≤ n → zO l E (d + 5) YX4_fillHours 7 [(0, zR 60), (1, zI u1)] [] (F, D, n, sl) zmV (k_7 u1 F D n sl)) (F : zFs) (D : zDa) (n sl : Nat) (hG : zG F) (hN : 126 ≤ n) : zO l E (d + 5) YX4_fillHours 59 [(0, zR 60), (1, zI v1)] [] (F, D, n, sl) (zmV) (fX4_fillHours_59 k_7 v1 F D n sl) := by
  unfold fX4_fillHours_59
  refine zO_chk (fun h4 => ?_)
  refine zO_iinc dX4_fillHours_59 rfl h4 (by decide) ?_
  refine zO_ls (ls' := [(0, zR 60), (1, zI (v1 + 1))]) rfl ?_
  refine zO_goto (tgt := 7) dX4_fillHours_62 rfl ?_
  refine zO_live [0, 1] ?_
  exact hk_7 (v1 + 1) F D n sl hG hN
set_option maxHeartbeats 20000000 in
theorem sX4_fillHours_144 {l : Launch} {E : zE} {d : Nat}     : ∀ (N : Nat) (v2 : Int) (F : zFs) (D : zDa) (n sl : Nat), zG F → 126 ≤ n → zO l E (d + 5) YX4_fillHours 144 [(0, zR 60), (2, zI v2)] [] (F, D, n, sl) (zmV) (zfix (fun _ _ _ _ _ => none) (fX4_fillHours_144 ) N v2 F D n sl) := by
  intro N
  induction N with
  | zero => intro v2 F D n sl hG hN; exact zO_none
  | succ N hk_144 =>
    intro v2 F D n sl hG hN
    show zO _ _ _ _ _ _ _ _ _ ((fX4_fillHours_144 ) (zfix (fun _ _ _ _ _ => none) (fX4_fillHours_144 ) N) v2 F D n sl)
    unfold fX4_fillHours_144
    refine zO_iload_n dX4_fillHours_144 rfl ?_
    refine zO_if_lt (tgt := 159) dX4_fillHours_145 rfl (fun c145 => ?_) (fun c145 => ?_)
    · exact zO_ret (rv := none) dX4_fillHours_159 rfl trivial rfl
    · refine zO_aload_n dX4_fillHours_148 rfl (zR_P _) ?_
      refine zO_iload_n dX4_fillHours_149 rfl ?_
      refine zO_callV (Y' := YX4_fillFrom) (cw := zcV F n sl) (as := [zI v2]) (rest := []) (na := 1) (ci := 4) rfl dX4_fillHours_150 wC_X4_fillFrom wN_X4 wM_X4_109 wI_X4_fillFrom wV_X4_fillFrom (by decide) (by decide) rfl rfl (Nat.le_of_ble_eq_true rfl) rfl (by decide) (gk_60 hG) (fun r hr => zMet_cast (Nat.add_assoc d 2 2) (mX4_fillFrom (d := d + 2) hG v2 r hr)) ?_
      intro D_13 _
      show zO _ _ _ _ _ _ [] (F, D_13, n, sl) _ _
      refine zO_chk (fun h9 => ?_)
      refine zO_iinc dX4_fillHours_153 rfl h9 (by decide) ?_
      refine zO_ls (ls' := [(0, zR 60), (2, zI (v2 + (-1)))]) rfl ?_
      refine zO_goto (tgt := 144) dX4_fillHours_156 rfl ?_
      refine zO_live [0, 2] ?_
      exact hk_144 (v2 + (-1)) F D_13 n sl hG hN
set_option maxHeartbeats 20000000 in
theorem sX4_fillHours_139 {l : Launch} {E : zE} {d : Nat}     (F : zFs) (D : zDa) (n sl : Nat) (hG : zG F) (hN : 126 ≤ n) : zO l E (d + 5) YX4_fillHours 139 [(0, zR 60)] [] (F, D, n, sl) (zmV) (fX4_fillHours_139 F D n sl) := by
  unfold fX4_fillHours_139
  refine zO_aload_n dX4_fillHours_139 rfl (zR_P _) ?_
  refine gt4 (k := 5) (v := zI (D 60 5)) dX4_fillHours_140 wF_X4_83 (by decide) (gk_60 hG) rfl ?_
  refine zO_letI (fun x2_11 ex2_11 => ?_)
  refine zO_istore_n dX4_fillHours_143 (by decide) ?_
  refine zO_ls (ls' := [(0, zR 60), (2, zI x2_11)]) rfl ?_
  refine zO_live [0, 2] ?_
  exact sX4_fillHours_144  zfu x2_11 F D n sl hG hN
set_option maxHeartbeats 20000000 in
theorem sX4_fillHours_73 {l : Launch} {E : zE} {d : Nat}     : ∀ (N : Nat) (v1 : Int) (v2 : Int) (F : zFs) (D : zDa) (n sl : Nat), zG F → 126 ≤ n → zO l E (d + 5) YX4_fillHours 73 [(0, zR 60), (1, zI v1), (2, zI v2)] [] (F, D, n, sl) (zmV) (zfix (fun _ _ _ _ _ _ => none) (fX4_fillHours_73 ) N v1 v2 F D n sl) := by
  intro N
  induction N with
  | zero => intro v1 v2 F D n sl hG hN; exact zO_none
  | succ N hk_73 =>
    intro v1 v2 F D n sl hG hN
    show zO _ _ _ _ _ _ _ _ _ ((fX4_fillHours_73 ) (zfix (fun _ _ _ _ _ _ => none) (fX4_fillHours_73 ) N) v1 v2 F D n sl)
    unfold fX4_fillHours_73
    refine zO_iload_n dX4_fillHours_73 rfl ?_
    refine zO_aload_n dX4_fillHours_74 rfl (zR_P _) ?_
    refine gt4 (k := 5) (v := zI (D 60 5)) dX4_fillHours_75 wF_X4_83 (by decide) (gk_60 hG) rfl ?_
    refine zO_icmp_gt (tgt := 113) dX4_fillHours_78 rfl (fun c78 => ?_) (fun c78 => ?_)
    · refine zO_chk (fun h5 => ?_)
      refine zO_aload_n dX4_fillHours_113 rfl (zR_P _) ?_
      refine gt4 (k := 11) (v := zq (D 60 11)) dX4_fillHours_114 wF_X4_34 (by decide) (gk_60 hG) rfl ?_
      refine zO_q0 h5.1 ?_
      refine zO_alen (kd := 20) dX4_fillHours_117 h5.2 (by decide) ?_
      refine zO_iload_n dX4_fillHours_118 rfl ?_
      refine zO_icmp_ge (tgt := 139) dX4_fillHours_119 rfl (fun c119 => ?_) (fun c119 => ?_)
      · refine zO_chk (fun h6 => ?_)
        refine zO_aload_n dX4_fillHours_122 rfl (zR_P _) ?_
        refine zO_iload_n dX4_fillHours_123 rfl ?_
        refine zO_iconst dX4_fillHours_124 (by decide) ?_
        refine zO_aload_n dX4_fillHours_125 rfl (zR_P _) ?_
        refine gt4 (k := 11) (v := zq (D 60 11)) dX4_fillHours_126 wF_X4_34 (by decide) (gk_60 hG) rfl ?_
        refine zO_q0 h5.1 ?_
        refine zO_alen (kd := 20) dX4_fillHours_129 h5.2 (by decide) ?_
        refine zO_imul dX4_fillHours_130 h6 ?_
        refine zO_callS (Y' := YJ9_max_7cf53) (cw := zcI F n sl) (as := [zI v1, zI (2 * ((F ((D 60 11).toNat)).2.1 : Int))]) (rest := [zR 60]) (na := 2) dX4_fillHours_131 wC_J9_max_7cf53 wN_J9 wM_X4_103 wS_J9_max_7cf53 (by decide) (by decide) rfl rfl (Nat.le_of_ble_eq_true rfl) (fun r hr => zMet_cast (Nat.add_assoc d 4 0) (mJ9_max_7cf53 (d := d + 4) hG v1 (2 * ((F ((D 60 11).toNat)).2.1 : Int)) r hr)) ?_
        rintro ⟨r_8, D_9⟩ -
        show zO _ _ _ _ _ _ [zI r_8, zR 60] (F, D_9, n, sl) _ _
        refine zO_chk (fun h7 => ?_)
        refine zO_newi (kd := 20) dX4_fillHours_134 (by decide) h7.1 h7.2 ?_
        have hh8 : zG (znew F n (20, r_8.toNat, fun _ => 0)) := zG_new hG hN
        have hh8n : 126 ≤ n + 1 := Nat.le_succ_of_le hN
        refine pt4 (k := 11) (z := (((n : Nat) : Int) : Int)) dX4_fillHours_136 wF_X4_34 (by decide) rfl (gk_60 hh8) ((zq_nat _).symm) trivial ?_
        refine zO_letD (fun D_10 eD_10 => ?_)
        refine zO_live [0] ?_
        exact sX4_fillHours_139 (znew F n (20, r_8.toNat, fun _ => 0)) D_10 (n + 1) (sl + r_8.toNat) hh8 hh8n
      · refine zO_live [0] ?_
        exact sX4_fillHours_139 F D n sl hG hN
    · refine zO_chk (fun h10 => ?_)
      refine zO_aload_n dX4_fillHours_81 rfl (zR_P _) ?_
      refine gt4 (k := 10) dX4_fillHours_82 wF_X4_31 (by decide) (gk_60 hG) (zgv (c := 4) (k := 10) rfl (Or.inl ⟨_, rfl⟩) (gf_60_10 hG)) ?_
      refine zO_iload_n dX4_fillHours_85 rfl ?_
      refine zO_iload_n dX4_fillHours_86 rfl ?_
      refine zO_iast dX4_fillHours_87 (gk_65 hG) (gl_in (gl_65 hG) h10) ?_
      refine zO_letD (fun D_14 eD_14 => ?_)
      refine zO_chk (fun h11 => ?_)
      refine zO_iload_n dX4_fillHours_88 rfl ?_
      refine zO_aload_n dX4_fillHours_89 rfl (zR_P _) ?_
      refine gt4 (k := 5) (v := zI (D_14 60 5)) dX4_fillHours_90 wF_X4_83 (by decide) (gk_60 hG) rfl ?_
      refine zO_iload_n dX4_fillHours_93 rfl ?_
      refine zO_isub dX4_fillHours_94 h11 ?_
      refine zO_callS (Y' := YX4_pairs) (cw := zcI F n sl) (as := [zI ((D_14 60 5) - v2)]) (rest := [zI v1]) (na := 1) dX4_fillHours_95 wC_X4_pairs wN_X4 wM_X4_99 wS_X4_pairs (by decide) (by decide) rfl rfl (Nat.le_of_ble_eq_true rfl) (fun r hr => zMet_cast (Nat.add_assoc d 4 0) (mX4_pairs (d := d + 4) hG ((D_14 60 5) - v2) r hr)) ?_
      rintro ⟨r_15, D_16⟩ -
      show zO _ _ _ _ _ _ [zI r_15, zI v1] (F, D_16, n, sl) _ _
      refine zO_chk (fun h12 => ?_)
      refine zO_aload_n dX4_fillHours_98 rfl (zR_P _) ?_
      refine gt4 (k := 9) dX4_fillHours_99 wF_X4_28 (by decide) (gk_60 hG) (zgv (c := 4) (k := 9) rfl (Or.inl ⟨_, rfl⟩) (gf_60_9 hG)) ?_
      refine zO_iload_n dX4_fillHours_102 rfl ?_
      refine zO_iald dX4_fillHours_103 (gk_64 hG) (gl_in (gl_64 hG) h10) ?_
      refine zO_ishl dX4_fillHours_104 ?_
      refine zO_iadd dX4_fillHours_105 h12 ?_
      refine zO_letI (fun x1_17 ex1_17 => ?_)
      refine zO_istore_n dX4_fillHours_106 (by decide) ?_
      refine zO_ls (ls' := [(0, zR 60), (1, zI x1_17), (2, zI v2)]) rfl ?_
      refine zO_chk (fun h13 => ?_)
      refine zO_iinc dX4_fillHours_107 rfl h13 (by decide) ?_
      refine zO_ls (ls' := [(0, zR 60), (1, zI x1_17), (2, zI (v2 + 1))]) rfl ?_
      refine zO_goto (tgt := 73) dX4_fillHours_110 rfl ?_
      refine zO_live [0, 1, 2] ?_
      exact hk_73 x1_17 (v2 + 1) F D_16 n sl hG hN
set_option maxHeartbeats 20000000 in
theorem sX4_fillHours_7 {l : Launch} {E : zE} {d : Nat}     : ∀ (N : Nat) (v1 : Int) (F : zFs) (D : zDa) (n sl : Nat), zG F → 126 ≤ n → zO l E (d + 5) YX4_fillHours 7 [(0, zR 60), (1, zI v1)] [] (F, D, n, sl) (zmV) (zfix (fun _ _ _ _ _ => none) (fX4_fillHours_7 ) N v1 F D n sl) := by
  intro N
  induction N with
  | zero => intro v1 F D n sl hG hN; exact zO_none
  | succ N hk_7 =>
    intro v1 F D n sl hG hN
    show zO _ _ _ _ _ _ _ _ _ ((fX4_fillHours_7 ) (zfix (fun _ _ _ _ _ => none) (fX4_fillHours_7 ) N) v1 F D n sl)
    unfold fX4_fillHours_7
    refine zO_iload_n dX4_fillHours_7 rfl ?_
    refine zO_aload_n dX4_fillHours_8 rfl (zR_P _) ?_
    refine gt4 (k := 0) dX4_fillHours_9 wF_X4_57 (by decide) (gk_60 hG) (zgv (c := 4) (k := 0) rfl (Or.inr ⟨_, rfl⟩) (gf_60_0 hG)) ?_
    refine gt9 (k := 5) (v := zI (D 1 5)) dX4_fillHours_12 wF_X4_86 (by decide) (gk_1 hG) rfl ?_
    refine zO_icmp_ge (tgt := 65) dX4_fillHours_15 rfl (fun c15 => ?_) (fun c15 => ?_)
    · refine zO_chk (fun h1 => ?_)
      refine zO_aload_n dX4_fillHours_18 rfl (zR_P _) ?_
      refine gt4 (k := 0) dX4_fillHours_19 wF_X4_57 (by decide) (gk_60 hG) (zgv (c := 4) (k := 0) rfl (Or.inr ⟨_, rfl⟩) (gf_60_0 hG)) ?_
      refine gt9 (k := 4) dX4_fillHours_22 wF_X4_89 (by decide) (gk_1 hG) (zgv (c := 9) (k := 4) rfl (Or.inl ⟨_, rfl⟩) (gf_1_4 hG)) ?_
      refine zO_iload_n dX4_fillHours_25 rfl ?_
      refine zO_iald dX4_fillHours_26 (gk_6 hG) (gl_in (gl_6 hG) h1) ?_
      refine zO_if_ne (tgt := 59) dX4_fillHours_27 rfl (fun c27 => ?_) (fun c27 => ?_)
      · refine zO_chk (fun h2 => ?_)
        refine zO_aload_n dX4_fillHours_30 rfl (zR_P _) ?_
        refine gt4 (k := 6) dX4_fillHours_31 wF_X4_18 (by decide) (gk_60 hG) (zgv (c := 4) (k := 6) rfl (Or.inl ⟨_, rfl⟩) (gf_60_6 hG)) ?_
        refine zO_aload_n dX4_fillHours_34 rfl (zR_P _) ?_
        refine gt4 (k := 5) (v := zI (D 60 5)) dX4_fillHours_35 wF_X4_83 (by decide) (gk_60 hG) rfl ?_
        refine zO_iload_n dX4_fillHours_38 rfl ?_
        refine zO_iast dX4_fillHours_39 (gk_61 hG) (gl_in (gl_61 hG) h2) ?_
        refine zO_letD (fun D_2 eD_2 => ?_)
        refine zO_aload_n dX4_fillHours_40 rfl (zR_P _) ?_
        refine zO_aload_n dX4_fillHours_41 rfl (zR_P _) ?_
        refine gt4 (k := 5) (v := zI (D_2 60 5)) dX4_fillHours_42 wF_X4_83 (by decide) (gk_60 hG) rfl ?_
        refine zO_iload_n dX4_fillHours_45 rfl ?_
        refine zO_callV (Y' := YX4_price) (cw := zcV F n sl) (as := [zI (D_2 60 5), zI v1]) (rest := []) (na := 2) (ci := 4) rfl dX4_fillHours_46 wC_X4_price wN_X4 wM_X4_92 wI_X4_price wV_X4_price (by decide) (by decide) rfl rfl (Nat.le_of_ble_eq_true rfl) rfl (by decide) (gk_60 hG) (fun r hr => zMet_cast (Nat.add_assoc d 0 4) (mX4_price (d := d + 0) hG (D_2 60 5) v1 r hr)) ?_
        intro D_4 _
        show zO _ _ _ _ _ _ [] (F, D_4, n, sl) _ _
        refine zO_chk (fun h3 => ?_)
        refine zO_aload_n dX4_fillHours_49 rfl (zR_P _) ?_
        refine zO_dup dX4_fillHours_50 (rfl) ?_
        refine gt4 (k := 5) (v := zI (D_4 60 5)) dX4_fillHours_51 wF_X4_83 (by decide) (gk_60 hG) rfl ?_
        refine zO_iconst dX4_fillHours_54 (by decide) ?_
        refine zO_iadd dX4_fillHours_55 h3 ?_
        refine ptI4 (k := 5) (z := ((D_4 60 5) + 1)) dX4_fillHours_56 wF_X4_83 (by decide) rfl (gk_60 hG) rfl ?_
        refine zO_letD (fun D_5 eD_5 => ?_)
        refine zO_live [0, 1] ?_
        exact sX4_fillHours_59 v1 _ hk_7 F D_5 n sl hG hN
      · refine zO_live [0, 1] ?_
        exact sX4_fillHours_59 v1 _ hk_7 F D n sl hG hN
    · refine zO_aload_n dX4_fillHours_65 rfl (zR_P _) ?_
      refine zO_callV (Y' := YX4_nameKings) (cw := zcV F n sl) (as := []) (rest := []) (na := 0) (ci := 4) rfl dX4_fillHours_66 wC_X4_nameKings wN_X4 wM_X4_96 wI_X4_nameKings wV_X4_nameKings (by decide) (by decide) rfl rfl (Nat.le_of_ble_eq_true rfl) rfl (by decide) (gk_60 hG) (fun r hr => zMet_cast (Nat.add_assoc d 2 2) (mX4_nameKings (d := d + 2) hG  r hr)) ?_
      intro D_7 _
      show zO _ _ _ _ _ _ [] (F, D_7, n, sl) _ _
      refine zO_iconst dX4_fillHours_69 (by decide) ?_
      refine zO_istore_n dX4_fillHours_70 (by decide) ?_
      refine zO_ls (ls' := [(0, zR 60), (1, zI 0)]) rfl ?_
      refine zO_iconst dX4_fillHours_71 (by decide) ?_
      refine zO_istore_n dX4_fillHours_72 (by decide) ?_
      refine zO_ls (ls' := [(0, zR 60), (1, zI 0), (2, zI 0)]) rfl ?_
      refine zO_live [0, 1, 2] ?_
      exact sX4_fillHours_73  zfu 0 0 F D_7 n sl hG hN
set_option maxHeartbeats 20000000 in
theorem mX4_fillHours {l : Launch} {E : zE} {d : Nat}  {F : zFs} {D : zDa} {n sl : Nat} (hG : zG F) (hN : 126 ≤ n) : ∀ r, fX4_fillHours  F D n sl = some r → zMet l E (d + 5) YX4_fillHours [zR 60] (F, D, n, sl) (zmV r) := by
  intro r hr
  refine zMet_of (plainFor_of_name (by decide)) (fun _ h => (nomatch h)) (Nat.le_of_ble_eq_true rfl) ?_
  have hz : zO l E (d + 5) YX4_fillHours 0 [(0, zR 60)] [] (F, D, n, sl) (zmV) (fX4_fillHours  F D n sl) := by
    unfold fX4_fillHours
    refine zO_aload_n dX4_fillHours_0 rfl (zR_P _) ?_
    refine zO_iconst dX4_fillHours_1 (by decide) ?_
    refine ptI4 (k := 5) (z := 0) dX4_fillHours_2 wF_X4_83 (by decide) rfl (gk_60 hG) rfl ?_
    refine zO_letD (fun D_1 eD_1 => ?_)
    refine zO_iconst dX4_fillHours_5 (by decide) ?_
    refine zO_istore_n dX4_fillHours_6 (by decide) ?_
    refine zO_ls (ls' := [(0, zR 60), (1, zI 0)]) rfl ?_
    refine zO_live [0, 1] ?_
    exact sX4_fillHours_7  zfu 0 F D_1 n sl hG hN
  exact hz r hr
theorem dX4_waysOf_0 : decode cX4_waysOf 0 = .ok (.lconst 0, 1) := by decide +kernel
theorem dX4_waysOf_1 : decode cX4_waysOf 1 = .ok (.lstore 4, 2) := by decide +kernel
theorem dX4_waysOf_3 : decode cX4_waysOf 3 = .ok (.aload_n 0, 1) := by decide +kernel
theorem dX4_waysOf_4 : decode cX4_waysOf 4 = .ok (.getfield 83, 3) := by decide +kernel
theorem dX4_waysOf_7 : decode cX4_waysOf 7 = .ok (.iload_n 1, 1) := by decide +kernel
theorem dX4_waysOf_8 : decode cX4_waysOf 8 = .ok (.isub, 1) := by decide +kernel
theorem dX4_waysOf_9 : decode cX4_waysOf 9 = .ok (.iload_n 2, 1) := by decide +kernel
theorem dX4_waysOf_10 : decode cX4_waysOf 10 = .ok (.isub, 1) := by decide +kernel
theorem dX4_waysOf_11 : decode cX4_waysOf 11 = .ok (.istore 6, 2) := by decide +kernel
theorem dX4_waysOf_13 : decode cX4_waysOf 13 = .ok (.iconst 0, 1) := by decide +kernel
theorem dX4_waysOf_14 : decode cX4_waysOf 14 = .ok (.istore 7, 2) := by decide +kernel
theorem dX4_waysOf_16 : decode cX4_waysOf 16 = .ok (.iload 7, 2) := by decide +kernel
theorem dX4_waysOf_18 : decode cX4_waysOf 18 = .ok (.iload_n 1, 1) := by decide +kernel
theorem dX4_waysOf_19 : decode cX4_waysOf 19 = .ok (.if_icmp .gt 117, 3) := by decide +kernel
theorem dX4_waysOf_22 : decode cX4_waysOf 22 = .ok (.iload 7, 2) := by decide +kernel
theorem dX4_waysOf_24 : decode cX4_waysOf 24 = .ok (.iload_n 3, 1) := by decide +kernel
theorem dX4_waysOf_25 : decode cX4_waysOf 25 = .ok (.if_icmp .gt 111, 3) := by decide +kernel
theorem dX4_waysOf_28 : decode cX4_waysOf 28 = .ok (.iconst 0, 1) := by decide +kernel
theorem dX4_waysOf_29 : decode cX4_waysOf 29 = .ok (.iload_n 3, 1) := by decide +kernel
theorem dX4_waysOf_30 : decode cX4_waysOf 30 = .ok (.iload 7, 2) := by decide +kernel
theorem dX4_waysOf_32 : decode cX4_waysOf 32 = .ok (.isub, 1) := by decide +kernel
theorem dX4_waysOf_33 : decode cX4_waysOf 33 = .ok (.iload 6, 2) := by decide +kernel
theorem dX4_waysOf_35 : decode cX4_waysOf 35 = .ok (.isub, 1) := by decide +kernel
theorem dX4_waysOf_36 : decode cX4_waysOf 36 = .ok (.invokestatic 103, 3) := by decide +kernel
theorem dX4_waysOf_39 : decode cX4_waysOf 39 = .ok (.istore 8, 2) := by decide +kernel
theorem dX4_waysOf_41 : decode cX4_waysOf 41 = .ok (.iload 8, 2) := by decide +kernel
theorem dX4_waysOf_43 : decode cX4_waysOf 43 = .ok (.iload_n 2, 1) := by decide +kernel
theorem dX4_waysOf_44 : decode cX4_waysOf 44 = .ok (.if_icmp .gt 86, 3) := by decide +kernel
theorem dX4_waysOf_47 : decode cX4_waysOf 47 = .ok (.iload 7, 2) := by decide +kernel
theorem dX4_waysOf_49 : decode cX4_waysOf 49 = .ok (.iload 8, 2) := by decide +kernel
theorem dX4_waysOf_51 : decode cX4_waysOf 51 = .ok (.iadd, 1) := by decide +kernel
theorem dX4_waysOf_52 : decode cX4_waysOf 52 = .ok (.iload_n 3, 1) := by decide +kernel
theorem dX4_waysOf_53 : decode cX4_waysOf 53 = .ok (.if_icmp .gt 77, 3) := by decide +kernel
theorem dX4_waysOf_56 : decode cX4_waysOf 56 = .ok (.aload_n 0, 1) := by decide +kernel
theorem dX4_waysOf_57 : decode cX4_waysOf 57 = .ok (.getfield 41, 3) := by decide +kernel
theorem dX4_waysOf_60 : decode cX4_waysOf 60 = .ok (.iload 7, 2) := by decide +kernel
theorem dX4_waysOf_62 : decode cX4_waysOf 62 = .ok (.bipush 11, 2) := by decide +kernel
theorem dX4_waysOf_64 : decode cX4_waysOf 64 = .ok (.imul, 1) := by decide +kernel
theorem dX4_waysOf_65 : decode cX4_waysOf 65 = .ok (.iload 8, 2) := by decide +kernel
theorem dX4_waysOf_67 : decode cX4_waysOf 67 = .ok (.iadd, 1) := by decide +kernel
theorem dX4_waysOf_68 : decode cX4_waysOf 68 = .ok (.laload, 1) := by decide +kernel
theorem dX4_waysOf_69 : decode cX4_waysOf 69 = .ok (.lstore 9, 2) := by decide +kernel
theorem dX4_waysOf_71 : decode cX4_waysOf 71 = .ok (.lload 9, 2) := by decide +kernel
theorem dX4_waysOf_73 : decode cX4_waysOf 73 = .ok (.lconst 0, 1) := by decide +kernel
theorem dX4_waysOf_74 : decode cX4_waysOf 74 = .ok (.lcmp, 1) := by decide +kernel
theorem dX4_waysOf_75 : decode cX4_waysOf 75 = .ok (.ifCond .le 49, 3) := by decide +kernel
theorem dX4_waysOf_78 : decode cX4_waysOf 78 = .ok (.lload 4, 2) := by decide +kernel
theorem dX4_waysOf_80 : decode cX4_waysOf 80 = .ok (.lload 9, 2) := by decide +kernel
theorem dX4_waysOf_82 : decode cX4_waysOf 82 = .ok (.aload_n 0, 1) := by decide +kernel
theorem dX4_waysOf_83 : decode cX4_waysOf 83 = .ok (.getfield 65, 3) := by decide +kernel
theorem dX4_waysOf_86 : decode cX4_waysOf 86 = .ok (.iload_n 1, 1) := by decide +kernel
theorem dX4_waysOf_87 : decode cX4_waysOf 87 = .ok (.iload 7, 2) := by decide +kernel
theorem dX4_waysOf_89 : decode cX4_waysOf 89 = .ok (.invokevirtual 152, 3) := by decide +kernel
theorem dX4_waysOf_92 : decode cX4_waysOf 92 = .ok (.lmul, 1) := by decide +kernel
theorem dX4_waysOf_93 : decode cX4_waysOf 93 = .ok (.aload_n 0, 1) := by decide +kernel
theorem dX4_waysOf_94 : decode cX4_waysOf 94 = .ok (.getfield 65, 3) := by decide +kernel
theorem dX4_waysOf_97 : decode cX4_waysOf 97 = .ok (.iload_n 2, 1) := by decide +kernel
theorem dX4_waysOf_98 : decode cX4_waysOf 98 = .ok (.iload 8, 2) := by decide +kernel
theorem dX4_waysOf_100 : decode cX4_waysOf 100 = .ok (.invokevirtual 152, 3) := by decide +kernel
theorem dX4_waysOf_103 : decode cX4_waysOf 103 = .ok (.lmul, 1) := by decide +kernel
theorem dX4_waysOf_104 : decode cX4_waysOf 104 = .ok (.aload_n 0, 1) := by decide +kernel
theorem dX4_waysOf_105 : decode cX4_waysOf 105 = .ok (.getfield 65, 3) := by decide +kernel
theorem dX4_waysOf_108 : decode cX4_waysOf 108 = .ok (.iload 6, 2) := by decide +kernel
theorem dX4_waysOf_110 : decode cX4_waysOf 110 = .ok (.iload_n 3, 1) := by decide +kernel
theorem dX4_waysOf_111 : decode cX4_waysOf 111 = .ok (.iload 7, 2) := by decide +kernel
theorem dX4_waysOf_113 : decode cX4_waysOf 113 = .ok (.isub, 1) := by decide +kernel
theorem dX4_waysOf_114 : decode cX4_waysOf 114 = .ok (.iload 8, 2) := by decide +kernel
theorem dX4_waysOf_116 : decode cX4_waysOf 116 = .ok (.isub, 1) := by decide +kernel
theorem dX4_waysOf_117 : decode cX4_waysOf 117 = .ok (.invokevirtual 152, 3) := by decide +kernel
theorem dX4_waysOf_120 : decode cX4_waysOf 120 = .ok (.lmul, 1) := by decide +kernel
theorem dX4_waysOf_121 : decode cX4_waysOf 121 = .ok (.ladd, 1) := by decide +kernel
theorem dX4_waysOf_122 : decode cX4_waysOf 122 = .ok (.lstore 4, 2) := by decide +kernel
theorem dX4_waysOf_124 : decode cX4_waysOf 124 = .ok (.iinc 8 1, 3) := by decide +kernel
theorem dX4_waysOf_127 : decode cX4_waysOf 127 = .ok (.goto (-86), 3) := by decide +kernel
theorem dX4_waysOf_130 : decode cX4_waysOf 130 = .ok (.iinc 7 1, 3) := by decide +kernel
theorem dX4_waysOf_133 : decode cX4_waysOf 133 = .ok (.goto (-117), 3) := by decide +kernel
theorem dX4_waysOf_136 : decode cX4_waysOf 136 = .ok (.lload 4, 2) := by decide +kernel
theorem dX4_waysOf_138 : decode cX4_waysOf 138 = .ok (.lreturn, 1) := by decide +kernel
abbrev YX4_waysOf : zY := (yX4_waysOf, cX4_waysOf, 11, (Option.some Jvm.ClassFile.FieldType.long), [])
def fX4_waysOf_130 (F : zFs) (k_16 : Int → Int → zDa → Option (Int × zDa)) (o1 : Int) (o2 : Int) (o3 : Int) (v4 : Int) (o6 : Int) (o7 : Int) (D : zDa) : Option (Int × zDa) :=
  if (-2147483648 ≤ o7 + 1 ∧ o7 + 1 ≤ 2147483647) then
    k_16 v4 (o7 + 1) D
  else none
def fX4_waysOf_124 (F : zFs) (k_16 : Int → Int → zDa → Option (Int × zDa)) (k_41 : Int → Int → zDa → Option (Int × zDa)) (o1 : Int) (o2 : Int) (o3 : Int) (v4 : Int) (o6 : Int) (o7 : Int) (v8 : Int) (D : zDa) : Option (Int × zDa) :=
  if (-2147483648 ≤ v8 + 1 ∧ v8 + 1 ≤ 2147483647) then
    k_41 v4 (v8 + 1) D
  else none
def fX4_waysOf_41 (F : zFs) (o1 : Int) (o2 : Int) (o3 : Int) (o6 : Int) (o7 : Int) (k_16 : Int → Int → zDa → Option (Int × zDa)) (k_41 : Int → Int → zDa → Option (Int × zDa)) (v4 : Int) (v8 : Int) (D : zDa) : Option (Int × zDa) :=
  if o2 < v8 then
    fX4_waysOf_130 F k_16 o1 o2 o3 v4 o6 o7 D
  else
    if (-2147483648 ≤ o7 + v8 ∧ o7 + v8 ≤ 2147483647) then
      if o3 < (o7 + v8) then
        fX4_waysOf_130 F k_16 o1 o2 o3 v4 o6 o7 D
      else
        if (-2147483648 ≤ o7 * 11 ∧ o7 * 11 ≤ 2147483647) ∧ (-2147483648 ≤ (o7 * 11) + v8 ∧ (o7 * 11) + v8 ≤ 2147483647) ∧ (0 ≤ ((o7 * 11) + v8) ∧ ((o7 * 11) + v8) < 121) then
          zlet ((D 68 ((o7 * 11) + v8).toNat)) (fun x9_4 =>
            if 0 < x9_4 then
              (fX2_sets F o1 o7 D).bind (fun (r_5, D_6) =>
                if (-9223372036854775808 ≤ x9_4 * r_5 ∧ x9_4 * r_5 ≤ 9223372036854775807) then
                  (fX2_sets F o2 v8 D_6).bind (fun (r_7, D_8) =>
                    if (-9223372036854775808 ≤ (x9_4 * r_5) * r_7 ∧ (x9_4 * r_5) * r_7 ≤ 9223372036854775807) ∧ (-2147483648 ≤ o3 - o7 ∧ o3 - o7 ≤ 2147483647) ∧ (-2147483648 ≤ (o3 - o7) - v8 ∧ (o3 - o7) - v8 ≤ 2147483647) then
                      (fX2_sets F o6 ((o3 - o7) - v8) D_8).bind (fun (r_9, D_10) =>
                        if (-9223372036854775808 ≤ ((x9_4 * r_5) * r_7) * r_9 ∧ ((x9_4 * r_5) * r_7) * r_9 ≤ 9223372036854775807) ∧ (-9223372036854775808 ≤ v4 + (((x9_4 * r_5) * r_7) * r_9) ∧ v4 + (((x9_4 * r_5) * r_7) * r_9) ≤ 9223372036854775807) then
                          zlet ((v4 + (((x9_4 * r_5) * r_7) * r_9))) (fun x4_11 =>
                            fX4_waysOf_124 F k_16 k_41 o1 o2 o3 x4_11 o6 o7 v8 D_10)
                        else none)
                    else none)
                else none)
            else
              fX4_waysOf_124 F k_16 k_41 o1 o2 o3 v4 o6 o7 v8 D)
        else none
    else none
def fX4_waysOf_16 (F : zFs) (o1 : Int) (o2 : Int) (o3 : Int) (o6 : Int)  (k_16 : Int → Int → zDa → Option (Int × zDa)) (v4 : Int) (v7 : Int) (D : zDa) : Option (Int × zDa) :=
  if o1 < v7 then
    some (v4, D)
  else
    if o3 < v7 then
      some (v4, D)
    else
      if (-2147483648 ≤ o3 - v7 ∧ o3 - v7 ≤ 2147483647) ∧ (-2147483648 ≤ (o3 - v7) - o6 ∧ (o3 - v7) - o6 ≤ 2147483647) then
        (fJ9_max_7cf53 F 0 ((o3 - v7) - o6) D).bind (fun (r_2, D_3) =>
          zfix (fun _ _ _ => none) (fX4_waysOf_41 F o1 o2 o3 o6 v7 k_16) zfu v4 r_2 D_3)
      else none
def fX4_waysOf (F : zFs) (v1 : Int) (v2 : Int) (v3 : Int) (D : zDa) : Option (Int × zDa) :=
  if (-2147483648 ≤ (D 60 5) - v1 ∧ (D 60 5) - v1 ≤ 2147483647) ∧ (-2147483648 ≤ ((D 60 5) - v1) - v2 ∧ ((D 60 5) - v1) - v2 ≤ 2147483647) then
    zlet ((((D 60 5) - v1) - v2)) (fun x6_1 =>
      zfix (fun _ _ _ => none) (fX4_waysOf_16 F v1 v2 v3 x6_1) zfu 0 0 D)
  else none
set_option maxHeartbeats 20000000 in
theorem sX4_waysOf_130 {l : Launch} {E : zE} {d : Nat} {F : zFs} {n sl : Nat} (hG : zG F)  (o1 : Int) (o2 : Int) (o3 : Int) (v4 : Int) (o6 : Int) (o7 : Int) (k_16 : Int → Int → zDa → Option (Int × zDa)) (hk_16 : ∀ (u4 : Int) (u7 : Int) (D : zDa), zO l E (d + 1) YX4_waysOf 16 [(0, zR 60), (1, zI o1), (2, zI o2), (3, zI o3), (4, zL u4), (6, zI o6), (7, zI u7)] [] (F, D, n, sl) (zcJ F n sl) (k_16 u4 u7 D)) (D : zDa) : zO l E (d + 1) YX4_waysOf 130 [(0, zR 60), (1, zI o1), (2, zI o2), (3, zI o3), (4, zL v4), (6, zI o6), (7, zI o7)] [] (F, D, n, sl) (zcJ F n sl) (fX4_waysOf_130 F k_16 o1 o2 o3 v4 o6 o7 D) := by
  unfold fX4_waysOf_130
  refine zO_chk (fun h3 => ?_)
  refine zO_iinc dX4_waysOf_130 rfl h3 (by decide) ?_
  refine zO_ls (ls' := [(0, zR 60), (1, zI o1), (2, zI o2), (3, zI o3), (4, zL v4), (6, zI o6), (7, zI (o7 + 1))]) rfl ?_
  refine zO_goto (tgt := 16) dX4_waysOf_133 rfl ?_
  refine zO_live [0, 1, 2, 3, 4, 6, 7] ?_
  exact hk_16 v4 (o7 + 1) D
set_option maxHeartbeats 20000000 in
theorem sX4_waysOf_124 {l : Launch} {E : zE} {d : Nat} {F : zFs} {n sl : Nat} (hG : zG F)  (o1 : Int) (o2 : Int) (o3 : Int) (v4 : Int) (o6 : Int) (o7 : Int) (v8 : Int) (k_16 : Int → Int → zDa → Option (Int × zDa)) (k_41 : Int → Int → zDa → Option (Int × zDa)) (hk_16 : ∀ (u4 : Int) (u7 : Int) (D : zDa), zO l E (d + 1) YX4_waysOf 16 [(0, zR 60), (1, zI o1), (2, zI o2), (3, zI o3), (4, zL u4), (6, zI o6), (7, zI u7)] [] (F, D, n, sl) (zcJ F n sl) (k_16 u4 u7 D)) (hk_41 : ∀ (u4 : Int) (u8 : Int) (D : zDa), zO l E (d + 1) YX4_waysOf 41 [(0, zR 60), (1, zI o1), (2, zI o2), (3, zI o3), (4, zL u4), (6, zI o6), (7, zI o7), (8, zI u8)] [] (F, D, n, sl) (zcJ F n sl) (k_41 u4 u8 D)) (D : zDa) : zO l E (d + 1) YX4_waysOf 124 [(0, zR 60), (1, zI o1), (2, zI o2), (3, zI o3), (4, zL v4), (6, zI o6), (7, zI o7), (8, zI v8)] [] (F, D, n, sl) (zcJ F n sl) (fX4_waysOf_124 F k_16 k_41 o1 o2 o3 v4 o6 o7 v8 D) := by
  unfold fX4_waysOf_124
  refine zO_chk (fun h9 => ?_)
  refine zO_iinc dX4_waysOf_124 rfl h9 (by decide) ?_
  refine zO_ls (ls' := [(0, zR 60), (1, zI o1), (2, zI o2), (3, zI o3), (4, zL v4), (6, zI o6), (7, zI o7), (8, zI (v8 + 1))]) rfl ?_
  refine zO_goto (tgt := 41) dX4_waysOf_127 rfl ?_
  refine zO_live [0, 1, 2, 3, 4, 6, 7, 8] ?_
  exact hk_41 v4 (v8 + 1) D
set_option maxHeartbeats 20000000 in
theorem sX4_waysOf_41 {l : Launch} {E : zE} {d : Nat} {F : zFs} {n sl : Nat} (hG : zG F)  (o1 : Int) (o2 : Int) (o3 : Int) (o6 : Int) (o7 : Int) (k_16 : Int → Int → zDa → Option (Int × zDa)) (hk_16 : ∀ (u4 : Int) (u7 : Int) (D : zDa), zO l E (d + 1) YX4_waysOf 16 [(0, zR 60), (1, zI o1), (2, zI o2), (3, zI o3), (4, zL u4), (6, zI o6), (7, zI u7)] [] (F, D, n, sl) (zcJ F n sl) (k_16 u4 u7 D)) : ∀ (N : Nat) (v4 : Int) (v8 : Int) (D : zDa), zO l E (d + 1) YX4_waysOf 41 [(0, zR 60), (1, zI o1), (2, zI o2), (3, zI o3), (4, zL v4), (6, zI o6), (7, zI o7), (8, zI v8)] [] (F, D, n, sl) (zcJ F n sl) (zfix (fun _ _ _ => none) (fX4_waysOf_41 F o1 o2 o3 o6 o7 k_16) N v4 v8 D) := by
  intro N
  induction N with
  | zero => intro v4 v8 D; exact zO_none
  | succ N hk_41 =>
    intro v4 v8 D
    show zO _ _ _ _ _ _ _ _ _ ((fX4_waysOf_41 F o1 o2 o3 o6 o7 k_16) (zfix (fun _ _ _ => none) (fX4_waysOf_41 F o1 o2 o3 o6 o7 k_16) N) v4 v8 D)
    unfold fX4_waysOf_41
    refine zO_iload dX4_waysOf_41 rfl ?_
    refine zO_iload_n dX4_waysOf_43 rfl ?_
    refine zO_icmp_gt (tgt := 130) dX4_waysOf_44 rfl (fun c44 => ?_) (fun c44 => ?_)
    · refine zO_live [0, 1, 2, 3, 4, 6, 7] ?_
      exact sX4_waysOf_130 hG o1 o2 o3 v4 o6 o7 _ hk_16 D
    · refine zO_chk (fun h4 => ?_)
      refine zO_iload dX4_waysOf_47 rfl ?_
      refine zO_iload dX4_waysOf_49 rfl ?_
      refine zO_iadd dX4_waysOf_51 h4 ?_
      refine zO_iload_n dX4_waysOf_52 rfl ?_
      refine zO_icmp_gt (tgt := 130) dX4_waysOf_53 rfl (fun c53 => ?_) (fun c53 => ?_)
      · refine zO_live [0, 1, 2, 3, 4, 6, 7] ?_
        exact sX4_waysOf_130 hG o1 o2 o3 v4 o6 o7 _ hk_16 D
      · refine zO_chk (fun h5 => ?_)
        refine zO_aload_n dX4_waysOf_56 rfl (zR_P _) ?_
        refine gt4 (k := 13) dX4_waysOf_57 wF_X4_41 (by decide) (gk_60 hG) (zgv (c := 4) (k := 13) rfl (Or.inl ⟨_, rfl⟩) (gf_60_13 hG)) ?_
        refine zO_iload dX4_waysOf_60 rfl ?_
        refine zO_bipush dX4_waysOf_62 (by decide) ?_
        refine zO_imul dX4_waysOf_64 h5.1 ?_
        refine zO_iload dX4_waysOf_65 rfl ?_
        refine zO_iadd dX4_waysOf_67 h5.2.1 ?_
        refine zO_lald dX4_waysOf_68 (gk_68 hG) (gl_in (gl_68 hG) h5.2.2) ?_
        refine zO_letJ (fun x9_4 ex9_4 => ?_)
        refine zO_lstore dX4_waysOf_69 (by decide) ?_
        refine zO_ls (ls' := [(0, zR 60), (1, zI o1), (2, zI o2), (3, zI o3), (4, zL v4), (6, zI o6), (7, zI o7), (8, zI v8), (9, zL x9_4)]) rfl ?_
        refine zO_lload dX4_waysOf_71 rfl ?_
        refine zO_lconst dX4_waysOf_73 ?_
        refine zO_lif_le (tgt := 124) dX4_waysOf_74 dX4_waysOf_75 rfl (fun c74 => ?_) (fun c74 => ?_)
        · refine zO_lload dX4_waysOf_78 rfl ?_
          refine zO_lload dX4_waysOf_80 rfl ?_
          refine zO_aload_n dX4_waysOf_82 rfl (zR_P _) ?_
          refine gt4 (k := 2) dX4_waysOf_83 wF_X4_65 (by decide) (gk_60 hG) (zgv (c := 4) (k := 2) rfl (Or.inr ⟨_, rfl⟩) (gf_60_2 hG)) ?_
          refine zO_iload_n dX4_waysOf_86 rfl ?_
          refine zO_iload dX4_waysOf_87 rfl ?_
          refine zO_callV (Y' := YX2_sets) (cw := zcJ F n sl) (as := [zI o1, zI o7]) (rest := [zL x9_4, zL v4]) (na := 2) (ci := 2) rfl dX4_waysOf_89 wC_X2_sets wN_X2 wM_X4_152 wI_X2_sets wV_X2_sets (by decide) (by decide) rfl rfl (Nat.le_of_ble_eq_true rfl) rfl (by decide) (gk_52 hG) (fun r hr => zMet_cast (Nat.add_assoc d 0 0) (mX2_sets (d := d + 0) hG o1 o7 r hr)) ?_
          rintro ⟨r_5, D_6⟩ -
          show zO _ _ _ _ _ _ [zL r_5, zL x9_4, zL v4] (F, D_6, n, sl) _ _
          refine zO_chk (fun h6 => ?_)
          refine zO_lmul dX4_waysOf_92 h6 ?_
          refine zO_aload_n dX4_waysOf_93 rfl (zR_P _) ?_
          refine gt4 (k := 2) dX4_waysOf_94 wF_X4_65 (by decide) (gk_60 hG) (zgv (c := 4) (k := 2) rfl (Or.inr ⟨_, rfl⟩) (gf_60_2 hG)) ?_
          refine zO_iload_n dX4_waysOf_97 rfl ?_
          refine zO_iload dX4_waysOf_98 rfl ?_
          refine zO_callV (Y' := YX2_sets) (cw := zcJ F n sl) (as := [zI o2, zI v8]) (rest := [zL (x9_4 * r_5), zL v4]) (na := 2) (ci := 2) rfl dX4_waysOf_100 wC_X2_sets wN_X2 wM_X4_152 wI_X2_sets wV_X2_sets (by decide) (by decide) rfl rfl (Nat.le_of_ble_eq_true rfl) rfl (by decide) (gk_52 hG) (fun r hr => zMet_cast (Nat.add_assoc d 0 0) (mX2_sets (d := d + 0) hG o2 v8 r hr)) ?_
          rintro ⟨r_7, D_8⟩ -
          show zO _ _ _ _ _ _ [zL r_7, zL (x9_4 * r_5), zL v4] (F, D_8, n, sl) _ _
          refine zO_chk (fun h7 => ?_)
          refine zO_lmul dX4_waysOf_103 h7.1 ?_
          refine zO_aload_n dX4_waysOf_104 rfl (zR_P _) ?_
          refine gt4 (k := 2) dX4_waysOf_105 wF_X4_65 (by decide) (gk_60 hG) (zgv (c := 4) (k := 2) rfl (Or.inr ⟨_, rfl⟩) (gf_60_2 hG)) ?_
          refine zO_iload dX4_waysOf_108 rfl ?_
          refine zO_iload_n dX4_waysOf_110 rfl ?_
          refine zO_iload dX4_waysOf_111 rfl ?_
          refine zO_isub dX4_waysOf_113 h7.2.1 ?_
          refine zO_iload dX4_waysOf_114 rfl ?_
          refine zO_isub dX4_waysOf_116 h7.2.2 ?_
          refine zO_callV (Y' := YX2_sets) (cw := zcJ F n sl) (as := [zI o6, zI ((o3 - o7) - v8)]) (rest := [zL ((x9_4 * r_5) * r_7), zL v4]) (na := 2) (ci := 2) rfl dX4_waysOf_117 wC_X2_sets wN_X2 wM_X4_152 wI_X2_sets wV_X2_sets (by decide) (by decide) rfl rfl (Nat.le_of_ble_eq_true rfl) rfl (by decide) (gk_52 hG) (fun r hr => zMet_cast (Nat.add_assoc d 0 0) (mX2_sets (d := d + 0) hG o6 ((o3 - o7) - v8) r hr)) ?_
          rintro ⟨r_9, D_10⟩ -
          show zO _ _ _ _ _ _ [zL r_9, zL ((x9_4 * r_5) * r_7), zL v4] (F, D_10, n, sl) _ _
          refine zO_chk (fun h8 => ?_)
          refine zO_lmul dX4_waysOf_120 h8.1 ?_
          refine zO_ladd dX4_waysOf_121 h8.2 ?_
          refine zO_letJ (fun x4_11 ex4_11 => ?_)
          refine zO_lstore dX4_waysOf_122 (by decide) ?_
          refine zO_ls (ls' := [(0, zR 60), (1, zI o1), (2, zI o2), (3, zI o3), (4, zL x4_11), (6, zI o6), (7, zI o7), (8, zI v8), (9, zL x9_4)]) rfl ?_
          refine zO_live [0, 1, 2, 3, 4, 6, 7, 8] ?_
          exact sX4_waysOf_124 hG o1 o2 o3 x4_11 o6 o7 v8 _ _ hk_16 hk_41 D_10
        · refine zO_live [0, 1, 2, 3, 4, 6, 7, 8] ?_
          exact sX4_waysOf_124 hG o1 o2 o3 v4 o6 o7 v8 _ _ hk_16 hk_41 D
set_option maxHeartbeats 20000000 in
theorem sX4_waysOf_16 {l : Launch} {E : zE} {d : Nat} {F : zFs} {n sl : Nat} (hG : zG F)  (o1 : Int) (o2 : Int) (o3 : Int) (o6 : Int)   : ∀ (N : Nat) (v4 : Int) (v7 : Int) (D : zDa), zO l E (d + 1) YX4_waysOf 16 [(0, zR 60), (1, zI o1), (2, zI o2), (3, zI o3), (4, zL v4), (6, zI o6), (7, zI v7)] [] (F, D, n, sl) (zcJ F n sl) (zfix (fun _ _ _ => none) (fX4_waysOf_16 F o1 o2 o3 o6) N v4 v7 D) := by
  intro N
  induction N with
  | zero => intro v4 v7 D; exact zO_none
  | succ N hk_16 =>
    intro v4 v7 D
    show zO _ _ _ _ _ _ _ _ _ ((fX4_waysOf_16 F o1 o2 o3 o6) (zfix (fun _ _ _ => none) (fX4_waysOf_16 F o1 o2 o3 o6) N) v4 v7 D)
    unfold fX4_waysOf_16
    refine zO_iload dX4_waysOf_16 rfl ?_
    refine zO_iload_n dX4_waysOf_18 rfl ?_
    refine zO_icmp_gt (tgt := 136) dX4_waysOf_19 rfl (fun c19 => ?_) (fun c19 => ?_)
    · refine zO_lload dX4_waysOf_136 rfl ?_
      exact zO_ret (rv := some (zL v4)) dX4_waysOf_138 rfl trivial rfl
    · refine zO_iload dX4_waysOf_22 rfl ?_
      refine zO_iload_n dX4_waysOf_24 rfl ?_
      refine zO_icmp_gt (tgt := 136) dX4_waysOf_25 rfl (fun c25 => ?_) (fun c25 => ?_)
      · refine zO_lload dX4_waysOf_136 rfl ?_
        exact zO_ret (rv := some (zL v4)) dX4_waysOf_138 rfl trivial rfl
      · refine zO_chk (fun h2 => ?_)
        refine zO_iconst dX4_waysOf_28 (by decide) ?_
        refine zO_iload_n dX4_waysOf_29 rfl ?_
        refine zO_iload dX4_waysOf_30 rfl ?_
        refine zO_isub dX4_waysOf_32 h2.1 ?_
        refine zO_iload dX4_waysOf_33 rfl ?_
        refine zO_isub dX4_waysOf_35 h2.2 ?_
        refine zO_callS (Y' := YJ9_max_7cf53) (cw := zcI F n sl) (as := [zI 0, zI ((o3 - v7) - o6)]) (rest := []) (na := 2) dX4_waysOf_36 wC_J9_max_7cf53 wN_J9 wM_X4_103 wS_J9_max_7cf53 (by decide) (by decide) rfl rfl (Nat.le_of_ble_eq_true rfl) (fun r hr => zMet_cast (Nat.add_assoc d 0 0) (mJ9_max_7cf53 (d := d + 0) hG 0 ((o3 - v7) - o6) r hr)) ?_
        rintro ⟨r_2, D_3⟩ -
        show zO _ _ _ _ _ _ [zI r_2] (F, D_3, n, sl) _ _
        refine zO_istore dX4_waysOf_39 (by decide) ?_
        refine zO_ls (ls' := [(0, zR 60), (1, zI o1), (2, zI o2), (3, zI o3), (4, zL v4), (6, zI o6), (7, zI v7), (8, zI r_2)]) rfl ?_
        refine zO_live [0, 1, 2, 3, 4, 6, 7, 8] ?_
        exact sX4_waysOf_41 hG o1 o2 o3 o6 v7 _ hk_16 zfu v4 r_2 D_3
set_option maxHeartbeats 20000000 in
theorem mX4_waysOf {l : Launch} {E : zE} {d : Nat} {F : zFs} {n sl : Nat} (hG : zG F) (v1 : Int) (v2 : Int) (v3 : Int) {D : zDa} : ∀ r, fX4_waysOf F  v1 v2 v3 D = some r → zMet l E (d + 1) YX4_waysOf [zR 60, zI v1, zI v2, zI v3] (F, D, n, sl) (zcJ F n sl r) := by
  intro r hr
  refine zMet_of (plainFor_of_name (by decide)) (fun _ h => (nomatch h)) (Nat.le_of_ble_eq_true rfl) ?_
  have hz : zO l E (d + 1) YX4_waysOf 0 [(0, zR 60), (1, zI v1), (2, zI v2), (3, zI v3)] [] (F, D, n, sl) (zcJ F n sl) (fX4_waysOf F  v1 v2 v3 D) := by
    unfold fX4_waysOf
    refine zO_chk (fun h1 => ?_)
    refine zO_lconst dX4_waysOf_0 ?_
    refine zO_lstore dX4_waysOf_1 (by decide) ?_
    refine zO_ls (ls' := [(0, zR 60), (1, zI v1), (2, zI v2), (3, zI v3), (4, zL 0)]) rfl ?_
    refine zO_aload_n dX4_waysOf_3 rfl (zR_P _) ?_
    refine gt4 (k := 5) (v := zI (D 60 5)) dX4_waysOf_4 wF_X4_83 (by decide) (gk_60 hG) rfl ?_
    refine zO_iload_n dX4_waysOf_7 rfl ?_
    refine zO_isub dX4_waysOf_8 h1.1 ?_
    refine zO_iload_n dX4_waysOf_9 rfl ?_
    refine zO_isub dX4_waysOf_10 h1.2 ?_
    refine zO_letI (fun x6_1 ex6_1 => ?_)
    refine zO_istore dX4_waysOf_11 (by decide) ?_
    refine zO_ls (ls' := [(0, zR 60), (1, zI v1), (2, zI v2), (3, zI v3), (4, zL 0), (6, zI x6_1)]) rfl ?_
    refine zO_iconst dX4_waysOf_13 (by decide) ?_
    refine zO_istore dX4_waysOf_14 (by decide) ?_
    refine zO_ls (ls' := [(0, zR 60), (1, zI v1), (2, zI v2), (3, zI v3), (4, zL 0), (6, zI x6_1), (7, zI 0)]) rfl ?_
    refine zO_live [0, 1, 2, 3, 4, 6, 7] ?_
    exact sX4_waysOf_16 hG v1 v2 v3 x6_1 zfu 0 0 D
  exact hz r hr
