/-! printed by wip/gen/emit_all.py: X11_terms X11_putBytes X11_feed X11_end X11_paper X11_fault X11_use X11_takes X11_keeps X11_chance X11_spreadKnown X11_pass X11_right X11_mean X11_spreadSure X11_sure X11_safe X11_worth X11_best X11_level X11_enough -/
theorem dX11_terms_0 : decode cX11_terms 0 = .ok (.iload_n 1, 1) := by decide +kernel
theorem dX11_terms_1 : decode cX11_terms 1 = .ok (.ifCond .lt 27, 3) := by decide +kernel
theorem dX11_terms_4 : decode cX11_terms 4 = .ok (.iload_n 1, 1) := by decide +kernel
theorem dX11_terms_5 : decode cX11_terms 5 = .ok (.bipush 7, 2) := by decide +kernel
theorem dX11_terms_7 : decode cX11_terms 7 = .ok (.if_icmp .ge 21, 3) := by decide +kernel
theorem dX11_terms_10 : decode cX11_terms 10 = .ok (.iload_n 2, 1) := by decide +kernel
theorem dX11_terms_11 : decode cX11_terms 11 = .ok (.getstatic 148, 3) := by decide +kernel
theorem dX11_terms_14 : decode cX11_terms 14 = .ok (.iload_n 1, 1) := by decide +kernel
theorem dX11_terms_15 : decode cX11_terms 15 = .ok (.iaload, 1) := by decide +kernel
theorem dX11_terms_16 : decode cX11_terms 16 = .ok (.if_icmp .lt 12, 3) := by decide +kernel
theorem dX11_terms_19 : decode cX11_terms 19 = .ok (.iload_n 2, 1) := by decide +kernel
theorem dX11_terms_20 : decode cX11_terms 20 = .ok (.getstatic 151, 3) := by decide +kernel
theorem dX11_terms_23 : decode cX11_terms 23 = .ok (.iload_n 1, 1) := by decide +kernel
theorem dX11_terms_24 : decode cX11_terms 24 = .ok (.iaload, 1) := by decide +kernel
theorem dX11_terms_25 : decode cX11_terms 25 = .ok (.if_icmp .le 9, 3) := by decide +kernel
theorem dX11_terms_28 : decode cX11_terms 28 = .ok (.aload_n 0, 1) := by decide +kernel
theorem dX11_terms_29 : decode cX11_terms 29 = .ok (.iconst (-1), 1) := by decide +kernel
theorem dX11_terms_30 : decode cX11_terms 30 = .ok (.invokevirtual 112, 3) := by decide +kernel
theorem dX11_terms_33 : decode cX11_terms 33 = .ok (.ireturn, 1) := by decide +kernel
theorem dX11_terms_34 : decode cX11_terms 34 = .ok (.aload_n 0, 1) := by decide +kernel
theorem dX11_terms_35 : decode cX11_terms 35 = .ok (.getfield 10, 3) := by decide +kernel
theorem dX11_terms_38 : decode cX11_terms 38 = .ok (.getfield 154, 3) := by decide +kernel
theorem dX11_terms_41 : decode cX11_terms 41 = .ok (.iload_n 1, 1) := by decide +kernel
theorem dX11_terms_42 : decode cX11_terms 42 = .ok (.iaload, 1) := by decide +kernel
theorem dX11_terms_43 : decode cX11_terms 43 = .ok (.istore_n 3, 1) := by decide +kernel
theorem dX11_terms_44 : decode cX11_terms 44 = .ok (.aload_n 0, 1) := by decide +kernel
theorem dX11_terms_45 : decode cX11_terms 45 = .ok (.getfield 10, 3) := by decide +kernel
theorem dX11_terms_48 : decode cX11_terms 48 = .ok (.getfield 154, 3) := by decide +kernel
theorem dX11_terms_51 : decode cX11_terms 51 = .ok (.iload_n 1, 1) := by decide +kernel
theorem dX11_terms_52 : decode cX11_terms 52 = .ok (.iload_n 2, 1) := by decide +kernel
theorem dX11_terms_53 : decode cX11_terms 53 = .ok (.iastore, 1) := by decide +kernel
theorem dX11_terms_54 : decode cX11_terms 54 = .ok (.aload_n 0, 1) := by decide +kernel
theorem dX11_terms_55 : decode cX11_terms 55 = .ok (.getfield 10, 3) := by decide +kernel
theorem dX11_terms_58 : decode cX11_terms 58 = .ok (.dup, 1) := by decide +kernel
theorem dX11_terms_59 : decode cX11_terms 59 = .ok (.getfield 157, 3) := by decide +kernel
theorem dX11_terms_62 : decode cX11_terms 62 = .ok (.iconst 1, 1) := by decide +kernel
theorem dX11_terms_63 : decode cX11_terms 63 = .ok (.iadd, 1) := by decide +kernel
theorem dX11_terms_64 : decode cX11_terms 64 = .ok (.putfield 157, 3) := by decide +kernel
theorem dX11_terms_67 : decode cX11_terms 67 = .ok (.aload_n 0, 1) := by decide +kernel
theorem dX11_terms_68 : decode cX11_terms 68 = .ok (.iload_n 3, 1) := by decide +kernel
theorem dX11_terms_69 : decode cX11_terms 69 = .ok (.invokevirtual 123, 3) := by decide +kernel
theorem dX11_terms_72 : decode cX11_terms 72 = .ok (.ireturn, 1) := by decide +kernel
abbrev YX11_terms : zY := (yX11_terms, cX11_terms, 4, (Option.some Jvm.ClassFile.FieldType.int), [])
def fX11_terms_28 (F : zFs)   (D : zDa) : Option (Int × zDa) :=
  (fX11_refuse F (-1) D).bind (fun (r_1, D_2) =>
    some (r_1, D_2))
def fX11_terms (F : zFs) (v1 : Int) (v2 : Int) (D : zDa) : Option (Int × zDa) :=
  if v1 < 0 then
    fX11_terms_28 F D
  else
    if v1 < 7 then
      if (0 ≤ v1 ∧ v1 < 7) then
        if v2 < (zTLf v1.toNat) then
          fX11_terms_28 F D
        else
          if (zTMf v1.toNat) < v2 then
            fX11_terms_28 F D
          else
            zlet ((D 7 v1.toNat)) (fun x3_3 =>
              zlet (zwr D 7 v1.toNat v2) (fun D_4 =>
                if (-2147483648 ≤ (D_4 1 17) + 1 ∧ (D_4 1 17) + 1 ≤ 2147483647) then
                  zlet (zwr D_4 1 17 ((D_4 1 17) + 1)) (fun D_5 =>
                    (fX11_accept F x3_3 D_5).bind (fun (r_6, D_7) =>
                      some (r_6, D_7)))
                else none))
      else none
    else
      fX11_terms_28 F D
set_option maxHeartbeats 20000000 in
theorem sX11_terms_28 {l : Launch} {E : zE} {d : Nat} {F : zFs} {n sl : Nat} (hG : zG F)     (D : zDa) : zO l E (d + 1) YX11_terms 28 [(0, zR 0)] [] (F, D, n, sl) (zcI F n sl) (fX11_terms_28 F D) := by
  unfold fX11_terms_28
  refine zO_aload_n dX11_terms_28 rfl (zR_P _) ?_
  refine zO_iconst dX11_terms_29 (by decide) ?_
  refine zO_callV (Y' := YX11_refuse) (cw := zcI F n sl) (as := [zI (-1)]) (rest := []) (na := 1) (ci := 11) rfl dX11_terms_30 wC_X11_refuse wN_X11 wM_X11_112 wI_X11_refuse wV_X11_refuse (by decide) (by decide) rfl rfl (Nat.le_of_ble_eq_true rfl) rfl (by decide) (gk_0 hG) (fun r hr => zMet_cast (Nat.add_assoc d 0 0) (mX11_refuse (d := d + 0) hG (-1) r hr)) ?_
  rintro ⟨r_1, D_2⟩ -
  show zO _ _ _ _ _ _ [zI r_1] (F, D_2, n, sl) _ _
  exact zO_ret (rv := some (zI r_1)) dX11_terms_33 rfl rfl rfl
set_option maxHeartbeats 20000000 in
theorem mX11_terms {l : Launch} {E : zE} {d : Nat} {F : zFs} {n sl : Nat} (hG : zG F) (v1 : Int) (v2 : Int) {D : zDa} : ∀ r, fX11_terms F  v1 v2 D = some r → zMet l E (d + 1) YX11_terms [zR 0, zI v1, zI v2] (F, D, n, sl) (zcI F n sl r) := by
  intro r hr
  refine zMet_of (plainFor_of_name (by decide)) (fun _ h => (nomatch h)) (Nat.le_of_ble_eq_true rfl) ?_
  have hz : zO l E (d + 1) YX11_terms 0 [(0, zR 0), (1, zI v1), (2, zI v2)] [] (F, D, n, sl) (zcI F n sl) (fX11_terms F  v1 v2 D) := by
    unfold fX11_terms
    refine zO_iload_n dX11_terms_0 rfl ?_
    refine zO_if_lt (tgt := 28) dX11_terms_1 rfl (fun c1 => ?_) (fun c1 => ?_)
    · refine zO_live [0] ?_
      exact sX11_terms_28 hG D
    · refine zO_iload_n dX11_terms_4 rfl ?_
      refine zO_bipush dX11_terms_5 (by decide) ?_
      refine zO_icmp_ge (tgt := 28) dX11_terms_7 rfl (fun c7 => ?_) (fun c7 => ?_)
      · refine zO_chk (fun h1 => ?_)
        refine zO_iload_n dX11_terms_10 rfl ?_
        refine zO_gets (j0 := 1) dX11_terms_11 (by decide) wF_X11_148 ?_
        refine zO_iload_n dX11_terms_14 rfl ?_
        refine zO_sld (j0 := 1) dX11_terms_15 (by decide) h1 ?_
        refine zO_st (st' := [zI (zTLf v1.toNat), zI v2]) rfl ?_
        refine zO_icmp_lt (tgt := 28) dX11_terms_16 rfl (fun c16 => ?_) (fun c16 => ?_)
        · refine zO_live [0] ?_
          exact sX11_terms_28 hG D
        · refine zO_iload_n dX11_terms_19 rfl ?_
          refine zO_gets (j0 := 2) dX11_terms_20 (by decide) wF_X11_151 ?_
          refine zO_iload_n dX11_terms_23 rfl ?_
          refine zO_sld (j0 := 2) dX11_terms_24 (by decide) h1 ?_
          refine zO_st (st' := [zI (zTMf v1.toNat), zI v2]) rfl ?_
          refine zO_icmp_le (tgt := 34) dX11_terms_25 rfl (fun c25 => ?_) (fun c25 => ?_)
          · refine zO_live [0] ?_
            exact sX11_terms_28 hG D
          · refine zO_aload_n dX11_terms_34 rfl (zR_P _) ?_
            refine gt11 (k := 0) dX11_terms_35 wF_X11_10 (by decide) (gk_0 hG) (zgv (c := 11) (k := 0) rfl (Or.inr ⟨_, rfl⟩) (gf_0_0 hG)) ?_
            refine gt9 (k := 6) dX11_terms_38 wF_X11_154 (by decide) (gk_1 hG) (zgv (c := 9) (k := 6) rfl (Or.inl ⟨_, rfl⟩) (gf_1_6 hG)) ?_
            refine zO_iload_n dX11_terms_41 rfl ?_
            refine zO_iald dX11_terms_42 (gk_7 hG) (gl_in (gl_7 hG) h1) ?_
            refine zO_letI (fun x3_3 ex3_3 => ?_)
            refine zO_istore_n dX11_terms_43 (by decide) ?_
            refine zO_ls (ls' := [(0, zR 0), (1, zI v1), (2, zI v2), (3, zI x3_3)]) rfl ?_
            refine zO_aload_n dX11_terms_44 rfl (zR_P _) ?_
            refine gt11 (k := 0) dX11_terms_45 wF_X11_10 (by decide) (gk_0 hG) (zgv (c := 11) (k := 0) rfl (Or.inr ⟨_, rfl⟩) (gf_0_0 hG)) ?_
            refine gt9 (k := 6) dX11_terms_48 wF_X11_154 (by decide) (gk_1 hG) (zgv (c := 9) (k := 6) rfl (Or.inl ⟨_, rfl⟩) (gf_1_6 hG)) ?_
            refine zO_iload_n dX11_terms_51 rfl ?_
            refine zO_iload_n dX11_terms_52 rfl ?_
            refine zO_iast dX11_terms_53 (gk_7 hG) (gl_in (gl_7 hG) h1) ?_
            refine zO_letD (fun D_4 eD_4 => ?_)
            refine zO_chk (fun h2 => ?_)
            refine zO_aload_n dX11_terms_54 rfl (zR_P _) ?_
            refine gt11 (k := 0) dX11_terms_55 wF_X11_10 (by decide) (gk_0 hG) (zgv (c := 11) (k := 0) rfl (Or.inr ⟨_, rfl⟩) (gf_0_0 hG)) ?_
            refine zO_dup dX11_terms_58 (rfl) ?_
            refine gt9 (k := 17) (v := zI (D_4 1 17)) dX11_terms_59 wF_X11_157 (by decide) (gk_1 hG) rfl ?_
            refine zO_iconst dX11_terms_62 (by decide) ?_
            refine zO_iadd dX11_terms_63 h2 ?_
            refine ptI9 (k := 17) (z := ((D_4 1 17) + 1)) dX11_terms_64 wF_X11_157 (by decide) rfl (gk_1 hG) rfl ?_
            refine zO_letD (fun D_5 eD_5 => ?_)
            refine zO_aload_n dX11_terms_67 rfl (zR_P _) ?_
            refine zO_iload_n dX11_terms_68 rfl ?_
            refine zO_callV (Y' := YX11_accept) (cw := zcI F n sl) (as := [zI x3_3]) (rest := []) (na := 1) (ci := 11) rfl dX11_terms_69 wC_X11_accept wN_X11 wM_X11_123 wI_X11_accept wV_X11_accept (by decide) (by decide) rfl rfl (Nat.le_of_ble_eq_true rfl) rfl (by decide) (gk_0 hG) (fun r hr => zMet_cast (Nat.add_assoc d 0 0) (mX11_accept (d := d + 0) hG x3_3 r hr)) ?_
            rintro ⟨r_6, D_7⟩ -
            show zO _ _ _ _ _ _ [zI r_6] (F, D_7, n, sl) _ _
            exact zO_ret (rv := some (zI r_6)) dX11_terms_72 rfl rfl rfl
      · refine zO_live [0] ?_
        exact sX11_terms_28 hG D
  exact hz r hr
theorem dX11_putBytes_0 : decode cX11_putBytes 0 = .ok (.bipush 24, 2) := by decide +kernel
theorem dX11_putBytes_2 : decode cX11_putBytes 2 = .ok (.istore_n 2, 1) := by decide +kernel
theorem dX11_putBytes_3 : decode cX11_putBytes 3 = .ok (.iload_n 2, 1) := by decide +kernel
theorem dX11_putBytes_4 : decode cX11_putBytes 4 = .ok (.ifCond .lt 45, 3) := by decide +kernel
theorem dX11_putBytes_7 : decode cX11_putBytes 7 = .ok (.aload_n 0, 1) := by decide +kernel
theorem dX11_putBytes_8 : decode cX11_putBytes 8 = .ok (.getfield 160, 3) := by decide +kernel
theorem dX11_putBytes_11 : decode cX11_putBytes 11 = .ok (.sipush 400, 3) := by decide +kernel
theorem dX11_putBytes_14 : decode cX11_putBytes 14 = .ok (.if_icmp .ge 35, 3) := by decide +kernel
theorem dX11_putBytes_17 : decode cX11_putBytes 17 = .ok (.aload_n 0, 1) := by decide +kernel
theorem dX11_putBytes_18 : decode cX11_putBytes 18 = .ok (.getfield 24, 3) := by decide +kernel
theorem dX11_putBytes_21 : decode cX11_putBytes 21 = .ok (.aload_n 0, 1) := by decide +kernel
theorem dX11_putBytes_22 : decode cX11_putBytes 22 = .ok (.getfield 160, 3) := by decide +kernel
theorem dX11_putBytes_25 : decode cX11_putBytes 25 = .ok (.iload_n 1, 1) := by decide +kernel
theorem dX11_putBytes_26 : decode cX11_putBytes 26 = .ok (.iload_n 2, 1) := by decide +kernel
theorem dX11_putBytes_27 : decode cX11_putBytes 27 = .ok (.iushr, 1) := by decide +kernel
theorem dX11_putBytes_28 : decode cX11_putBytes 28 = .ok (.sipush 255, 3) := by decide +kernel
theorem dX11_putBytes_31 : decode cX11_putBytes 31 = .ok (.iand, 1) := by decide +kernel
theorem dX11_putBytes_32 : decode cX11_putBytes 32 = .ok (.iastore, 1) := by decide +kernel
theorem dX11_putBytes_33 : decode cX11_putBytes 33 = .ok (.aload_n 0, 1) := by decide +kernel
theorem dX11_putBytes_34 : decode cX11_putBytes 34 = .ok (.dup, 1) := by decide +kernel
theorem dX11_putBytes_35 : decode cX11_putBytes 35 = .ok (.getfield 160, 3) := by decide +kernel
theorem dX11_putBytes_38 : decode cX11_putBytes 38 = .ok (.iconst 1, 1) := by decide +kernel
theorem dX11_putBytes_39 : decode cX11_putBytes 39 = .ok (.iadd, 1) := by decide +kernel
theorem dX11_putBytes_40 : decode cX11_putBytes 40 = .ok (.putfield 160, 3) := by decide +kernel
theorem dX11_putBytes_43 : decode cX11_putBytes 43 = .ok (.iinc 2 (-8), 3) := by decide +kernel
theorem dX11_putBytes_46 : decode cX11_putBytes 46 = .ok (.goto (-43), 3) := by decide +kernel
theorem dX11_putBytes_49 : decode cX11_putBytes 49 = .ok (.return_, 1) := by decide +kernel
abbrev YX11_putBytes : zY := (yX11_putBytes, cX11_putBytes, 3, none, [])
def fX11_putBytes_3 (F : zFs) (o1 : Int)  (k_3 : Int → zDa → Option zDa) (v2 : Int) (D : zDa) : Option zDa :=
  if v2 < 0 then
    some D
  else
    if (D 0 4) < 400 then
      if (0 ≤ (D 0 4) ∧ (D 0 4) < 400) then
        zlet (zwr D 39 (D 0 4).toNat (zand (zushr o1 v2) 255)) (fun D_1 =>
          if (-2147483648 ≤ (D_1 0 4) + 1 ∧ (D_1 0 4) + 1 ≤ 2147483647) then
            zlet (zwr D_1 0 4 ((D_1 0 4) + 1)) (fun D_2 =>
              if (-2147483648 ≤ v2 + (-8) ∧ v2 + (-8) ≤ 2147483647) then
                k_3 (v2 + (-8)) D_2
              else none)
          else none)
      else none
    else
      some D
def fX11_putBytes (F : zFs) (v1 : Int) (D : zDa) : Option zDa :=
  zfix (fun _ _ => none) (fX11_putBytes_3 F v1) zfu 24 D
set_option maxHeartbeats 20000000 in
theorem sX11_putBytes_3 {l : Launch} {E : zE} {d : Nat} {F : zFs} {n sl : Nat} (hG : zG F)  (o1 : Int)   : ∀ (N : Nat) (v2 : Int) (D : zDa), zO l E (d + 0) YX11_putBytes 3 [(0, zR 0), (1, zI o1), (2, zI v2)] [] (F, D, n, sl) (zcV F n sl) (zfix (fun _ _ => none) (fX11_putBytes_3 F o1) N v2 D) := by
  intro N
  induction N with
  | zero => intro v2 D; exact zO_none
  | succ N hk_3 =>
    intro v2 D
    show zO _ _ _ _ _ _ _ _ _ ((fX11_putBytes_3 F o1) (zfix (fun _ _ => none) (fX11_putBytes_3 F o1) N) v2 D)
    unfold fX11_putBytes_3
    refine zO_iload_n dX11_putBytes_3 rfl ?_
    refine zO_if_lt (tgt := 49) dX11_putBytes_4 rfl (fun c4 => ?_) (fun c4 => ?_)
    · exact zO_ret (rv := none) dX11_putBytes_49 rfl trivial rfl
    · refine zO_aload_n dX11_putBytes_7 rfl (zR_P _) ?_
      refine gt11 (k := 4) (v := zI (D 0 4)) dX11_putBytes_8 wF_X11_160 (by decide) (gk_0 hG) rfl ?_
      refine zO_sipush dX11_putBytes_11 (by decide) ?_
      refine zO_icmp_ge (tgt := 49) dX11_putBytes_14 rfl (fun c14 => ?_) (fun c14 => ?_)
      · refine zO_chk (fun h1 => ?_)
        refine zO_aload_n dX11_putBytes_17 rfl (zR_P _) ?_
        refine gt11 (k := 3) dX11_putBytes_18 wF_X11_24 (by decide) (gk_0 hG) (zgv (c := 11) (k := 3) rfl (Or.inl ⟨_, rfl⟩) (gf_0_3 hG)) ?_
        refine zO_aload_n dX11_putBytes_21 rfl (zR_P _) ?_
        refine gt11 (k := 4) (v := zI (D 0 4)) dX11_putBytes_22 wF_X11_160 (by decide) (gk_0 hG) rfl ?_
        refine zO_iload_n dX11_putBytes_25 rfl ?_
        refine zO_iload_n dX11_putBytes_26 rfl ?_
        refine zO_iushr dX11_putBytes_27 ?_
        refine zO_sipush dX11_putBytes_28 (by decide) ?_
        refine zO_iand dX11_putBytes_31 ?_
        refine zO_iast dX11_putBytes_32 (gk_39 hG) (gl_in (gl_39 hG) h1) ?_
        refine zO_letD (fun D_1 eD_1 => ?_)
        refine zO_chk (fun h2 => ?_)
        refine zO_aload_n dX11_putBytes_33 rfl (zR_P _) ?_
        refine zO_dup dX11_putBytes_34 (rfl) ?_
        refine gt11 (k := 4) (v := zI (D_1 0 4)) dX11_putBytes_35 wF_X11_160 (by decide) (gk_0 hG) rfl ?_
        refine zO_iconst dX11_putBytes_38 (by decide) ?_
        refine zO_iadd dX11_putBytes_39 h2 ?_
        refine ptI11 (k := 4) (z := ((D_1 0 4) + 1)) dX11_putBytes_40 wF_X11_160 (by decide) rfl (gk_0 hG) rfl ?_
        refine zO_letD (fun D_2 eD_2 => ?_)
        refine zO_chk (fun h3 => ?_)
        refine zO_iinc dX11_putBytes_43 rfl h3 (by decide) ?_
        refine zO_ls (ls' := [(0, zR 0), (1, zI o1), (2, zI (v2 + (-8)))]) rfl ?_
        refine zO_goto (tgt := 3) dX11_putBytes_46 rfl ?_
        refine zO_live [0, 1, 2] ?_
        exact hk_3 (v2 + (-8)) D_2
      · exact zO_ret (rv := none) dX11_putBytes_49 rfl trivial rfl
set_option maxHeartbeats 20000000 in
theorem mX11_putBytes {l : Launch} {E : zE} {d : Nat} {F : zFs} {n sl : Nat} (hG : zG F) (v1 : Int) {D : zDa} : ∀ r, fX11_putBytes F  v1 D = some r → zMet l E (d + 0) YX11_putBytes [zR 0, zI v1] (F, D, n, sl) (zcV F n sl r) := by
  intro r hr
  refine zMet_of (plainFor_of_name (by decide)) (fun _ h => (nomatch h)) (Nat.le_of_ble_eq_true rfl) ?_
  have hz : zO l E (d + 0) YX11_putBytes 0 [(0, zR 0), (1, zI v1)] [] (F, D, n, sl) (zcV F n sl) (fX11_putBytes F  v1 D) := by
    unfold fX11_putBytes
    refine zO_bipush dX11_putBytes_0 (by decide) ?_
    refine zO_istore_n dX11_putBytes_2 (by decide) ?_
    refine zO_ls (ls' := [(0, zR 0), (1, zI v1), (2, zI 24)]) rfl ?_
    refine zO_live [0, 1, 2] ?_
    exact sX11_putBytes_3 hG v1 zfu 24 D
  exact hz r hr
theorem dX11_feed_0 : decode cX11_feed 0 = .ok (.aload_n 0, 1) := by decide +kernel
theorem dX11_feed_1 : decode cX11_feed 1 = .ok (.getfield 160, 3) := by decide +kernel
theorem dX11_feed_4 : decode cX11_feed 4 = .ok (.sipush 380, 3) := by decide +kernel
theorem dX11_feed_7 : decode cX11_feed 7 = .ok (.if_icmp .le 5, 3) := by decide +kernel
theorem dX11_feed_10 : decode cX11_feed 10 = .ok (.iconst (-1), 1) := by decide +kernel
theorem dX11_feed_11 : decode cX11_feed 11 = .ok (.ireturn, 1) := by decide +kernel
theorem dX11_feed_12 : decode cX11_feed 12 = .ok (.aload_n 0, 1) := by decide +kernel
theorem dX11_feed_13 : decode cX11_feed 13 = .ok (.iload_n 1, 1) := by decide +kernel
theorem dX11_feed_14 : decode cX11_feed 14 = .ok (.invokevirtual 163, 3) := by decide +kernel
theorem dX11_feed_17 : decode cX11_feed 17 = .ok (.aload_n 0, 1) := by decide +kernel
theorem dX11_feed_18 : decode cX11_feed 18 = .ok (.iload_n 2, 1) := by decide +kernel
theorem dX11_feed_19 : decode cX11_feed 19 = .ok (.invokevirtual 163, 3) := by decide +kernel
theorem dX11_feed_22 : decode cX11_feed 22 = .ok (.aload_n 0, 1) := by decide +kernel
theorem dX11_feed_23 : decode cX11_feed 23 = .ok (.iload_n 3, 1) := by decide +kernel
theorem dX11_feed_24 : decode cX11_feed 24 = .ok (.invokevirtual 163, 3) := by decide +kernel
theorem dX11_feed_27 : decode cX11_feed 27 = .ok (.aload_n 0, 1) := by decide +kernel
theorem dX11_feed_28 : decode cX11_feed 28 = .ok (.iload 4, 2) := by decide +kernel
theorem dX11_feed_30 : decode cX11_feed 30 = .ok (.invokevirtual 163, 3) := by decide +kernel
theorem dX11_feed_33 : decode cX11_feed 33 = .ok (.aload_n 0, 1) := by decide +kernel
theorem dX11_feed_34 : decode cX11_feed 34 = .ok (.iload 5, 2) := by decide +kernel
theorem dX11_feed_36 : decode cX11_feed 36 = .ok (.invokevirtual 163, 3) := by decide +kernel
theorem dX11_feed_39 : decode cX11_feed 39 = .ok (.aload_n 0, 1) := by decide +kernel
theorem dX11_feed_40 : decode cX11_feed 40 = .ok (.getfield 160, 3) := by decide +kernel
theorem dX11_feed_43 : decode cX11_feed 43 = .ok (.ireturn, 1) := by decide +kernel
abbrev YX11_feed : zY := (yX11_feed, cX11_feed, 6, (Option.some Jvm.ClassFile.FieldType.int), [])
def fX11_feed (F : zFs) (v1 : Int) (v2 : Int) (v3 : Int) (v4 : Int) (v5 : Int) (D : zDa) : Option (Int × zDa) :=
  if 380 < (D 0 4) then
    some ((-1), D)
  else
    (fX11_putBytes F v1 D).bind (fun D_2 =>
      (fX11_putBytes F v2 D_2).bind (fun D_4 =>
        (fX11_putBytes F v3 D_4).bind (fun D_6 =>
          (fX11_putBytes F v4 D_6).bind (fun D_8 =>
            (fX11_putBytes F v5 D_8).bind (fun D_10 =>
              some ((D_10 0 4), D_10))))))
set_option maxHeartbeats 20000000 in
theorem mX11_feed {l : Launch} {E : zE} {d : Nat} {F : zFs} {n sl : Nat} (hG : zG F) (v1 : Int) (v2 : Int) (v3 : Int) (v4 : Int) (v5 : Int) {D : zDa} : ∀ r, fX11_feed F  v1 v2 v3 v4 v5 D = some r → zMet l E (d + 1) YX11_feed [zR 0, zI v1, zI v2, zI v3, zI v4, zI v5] (F, D, n, sl) (zcI F n sl r) := by
  intro r hr
  refine zMet_of (plainFor_of_name (by decide)) (fun _ h => (nomatch h)) (Nat.le_of_ble_eq_true rfl) ?_
  have hz : zO l E (d + 1) YX11_feed 0 [(0, zR 0), (1, zI v1), (2, zI v2), (3, zI v3), (4, zI v4), (5, zI v5)] [] (F, D, n, sl) (zcI F n sl) (fX11_feed F  v1 v2 v3 v4 v5 D) := by
    unfold fX11_feed
    refine zO_aload_n dX11_feed_0 rfl (zR_P _) ?_
    refine gt11 (k := 4) (v := zI (D 0 4)) dX11_feed_1 wF_X11_160 (by decide) (gk_0 hG) rfl ?_
    refine zO_sipush dX11_feed_4 (by decide) ?_
    refine zO_icmp_le (tgt := 12) dX11_feed_7 rfl (fun c7 => ?_) (fun c7 => ?_)
    · refine zO_iconst dX11_feed_10 (by decide) ?_
      exact zO_ret (rv := some (zI (-1))) dX11_feed_11 rfl rfl rfl
    · refine zO_aload_n dX11_feed_12 rfl (zR_P _) ?_
      refine zO_iload_n dX11_feed_13 rfl ?_
      refine zO_callV (Y' := YX11_putBytes) (cw := zcV F n sl) (as := [zI v1]) (rest := []) (na := 1) (ci := 11) rfl dX11_feed_14 wC_X11_putBytes wN_X11 wM_X11_163 wI_X11_putBytes wV_X11_putBytes (by decide) (by decide) rfl rfl (Nat.le_of_ble_eq_true rfl) rfl (by decide) (gk_0 hG) (fun r hr => zMet_cast (Nat.add_assoc d 0 0) (mX11_putBytes (d := d + 0) hG v1 r hr)) ?_
      intro D_2 _
      show zO _ _ _ _ _ _ [] (F, D_2, n, sl) _ _
      refine zO_aload_n dX11_feed_17 rfl (zR_P _) ?_
      refine zO_iload_n dX11_feed_18 rfl ?_
      refine zO_callV (Y' := YX11_putBytes) (cw := zcV F n sl) (as := [zI v2]) (rest := []) (na := 1) (ci := 11) rfl dX11_feed_19 wC_X11_putBytes wN_X11 wM_X11_163 wI_X11_putBytes wV_X11_putBytes (by decide) (by decide) rfl rfl (Nat.le_of_ble_eq_true rfl) rfl (by decide) (gk_0 hG) (fun r hr => zMet_cast (Nat.add_assoc d 0 0) (mX11_putBytes (d := d + 0) hG v2 r hr)) ?_
      intro D_4 _
      show zO _ _ _ _ _ _ [] (F, D_4, n, sl) _ _
      refine zO_aload_n dX11_feed_22 rfl (zR_P _) ?_
      refine zO_iload_n dX11_feed_23 rfl ?_
      refine zO_callV (Y' := YX11_putBytes) (cw := zcV F n sl) (as := [zI v3]) (rest := []) (na := 1) (ci := 11) rfl dX11_feed_24 wC_X11_putBytes wN_X11 wM_X11_163 wI_X11_putBytes wV_X11_putBytes (by decide) (by decide) rfl rfl (Nat.le_of_ble_eq_true rfl) rfl (by decide) (gk_0 hG) (fun r hr => zMet_cast (Nat.add_assoc d 0 0) (mX11_putBytes (d := d + 0) hG v3 r hr)) ?_
      intro D_6 _
      show zO _ _ _ _ _ _ [] (F, D_6, n, sl) _ _
      refine zO_aload_n dX11_feed_27 rfl (zR_P _) ?_
      refine zO_iload dX11_feed_28 rfl ?_
      refine zO_callV (Y' := YX11_putBytes) (cw := zcV F n sl) (as := [zI v4]) (rest := []) (na := 1) (ci := 11) rfl dX11_feed_30 wC_X11_putBytes wN_X11 wM_X11_163 wI_X11_putBytes wV_X11_putBytes (by decide) (by decide) rfl rfl (Nat.le_of_ble_eq_true rfl) rfl (by decide) (gk_0 hG) (fun r hr => zMet_cast (Nat.add_assoc d 0 0) (mX11_putBytes (d := d + 0) hG v4 r hr)) ?_
      intro D_8 _
      show zO _ _ _ _ _ _ [] (F, D_8, n, sl) _ _
      refine zO_aload_n dX11_feed_33 rfl (zR_P _) ?_
      refine zO_iload dX11_feed_34 rfl ?_
      refine zO_callV (Y' := YX11_putBytes) (cw := zcV F n sl) (as := [zI v5]) (rest := []) (na := 1) (ci := 11) rfl dX11_feed_36 wC_X11_putBytes wN_X11 wM_X11_163 wI_X11_putBytes wV_X11_putBytes (by decide) (by decide) rfl rfl (Nat.le_of_ble_eq_true rfl) rfl (by decide) (gk_0 hG) (fun r hr => zMet_cast (Nat.add_assoc d 0 0) (mX11_putBytes (d := d + 0) hG v5 r hr)) ?_
      intro D_10 _
      show zO _ _ _ _ _ _ [] (F, D_10, n, sl) _ _
      refine zO_aload_n dX11_feed_39 rfl (zR_P _) ?_
      refine gt11 (k := 4) (v := zI (D_10 0 4)) dX11_feed_40 wF_X11_160 (by decide) (gk_0 hG) rfl ?_
      exact zO_ret (rv := some (zI (D_10 0 4))) dX11_feed_43 rfl rfl rfl
  exact hz r hr
theorem dX11_end_0 : decode cX11_end 0 = .ok (.iload_n 1, 1) := by decide +kernel
theorem dX11_end_1 : decode cX11_end 1 = .ok (.ifCond .lt 11, 3) := by decide +kernel
theorem dX11_end_4 : decode cX11_end 4 = .ok (.iload_n 1, 1) := by decide +kernel
theorem dX11_end_5 : decode cX11_end 5 = .ok (.aload_n 0, 1) := by decide +kernel
theorem dX11_end_6 : decode cX11_end 6 = .ok (.getfield 160, 3) := by decide +kernel
theorem dX11_end_9 : decode cX11_end 9 = .ok (.if_icmp .le 5, 3) := by decide +kernel
theorem dX11_end_12 : decode cX11_end 12 = .ok (.iconst (-1), 1) := by decide +kernel
theorem dX11_end_13 : decode cX11_end 13 = .ok (.ireturn, 1) := by decide +kernel
theorem dX11_end_14 : decode cX11_end 14 = .ok (.aload_n 0, 1) := by decide +kernel
theorem dX11_end_15 : decode cX11_end 15 = .ok (.iload_n 1, 1) := by decide +kernel
theorem dX11_end_16 : decode cX11_end 16 = .ok (.putfield 160, 3) := by decide +kernel
theorem dX11_end_19 : decode cX11_end 19 = .ok (.iload_n 1, 1) := by decide +kernel
theorem dX11_end_20 : decode cX11_end 20 = .ok (.ireturn, 1) := by decide +kernel
abbrev YX11_end : zY := (yX11_end, cX11_end, 2, (Option.some Jvm.ClassFile.FieldType.int), [])
def fX11_end (F : zFs) (v1 : Int) (D : zDa) : Option (Int × zDa) :=
  if v1 < 0 then
    some ((-1), D)
  else
    if (D 0 4) < v1 then
      some ((-1), D)
    else
      zlet (zwr D 0 4 v1) (fun D_1 =>
        some (v1, D_1))
set_option maxHeartbeats 20000000 in
theorem mX11_end {l : Launch} {E : zE} {d : Nat} {F : zFs} {n sl : Nat} (hG : zG F) (v1 : Int) {D : zDa} : ∀ r, fX11_end F  v1 D = some r → zMet l E (d + 0) YX11_end [zR 0, zI v1] (F, D, n, sl) (zcI F n sl r) := by
  intro r hr
  refine zMet_of (plainFor_of_name (by decide)) (fun _ h => (nomatch h)) (Nat.le_of_ble_eq_true rfl) ?_
  have hz : zO l E (d + 0) YX11_end 0 [(0, zR 0), (1, zI v1)] [] (F, D, n, sl) (zcI F n sl) (fX11_end F  v1 D) := by
    unfold fX11_end
    refine zO_iload_n dX11_end_0 rfl ?_
    refine zO_if_lt (tgt := 12) dX11_end_1 rfl (fun c1 => ?_) (fun c1 => ?_)
    · refine zO_iconst dX11_end_12 (by decide) ?_
      exact zO_ret (rv := some (zI (-1))) dX11_end_13 rfl rfl rfl
    · refine zO_iload_n dX11_end_4 rfl ?_
      refine zO_aload_n dX11_end_5 rfl (zR_P _) ?_
      refine gt11 (k := 4) (v := zI (D 0 4)) dX11_end_6 wF_X11_160 (by decide) (gk_0 hG) rfl ?_
      refine zO_icmp_le (tgt := 14) dX11_end_9 rfl (fun c9 => ?_) (fun c9 => ?_)
      · refine zO_iconst dX11_end_12 (by decide) ?_
        exact zO_ret (rv := some (zI (-1))) dX11_end_13 rfl rfl rfl
      · refine zO_aload_n dX11_end_14 rfl (zR_P _) ?_
        refine zO_iload_n dX11_end_15 rfl ?_
        refine ptI11 (k := 4) (z := v1) dX11_end_16 wF_X11_160 (by decide) rfl (gk_0 hG) rfl ?_
        refine zO_letD (fun D_1 eD_1 => ?_)
        refine zO_iload_n dX11_end_19 rfl ?_
        exact zO_ret (rv := some (zI v1)) dX11_end_20 rfl rfl rfl
  exact hz r hr
theorem dX11_paper_0 : decode cX11_paper 0 = .ok (.aload_n 0, 1) := by decide +kernel
theorem dX11_paper_1 : decode cX11_paper 1 = .ok (.getfield 160, 3) := by decide +kernel
theorem dX11_paper_4 : decode cX11_paper 4 = .ok (.istore_n 1, 1) := by decide +kernel
theorem dX11_paper_5 : decode cX11_paper 5 = .ok (.aload_n 0, 1) := by decide +kernel
theorem dX11_paper_6 : decode cX11_paper 6 = .ok (.iconst 0, 1) := by decide +kernel
theorem dX11_paper_7 : decode cX11_paper 7 = .ok (.putfield 160, 3) := by decide +kernel
theorem dX11_paper_10 : decode cX11_paper 10 = .ok (.aload_n 0, 1) := by decide +kernel
theorem dX11_paper_11 : decode cX11_paper 11 = .ok (.getfield 10, 3) := by decide +kernel
theorem dX11_paper_14 : decode cX11_paper 14 = .ok (.getfield 167, 3) := by decide +kernel
theorem dX11_paper_17 : decode cX11_paper 17 = .ok (.bipush 6, 2) := by decide +kernel
theorem dX11_paper_19 : decode cX11_paper 19 = .ok (.if_icmp .lt 10, 3) := by decide +kernel
theorem dX11_paper_22 : decode cX11_paper 22 = .ok (.aload_n 0, 1) := by decide +kernel
theorem dX11_paper_23 : decode cX11_paper 23 = .ok (.bipush (-5), 2) := by decide +kernel
theorem dX11_paper_25 : decode cX11_paper 25 = .ok (.invokevirtual 112, 3) := by decide +kernel
theorem dX11_paper_28 : decode cX11_paper 28 = .ok (.ireturn, 1) := by decide +kernel
theorem dX11_paper_29 : decode cX11_paper 29 = .ok (.aload_n 0, 1) := by decide +kernel
theorem dX11_paper_30 : decode cX11_paper 30 = .ok (.getfield 44, 3) := by decide +kernel
theorem dX11_paper_33 : decode cX11_paper 33 = .ok (.aload_n 0, 1) := by decide +kernel
theorem dX11_paper_34 : decode cX11_paper 34 = .ok (.getfield 24, 3) := by decide +kernel
theorem dX11_paper_37 : decode cX11_paper 37 = .ok (.iload_n 1, 1) := by decide +kernel
theorem dX11_paper_38 : decode cX11_paper 38 = .ok (.invokevirtual 170, 3) := by decide +kernel
theorem dX11_paper_41 : decode cX11_paper 41 = .ok (.astore_n 2, 1) := by decide +kernel
theorem dX11_paper_42 : decode cX11_paper 42 = .ok (.aload_n 0, 1) := by decide +kernel
theorem dX11_paper_43 : decode cX11_paper 43 = .ok (.aload_n 0, 1) := by decide +kernel
theorem dX11_paper_44 : decode cX11_paper 44 = .ok (.getfield 44, 3) := by decide +kernel
theorem dX11_paper_47 : decode cX11_paper 47 = .ok (.getfield 174, 3) := by decide +kernel
theorem dX11_paper_50 : decode cX11_paper 50 = .ok (.putfield 28, 3) := by decide +kernel
theorem dX11_paper_53 : decode cX11_paper 53 = .ok (.aload_n 2, 1) := by decide +kernel
theorem dX11_paper_54 : decode cX11_paper 54 = .ok (.ifnonnull 10, 3) := by decide +kernel
theorem dX11_paper_57 : decode cX11_paper 57 = .ok (.aload_n 0, 1) := by decide +kernel
theorem dX11_paper_58 : decode cX11_paper 58 = .ok (.bipush (-6), 2) := by decide +kernel
theorem dX11_paper_60 : decode cX11_paper 60 = .ok (.invokevirtual 112, 3) := by decide +kernel
theorem dX11_paper_63 : decode cX11_paper 63 = .ok (.ireturn, 1) := by decide +kernel
theorem dX11_paper_64 : decode cX11_paper 64 = .ok (.aload_n 0, 1) := by decide +kernel
theorem dX11_paper_65 : decode cX11_paper 65 = .ok (.getfield 10, 3) := by decide +kernel
theorem dX11_paper_68 : decode cX11_paper 68 = .ok (.getfield 177, 3) := by decide +kernel
theorem dX11_paper_71 : decode cX11_paper 71 = .ok (.aload_n 0, 1) := by decide +kernel
theorem dX11_paper_72 : decode cX11_paper 72 = .ok (.getfield 10, 3) := by decide +kernel
theorem dX11_paper_75 : decode cX11_paper 75 = .ok (.getfield 167, 3) := by decide +kernel
theorem dX11_paper_78 : decode cX11_paper 78 = .ok (.aload_n 2, 1) := by decide +kernel
theorem dX11_paper_79 : decode cX11_paper 79 = .ok (.aastore, 1) := by decide +kernel
theorem dX11_paper_80 : decode cX11_paper 80 = .ok (.aload_n 0, 1) := by decide +kernel
theorem dX11_paper_81 : decode cX11_paper 81 = .ok (.getfield 10, 3) := by decide +kernel
theorem dX11_paper_84 : decode cX11_paper 84 = .ok (.dup, 1) := by decide +kernel
theorem dX11_paper_85 : decode cX11_paper 85 = .ok (.getfield 167, 3) := by decide +kernel
theorem dX11_paper_88 : decode cX11_paper 88 = .ok (.iconst 1, 1) := by decide +kernel
theorem dX11_paper_89 : decode cX11_paper 89 = .ok (.iadd, 1) := by decide +kernel
theorem dX11_paper_90 : decode cX11_paper 90 = .ok (.putfield 167, 3) := by decide +kernel
theorem dX11_paper_93 : decode cX11_paper 93 = .ok (.aload_n 0, 1) := by decide +kernel
theorem dX11_paper_94 : decode cX11_paper 94 = .ok (.aload_n 0, 1) := by decide +kernel
theorem dX11_paper_95 : decode cX11_paper 95 = .ok (.getfield 10, 3) := by decide +kernel
theorem dX11_paper_98 : decode cX11_paper 98 = .ok (.getfield 167, 3) := by decide +kernel
theorem dX11_paper_101 : decode cX11_paper 101 = .ok (.iconst 1, 1) := by decide +kernel
theorem dX11_paper_102 : decode cX11_paper 102 = .ok (.isub, 1) := by decide +kernel
theorem dX11_paper_103 : decode cX11_paper 103 = .ok (.invokevirtual 123, 3) := by decide +kernel
theorem dX11_paper_106 : decode cX11_paper 106 = .ok (.ireturn, 1) := by decide +kernel
abbrev YX11_paper : zY := (yX11_paper, cX11_paper, 3, (Option.some Jvm.ClassFile.FieldType.int), [])
def fX11_paper  (F : zFs) (D : zDa) (n sl : Nat) : Option (Int × zM) :=
  zlet ((D 0 4)) (fun x1_1 =>
    zlet (zwr D 0 4 0) (fun D_2 =>
      if (D_2 1 8) < 6 then
        (fX6_read x1_1 F D_2 n sl).bind (fun (r_3, (F_4, D_5, n_6, sl_7)) =>
          if zG F_4 ∧ 126 ≤ n_6 then
            zlet (zwr D_5 0 5 (D_5 42 10)) (fun D_8 =>
              if r_3 < 0 then
                (fX11_refuse F_4 (-6) D_8).bind (fun (r_9, D_10) =>
                  some (r_9, (F_4, D_10, n_6, sl_7)))
              else
                if (0 ≤ (D_8 1 8) ∧ (D_8 1 8) < 6) ∧ (r_3 < 0 ∨ (F_4 r_3.toNat).1 = 4) then
                  zlet (zwr D_8 8 (D_8 1 8).toNat r_3) (fun D_11 =>
                    if (-2147483648 ≤ (D_11 1 8) + 1 ∧ (D_11 1 8) + 1 ≤ 2147483647) then
                      zlet (zwr D_11 1 8 ((D_11 1 8) + 1)) (fun D_12 =>
                        if (-2147483648 ≤ (D_12 1 8) - 1 ∧ (D_12 1 8) - 1 ≤ 2147483647) then
                          (fX11_accept F_4 ((D_12 1 8) - 1) D_12).bind (fun (r_13, D_14) =>
                            some (r_13, (F_4, D_14, n_6, sl_7)))
                        else none)
                    else none)
                else none)
          else none)
      else
        (fX11_refuse F (-5) D_2).bind (fun (r_15, D_16) =>
          some (r_15, (F, D_16, n, sl)))))
set_option maxHeartbeats 20000000 in
theorem mX11_paper {l : Launch} {E : zE} {d : Nat}  {F : zFs} {D : zDa} {n sl : Nat} (hG : zG F) (hN : 126 ≤ n) : ∀ r, fX11_paper  F D n sl = some r → zMet l E (d + 87) YX11_paper [zR 0] (F, D, n, sl) (zmI r) := by
  intro r hr
  refine zMet_of (plainFor_of_name (by decide)) (fun _ h => (nomatch h)) (Nat.le_of_ble_eq_true rfl) ?_
  have hz : zO l E (d + 87) YX11_paper 0 [(0, zR 0)] [] (F, D, n, sl) (zmI) (fX11_paper  F D n sl) := by
    unfold fX11_paper
    refine zO_aload_n dX11_paper_0 rfl (zR_P _) ?_
    refine gt11 (k := 4) (v := zI (D 0 4)) dX11_paper_1 wF_X11_160 (by decide) (gk_0 hG) rfl ?_
    refine zO_letI (fun x1_1 ex1_1 => ?_)
    refine zO_istore_n dX11_paper_4 (by decide) ?_
    refine zO_ls (ls' := [(0, zR 0), (1, zI x1_1)]) rfl ?_
    refine zO_aload_n dX11_paper_5 rfl (zR_P _) ?_
    refine zO_iconst dX11_paper_6 (by decide) ?_
    refine ptI11 (k := 4) (z := 0) dX11_paper_7 wF_X11_160 (by decide) rfl (gk_0 hG) rfl ?_
    refine zO_letD (fun D_2 eD_2 => ?_)
    refine zO_aload_n dX11_paper_10 rfl (zR_P _) ?_
    refine gt11 (k := 0) dX11_paper_11 wF_X11_10 (by decide) (gk_0 hG) (zgv (c := 11) (k := 0) rfl (Or.inr ⟨_, rfl⟩) (gf_0_0 hG)) ?_
    refine gt9 (k := 8) (v := zI (D_2 1 8)) dX11_paper_14 wF_X11_167 (by decide) (gk_1 hG) rfl ?_
    refine zO_bipush dX11_paper_17 (by decide) ?_
    refine zO_icmp_lt (tgt := 29) dX11_paper_19 rfl (fun c19 => ?_) (fun c19 => ?_)
    · refine zO_aload_n dX11_paper_29 rfl (zR_P _) ?_
      refine gt11 (k := 10) dX11_paper_30 wF_X11_44 (by decide) (gk_0 hG) (zgv (c := 11) (k := 10) rfl (Or.inr ⟨_, rfl⟩) (gf_0_10 hG)) ?_
      refine zO_aload_n dX11_paper_33 rfl (zR_P _) ?_
      refine gt11 (k := 3) dX11_paper_34 wF_X11_24 (by decide) (gk_0 hG) (zgv (c := 11) (k := 3) rfl (Or.inl ⟨_, rfl⟩) (gf_0_3 hG)) ?_
      refine zO_iload_n dX11_paper_37 rfl ?_
      refine zO_callV (Y' := YX6_read) (cw := zmQ) (as := [zR 39, zI x1_1]) (rest := []) (na := 2) (ci := 6) rfl dX11_paper_38 wC_X6_read wN_X6 wM_X11_170 wI_X6_read wV_X6_read (by decide) (by decide) rfl rfl (Nat.le_of_ble_eq_true rfl) rfl (by decide) (gk_42 hG) (fun r hr => zMet_cast (Nat.add_assoc d 0 86) (mX6_read (d := d + 0) x1_1 hG hN r hr)) ?_
      rintro ⟨r_3, F_4, D_5, n_6, sl_7⟩ -
      show zO _ _ _ _ _ _ [zq r_3] (F_4, D_5, n_6, sl_7) _ _
      refine zO_chk (fun g7 => ?_)
      refine zO_astore_n dX11_paper_41 (by decide) (zq_P _) ?_
      refine zO_ls (ls' := [(0, zR 0), (1, zI x1_1), (2, zq r_3)]) rfl ?_
      refine zO_aload_n dX11_paper_42 rfl (zR_P _) ?_
      refine zO_aload_n dX11_paper_43 rfl (zR_P _) ?_
      refine gt11 (k := 10) dX11_paper_44 wF_X11_44 (by decide) (gk_0 g7.1) (zgv (c := 11) (k := 10) rfl (Or.inr ⟨_, rfl⟩) (gf_0_10 g7.1)) ?_
      refine gt6 (k := 10) (v := zI (D_5 42 10)) dX11_paper_47 wF_X11_174 (by decide) (gk_42 g7.1) rfl ?_
      refine ptI11 (k := 5) (z := (D_5 42 10)) dX11_paper_50 wF_X11_28 (by decide) rfl (gk_0 g7.1) rfl ?_
      refine zO_letD (fun D_8 eD_8 => ?_)
      refine zO_aload_n dX11_paper_53 rfl (zq_P _) ?_
      refine zO_ifnnq (tgt := 64) dX11_paper_54 rfl (fun c54 => ?_) (fun c54 => ?_)
      · refine zO_aload_n dX11_paper_57 rfl (zR_P _) ?_
        refine zO_bipush dX11_paper_58 (by decide) ?_
        refine zO_callV (Y' := YX11_refuse) (cw := zcI F_4 n_6 sl_7) (as := [zI (-6)]) (rest := []) (na := 1) (ci := 11) rfl dX11_paper_60 wC_X11_refuse wN_X11 wM_X11_112 wI_X11_refuse wV_X11_refuse (by decide) (by decide) rfl rfl (Nat.le_of_ble_eq_true rfl) rfl (by decide) (gk_0 g7.1) (fun r hr => zMet_cast (Nat.add_assoc d 86 0) (mX11_refuse (d := d + 86) g7.1 (-6) r hr)) ?_
        rintro ⟨r_9, D_10⟩ -
        show zO _ _ _ _ _ _ [zI r_9] (F_4, D_10, n_6, sl_7) _ _
        exact zO_ret (rv := some (zI r_9)) dX11_paper_63 rfl rfl rfl
      · refine zO_chk (fun h1 => ?_)
        refine zO_aload_n dX11_paper_64 rfl (zR_P _) ?_
        refine gt11 (k := 0) dX11_paper_65 wF_X11_10 (by decide) (gk_0 g7.1) (zgv (c := 11) (k := 0) rfl (Or.inr ⟨_, rfl⟩) (gf_0_0 g7.1)) ?_
        refine gt9 (k := 7) dX11_paper_68 wF_X11_177 (by decide) (gk_1 g7.1) (zgv (c := 9) (k := 7) rfl (Or.inl ⟨_, rfl⟩) (gf_1_7 g7.1)) ?_
        refine zO_aload_n dX11_paper_71 rfl (zR_P _) ?_
        refine gt11 (k := 0) dX11_paper_72 wF_X11_10 (by decide) (gk_0 g7.1) (zgv (c := 11) (k := 0) rfl (Or.inr ⟨_, rfl⟩) (gf_0_0 g7.1)) ?_
        refine gt9 (k := 8) (v := zI (D_8 1 8)) dX11_paper_75 wF_X11_167 (by decide) (gk_1 g7.1) rfl ?_
        refine zO_aload_n dX11_paper_78 rfl (zq_P _) ?_
        refine zO_aast (z := r_3) (c := 3) (kd := 25) dX11_paper_79 (gk_8 g7.1) (by decide) h1.2 (gl_in (gl_8 g7.1) h1.1) ?_
        refine zO_letD (fun D_11 eD_11 => ?_)
        refine zO_chk (fun h2 => ?_)
        refine zO_aload_n dX11_paper_80 rfl (zR_P _) ?_
        refine gt11 (k := 0) dX11_paper_81 wF_X11_10 (by decide) (gk_0 g7.1) (zgv (c := 11) (k := 0) rfl (Or.inr ⟨_, rfl⟩) (gf_0_0 g7.1)) ?_
        refine zO_dup dX11_paper_84 (rfl) ?_
        refine gt9 (k := 8) (v := zI (D_11 1 8)) dX11_paper_85 wF_X11_167 (by decide) (gk_1 g7.1) rfl ?_
        refine zO_iconst dX11_paper_88 (by decide) ?_
        refine zO_iadd dX11_paper_89 h2 ?_
        refine ptI9 (k := 8) (z := ((D_11 1 8) + 1)) dX11_paper_90 wF_X11_167 (by decide) rfl (gk_1 g7.1) rfl ?_
        refine zO_letD (fun D_12 eD_12 => ?_)
        refine zO_chk (fun h3 => ?_)
        refine zO_aload_n dX11_paper_93 rfl (zR_P _) ?_
        refine zO_aload_n dX11_paper_94 rfl (zR_P _) ?_
        refine gt11 (k := 0) dX11_paper_95 wF_X11_10 (by decide) (gk_0 g7.1) (zgv (c := 11) (k := 0) rfl (Or.inr ⟨_, rfl⟩) (gf_0_0 g7.1)) ?_
        refine gt9 (k := 8) (v := zI (D_12 1 8)) dX11_paper_98 wF_X11_167 (by decide) (gk_1 g7.1) rfl ?_
        refine zO_iconst dX11_paper_101 (by decide) ?_
        refine zO_isub dX11_paper_102 h3 ?_
        refine zO_callV (Y' := YX11_accept) (cw := zcI F_4 n_6 sl_7) (as := [zI ((D_12 1 8) - 1)]) (rest := []) (na := 1) (ci := 11) rfl dX11_paper_103 wC_X11_accept wN_X11 wM_X11_123 wI_X11_accept wV_X11_accept (by decide) (by decide) rfl rfl (Nat.le_of_ble_eq_true rfl) rfl (by decide) (gk_0 g7.1) (fun r hr => zMet_cast (Nat.add_assoc d 86 0) (mX11_accept (d := d + 86) g7.1 ((D_12 1 8) - 1) r hr)) ?_
        rintro ⟨r_13, D_14⟩ -
        show zO _ _ _ _ _ _ [zI r_13] (F_4, D_14, n_6, sl_7) _ _
        exact zO_ret (rv := some (zI r_13)) dX11_paper_106 rfl rfl rfl
    · refine zO_aload_n dX11_paper_22 rfl (zR_P _) ?_
      refine zO_bipush dX11_paper_23 (by decide) ?_
      refine zO_callV (Y' := YX11_refuse) (cw := zcI F n sl) (as := [zI (-5)]) (rest := []) (na := 1) (ci := 11) rfl dX11_paper_25 wC_X11_refuse wN_X11 wM_X11_112 wI_X11_refuse wV_X11_refuse (by decide) (by decide) rfl rfl (Nat.le_of_ble_eq_true rfl) rfl (by decide) (gk_0 hG) (fun r hr => zMet_cast (Nat.add_assoc d 86 0) (mX11_refuse (d := d + 86) hG (-5) r hr)) ?_
      rintro ⟨r_15, D_16⟩ -
      show zO _ _ _ _ _ _ [zI r_15] (F, D_16, n, sl) _ _
      exact zO_ret (rv := some (zI r_15)) dX11_paper_28 rfl rfl rfl
  exact hz r hr
theorem dX11_fault_0 : decode cX11_fault 0 = .ok (.aload_n 0, 1) := by decide +kernel
theorem dX11_fault_1 : decode cX11_fault 1 = .ok (.getfield 28, 3) := by decide +kernel
theorem dX11_fault_4 : decode cX11_fault 4 = .ok (.ireturn, 1) := by decide +kernel
abbrev YX11_fault : zY := (yX11_fault, cX11_fault, 1, (Option.some Jvm.ClassFile.FieldType.int), [])
def fX11_fault (F : zFs)  (D : zDa) : Option (Int × zDa) :=
  some ((D 0 5), D)
set_option maxHeartbeats 20000000 in
theorem mX11_fault {l : Launch} {E : zE} {d : Nat} {F : zFs} {n sl : Nat} (hG : zG F)  {D : zDa} : ∀ r, fX11_fault F   D = some r → zMet l E (d + 0) YX11_fault [zR 0] (F, D, n, sl) (zcI F n sl r) := by
  intro r hr
  refine zMet_of (plainFor_of_name (by decide)) (fun _ h => (nomatch h)) (Nat.le_of_ble_eq_true rfl) ?_
  have hz : zO l E (d + 0) YX11_fault 0 [(0, zR 0)] [] (F, D, n, sl) (zcI F n sl) (fX11_fault F   D) := by
    unfold fX11_fault
    refine zO_aload_n dX11_fault_0 rfl (zR_P _) ?_
    refine gt11 (k := 5) (v := zI (D 0 5)) dX11_fault_1 wF_X11_28 (by decide) (gk_0 hG) rfl ?_
    exact zO_ret (rv := some (zI (D 0 5))) dX11_fault_4 rfl rfl rfl
  exact hz r hr
theorem dX11_use_0 : decode cX11_use 0 = .ok (.iload_n 1, 1) := by decide +kernel
theorem dX11_use_1 : decode cX11_use 1 = .ok (.iconst (-1), 1) := by decide +kernel
theorem dX11_use_2 : decode cX11_use 2 = .ok (.if_icmp .lt 14, 3) := by decide +kernel
theorem dX11_use_5 : decode cX11_use 5 = .ok (.iload_n 1, 1) := by decide +kernel
theorem dX11_use_6 : decode cX11_use 6 = .ok (.aload_n 0, 1) := by decide +kernel
theorem dX11_use_7 : decode cX11_use 7 = .ok (.getfield 10, 3) := by decide +kernel
theorem dX11_use_10 : decode cX11_use 10 = .ok (.getfield 167, 3) := by decide +kernel
theorem dX11_use_13 : decode cX11_use 13 = .ok (.if_icmp .lt 10, 3) := by decide +kernel
theorem dX11_use_16 : decode cX11_use 16 = .ok (.aload_n 0, 1) := by decide +kernel
theorem dX11_use_17 : decode cX11_use 17 = .ok (.bipush (-2), 2) := by decide +kernel
theorem dX11_use_19 : decode cX11_use 19 = .ok (.invokevirtual 112, 3) := by decide +kernel
theorem dX11_use_22 : decode cX11_use 22 = .ok (.ireturn, 1) := by decide +kernel
theorem dX11_use_23 : decode cX11_use 23 = .ok (.aload_n 0, 1) := by decide +kernel
theorem dX11_use_24 : decode cX11_use 24 = .ok (.getfield 10, 3) := by decide +kernel
theorem dX11_use_27 : decode cX11_use 27 = .ok (.getfield 181, 3) := by decide +kernel
theorem dX11_use_30 : decode cX11_use 30 = .ok (.istore_n 2, 1) := by decide +kernel
theorem dX11_use_31 : decode cX11_use 31 = .ok (.aload_n 0, 1) := by decide +kernel
theorem dX11_use_32 : decode cX11_use 32 = .ok (.getfield 10, 3) := by decide +kernel
theorem dX11_use_35 : decode cX11_use 35 = .ok (.iload_n 1, 1) := by decide +kernel
theorem dX11_use_36 : decode cX11_use 36 = .ok (.putfield 181, 3) := by decide +kernel
theorem dX11_use_39 : decode cX11_use 39 = .ok (.aload_n 0, 1) := by decide +kernel
theorem dX11_use_40 : decode cX11_use 40 = .ok (.getfield 10, 3) := by decide +kernel
theorem dX11_use_43 : decode cX11_use 43 = .ok (.invokevirtual 139, 3) := by decide +kernel
theorem dX11_use_46 : decode cX11_use 46 = .ok (.aload_n 0, 1) := by decide +kernel
theorem dX11_use_47 : decode cX11_use 47 = .ok (.iload_n 2, 1) := by decide +kernel
theorem dX11_use_48 : decode cX11_use 48 = .ok (.invokevirtual 123, 3) := by decide +kernel
theorem dX11_use_51 : decode cX11_use 51 = .ok (.ireturn, 1) := by decide +kernel
abbrev YX11_use : zY := (yX11_use, cX11_use, 3, (Option.some Jvm.ClassFile.FieldType.int), [])
def fX11_use_16 (F : zFs)   (D : zDa) : Option (Int × zDa) :=
  (fX11_refuse F (-2) D).bind (fun (r_1, D_2) =>
    some (r_1, D_2))
def fX11_use (F : zFs) (v1 : Int) (D : zDa) : Option (Int × zDa) :=
  if v1 < (-1) then
    fX11_use_16 F D
  else
    if v1 < (D 1 8) then
      zlet ((D 1 9)) (fun x2_3 =>
        zlet (zwr D 1 9 v1) (fun D_4 =>
          (fX9_pricesChanged F 1 D_4).bind (fun D_6 =>
            (fX11_accept F x2_3 D_6).bind (fun (r_7, D_8) =>
              some (r_7, D_8)))))
    else
      fX11_use_16 F D
set_option maxHeartbeats 20000000 in
theorem sX11_use_16 {l : Launch} {E : zE} {d : Nat} {F : zFs} {n sl : Nat} (hG : zG F)     (D : zDa) : zO l E (d + 1) YX11_use 16 [(0, zR 0)] [] (F, D, n, sl) (zcI F n sl) (fX11_use_16 F D) := by
  unfold fX11_use_16
  refine zO_aload_n dX11_use_16 rfl (zR_P _) ?_
  refine zO_bipush dX11_use_17 (by decide) ?_
  refine zO_callV (Y' := YX11_refuse) (cw := zcI F n sl) (as := [zI (-2)]) (rest := []) (na := 1) (ci := 11) rfl dX11_use_19 wC_X11_refuse wN_X11 wM_X11_112 wI_X11_refuse wV_X11_refuse (by decide) (by decide) rfl rfl (Nat.le_of_ble_eq_true rfl) rfl (by decide) (gk_0 hG) (fun r hr => zMet_cast (Nat.add_assoc d 0 0) (mX11_refuse (d := d + 0) hG (-2) r hr)) ?_
  rintro ⟨r_1, D_2⟩ -
  show zO _ _ _ _ _ _ [zI r_1] (F, D_2, n, sl) _ _
  exact zO_ret (rv := some (zI r_1)) dX11_use_22 rfl rfl rfl
set_option maxHeartbeats 20000000 in
theorem mX11_use {l : Launch} {E : zE} {d : Nat} {F : zFs} {n sl : Nat} (hG : zG F) (v1 : Int) {D : zDa} : ∀ r, fX11_use F  v1 D = some r → zMet l E (d + 1) YX11_use [zR 0, zI v1] (F, D, n, sl) (zcI F n sl r) := by
  intro r hr
  refine zMet_of (plainFor_of_name (by decide)) (fun _ h => (nomatch h)) (Nat.le_of_ble_eq_true rfl) ?_
  have hz : zO l E (d + 1) YX11_use 0 [(0, zR 0), (1, zI v1)] [] (F, D, n, sl) (zcI F n sl) (fX11_use F  v1 D) := by
    unfold fX11_use
    refine zO_iload_n dX11_use_0 rfl ?_
    refine zO_iconst dX11_use_1 (by decide) ?_
    refine zO_icmp_lt (tgt := 16) dX11_use_2 rfl (fun c2 => ?_) (fun c2 => ?_)
    · refine zO_live [0] ?_
      exact sX11_use_16 hG D
    · refine zO_iload_n dX11_use_5 rfl ?_
      refine zO_aload_n dX11_use_6 rfl (zR_P _) ?_
      refine gt11 (k := 0) dX11_use_7 wF_X11_10 (by decide) (gk_0 hG) (zgv (c := 11) (k := 0) rfl (Or.inr ⟨_, rfl⟩) (gf_0_0 hG)) ?_
      refine gt9 (k := 8) (v := zI (D 1 8)) dX11_use_10 wF_X11_167 (by decide) (gk_1 hG) rfl ?_
      refine zO_icmp_lt (tgt := 23) dX11_use_13 rfl (fun c13 => ?_) (fun c13 => ?_)
      · refine zO_aload_n dX11_use_23 rfl (zR_P _) ?_
        refine gt11 (k := 0) dX11_use_24 wF_X11_10 (by decide) (gk_0 hG) (zgv (c := 11) (k := 0) rfl (Or.inr ⟨_, rfl⟩) (gf_0_0 hG)) ?_
        refine gt9 (k := 9) (v := zI (D 1 9)) dX11_use_27 wF_X11_181 (by decide) (gk_1 hG) rfl ?_
        refine zO_letI (fun x2_3 ex2_3 => ?_)
        refine zO_istore_n dX11_use_30 (by decide) ?_
        refine zO_ls (ls' := [(0, zR 0), (1, zI v1), (2, zI x2_3)]) rfl ?_
        refine zO_aload_n dX11_use_31 rfl (zR_P _) ?_
        refine gt11 (k := 0) dX11_use_32 wF_X11_10 (by decide) (gk_0 hG) (zgv (c := 11) (k := 0) rfl (Or.inr ⟨_, rfl⟩) (gf_0_0 hG)) ?_
        refine zO_iload_n dX11_use_35 rfl ?_
        refine ptI9 (k := 9) (z := v1) dX11_use_36 wF_X11_181 (by decide) rfl (gk_1 hG) rfl ?_
        refine zO_letD (fun D_4 eD_4 => ?_)
        refine zO_aload_n dX11_use_39 rfl (zR_P _) ?_
        refine gt11 (k := 0) dX11_use_40 wF_X11_10 (by decide) (gk_0 hG) (zgv (c := 11) (k := 0) rfl (Or.inr ⟨_, rfl⟩) (gf_0_0 hG)) ?_
        refine zO_callV (Y' := YX9_pricesChanged) (cw := zcV F n sl) (as := []) (rest := []) (na := 0) (ci := 9) rfl dX11_use_43 wC_X9_pricesChanged wN_X9 wM_X11_139 wI_X9_pricesChanged wV_X9_pricesChanged (by decide) (by decide) rfl rfl (Nat.le_of_ble_eq_true rfl) rfl (by decide) (gk_1 hG) (fun r hr => zMet_cast (Nat.add_assoc d 0 0) (mX9_pricesChanged (d := d + 0) hG 1 r hr)) ?_
        intro D_6 _
        show zO _ _ _ _ _ _ [] (F, D_6, n, sl) _ _
        refine zO_aload_n dX11_use_46 rfl (zR_P _) ?_
        refine zO_iload_n dX11_use_47 rfl ?_
        refine zO_callV (Y' := YX11_accept) (cw := zcI F n sl) (as := [zI x2_3]) (rest := []) (na := 1) (ci := 11) rfl dX11_use_48 wC_X11_accept wN_X11 wM_X11_123 wI_X11_accept wV_X11_accept (by decide) (by decide) rfl rfl (Nat.le_of_ble_eq_true rfl) rfl (by decide) (gk_0 hG) (fun r hr => zMet_cast (Nat.add_assoc d 0 0) (mX11_accept (d := d + 0) hG x2_3 r hr)) ?_
        rintro ⟨r_7, D_8⟩ -
        show zO _ _ _ _ _ _ [zI r_7] (F, D_8, n, sl) _ _
        exact zO_ret (rv := some (zI r_7)) dX11_use_51 rfl rfl rfl
      · refine zO_live [0] ?_
        exact sX11_use_16 hG D
  exact hz r hr
theorem dX11_takes_0 : decode cX11_takes 0 = .ok (.aload_n 0, 1) := by decide +kernel
theorem dX11_takes_1 : decode cX11_takes 1 = .ok (.getfield 10, 3) := by decide +kernel
theorem dX11_takes_4 : decode cX11_takes 4 = .ok (.iload_n 1, 1) := by decide +kernel
theorem dX11_takes_5 : decode cX11_takes 5 = .ok (.invokevirtual 126, 3) := by decide +kernel
theorem dX11_takes_8 : decode cX11_takes 8 = .ok (.ifCond .eq 22, 3) := by decide +kernel
theorem dX11_takes_11 : decode cX11_takes 11 = .ok (.iload_n 2, 1) := by decide +kernel
theorem dX11_takes_12 : decode cX11_takes 12 = .ok (.iconst 1, 1) := by decide +kernel
theorem dX11_takes_13 : decode cX11_takes 13 = .ok (.if_icmp .lt 17, 3) := by decide +kernel
theorem dX11_takes_16 : decode cX11_takes 16 = .ok (.iload_n 2, 1) := by decide +kernel
theorem dX11_takes_17 : decode cX11_takes 17 = .ok (.iconst 3, 1) := by decide +kernel
theorem dX11_takes_18 : decode cX11_takes 18 = .ok (.if_icmp .gt 12, 3) := by decide +kernel
theorem dX11_takes_21 : decode cX11_takes 21 = .ok (.iload_n 3, 1) := by decide +kernel
theorem dX11_takes_22 : decode cX11_takes 22 = .ok (.ifCond .lt 8, 3) := by decide +kernel
theorem dX11_takes_25 : decode cX11_takes 25 = .ok (.iload_n 3, 1) := by decide +kernel
theorem dX11_takes_26 : decode cX11_takes 26 = .ok (.iconst 1, 1) := by decide +kernel
theorem dX11_takes_27 : decode cX11_takes 27 = .ok (.if_icmp .le 5, 3) := by decide +kernel
theorem dX11_takes_30 : decode cX11_takes 30 = .ok (.iconst (-1), 1) := by decide +kernel
theorem dX11_takes_31 : decode cX11_takes 31 = .ok (.ireturn, 1) := by decide +kernel
theorem dX11_takes_32 : decode cX11_takes 32 = .ok (.iload_n 2, 1) := by decide +kernel
theorem dX11_takes_33 : decode cX11_takes 33 = .ok (.iconst 3, 1) := by decide +kernel
theorem dX11_takes_34 : decode cX11_takes 34 = .ok (.if_icmp .ne 7, 3) := by decide +kernel
theorem dX11_takes_37 : decode cX11_takes 37 = .ok (.iconst 1, 1) := by decide +kernel
theorem dX11_takes_38 : decode cX11_takes 38 = .ok (.goto 14, 3) := by decide +kernel
theorem dX11_takes_41 : decode cX11_takes 41 = .ok (.aload_n 0, 1) := by decide +kernel
theorem dX11_takes_42 : decode cX11_takes 42 = .ok (.getfield 53, 3) := by decide +kernel
theorem dX11_takes_45 : decode cX11_takes 45 = .ok (.iload_n 1, 1) := by decide +kernel
theorem dX11_takes_46 : decode cX11_takes 46 = .ok (.iload_n 2, 1) := by decide +kernel
theorem dX11_takes_47 : decode cX11_takes 47 = .ok (.iload_n 3, 1) := by decide +kernel
theorem dX11_takes_48 : decode cX11_takes 48 = .ok (.iconst 0, 1) := by decide +kernel
theorem dX11_takes_49 : decode cX11_takes 49 = .ok (.invokevirtual 184, 3) := by decide +kernel
theorem dX11_takes_52 : decode cX11_takes 52 = .ok (.ireturn, 1) := by decide +kernel
abbrev YX11_takes : zY := (yX11_takes, cX11_takes, 4, (Option.some Jvm.ClassFile.FieldType.int), [])
def fX11_takes (F : zFs) (v1 : Int) (v2 : Int) (v3 : Int) (D : zDa) : Option (Int × zDa) :=
  (fX9_has F v1 D).bind (fun (r_1, D_2) =>
    if r_1 = 0 then
      some ((-1), D_2)
    else
      if v2 < 1 then
        some ((-1), D_2)
      else
        if 3 < v2 then
          some ((-1), D_2)
        else
          if v3 < 0 then
            some ((-1), D_2)
          else
            if 1 < v3 then
              some ((-1), D_2)
            else
              if v2 = 3 then
                some (1, D_2)
              else
                (fX10_hoursOf F v1 v2 v3 0 D_2).bind (fun (r_3, D_4) =>
                  some (r_3, D_4)))
set_option maxHeartbeats 20000000 in
theorem mX11_takes {l : Launch} {E : zE} {d : Nat} {F : zFs} {n sl : Nat} (hG : zG F) (v1 : Int) (v2 : Int) (v3 : Int) {D : zDa} : ∀ r, fX11_takes F  v1 v2 v3 D = some r → zMet l E (d + 4) YX11_takes [zR 0, zI v1, zI v2, zI v3] (F, D, n, sl) (zcI F n sl r) := by
  intro r hr
  refine zMet_of (plainFor_of_name (by decide)) (fun _ h => (nomatch h)) (Nat.le_of_ble_eq_true rfl) ?_
  have hz : zO l E (d + 4) YX11_takes 0 [(0, zR 0), (1, zI v1), (2, zI v2), (3, zI v3)] [] (F, D, n, sl) (zcI F n sl) (fX11_takes F  v1 v2 v3 D) := by
    unfold fX11_takes
    refine zO_aload_n dX11_takes_0 rfl (zR_P _) ?_
    refine gt11 (k := 0) dX11_takes_1 wF_X11_10 (by decide) (gk_0 hG) (zgv (c := 11) (k := 0) rfl (Or.inr ⟨_, rfl⟩) (gf_0_0 hG)) ?_
    refine zO_iload_n dX11_takes_4 rfl ?_
    refine zO_callV (Y' := YX9_has) (cw := zcI F n sl) (as := [zI v1]) (rest := []) (na := 1) (ci := 9) rfl dX11_takes_5 wC_X9_has wN_X9 wM_X11_126 wI_X9_has wV_X9_has (by decide) (by decide) rfl rfl (Nat.le_of_ble_eq_true rfl) rfl (by decide) (gk_1 hG) (fun r hr => zMet_cast (Nat.add_assoc d 3 0) (mX9_has (d := d + 3) hG v1 r hr)) ?_
    rintro ⟨r_1, D_2⟩ -
    show zO _ _ _ _ _ _ [zI r_1] (F, D_2, n, sl) _ _
    refine zO_if_eq (tgt := 30) dX11_takes_8 rfl (fun c8 => ?_) (fun c8 => ?_)
    · refine zO_iconst dX11_takes_30 (by decide) ?_
      exact zO_ret (rv := some (zI (-1))) dX11_takes_31 rfl rfl rfl
    · refine zO_iload_n dX11_takes_11 rfl ?_
      refine zO_iconst dX11_takes_12 (by decide) ?_
      refine zO_icmp_lt (tgt := 30) dX11_takes_13 rfl (fun c13 => ?_) (fun c13 => ?_)
      · refine zO_iconst dX11_takes_30 (by decide) ?_
        exact zO_ret (rv := some (zI (-1))) dX11_takes_31 rfl rfl rfl
      · refine zO_iload_n dX11_takes_16 rfl ?_
        refine zO_iconst dX11_takes_17 (by decide) ?_
        refine zO_icmp_gt (tgt := 30) dX11_takes_18 rfl (fun c18 => ?_) (fun c18 => ?_)
        · refine zO_iconst dX11_takes_30 (by decide) ?_
          exact zO_ret (rv := some (zI (-1))) dX11_takes_31 rfl rfl rfl
        · refine zO_iload_n dX11_takes_21 rfl ?_
          refine zO_if_lt (tgt := 30) dX11_takes_22 rfl (fun c22 => ?_) (fun c22 => ?_)
          · refine zO_iconst dX11_takes_30 (by decide) ?_
            exact zO_ret (rv := some (zI (-1))) dX11_takes_31 rfl rfl rfl
          · refine zO_iload_n dX11_takes_25 rfl ?_
            refine zO_iconst dX11_takes_26 (by decide) ?_
            refine zO_icmp_le (tgt := 32) dX11_takes_27 rfl (fun c27 => ?_) (fun c27 => ?_)
            · refine zO_iconst dX11_takes_30 (by decide) ?_
              exact zO_ret (rv := some (zI (-1))) dX11_takes_31 rfl rfl rfl
            · refine zO_iload_n dX11_takes_32 rfl ?_
              refine zO_iconst dX11_takes_33 (by decide) ?_
              refine zO_icmp_ne (tgt := 41) dX11_takes_34 rfl (fun c34 => ?_) (fun c34 => ?_)
              · refine zO_iconst dX11_takes_37 (by decide) ?_
                refine zO_goto (tgt := 52) dX11_takes_38 rfl ?_
                exact zO_ret (rv := some (zI 1)) dX11_takes_52 rfl rfl rfl
              · refine zO_aload_n dX11_takes_41 rfl (zR_P _) ?_
                refine gt11 (k := 11) dX11_takes_42 wF_X11_53 (by decide) (gk_0 hG) (zgv (c := 11) (k := 11) rfl (Or.inr ⟨_, rfl⟩) (gf_0_11 hG)) ?_
                refine zO_iload_n dX11_takes_45 rfl ?_
                refine zO_iload_n dX11_takes_46 rfl ?_
                refine zO_iload_n dX11_takes_47 rfl ?_
                refine zO_iconst dX11_takes_48 (by decide) ?_
                refine zO_callV (Y' := YX10_hoursOf) (cw := zcI F n sl) (as := [zI v1, zI v2, zI v3, zI 0]) (rest := []) (na := 4) (ci := 10) rfl dX11_takes_49 wC_X10_hoursOf wN_X10 wM_X11_184 wI_X10_hoursOf wV_X10_hoursOf (by decide) (by decide) rfl rfl (Nat.le_of_ble_eq_true rfl) rfl (by decide) (gk_49 hG) (fun r hr => zMet_cast (Nat.add_assoc d 0 3) (mX10_hoursOf (d := d + 0) hG v1 v2 v3 0 r hr)) ?_
                rintro ⟨r_3, D_4⟩ -
                show zO _ _ _ _ _ _ [zI r_3] (F, D_4, n, sl) _ _
                exact zO_ret (rv := some (zI r_3)) dX11_takes_52 rfl rfl rfl
  exact hz r hr
theorem dX11_keeps_0 : decode cX11_keeps 0 = .ok (.aload_n 0, 1) := by decide +kernel
theorem dX11_keeps_1 : decode cX11_keeps 1 = .ok (.getfield 10, 3) := by decide +kernel
theorem dX11_keeps_4 : decode cX11_keeps 4 = .ok (.iload_n 1, 1) := by decide +kernel
theorem dX11_keeps_5 : decode cX11_keeps 5 = .ok (.invokevirtual 126, 3) := by decide +kernel
theorem dX11_keeps_8 : decode cX11_keeps 8 = .ok (.ifCond .eq 13, 3) := by decide +kernel
theorem dX11_keeps_11 : decode cX11_keeps 11 = .ok (.iload_n 2, 1) := by decide +kernel
theorem dX11_keeps_12 : decode cX11_keeps 12 = .ok (.iconst 1, 1) := by decide +kernel
theorem dX11_keeps_13 : decode cX11_keeps 13 = .ok (.if_icmp .lt 8, 3) := by decide +kernel
theorem dX11_keeps_16 : decode cX11_keeps 16 = .ok (.iload_n 2, 1) := by decide +kernel
theorem dX11_keeps_17 : decode cX11_keeps 17 = .ok (.iconst 3, 1) := by decide +kernel
theorem dX11_keeps_18 : decode cX11_keeps 18 = .ok (.if_icmp .lt 5, 3) := by decide +kernel
theorem dX11_keeps_21 : decode cX11_keeps 21 = .ok (.iconst (-1), 1) := by decide +kernel
theorem dX11_keeps_22 : decode cX11_keeps 22 = .ok (.ireturn, 1) := by decide +kernel
theorem dX11_keeps_23 : decode cX11_keeps 23 = .ok (.aload_n 0, 1) := by decide +kernel
theorem dX11_keeps_24 : decode cX11_keeps 24 = .ok (.getfield 53, 3) := by decide +kernel
theorem dX11_keeps_27 : decode cX11_keeps 27 = .ok (.iload_n 1, 1) := by decide +kernel
theorem dX11_keeps_28 : decode cX11_keeps 28 = .ok (.iload_n 2, 1) := by decide +kernel
theorem dX11_keeps_29 : decode cX11_keeps 29 = .ok (.invokevirtual 188, 3) := by decide +kernel
theorem dX11_keeps_32 : decode cX11_keeps 32 = .ok (.ireturn, 1) := by decide +kernel
abbrev YX11_keeps : zY := (yX11_keeps, cX11_keeps, 3, (Option.some Jvm.ClassFile.FieldType.int), [])
def fX11_keeps (F : zFs) (v1 : Int) (v2 : Int) (D : zDa) : Option (Int × zDa) :=
  (fX9_has F v1 D).bind (fun (r_1, D_2) =>
    if r_1 = 0 then
      some ((-1), D_2)
    else
      if v2 < 1 then
        some ((-1), D_2)
      else
        if v2 < 3 then
          (fX10_daysKept F v1 v2 D_2).bind (fun (r_3, D_4) =>
            some (r_3, D_4))
        else
          some ((-1), D_2))
set_option maxHeartbeats 20000000 in
theorem mX11_keeps {l : Launch} {E : zE} {d : Nat} {F : zFs} {n sl : Nat} (hG : zG F) (v1 : Int) (v2 : Int) {D : zDa} : ∀ r, fX11_keeps F  v1 v2 D = some r → zMet l E (d + 4) YX11_keeps [zR 0, zI v1, zI v2] (F, D, n, sl) (zcI F n sl r) := by
  intro r hr
  refine zMet_of (plainFor_of_name (by decide)) (fun _ h => (nomatch h)) (Nat.le_of_ble_eq_true rfl) ?_
  have hz : zO l E (d + 4) YX11_keeps 0 [(0, zR 0), (1, zI v1), (2, zI v2)] [] (F, D, n, sl) (zcI F n sl) (fX11_keeps F  v1 v2 D) := by
    unfold fX11_keeps
    refine zO_aload_n dX11_keeps_0 rfl (zR_P _) ?_
    refine gt11 (k := 0) dX11_keeps_1 wF_X11_10 (by decide) (gk_0 hG) (zgv (c := 11) (k := 0) rfl (Or.inr ⟨_, rfl⟩) (gf_0_0 hG)) ?_
    refine zO_iload_n dX11_keeps_4 rfl ?_
    refine zO_callV (Y' := YX9_has) (cw := zcI F n sl) (as := [zI v1]) (rest := []) (na := 1) (ci := 9) rfl dX11_keeps_5 wC_X9_has wN_X9 wM_X11_126 wI_X9_has wV_X9_has (by decide) (by decide) rfl rfl (Nat.le_of_ble_eq_true rfl) rfl (by decide) (gk_1 hG) (fun r hr => zMet_cast (Nat.add_assoc d 3 0) (mX9_has (d := d + 3) hG v1 r hr)) ?_
    rintro ⟨r_1, D_2⟩ -
    show zO _ _ _ _ _ _ [zI r_1] (F, D_2, n, sl) _ _
    refine zO_if_eq (tgt := 21) dX11_keeps_8 rfl (fun c8 => ?_) (fun c8 => ?_)
    · refine zO_iconst dX11_keeps_21 (by decide) ?_
      exact zO_ret (rv := some (zI (-1))) dX11_keeps_22 rfl rfl rfl
    · refine zO_iload_n dX11_keeps_11 rfl ?_
      refine zO_iconst dX11_keeps_12 (by decide) ?_
      refine zO_icmp_lt (tgt := 21) dX11_keeps_13 rfl (fun c13 => ?_) (fun c13 => ?_)
      · refine zO_iconst dX11_keeps_21 (by decide) ?_
        exact zO_ret (rv := some (zI (-1))) dX11_keeps_22 rfl rfl rfl
      · refine zO_iload_n dX11_keeps_16 rfl ?_
        refine zO_iconst dX11_keeps_17 (by decide) ?_
        refine zO_icmp_lt (tgt := 23) dX11_keeps_18 rfl (fun c18 => ?_) (fun c18 => ?_)
        · refine zO_aload_n dX11_keeps_23 rfl (zR_P _) ?_
          refine gt11 (k := 11) dX11_keeps_24 wF_X11_53 (by decide) (gk_0 hG) (zgv (c := 11) (k := 11) rfl (Or.inr ⟨_, rfl⟩) (gf_0_11 hG)) ?_
          refine zO_iload_n dX11_keeps_27 rfl ?_
          refine zO_iload_n dX11_keeps_28 rfl ?_
          refine zO_callV (Y' := YX10_daysKept) (cw := zcI F n sl) (as := [zI v1, zI v2]) (rest := []) (na := 2) (ci := 10) rfl dX11_keeps_29 wC_X10_daysKept wN_X10 wM_X11_188 wI_X10_daysKept wV_X10_daysKept (by decide) (by decide) rfl rfl (Nat.le_of_ble_eq_true rfl) rfl (by decide) (gk_49 hG) (fun r hr => zMet_cast (Nat.add_assoc d 0 3) (mX10_daysKept (d := d + 0) hG v1 v2 r hr)) ?_
          rintro ⟨r_3, D_4⟩ -
          show zO _ _ _ _ _ _ [zI r_3] (F, D_4, n, sl) _ _
          exact zO_ret (rv := some (zI r_3)) dX11_keeps_32 rfl rfl rfl
        · refine zO_iconst dX11_keeps_21 (by decide) ?_
          exact zO_ret (rv := some (zI (-1))) dX11_keeps_22 rfl rfl rfl
  exact hz r hr
theorem dX11_chance_0 : decode cX11_chance 0 = .ok (.iload_n 1, 1) := by decide +kernel
theorem dX11_chance_1 : decode cX11_chance 1 = .ok (.ifCond .lt 8, 3) := by decide +kernel
theorem dX11_chance_4 : decode cX11_chance 4 = .ok (.iload_n 1, 1) := by decide +kernel
theorem dX11_chance_5 : decode cX11_chance 5 = .ok (.iconst 3, 1) := by decide +kernel
theorem dX11_chance_6 : decode cX11_chance 6 = .ok (.if_icmp .lt 5, 3) := by decide +kernel
theorem dX11_chance_9 : decode cX11_chance 9 = .ok (.iconst (-1), 1) := by decide +kernel
theorem dX11_chance_10 : decode cX11_chance 10 = .ok (.ireturn, 1) := by decide +kernel
theorem dX11_chance_11 : decode cX11_chance 11 = .ok (.aload_n 0, 1) := by decide +kernel
theorem dX11_chance_12 : decode cX11_chance 12 = .ok (.getfield 53, 3) := by decide +kernel
theorem dX11_chance_15 : decode cX11_chance 15 = .ok (.iload_n 1, 1) := by decide +kernel
theorem dX11_chance_16 : decode cX11_chance 16 = .ok (.invokevirtual 191, 3) := by decide +kernel
theorem dX11_chance_19 : decode cX11_chance 19 = .ok (.ireturn, 1) := by decide +kernel
abbrev YX11_chance : zY := (yX11_chance, cX11_chance, 2, (Option.some Jvm.ClassFile.FieldType.int), [])
def fX11_chance (F : zFs) (v1 : Int) (D : zDa) : Option (Int × zDa) :=
  if v1 < 0 then
    some ((-1), D)
  else
    if v1 < 3 then
      (fX10_chanceOf F v1 D).bind (fun (r_1, D_2) =>
        some (r_1, D_2))
    else
      some ((-1), D)
set_option maxHeartbeats 20000000 in
theorem mX11_chance {l : Launch} {E : zE} {d : Nat} {F : zFs} {n sl : Nat} (hG : zG F) (v1 : Int) {D : zDa} : ∀ r, fX11_chance F  v1 D = some r → zMet l E (d + 4) YX11_chance [zR 0, zI v1] (F, D, n, sl) (zcI F n sl r) := by
  intro r hr
  refine zMet_of (plainFor_of_name (by decide)) (fun _ h => (nomatch h)) (Nat.le_of_ble_eq_true rfl) ?_
  have hz : zO l E (d + 4) YX11_chance 0 [(0, zR 0), (1, zI v1)] [] (F, D, n, sl) (zcI F n sl) (fX11_chance F  v1 D) := by
    unfold fX11_chance
    refine zO_iload_n dX11_chance_0 rfl ?_
    refine zO_if_lt (tgt := 9) dX11_chance_1 rfl (fun c1 => ?_) (fun c1 => ?_)
    · refine zO_iconst dX11_chance_9 (by decide) ?_
      exact zO_ret (rv := some (zI (-1))) dX11_chance_10 rfl rfl rfl
    · refine zO_iload_n dX11_chance_4 rfl ?_
      refine zO_iconst dX11_chance_5 (by decide) ?_
      refine zO_icmp_lt (tgt := 11) dX11_chance_6 rfl (fun c6 => ?_) (fun c6 => ?_)
      · refine zO_aload_n dX11_chance_11 rfl (zR_P _) ?_
        refine gt11 (k := 11) dX11_chance_12 wF_X11_53 (by decide) (gk_0 hG) (zgv (c := 11) (k := 11) rfl (Or.inr ⟨_, rfl⟩) (gf_0_11 hG)) ?_
        refine zO_iload_n dX11_chance_15 rfl ?_
        refine zO_callV (Y' := YX10_chanceOf) (cw := zcI F n sl) (as := [zI v1]) (rest := []) (na := 1) (ci := 10) rfl dX11_chance_16 wC_X10_chanceOf wN_X10 wM_X11_191 wI_X10_chanceOf wV_X10_chanceOf (by decide) (by decide) rfl rfl (Nat.le_of_ble_eq_true rfl) rfl (by decide) (gk_49 hG) (fun r hr => zMet_cast (Nat.add_assoc d 0 3) (mX10_chanceOf (d := d + 0) hG v1 r hr)) ?_
        rintro ⟨r_1, D_2⟩ -
        show zO _ _ _ _ _ _ [zI r_1] (F, D_2, n, sl) _ _
        exact zO_ret (rv := some (zI r_1)) dX11_chance_19 rfl rfl rfl
      · refine zO_iconst dX11_chance_9 (by decide) ?_
        exact zO_ret (rv := some (zI (-1))) dX11_chance_10 rfl rfl rfl
  exact hz r hr
theorem dX11_spreadKnown_0 : decode cX11_spreadKnown 0 = .ok (.aload_n 0, 1) := by decide +kernel
theorem dX11_spreadKnown_1 : decode cX11_spreadKnown 1 = .ok (.getfield 60, 3) := by decide +kernel
theorem dX11_spreadKnown_4 : decode cX11_spreadKnown 4 = .ok (.aload_n 0, 1) := by decide +kernel
theorem dX11_spreadKnown_5 : decode cX11_spreadKnown 5 = .ok (.getfield 53, 3) := by decide +kernel
theorem dX11_spreadKnown_8 : decode cX11_spreadKnown 8 = .ok (.invokevirtual 219, 3) := by decide +kernel
theorem dX11_spreadKnown_11 : decode cX11_spreadKnown 11 = .ok (.aload_n 0, 1) := by decide +kernel
theorem dX11_spreadKnown_12 : decode cX11_spreadKnown 12 = .ok (.getfield 60, 3) := by decide +kernel
theorem dX11_spreadKnown_15 : decode cX11_spreadKnown 15 = .ok (.invokevirtual 374, 3) := by decide +kernel
theorem dX11_spreadKnown_18 : decode cX11_spreadKnown 18 = .ok (.iconst 0, 1) := by decide +kernel
theorem dX11_spreadKnown_19 : decode cX11_spreadKnown 19 = .ok (.istore_n 3, 1) := by decide +kernel
theorem dX11_spreadKnown_20 : decode cX11_spreadKnown 20 = .ok (.iload_n 3, 1) := by decide +kernel
theorem dX11_spreadKnown_21 : decode cX11_spreadKnown 21 = .ok (.aload_n 0, 1) := by decide +kernel
theorem dX11_spreadKnown_22 : decode cX11_spreadKnown 22 = .ok (.getfield 10, 3) := by decide +kernel
theorem dX11_spreadKnown_25 : decode cX11_spreadKnown 25 = .ok (.getfield 116, 3) := by decide +kernel
theorem dX11_spreadKnown_28 : decode cX11_spreadKnown 28 = .ok (.if_icmp .ge 55, 3) := by decide +kernel
theorem dX11_spreadKnown_31 : decode cX11_spreadKnown 31 = .ok (.aload_n 0, 1) := by decide +kernel
theorem dX11_spreadKnown_32 : decode cX11_spreadKnown 32 = .ok (.getfield 10, 3) := by decide +kernel
theorem dX11_spreadKnown_35 : decode cX11_spreadKnown 35 = .ok (.getfield 136, 3) := by decide +kernel
theorem dX11_spreadKnown_38 : decode cX11_spreadKnown 38 = .ok (.iload_n 3, 1) := by decide +kernel
theorem dX11_spreadKnown_39 : decode cX11_spreadKnown 39 = .ok (.iaload, 1) := by decide +kernel
theorem dX11_spreadKnown_40 : decode cX11_spreadKnown 40 = .ok (.ifCond .ne 37, 3) := by decide +kernel
theorem dX11_spreadKnown_43 : decode cX11_spreadKnown 43 = .ok (.aload_n 0, 1) := by decide +kernel
theorem dX11_spreadKnown_44 : decode cX11_spreadKnown 44 = .ok (.getfield 60, 3) := by decide +kernel
theorem dX11_spreadKnown_47 : decode cX11_spreadKnown 47 = .ok (.iload_n 3, 1) := by decide +kernel
theorem dX11_spreadKnown_48 : decode cX11_spreadKnown 48 = .ok (.iload_n 1, 1) := by decide +kernel
theorem dX11_spreadKnown_49 : decode cX11_spreadKnown 49 = .ok (.if_icmp .ne 7, 3) := by decide +kernel
theorem dX11_spreadKnown_52 : decode cX11_spreadKnown 52 = .ok (.iload_n 2, 1) := by decide +kernel
theorem dX11_spreadKnown_53 : decode cX11_spreadKnown 53 = .ok (.goto 12, 3) := by decide +kernel
theorem dX11_spreadKnown_56 : decode cX11_spreadKnown 56 = .ok (.aload_n 0, 1) := by decide +kernel
theorem dX11_spreadKnown_57 : decode cX11_spreadKnown 57 = .ok (.getfield 10, 3) := by decide +kernel
theorem dX11_spreadKnown_60 : decode cX11_spreadKnown 60 = .ok (.getfield 130, 3) := by decide +kernel
theorem dX11_spreadKnown_63 : decode cX11_spreadKnown 63 = .ok (.iload_n 3, 1) := by decide +kernel
theorem dX11_spreadKnown_64 : decode cX11_spreadKnown 64 = .ok (.iaload, 1) := by decide +kernel
theorem dX11_spreadKnown_65 : decode cX11_spreadKnown 65 = .ok (.aload_n 0, 1) := by decide +kernel
theorem dX11_spreadKnown_66 : decode cX11_spreadKnown 66 = .ok (.getfield 10, 3) := by decide +kernel
theorem dX11_spreadKnown_69 : decode cX11_spreadKnown 69 = .ok (.getfield 133, 3) := by decide +kernel
theorem dX11_spreadKnown_72 : decode cX11_spreadKnown 72 = .ok (.iload_n 3, 1) := by decide +kernel
theorem dX11_spreadKnown_73 : decode cX11_spreadKnown 73 = .ok (.iaload, 1) := by decide +kernel
theorem dX11_spreadKnown_74 : decode cX11_spreadKnown 74 = .ok (.invokevirtual 377, 3) := by decide +kernel
theorem dX11_spreadKnown_77 : decode cX11_spreadKnown 77 = .ok (.iinc 3 1, 3) := by decide +kernel
theorem dX11_spreadKnown_80 : decode cX11_spreadKnown 80 = .ok (.goto (-60), 3) := by decide +kernel
theorem dX11_spreadKnown_83 : decode cX11_spreadKnown 83 = .ok (.aload_n 0, 1) := by decide +kernel
theorem dX11_spreadKnown_84 : decode cX11_spreadKnown 84 = .ok (.getfield 60, 3) := by decide +kernel
theorem dX11_spreadKnown_87 : decode cX11_spreadKnown 87 = .ok (.aload_n 0, 1) := by decide +kernel
theorem dX11_spreadKnown_88 : decode cX11_spreadKnown 88 = .ok (.getfield 10, 3) := by decide +kernel
theorem dX11_spreadKnown_91 : decode cX11_spreadKnown 91 = .ok (.getfield 154, 3) := by decide +kernel
theorem dX11_spreadKnown_94 : decode cX11_spreadKnown 94 = .ok (.iconst 0, 1) := by decide +kernel
theorem dX11_spreadKnown_95 : decode cX11_spreadKnown 95 = .ok (.iaload, 1) := by decide +kernel
theorem dX11_spreadKnown_96 : decode cX11_spreadKnown 96 = .ok (.aload_n 0, 1) := by decide +kernel
theorem dX11_spreadKnown_97 : decode cX11_spreadKnown 97 = .ok (.getfield 10, 3) := by decide +kernel
theorem dX11_spreadKnown_100 : decode cX11_spreadKnown 100 = .ok (.getfield 154, 3) := by decide +kernel
theorem dX11_spreadKnown_103 : decode cX11_spreadKnown 103 = .ok (.iconst 1, 1) := by decide +kernel
theorem dX11_spreadKnown_104 : decode cX11_spreadKnown 104 = .ok (.iaload, 1) := by decide +kernel
theorem dX11_spreadKnown_105 : decode cX11_spreadKnown 105 = .ok (.aload_n 0, 1) := by decide +kernel
theorem dX11_spreadKnown_106 : decode cX11_spreadKnown 106 = .ok (.getfield 10, 3) := by decide +kernel
theorem dX11_spreadKnown_109 : decode cX11_spreadKnown 109 = .ok (.getfield 154, 3) := by decide +kernel
theorem dX11_spreadKnown_112 : decode cX11_spreadKnown 112 = .ok (.iconst 3, 1) := by decide +kernel
theorem dX11_spreadKnown_113 : decode cX11_spreadKnown 113 = .ok (.iaload, 1) := by decide +kernel
theorem dX11_spreadKnown_114 : decode cX11_spreadKnown 114 = .ok (.invokevirtual 380, 3) := by decide +kernel
theorem dX11_spreadKnown_117 : decode cX11_spreadKnown 117 = .ok (.return_, 1) := by decide +kernel
abbrev YX11_spreadKnown : zY := (yX11_spreadKnown, cX11_spreadKnown, 4, none, [])
def fX11_spreadKnown_77 (F : zFs) (k_20 : Int → zDa → Option zDa) (o1 : Int) (o2 : Int) (v3 : Int) (D : zDa) : Option zDa :=
  if (-2147483648 ≤ v3 + 1 ∧ v3 + 1 ≤ 2147483647) then
    k_20 (v3 + 1) D
  else none
def fX11_spreadKnown_65 (F : zFs) (k_20 : Int → zDa → Option zDa) (o1 : Int) (o2 : Int) (v3 : Int) (s0 : Int) (D : zDa) : Option zDa :=
  if (0 ≤ v3 ∧ v3 < 20) then
    (fX2_put F s0 (D 5 v3.toNat) D).bind (fun D_6 =>
      fX11_spreadKnown_77 F k_20 o1 o2 v3 D_6)
  else none
def fX11_spreadKnown_20 (F : zFs) (o1 : Int) (o2 : Int)  (k_20 : Int → zDa → Option zDa) (v3 : Int) (D : zDa) : Option zDa :=
  if v3 < (D 1 5) then
    if (0 ≤ v3 ∧ v3 < 20) then
      if (D 6 v3.toNat) = 0 then
        if v3 = o1 then
          fX11_spreadKnown_65 F k_20 o1 o2 v3 o2 D
        else
          fX11_spreadKnown_65 F k_20 o1 o2 v3 (D 4 v3.toNat) D
      else
        fX11_spreadKnown_77 F k_20 o1 o2 v3 D
    else none
  else
    (fX2_spread F (D 7 0) (D 7 1) (D 7 3) D).bind (fun D_8 =>
      some D_8)
def fX11_spreadKnown (F : zFs) (v1 : Int) (v2 : Int) (D : zDa) : Option zDa :=
  (fX2_setChances F D).bind (fun D_2 =>
    (fX2_empty F D_2).bind (fun D_4 =>
      zfix (fun _ _ => none) (fX11_spreadKnown_20 F v1 v2) zfu 0 D_4))
set_option maxHeartbeats 20000000 in
theorem sX11_spreadKnown_77 {l : Launch} {E : zE} {d : Nat} {F : zFs} {n sl : Nat} (hG : zG F)  (o1 : Int) (o2 : Int) (v3 : Int) (k_20 : Int → zDa → Option zDa) (hk_20 : ∀ (u3 : Int) (D : zDa), zO l E (d + 5) YX11_spreadKnown 20 [(0, zR 0), (1, zI o1), (2, zI o2), (3, zI u3)] [] (F, D, n, sl) (zcV F n sl) (k_20 u3 D)) (D : zDa) : zO l E (d + 5) YX11_spreadKnown 77 [(0, zR 0), (1, zI o1), (2, zI o2), (3, zI v3)] [] (F, D, n, sl) (zcV F n sl) (fX11_spreadKnown_77 F k_20 o1 o2 v3 D) := by
  unfold fX11_spreadKnown_77
  refine zO_chk (fun h3 => ?_)
  refine zO_iinc dX11_spreadKnown_77 rfl h3 (by decide) ?_
  refine zO_ls (ls' := [(0, zR 0), (1, zI o1), (2, zI o2), (3, zI (v3 + 1))]) rfl ?_
  refine zO_goto (tgt := 20) dX11_spreadKnown_80 rfl ?_
  refine zO_live [0, 1, 2, 3] ?_
  exact hk_20 (v3 + 1) D
set_option maxHeartbeats 20000000 in
theorem sX11_spreadKnown_65 {l : Launch} {E : zE} {d : Nat} {F : zFs} {n sl : Nat} (hG : zG F)  (o1 : Int) (o2 : Int) (v3 : Int) (s0 : Int) (k_20 : Int → zDa → Option zDa) (hk_20 : ∀ (u3 : Int) (D : zDa), zO l E (d + 5) YX11_spreadKnown 20 [(0, zR 0), (1, zI o1), (2, zI o2), (3, zI u3)] [] (F, D, n, sl) (zcV F n sl) (k_20 u3 D)) (D : zDa) : zO l E (d + 5) YX11_spreadKnown 65 [(0, zR 0), (1, zI o1), (2, zI o2), (3, zI v3)] [zI s0, zR 52] (F, D, n, sl) (zcV F n sl) (fX11_spreadKnown_65 F k_20 o1 o2 v3 s0 D) := by
  unfold fX11_spreadKnown_65
  refine zO_chk (fun h2 => ?_)
  refine zO_aload_n dX11_spreadKnown_65 rfl (zR_P _) ?_
  refine gt11 (k := 0) dX11_spreadKnown_66 wF_X11_10 (by decide) (gk_0 hG) (zgv (c := 11) (k := 0) rfl (Or.inr ⟨_, rfl⟩) (gf_0_0 hG)) ?_
  refine gt9 (k := 3) dX11_spreadKnown_69 wF_X11_133 (by decide) (gk_1 hG) (zgv (c := 9) (k := 3) rfl (Or.inl ⟨_, rfl⟩) (gf_1_3 hG)) ?_
  refine zO_iload_n dX11_spreadKnown_72 rfl ?_
  refine zO_iald dX11_spreadKnown_73 (gk_5 hG) (gl_in (gl_5 hG) h2) ?_
  refine zO_callV (Y' := YX2_put) (cw := zcV F n sl) (as := [zI s0, zI (D 5 v3.toNat)]) (rest := []) (na := 2) (ci := 2) rfl dX11_spreadKnown_74 wC_X2_put wN_X2 wM_X11_377 wI_X2_put wV_X2_put (by decide) (by decide) rfl rfl (Nat.le_of_ble_eq_true rfl) rfl (by decide) (gk_52 hG) (fun r hr => zMet_cast (Nat.add_assoc d 4 0) (mX2_put (d := d + 4) hG s0 (D 5 v3.toNat) r hr)) ?_
  intro D_6 _
  show zO _ _ _ _ _ _ [] (F, D_6, n, sl) _ _
  refine zO_live [0, 1, 2, 3] ?_
  exact sX11_spreadKnown_77 hG o1 o2 v3 _ hk_20 D_6
set_option maxHeartbeats 20000000 in
theorem sX11_spreadKnown_20 {l : Launch} {E : zE} {d : Nat} {F : zFs} {n sl : Nat} (hG : zG F)  (o1 : Int) (o2 : Int)   : ∀ (N : Nat) (v3 : Int) (D : zDa), zO l E (d + 5) YX11_spreadKnown 20 [(0, zR 0), (1, zI o1), (2, zI o2), (3, zI v3)] [] (F, D, n, sl) (zcV F n sl) (zfix (fun _ _ => none) (fX11_spreadKnown_20 F o1 o2) N v3 D) := by
  intro N
  induction N with
  | zero => intro v3 D; exact zO_none
  | succ N hk_20 =>
    intro v3 D
    show zO _ _ _ _ _ _ _ _ _ ((fX11_spreadKnown_20 F o1 o2) (zfix (fun _ _ => none) (fX11_spreadKnown_20 F o1 o2) N) v3 D)
    unfold fX11_spreadKnown_20
    refine zO_iload_n dX11_spreadKnown_20 rfl ?_
    refine zO_aload_n dX11_spreadKnown_21 rfl (zR_P _) ?_
    refine gt11 (k := 0) dX11_spreadKnown_22 wF_X11_10 (by decide) (gk_0 hG) (zgv (c := 11) (k := 0) rfl (Or.inr ⟨_, rfl⟩) (gf_0_0 hG)) ?_
    refine gt9 (k := 5) (v := zI (D 1 5)) dX11_spreadKnown_25 wF_X11_116 (by decide) (gk_1 hG) rfl ?_
    refine zO_icmp_ge (tgt := 83) dX11_spreadKnown_28 rfl (fun c28 => ?_) (fun c28 => ?_)
    · refine zO_chk (fun h1 => ?_)
      refine zO_aload_n dX11_spreadKnown_31 rfl (zR_P _) ?_
      refine gt11 (k := 0) dX11_spreadKnown_32 wF_X11_10 (by decide) (gk_0 hG) (zgv (c := 11) (k := 0) rfl (Or.inr ⟨_, rfl⟩) (gf_0_0 hG)) ?_
      refine gt9 (k := 4) dX11_spreadKnown_35 wF_X11_136 (by decide) (gk_1 hG) (zgv (c := 9) (k := 4) rfl (Or.inl ⟨_, rfl⟩) (gf_1_4 hG)) ?_
      refine zO_iload_n dX11_spreadKnown_38 rfl ?_
      refine zO_iald dX11_spreadKnown_39 (gk_6 hG) (gl_in (gl_6 hG) h1) ?_
      refine zO_if_ne (tgt := 77) dX11_spreadKnown_40 rfl (fun c40 => ?_) (fun c40 => ?_)
      · refine zO_aload_n dX11_spreadKnown_43 rfl (zR_P _) ?_
        refine gt11 (k := 12) dX11_spreadKnown_44 wF_X11_60 (by decide) (gk_0 hG) (zgv (c := 11) (k := 12) rfl (Or.inr ⟨_, rfl⟩) (gf_0_12 hG)) ?_
        refine zO_iload_n dX11_spreadKnown_47 rfl ?_
        refine zO_iload_n dX11_spreadKnown_48 rfl ?_
        refine zO_icmp_ne (tgt := 56) dX11_spreadKnown_49 rfl (fun c49 => ?_) (fun c49 => ?_)
        · refine zO_iload_n dX11_spreadKnown_52 rfl ?_
          refine zO_goto (tgt := 65) dX11_spreadKnown_53 rfl ?_
          refine zO_live [0, 1, 2, 3] ?_
          exact sX11_spreadKnown_65 hG o1 o2 v3 o2 _ hk_20 D
        · refine zO_aload_n dX11_spreadKnown_56 rfl (zR_P _) ?_
          refine gt11 (k := 0) dX11_spreadKnown_57 wF_X11_10 (by decide) (gk_0 hG) (zgv (c := 11) (k := 0) rfl (Or.inr ⟨_, rfl⟩) (gf_0_0 hG)) ?_
          refine gt9 (k := 2) dX11_spreadKnown_60 wF_X11_130 (by decide) (gk_1 hG) (zgv (c := 9) (k := 2) rfl (Or.inl ⟨_, rfl⟩) (gf_1_2 hG)) ?_
          refine zO_iload_n dX11_spreadKnown_63 rfl ?_
          refine zO_iald dX11_spreadKnown_64 (gk_4 hG) (gl_in (gl_4 hG) h1) ?_
          refine zO_live [0, 1, 2, 3] ?_
          exact sX11_spreadKnown_65 hG o1 o2 v3 (D 4 v3.toNat) _ hk_20 D
      · refine zO_live [0, 1, 2, 3] ?_
        exact sX11_spreadKnown_77 hG o1 o2 v3 _ hk_20 D
    · refine zO_aload_n dX11_spreadKnown_83 rfl (zR_P _) ?_
      refine gt11 (k := 12) dX11_spreadKnown_84 wF_X11_60 (by decide) (gk_0 hG) (zgv (c := 11) (k := 12) rfl (Or.inr ⟨_, rfl⟩) (gf_0_12 hG)) ?_
      refine zO_aload_n dX11_spreadKnown_87 rfl (zR_P _) ?_
      refine gt11 (k := 0) dX11_spreadKnown_88 wF_X11_10 (by decide) (gk_0 hG) (zgv (c := 11) (k := 0) rfl (Or.inr ⟨_, rfl⟩) (gf_0_0 hG)) ?_
      refine gt9 (k := 6) dX11_spreadKnown_91 wF_X11_154 (by decide) (gk_1 hG) (zgv (c := 9) (k := 6) rfl (Or.inl ⟨_, rfl⟩) (gf_1_6 hG)) ?_
      refine zO_iconst dX11_spreadKnown_94 (by decide) ?_
      refine zO_iald dX11_spreadKnown_95 (gk_7 hG) (gl_in (gl_7 hG) (by decide)) ?_
      refine zO_aload_n dX11_spreadKnown_96 rfl (zR_P _) ?_
      refine gt11 (k := 0) dX11_spreadKnown_97 wF_X11_10 (by decide) (gk_0 hG) (zgv (c := 11) (k := 0) rfl (Or.inr ⟨_, rfl⟩) (gf_0_0 hG)) ?_
      refine gt9 (k := 6) dX11_spreadKnown_100 wF_X11_154 (by decide) (gk_1 hG) (zgv (c := 9) (k := 6) rfl (Or.inl ⟨_, rfl⟩) (gf_1_6 hG)) ?_
      refine zO_iconst dX11_spreadKnown_103 (by decide) ?_
      refine zO_iald dX11_spreadKnown_104 (gk_7 hG) (gl_in (gl_7 hG) (by decide)) ?_
      refine zO_aload_n dX11_spreadKnown_105 rfl (zR_P _) ?_
      refine gt11 (k := 0) dX11_spreadKnown_106 wF_X11_10 (by decide) (gk_0 hG) (zgv (c := 11) (k := 0) rfl (Or.inr ⟨_, rfl⟩) (gf_0_0 hG)) ?_
      refine gt9 (k := 6) dX11_spreadKnown_109 wF_X11_154 (by decide) (gk_1 hG) (zgv (c := 9) (k := 6) rfl (Or.inl ⟨_, rfl⟩) (gf_1_6 hG)) ?_
      refine zO_iconst dX11_spreadKnown_112 (by decide) ?_
      refine zO_iald dX11_spreadKnown_113 (gk_7 hG) (gl_in (gl_7 hG) (by decide)) ?_
      refine zO_callV (Y' := YX2_spread) (cw := zcV F n sl) (as := [zI (D 7 0), zI (D 7 1), zI (D 7 3)]) (rest := []) (na := 3) (ci := 2) rfl dX11_spreadKnown_114 wC_X2_spread wN_X2 wM_X11_380 wI_X2_spread wV_X2_spread (by decide) (by decide) rfl rfl (Nat.le_of_ble_eq_true rfl) rfl (by decide) (gk_52 hG) (fun r hr => zMet_cast (Nat.add_assoc d 1 3) (mX2_spread (d := d + 1) hG (D 7 0) (D 7 1) (D 7 3) r hr)) ?_
      intro D_8 _
      show zO _ _ _ _ _ _ [] (F, D_8, n, sl) _ _
      exact zO_ret (rv := none) dX11_spreadKnown_117 rfl trivial rfl
set_option maxHeartbeats 20000000 in
theorem mX11_spreadKnown {l : Launch} {E : zE} {d : Nat} {F : zFs} {n sl : Nat} (hG : zG F) (v1 : Int) (v2 : Int) {D : zDa} : ∀ r, fX11_spreadKnown F  v1 v2 D = some r → zMet l E (d + 5) YX11_spreadKnown [zR 0, zI v1, zI v2] (F, D, n, sl) (zcV F n sl r) := by
  intro r hr
  refine zMet_of (plainFor_of_name (by decide)) (fun _ h => (nomatch h)) (Nat.le_of_ble_eq_true rfl) ?_
  have hz : zO l E (d + 5) YX11_spreadKnown 0 [(0, zR 0), (1, zI v1), (2, zI v2)] [] (F, D, n, sl) (zcV F n sl) (fX11_spreadKnown F  v1 v2 D) := by
    unfold fX11_spreadKnown
    refine zO_aload_n dX11_spreadKnown_0 rfl (zR_P _) ?_
    refine gt11 (k := 12) dX11_spreadKnown_1 wF_X11_60 (by decide) (gk_0 hG) (zgv (c := 11) (k := 12) rfl (Or.inr ⟨_, rfl⟩) (gf_0_12 hG)) ?_
    refine zO_aload_n dX11_spreadKnown_4 rfl (zR_P _) ?_
    refine gt11 (k := 11) dX11_spreadKnown_5 wF_X11_53 (by decide) (gk_0 hG) (zgv (c := 11) (k := 11) rfl (Or.inr ⟨_, rfl⟩) (gf_0_11 hG)) ?_
    refine zO_callV (Y' := YX2_setChances) (cw := zcV F n sl) (as := [zR 49]) (rest := []) (na := 1) (ci := 2) rfl dX11_spreadKnown_8 wC_X2_setChances wN_X2 wM_X11_219 wI_X2_setChances wV_X2_setChances (by decide) (by decide) rfl rfl (Nat.le_of_ble_eq_true rfl) rfl (by decide) (gk_52 hG) (fun r hr => zMet_cast (Nat.add_assoc d 0 4) (mX2_setChances (d := d + 0) hG  r hr)) ?_
    intro D_2 _
    show zO _ _ _ _ _ _ [] (F, D_2, n, sl) _ _
    refine zO_aload_n dX11_spreadKnown_11 rfl (zR_P _) ?_
    refine gt11 (k := 12) dX11_spreadKnown_12 wF_X11_60 (by decide) (gk_0 hG) (zgv (c := 11) (k := 12) rfl (Or.inr ⟨_, rfl⟩) (gf_0_12 hG)) ?_
    refine zO_callV (Y' := YX2_empty) (cw := zcV F n sl) (as := []) (rest := []) (na := 0) (ci := 2) rfl dX11_spreadKnown_15 wC_X2_empty wN_X2 wM_X11_374 wI_X2_empty wV_X2_empty (by decide) (by decide) rfl rfl (Nat.le_of_ble_eq_true rfl) rfl (by decide) (gk_52 hG) (fun r hr => zMet_cast (Nat.add_assoc d 3 1) (mX2_empty (d := d + 3) hG  r hr)) ?_
    intro D_4 _
    show zO _ _ _ _ _ _ [] (F, D_4, n, sl) _ _
    refine zO_iconst dX11_spreadKnown_18 (by decide) ?_
    refine zO_istore_n dX11_spreadKnown_19 (by decide) ?_
    refine zO_ls (ls' := [(0, zR 0), (1, zI v1), (2, zI v2), (3, zI 0)]) rfl ?_
    refine zO_live [0, 1, 2, 3] ?_
    exact sX11_spreadKnown_20 hG v1 v2 zfu 0 D_4
  exact hz r hr
theorem dX11_pass_0 : decode cX11_pass 0 = .ok (.aload_n 0, 1) := by decide +kernel
theorem dX11_pass_1 : decode cX11_pass 1 = .ok (.iconst (-1), 1) := by decide +kernel
theorem dX11_pass_2 : decode cX11_pass 2 = .ok (.iconst 0, 1) := by decide +kernel
theorem dX11_pass_3 : decode cX11_pass 3 = .ok (.invokevirtual 194, 3) := by decide +kernel
theorem dX11_pass_6 : decode cX11_pass 6 = .ok (.aload_n 0, 1) := by decide +kernel
theorem dX11_pass_7 : decode cX11_pass 7 = .ok (.getfield 60, 3) := by decide +kernel
theorem dX11_pass_10 : decode cX11_pass 10 = .ok (.aload_n 0, 1) := by decide +kernel
theorem dX11_pass_11 : decode cX11_pass 11 = .ok (.getfield 60, 3) := by decide +kernel
theorem dX11_pass_14 : decode cX11_pass 14 = .ok (.aload_n 0, 1) := by decide +kernel
theorem dX11_pass_15 : decode cX11_pass 15 = .ok (.getfield 10, 3) := by decide +kernel
theorem dX11_pass_18 : decode cX11_pass 18 = .ok (.getfield 154, 3) := by decide +kernel
theorem dX11_pass_21 : decode cX11_pass 21 = .ok (.iconst 2, 1) := by decide +kernel
theorem dX11_pass_22 : decode cX11_pass 22 = .ok (.iaload, 1) := by decide +kernel
theorem dX11_pass_23 : decode cX11_pass 23 = .ok (.invokevirtual 198, 3) := by decide +kernel
theorem dX11_pass_26 : decode cX11_pass 26 = .ok (.iload_n 1, 1) := by decide +kernel
theorem dX11_pass_27 : decode cX11_pass 27 = .ok (.invokevirtual 202, 3) := by decide +kernel
theorem dX11_pass_30 : decode cX11_pass 30 = .ok (.lreturn, 1) := by decide +kernel
abbrev YX11_pass : zY := (yX11_pass, cX11_pass, 2, (Option.some Jvm.ClassFile.FieldType.long), [])
def fX11_pass (F : zFs) (v1 : Int) (D : zDa) : Option (Int × zDa) :=
  (fX11_spreadKnown F (-1) 0 D).bind (fun D_2 =>
    (fX2_atLeast F (D_2 7 2) D_2).bind (fun (r_3, D_4) =>
      (fX2_fraction F r_3 v1 D_4).bind (fun (r_5, D_6) =>
        some (r_5, D_6))))
set_option maxHeartbeats 20000000 in
theorem mX11_pass {l : Launch} {E : zE} {d : Nat} {F : zFs} {n sl : Nat} (hG : zG F) (v1 : Int) {D : zDa} : ∀ r, fX11_pass F  v1 D = some r → zMet l E (d + 6) YX11_pass [zR 0, zI v1] (F, D, n, sl) (zcJ F n sl r) := by
  intro r hr
  refine zMet_of (plainFor_of_name (by decide)) (fun _ h => (nomatch h)) (Nat.le_of_ble_eq_true rfl) ?_
  have hz : zO l E (d + 6) YX11_pass 0 [(0, zR 0), (1, zI v1)] [] (F, D, n, sl) (zcJ F n sl) (fX11_pass F  v1 D) := by
    unfold fX11_pass
    refine zO_aload_n dX11_pass_0 rfl (zR_P _) ?_
    refine zO_iconst dX11_pass_1 (by decide) ?_
    refine zO_iconst dX11_pass_2 (by decide) ?_
    refine zO_callV (Y' := YX11_spreadKnown) (cw := zcV F n sl) (as := [zI (-1), zI 0]) (rest := []) (na := 2) (ci := 11) rfl dX11_pass_3 wC_X11_spreadKnown wN_X11 wM_X11_194 wI_X11_spreadKnown wV_X11_spreadKnown (by decide) (by decide) rfl rfl (Nat.le_of_ble_eq_true rfl) rfl (by decide) (gk_0 hG) (fun r hr => zMet_cast (Nat.add_assoc d 0 5) (mX11_spreadKnown (d := d + 0) hG (-1) 0 r hr)) ?_
    intro D_2 _
    show zO _ _ _ _ _ _ [] (F, D_2, n, sl) _ _
    refine zO_aload_n dX11_pass_6 rfl (zR_P _) ?_
    refine gt11 (k := 12) dX11_pass_7 wF_X11_60 (by decide) (gk_0 hG) (zgv (c := 11) (k := 12) rfl (Or.inr ⟨_, rfl⟩) (gf_0_12 hG)) ?_
    refine zO_aload_n dX11_pass_10 rfl (zR_P _) ?_
    refine gt11 (k := 12) dX11_pass_11 wF_X11_60 (by decide) (gk_0 hG) (zgv (c := 11) (k := 12) rfl (Or.inr ⟨_, rfl⟩) (gf_0_12 hG)) ?_
    refine zO_aload_n dX11_pass_14 rfl (zR_P _) ?_
    refine gt11 (k := 0) dX11_pass_15 wF_X11_10 (by decide) (gk_0 hG) (zgv (c := 11) (k := 0) rfl (Or.inr ⟨_, rfl⟩) (gf_0_0 hG)) ?_
    refine gt9 (k := 6) dX11_pass_18 wF_X11_154 (by decide) (gk_1 hG) (zgv (c := 9) (k := 6) rfl (Or.inl ⟨_, rfl⟩) (gf_1_6 hG)) ?_
    refine zO_iconst dX11_pass_21 (by decide) ?_
    refine zO_iald dX11_pass_22 (gk_7 hG) (gl_in (gl_7 hG) (by decide)) ?_
    refine zO_callV (Y' := YX2_atLeast) (cw := zcJ F n sl) (as := [zI (D_2 7 2)]) (rest := [zR 52]) (na := 1) (ci := 2) rfl dX11_pass_23 wC_X2_atLeast wN_X2 wM_X11_198 wI_X2_atLeast wV_X2_atLeast (by decide) (by decide) rfl rfl (Nat.le_of_ble_eq_true rfl) rfl (by decide) (gk_52 hG) (fun r hr => zMet_cast (Nat.add_assoc d 4 1) (mX2_atLeast (d := d + 4) hG (D_2 7 2) r hr)) ?_
    rintro ⟨r_3, D_4⟩ -
    show zO _ _ _ _ _ _ [zL r_3, zR 52] (F, D_4, n, sl) _ _
    refine zO_iload_n dX11_pass_26 rfl ?_
    refine zO_callV (Y' := YX2_fraction) (cw := zcJ F n sl) (as := [zL r_3, zI v1]) (rest := []) (na := 2) (ci := 2) rfl dX11_pass_27 wC_X2_fraction wN_X2 wM_X11_202 wI_X2_fraction wV_X2_fraction (by decide) (by decide) rfl rfl (Nat.le_of_ble_eq_true rfl) rfl (by decide) (gk_52 hG) (fun r hr => zMet_cast (Nat.add_assoc d 4 1) (mX2_fraction (d := d + 4) hG r_3 v1 r hr)) ?_
    rintro ⟨r_5, D_6⟩ -
    show zO _ _ _ _ _ _ [zL r_5] (F, D_6, n, sl) _ _
    exact zO_ret (rv := some (zL r_5)) dX11_pass_30 rfl trivial rfl
  exact hz r hr
theorem dX11_right_0 : decode cX11_right 0 = .ok (.iload_n 1, 1) := by decide +kernel
theorem dX11_right_1 : decode cX11_right 1 = .ok (.ifCond .lt 8, 3) := by decide +kernel
theorem dX11_right_4 : decode cX11_right 4 = .ok (.iload_n 1, 1) := by decide +kernel
theorem dX11_right_5 : decode cX11_right 5 = .ok (.iconst 3, 1) := by decide +kernel
theorem dX11_right_6 : decode cX11_right 6 = .ok (.if_icmp .le 7, 3) := by decide +kernel
theorem dX11_right_9 : decode cX11_right 9 = .ok (.ldc2_w 206, 3) := by decide +kernel
theorem dX11_right_12 : decode cX11_right 12 = .ok (.lreturn, 1) := by decide +kernel
theorem dX11_right_13 : decode cX11_right 13 = .ok (.aload_n 0, 1) := by decide +kernel
theorem dX11_right_14 : decode cX11_right 14 = .ok (.iconst (-1), 1) := by decide +kernel
theorem dX11_right_15 : decode cX11_right 15 = .ok (.iconst 0, 1) := by decide +kernel
theorem dX11_right_16 : decode cX11_right 16 = .ok (.invokevirtual 194, 3) := by decide +kernel
theorem dX11_right_19 : decode cX11_right 19 = .ok (.aload_n 0, 1) := by decide +kernel
theorem dX11_right_20 : decode cX11_right 20 = .ok (.getfield 60, 3) := by decide +kernel
theorem dX11_right_23 : decode cX11_right 23 = .ok (.aload_n 0, 1) := by decide +kernel
theorem dX11_right_24 : decode cX11_right 24 = .ok (.getfield 60, 3) := by decide +kernel
theorem dX11_right_27 : decode cX11_right 27 = .ok (.iload_n 1, 1) := by decide +kernel
theorem dX11_right_28 : decode cX11_right 28 = .ok (.invokevirtual 208, 3) := by decide +kernel
theorem dX11_right_31 : decode cX11_right 31 = .ok (.iload_n 2, 1) := by decide +kernel
theorem dX11_right_32 : decode cX11_right 32 = .ok (.invokevirtual 202, 3) := by decide +kernel
theorem dX11_right_35 : decode cX11_right 35 = .ok (.lreturn, 1) := by decide +kernel
abbrev YX11_right : zY := (yX11_right, cX11_right, 3, (Option.some Jvm.ClassFile.FieldType.long), [])
def fX11_right (F : zFs) (v1 : Int) (v2 : Int) (D : zDa) : Option (Int × zDa) :=
  if v1 < 0 then
    some ((-1), D)
  else
    if 3 < v1 then
      some ((-1), D)
    else
      (fX11_spreadKnown F (-1) 0 D).bind (fun D_2 =>
        (fX2_just F v1 D_2).bind (fun (r_3, D_4) =>
          (fX2_fraction F r_3 v2 D_4).bind (fun (r_5, D_6) =>
            some (r_5, D_6))))
set_option maxHeartbeats 20000000 in
theorem mX11_right {l : Launch} {E : zE} {d : Nat} {F : zFs} {n sl : Nat} (hG : zG F) (v1 : Int) (v2 : Int) {D : zDa} : ∀ r, fX11_right F  v1 v2 D = some r → zMet l E (d + 6) YX11_right [zR 0, zI v1, zI v2] (F, D, n, sl) (zcJ F n sl r) := by
  intro r hr
  refine zMet_of (plainFor_of_name (by decide)) (fun _ h => (nomatch h)) (Nat.le_of_ble_eq_true rfl) ?_
  have hz : zO l E (d + 6) YX11_right 0 [(0, zR 0), (1, zI v1), (2, zI v2)] [] (F, D, n, sl) (zcJ F n sl) (fX11_right F  v1 v2 D) := by
    unfold fX11_right
    refine zO_iload_n dX11_right_0 rfl ?_
    refine zO_if_lt (tgt := 9) dX11_right_1 rfl (fun c1 => ?_) (fun c1 => ?_)
    · refine zO_ldc2 (n := -1) dX11_right_9 wK_X11_206 (by decide) ?_
      exact zO_ret (rv := some (zL (-1))) dX11_right_12 rfl trivial rfl
    · refine zO_iload_n dX11_right_4 rfl ?_
      refine zO_iconst dX11_right_5 (by decide) ?_
      refine zO_icmp_le (tgt := 13) dX11_right_6 rfl (fun c6 => ?_) (fun c6 => ?_)
      · refine zO_ldc2 (n := -1) dX11_right_9 wK_X11_206 (by decide) ?_
        exact zO_ret (rv := some (zL (-1))) dX11_right_12 rfl trivial rfl
      · refine zO_aload_n dX11_right_13 rfl (zR_P _) ?_
        refine zO_iconst dX11_right_14 (by decide) ?_
        refine zO_iconst dX11_right_15 (by decide) ?_
        refine zO_callV (Y' := YX11_spreadKnown) (cw := zcV F n sl) (as := [zI (-1), zI 0]) (rest := []) (na := 2) (ci := 11) rfl dX11_right_16 wC_X11_spreadKnown wN_X11 wM_X11_194 wI_X11_spreadKnown wV_X11_spreadKnown (by decide) (by decide) rfl rfl (Nat.le_of_ble_eq_true rfl) rfl (by decide) (gk_0 hG) (fun r hr => zMet_cast (Nat.add_assoc d 0 5) (mX11_spreadKnown (d := d + 0) hG (-1) 0 r hr)) ?_
        intro D_2 _
        show zO _ _ _ _ _ _ [] (F, D_2, n, sl) _ _
        refine zO_aload_n dX11_right_19 rfl (zR_P _) ?_
        refine gt11 (k := 12) dX11_right_20 wF_X11_60 (by decide) (gk_0 hG) (zgv (c := 11) (k := 12) rfl (Or.inr ⟨_, rfl⟩) (gf_0_12 hG)) ?_
        refine zO_aload_n dX11_right_23 rfl (zR_P _) ?_
        refine gt11 (k := 12) dX11_right_24 wF_X11_60 (by decide) (gk_0 hG) (zgv (c := 11) (k := 12) rfl (Or.inr ⟨_, rfl⟩) (gf_0_12 hG)) ?_
        refine zO_iload_n dX11_right_27 rfl ?_
        refine zO_callV (Y' := YX2_just) (cw := zcJ F n sl) (as := [zI v1]) (rest := [zR 52]) (na := 1) (ci := 2) rfl dX11_right_28 wC_X2_just wN_X2 wM_X11_208 wI_X2_just wV_X2_just (by decide) (by decide) rfl rfl (Nat.le_of_ble_eq_true rfl) rfl (by decide) (gk_52 hG) (fun r hr => zMet_cast (Nat.add_assoc d 5 0) (mX2_just (d := d + 5) hG v1 r hr)) ?_
        rintro ⟨r_3, D_4⟩ -
        show zO _ _ _ _ _ _ [zL r_3, zR 52] (F, D_4, n, sl) _ _
        refine zO_iload_n dX11_right_31 rfl ?_
        refine zO_callV (Y' := YX2_fraction) (cw := zcJ F n sl) (as := [zL r_3, zI v2]) (rest := []) (na := 2) (ci := 2) rfl dX11_right_32 wC_X2_fraction wN_X2 wM_X11_202 wI_X2_fraction wV_X2_fraction (by decide) (by decide) rfl rfl (Nat.le_of_ble_eq_true rfl) rfl (by decide) (gk_52 hG) (fun r hr => zMet_cast (Nat.add_assoc d 4 1) (mX2_fraction (d := d + 4) hG r_3 v2 r hr)) ?_
        rintro ⟨r_5, D_6⟩ -
        show zO _ _ _ _ _ _ [zL r_5] (F, D_6, n, sl) _ _
        exact zO_ret (rv := some (zL r_5)) dX11_right_35 rfl trivial rfl
  exact hz r hr
theorem dX11_mean_0 : decode cX11_mean 0 = .ok (.aload_n 0, 1) := by decide +kernel
theorem dX11_mean_1 : decode cX11_mean 1 = .ok (.iconst (-1), 1) := by decide +kernel
theorem dX11_mean_2 : decode cX11_mean 2 = .ok (.iconst 0, 1) := by decide +kernel
theorem dX11_mean_3 : decode cX11_mean 3 = .ok (.invokevirtual 194, 3) := by decide +kernel
theorem dX11_mean_6 : decode cX11_mean 6 = .ok (.aload_n 0, 1) := by decide +kernel
theorem dX11_mean_7 : decode cX11_mean 7 = .ok (.getfield 60, 3) := by decide +kernel
theorem dX11_mean_10 : decode cX11_mean 10 = .ok (.aload_n 0, 1) := by decide +kernel
theorem dX11_mean_11 : decode cX11_mean 11 = .ok (.getfield 60, 3) := by decide +kernel
theorem dX11_mean_14 : decode cX11_mean 14 = .ok (.iconst 1, 1) := by decide +kernel
theorem dX11_mean_15 : decode cX11_mean 15 = .ok (.invokevirtual 208, 3) := by decide +kernel
theorem dX11_mean_18 : decode cX11_mean 18 = .ok (.ldc2_w 211, 3) := by decide +kernel
theorem dX11_mean_21 : decode cX11_mean 21 = .ok (.aload_n 0, 1) := by decide +kernel
theorem dX11_mean_22 : decode cX11_mean 22 = .ok (.getfield 60, 3) := by decide +kernel
theorem dX11_mean_25 : decode cX11_mean 25 = .ok (.iconst 2, 1) := by decide +kernel
theorem dX11_mean_26 : decode cX11_mean 26 = .ok (.invokevirtual 208, 3) := by decide +kernel
theorem dX11_mean_29 : decode cX11_mean 29 = .ok (.lmul, 1) := by decide +kernel
theorem dX11_mean_30 : decode cX11_mean 30 = .ok (.ladd, 1) := by decide +kernel
theorem dX11_mean_31 : decode cX11_mean 31 = .ok (.ldc2_w 213, 3) := by decide +kernel
theorem dX11_mean_34 : decode cX11_mean 34 = .ok (.aload_n 0, 1) := by decide +kernel
theorem dX11_mean_35 : decode cX11_mean 35 = .ok (.getfield 60, 3) := by decide +kernel
theorem dX11_mean_38 : decode cX11_mean 38 = .ok (.iconst 3, 1) := by decide +kernel
theorem dX11_mean_39 : decode cX11_mean 39 = .ok (.invokevirtual 208, 3) := by decide +kernel
theorem dX11_mean_42 : decode cX11_mean 42 = .ok (.lmul, 1) := by decide +kernel
theorem dX11_mean_43 : decode cX11_mean 43 = .ok (.ladd, 1) := by decide +kernel
theorem dX11_mean_44 : decode cX11_mean 44 = .ok (.iload_n 1, 1) := by decide +kernel
theorem dX11_mean_45 : decode cX11_mean 45 = .ok (.invokevirtual 202, 3) := by decide +kernel
theorem dX11_mean_48 : decode cX11_mean 48 = .ok (.lreturn, 1) := by decide +kernel
abbrev YX11_mean : zY := (yX11_mean, cX11_mean, 2, (Option.some Jvm.ClassFile.FieldType.long), [])
def fX11_mean (F : zFs) (v1 : Int) (D : zDa) : Option (Int × zDa) :=
  (fX11_spreadKnown F (-1) 0 D).bind (fun D_2 =>
    (fX2_just F 1 D_2).bind (fun (r_3, D_4) =>
      (fX2_just F 2 D_4).bind (fun (r_5, D_6) =>
        if (-9223372036854775808 ≤ 2 * r_5 ∧ 2 * r_5 ≤ 9223372036854775807) ∧ (-9223372036854775808 ≤ r_3 + (2 * r_5) ∧ r_3 + (2 * r_5) ≤ 9223372036854775807) then
          (fX2_just F 3 D_6).bind (fun (r_7, D_8) =>
            if (-9223372036854775808 ≤ 3 * r_7 ∧ 3 * r_7 ≤ 9223372036854775807) ∧ (-9223372036854775808 ≤ (r_3 + (2 * r_5)) + (3 * r_7) ∧ (r_3 + (2 * r_5)) + (3 * r_7) ≤ 9223372036854775807) then
              (fX2_fraction F ((r_3 + (2 * r_5)) + (3 * r_7)) v1 D_8).bind (fun (r_9, D_10) =>
                some (r_9, D_10))
            else none)
        else none)))
set_option maxHeartbeats 20000000 in
theorem mX11_mean {l : Launch} {E : zE} {d : Nat} {F : zFs} {n sl : Nat} (hG : zG F) (v1 : Int) {D : zDa} : ∀ r, fX11_mean F  v1 D = some r → zMet l E (d + 6) YX11_mean [zR 0, zI v1] (F, D, n, sl) (zcJ F n sl r) := by
  intro r hr
  refine zMet_of (plainFor_of_name (by decide)) (fun _ h => (nomatch h)) (Nat.le_of_ble_eq_true rfl) ?_
  have hz : zO l E (d + 6) YX11_mean 0 [(0, zR 0), (1, zI v1)] [] (F, D, n, sl) (zcJ F n sl) (fX11_mean F  v1 D) := by
    unfold fX11_mean
    refine zO_aload_n dX11_mean_0 rfl (zR_P _) ?_
    refine zO_iconst dX11_mean_1 (by decide) ?_
    refine zO_iconst dX11_mean_2 (by decide) ?_
    refine zO_callV (Y' := YX11_spreadKnown) (cw := zcV F n sl) (as := [zI (-1), zI 0]) (rest := []) (na := 2) (ci := 11) rfl dX11_mean_3 wC_X11_spreadKnown wN_X11 wM_X11_194 wI_X11_spreadKnown wV_X11_spreadKnown (by decide) (by decide) rfl rfl (Nat.le_of_ble_eq_true rfl) rfl (by decide) (gk_0 hG) (fun r hr => zMet_cast (Nat.add_assoc d 0 5) (mX11_spreadKnown (d := d + 0) hG (-1) 0 r hr)) ?_
    intro D_2 _
    show zO _ _ _ _ _ _ [] (F, D_2, n, sl) _ _
    refine zO_aload_n dX11_mean_6 rfl (zR_P _) ?_
    refine gt11 (k := 12) dX11_mean_7 wF_X11_60 (by decide) (gk_0 hG) (zgv (c := 11) (k := 12) rfl (Or.inr ⟨_, rfl⟩) (gf_0_12 hG)) ?_
    refine zO_aload_n dX11_mean_10 rfl (zR_P _) ?_
    refine gt11 (k := 12) dX11_mean_11 wF_X11_60 (by decide) (gk_0 hG) (zgv (c := 11) (k := 12) rfl (Or.inr ⟨_, rfl⟩) (gf_0_12 hG)) ?_
    refine zO_iconst dX11_mean_14 (by decide) ?_
    refine zO_callV (Y' := YX2_just) (cw := zcJ F n sl) (as := [zI 1]) (rest := [zR 52]) (na := 1) (ci := 2) rfl dX11_mean_15 wC_X2_just wN_X2 wM_X11_208 wI_X2_just wV_X2_just (by decide) (by decide) rfl rfl (Nat.le_of_ble_eq_true rfl) rfl (by decide) (gk_52 hG) (fun r hr => zMet_cast (Nat.add_assoc d 5 0) (mX2_just (d := d + 5) hG 1 r hr)) ?_
    rintro ⟨r_3, D_4⟩ -
    show zO _ _ _ _ _ _ [zL r_3, zR 52] (F, D_4, n, sl) _ _
    refine zO_ldc2 (n := 2) dX11_mean_18 wK_X11_211 (by decide) ?_
    refine zO_aload_n dX11_mean_21 rfl (zR_P _) ?_
    refine gt11 (k := 12) dX11_mean_22 wF_X11_60 (by decide) (gk_0 hG) (zgv (c := 11) (k := 12) rfl (Or.inr ⟨_, rfl⟩) (gf_0_12 hG)) ?_
    refine zO_iconst dX11_mean_25 (by decide) ?_
    refine zO_callV (Y' := YX2_just) (cw := zcJ F n sl) (as := [zI 2]) (rest := [zL 2, zL r_3, zR 52]) (na := 1) (ci := 2) rfl dX11_mean_26 wC_X2_just wN_X2 wM_X11_208 wI_X2_just wV_X2_just (by decide) (by decide) rfl rfl (Nat.le_of_ble_eq_true rfl) rfl (by decide) (gk_52 hG) (fun r hr => zMet_cast (Nat.add_assoc d 5 0) (mX2_just (d := d + 5) hG 2 r hr)) ?_
    rintro ⟨r_5, D_6⟩ -
    show zO _ _ _ _ _ _ [zL r_5, zL 2, zL r_3, zR 52] (F, D_6, n, sl) _ _
    refine zO_chk (fun h1 => ?_)
    refine zO_lmul dX11_mean_29 h1.1 ?_
    refine zO_ladd dX11_mean_30 h1.2 ?_
    refine zO_ldc2 (n := 3) dX11_mean_31 wK_X11_213 (by decide) ?_
    refine zO_aload_n dX11_mean_34 rfl (zR_P _) ?_
    refine gt11 (k := 12) dX11_mean_35 wF_X11_60 (by decide) (gk_0 hG) (zgv (c := 11) (k := 12) rfl (Or.inr ⟨_, rfl⟩) (gf_0_12 hG)) ?_
    refine zO_iconst dX11_mean_38 (by decide) ?_
    refine zO_callV (Y' := YX2_just) (cw := zcJ F n sl) (as := [zI 3]) (rest := [zL 3, zL (r_3 + (2 * r_5)), zR 52]) (na := 1) (ci := 2) rfl dX11_mean_39 wC_X2_just wN_X2 wM_X11_208 wI_X2_just wV_X2_just (by decide) (by decide) rfl rfl (Nat.le_of_ble_eq_true rfl) rfl (by decide) (gk_52 hG) (fun r hr => zMet_cast (Nat.add_assoc d 5 0) (mX2_just (d := d + 5) hG 3 r hr)) ?_
    rintro ⟨r_7, D_8⟩ -
    show zO _ _ _ _ _ _ [zL r_7, zL 3, zL (r_3 + (2 * r_5)), zR 52] (F, D_8, n, sl) _ _
    refine zO_chk (fun h2 => ?_)
    refine zO_lmul dX11_mean_42 h2.1 ?_
    refine zO_ladd dX11_mean_43 h2.2 ?_
    refine zO_iload_n dX11_mean_44 rfl ?_
    refine zO_callV (Y' := YX2_fraction) (cw := zcJ F n sl) (as := [zL ((r_3 + (2 * r_5)) + (3 * r_7)), zI v1]) (rest := []) (na := 2) (ci := 2) rfl dX11_mean_45 wC_X2_fraction wN_X2 wM_X11_202 wI_X2_fraction wV_X2_fraction (by decide) (by decide) rfl rfl (Nat.le_of_ble_eq_true rfl) rfl (by decide) (gk_52 hG) (fun r hr => zMet_cast (Nat.add_assoc d 4 1) (mX2_fraction (d := d + 4) hG ((r_3 + (2 * r_5)) + (3 * r_7)) v1 r hr)) ?_
    rintro ⟨r_9, D_10⟩ -
    show zO _ _ _ _ _ _ [zL r_9] (F, D_10, n, sl) _ _
    exact zO_ret (rv := some (zL r_9)) dX11_mean_48 rfl trivial rfl
  exact hz r hr
theorem dX11_spreadSure_0 : decode cX11_spreadSure 0 = .ok (.aload_n 0, 1) := by decide +kernel
theorem dX11_spreadSure_1 : decode cX11_spreadSure 1 = .ok (.getfield 10, 3) := by decide +kernel
theorem dX11_spreadSure_4 : decode cX11_spreadSure 4 = .ok (.invokevirtual 215, 3) := by decide +kernel
theorem dX11_spreadSure_7 : decode cX11_spreadSure 7 = .ok (.istore_n 2, 1) := by decide +kernel
theorem dX11_spreadSure_8 : decode cX11_spreadSure 8 = .ok (.aload_n 0, 1) := by decide +kernel
theorem dX11_spreadSure_9 : decode cX11_spreadSure 9 = .ok (.getfield 60, 3) := by decide +kernel
theorem dX11_spreadSure_12 : decode cX11_spreadSure 12 = .ok (.invokevirtual 374, 3) := by decide +kernel
theorem dX11_spreadSure_15 : decode cX11_spreadSure 15 = .ok (.iconst 0, 1) := by decide +kernel
theorem dX11_spreadSure_16 : decode cX11_spreadSure 16 = .ok (.istore_n 3, 1) := by decide +kernel
theorem dX11_spreadSure_17 : decode cX11_spreadSure 17 = .ok (.iload_n 3, 1) := by decide +kernel
theorem dX11_spreadSure_18 : decode cX11_spreadSure 18 = .ok (.iload_n 2, 1) := by decide +kernel
theorem dX11_spreadSure_19 : decode cX11_spreadSure 19 = .ok (.if_icmp .ge 27, 3) := by decide +kernel
theorem dX11_spreadSure_22 : decode cX11_spreadSure 22 = .ok (.aload_n 0, 1) := by decide +kernel
theorem dX11_spreadSure_23 : decode cX11_spreadSure 23 = .ok (.getfield 60, 3) := by decide +kernel
theorem dX11_spreadSure_26 : decode cX11_spreadSure 26 = .ok (.iload_n 3, 1) := by decide +kernel
theorem dX11_spreadSure_27 : decode cX11_spreadSure 27 = .ok (.iload_n 1, 1) := by decide +kernel
theorem dX11_spreadSure_28 : decode cX11_spreadSure 28 = .ok (.if_icmp .ge 7, 3) := by decide +kernel
theorem dX11_spreadSure_31 : decode cX11_spreadSure 31 = .ok (.iconst 2, 1) := by decide +kernel
theorem dX11_spreadSure_32 : decode cX11_spreadSure 32 = .ok (.goto 4, 3) := by decide +kernel
theorem dX11_spreadSure_35 : decode cX11_spreadSure 35 = .ok (.iconst 0, 1) := by decide +kernel
theorem dX11_spreadSure_36 : decode cX11_spreadSure 36 = .ok (.iconst 0, 1) := by decide +kernel
theorem dX11_spreadSure_37 : decode cX11_spreadSure 37 = .ok (.invokevirtual 377, 3) := by decide +kernel
theorem dX11_spreadSure_40 : decode cX11_spreadSure 40 = .ok (.iinc 3 1, 3) := by decide +kernel
theorem dX11_spreadSure_43 : decode cX11_spreadSure 43 = .ok (.goto (-26), 3) := by decide +kernel
theorem dX11_spreadSure_46 : decode cX11_spreadSure 46 = .ok (.aload_n 0, 1) := by decide +kernel
theorem dX11_spreadSure_47 : decode cX11_spreadSure 47 = .ok (.getfield 60, 3) := by decide +kernel
theorem dX11_spreadSure_50 : decode cX11_spreadSure 50 = .ok (.aload_n 0, 1) := by decide +kernel
theorem dX11_spreadSure_51 : decode cX11_spreadSure 51 = .ok (.getfield 10, 3) := by decide +kernel
theorem dX11_spreadSure_54 : decode cX11_spreadSure 54 = .ok (.getfield 154, 3) := by decide +kernel
theorem dX11_spreadSure_57 : decode cX11_spreadSure 57 = .ok (.iconst 0, 1) := by decide +kernel
theorem dX11_spreadSure_58 : decode cX11_spreadSure 58 = .ok (.iaload, 1) := by decide +kernel
theorem dX11_spreadSure_59 : decode cX11_spreadSure 59 = .ok (.aload_n 0, 1) := by decide +kernel
theorem dX11_spreadSure_60 : decode cX11_spreadSure 60 = .ok (.getfield 10, 3) := by decide +kernel
theorem dX11_spreadSure_63 : decode cX11_spreadSure 63 = .ok (.getfield 154, 3) := by decide +kernel
theorem dX11_spreadSure_66 : decode cX11_spreadSure 66 = .ok (.iconst 1, 1) := by decide +kernel
theorem dX11_spreadSure_67 : decode cX11_spreadSure 67 = .ok (.iaload, 1) := by decide +kernel
theorem dX11_spreadSure_68 : decode cX11_spreadSure 68 = .ok (.iconst 0, 1) := by decide +kernel
theorem dX11_spreadSure_69 : decode cX11_spreadSure 69 = .ok (.invokevirtual 380, 3) := by decide +kernel
theorem dX11_spreadSure_72 : decode cX11_spreadSure 72 = .ok (.return_, 1) := by decide +kernel
abbrev YX11_spreadSure : zY := (yX11_spreadSure, cX11_spreadSure, 4, none, [])
def fX11_spreadSure_36 (F : zFs) (k_17 : Int → zDa → Option zDa) (o1 : Int) (o2 : Int) (v3 : Int) (s0 : Int) (D : zDa) : Option zDa :=
  (fX2_put F s0 0 D).bind (fun D_6 =>
    if (-2147483648 ≤ v3 + 1 ∧ v3 + 1 ≤ 2147483647) then
      k_17 (v3 + 1) D_6
    else none)
def fX11_spreadSure_17 (F : zFs) (o1 : Int) (o2 : Int)  (k_17 : Int → zDa → Option zDa) (v3 : Int) (D : zDa) : Option zDa :=
  if v3 < o2 then
    if v3 < o1 then
      fX11_spreadSure_36 F k_17 o1 o2 v3 2 D
    else
      fX11_spreadSure_36 F k_17 o1 o2 v3 0 D
  else
    (fX2_spread F (D 7 0) (D 7 1) 0 D).bind (fun D_8 =>
      some D_8)
def fX11_spreadSure (F : zFs) (v1 : Int) (D : zDa) : Option zDa :=
  (fX9_bowlSize F D).bind (fun (r_1, D_2) =>
    (fX2_empty F D_2).bind (fun D_4 =>
      zfix (fun _ _ => none) (fX11_spreadSure_17 F v1 r_1) zfu 0 D_4))
set_option maxHeartbeats 20000000 in
theorem sX11_spreadSure_36 {l : Launch} {E : zE} {d : Nat} {F : zFs} {n sl : Nat} (hG : zG F)  (o1 : Int) (o2 : Int) (v3 : Int) (s0 : Int) (k_17 : Int → zDa → Option zDa) (hk_17 : ∀ (u3 : Int) (D : zDa), zO l E (d + 4) YX11_spreadSure 17 [(0, zR 0), (1, zI o1), (2, zI o2), (3, zI u3)] [] (F, D, n, sl) (zcV F n sl) (k_17 u3 D)) (D : zDa) : zO l E (d + 4) YX11_spreadSure 36 [(0, zR 0), (1, zI o1), (2, zI o2), (3, zI v3)] [zI s0, zR 52] (F, D, n, sl) (zcV F n sl) (fX11_spreadSure_36 F k_17 o1 o2 v3 s0 D) := by
  unfold fX11_spreadSure_36
  refine zO_iconst dX11_spreadSure_36 (by decide) ?_
  refine zO_callV (Y' := YX2_put) (cw := zcV F n sl) (as := [zI s0, zI 0]) (rest := []) (na := 2) (ci := 2) rfl dX11_spreadSure_37 wC_X2_put wN_X2 wM_X11_377 wI_X2_put wV_X2_put (by decide) (by decide) rfl rfl (Nat.le_of_ble_eq_true rfl) rfl (by decide) (gk_52 hG) (fun r hr => zMet_cast (Nat.add_assoc d 3 0) (mX2_put (d := d + 3) hG s0 0 r hr)) ?_
  intro D_6 _
  show zO _ _ _ _ _ _ [] (F, D_6, n, sl) _ _
  refine zO_chk (fun h1 => ?_)
  refine zO_iinc dX11_spreadSure_40 rfl h1 (by decide) ?_
  refine zO_ls (ls' := [(0, zR 0), (1, zI o1), (2, zI o2), (3, zI (v3 + 1))]) rfl ?_
  refine zO_goto (tgt := 17) dX11_spreadSure_43 rfl ?_
  refine zO_live [0, 1, 2, 3] ?_
  exact hk_17 (v3 + 1) D_6
set_option maxHeartbeats 20000000 in
theorem sX11_spreadSure_17 {l : Launch} {E : zE} {d : Nat} {F : zFs} {n sl : Nat} (hG : zG F)  (o1 : Int) (o2 : Int)   : ∀ (N : Nat) (v3 : Int) (D : zDa), zO l E (d + 4) YX11_spreadSure 17 [(0, zR 0), (1, zI o1), (2, zI o2), (3, zI v3)] [] (F, D, n, sl) (zcV F n sl) (zfix (fun _ _ => none) (fX11_spreadSure_17 F o1 o2) N v3 D) := by
  intro N
  induction N with
  | zero => intro v3 D; exact zO_none
  | succ N hk_17 =>
    intro v3 D
    show zO _ _ _ _ _ _ _ _ _ ((fX11_spreadSure_17 F o1 o2) (zfix (fun _ _ => none) (fX11_spreadSure_17 F o1 o2) N) v3 D)
    unfold fX11_spreadSure_17
    refine zO_iload_n dX11_spreadSure_17 rfl ?_
    refine zO_iload_n dX11_spreadSure_18 rfl ?_
    refine zO_icmp_ge (tgt := 46) dX11_spreadSure_19 rfl (fun c19 => ?_) (fun c19 => ?_)
    · refine zO_aload_n dX11_spreadSure_22 rfl (zR_P _) ?_
      refine gt11 (k := 12) dX11_spreadSure_23 wF_X11_60 (by decide) (gk_0 hG) (zgv (c := 11) (k := 12) rfl (Or.inr ⟨_, rfl⟩) (gf_0_12 hG)) ?_
      refine zO_iload_n dX11_spreadSure_26 rfl ?_
      refine zO_iload_n dX11_spreadSure_27 rfl ?_
      refine zO_icmp_ge (tgt := 35) dX11_spreadSure_28 rfl (fun c28 => ?_) (fun c28 => ?_)
      · refine zO_iconst dX11_spreadSure_31 (by decide) ?_
        refine zO_goto (tgt := 36) dX11_spreadSure_32 rfl ?_
        refine zO_live [0, 1, 2, 3] ?_
        exact sX11_spreadSure_36 hG o1 o2 v3 2 _ hk_17 D
      · refine zO_iconst dX11_spreadSure_35 (by decide) ?_
        refine zO_live [0, 1, 2, 3] ?_
        exact sX11_spreadSure_36 hG o1 o2 v3 0 _ hk_17 D
    · refine zO_aload_n dX11_spreadSure_46 rfl (zR_P _) ?_
      refine gt11 (k := 12) dX11_spreadSure_47 wF_X11_60 (by decide) (gk_0 hG) (zgv (c := 11) (k := 12) rfl (Or.inr ⟨_, rfl⟩) (gf_0_12 hG)) ?_
      refine zO_aload_n dX11_spreadSure_50 rfl (zR_P _) ?_
      refine gt11 (k := 0) dX11_spreadSure_51 wF_X11_10 (by decide) (gk_0 hG) (zgv (c := 11) (k := 0) rfl (Or.inr ⟨_, rfl⟩) (gf_0_0 hG)) ?_
      refine gt9 (k := 6) dX11_spreadSure_54 wF_X11_154 (by decide) (gk_1 hG) (zgv (c := 9) (k := 6) rfl (Or.inl ⟨_, rfl⟩) (gf_1_6 hG)) ?_
      refine zO_iconst dX11_spreadSure_57 (by decide) ?_
      refine zO_iald dX11_spreadSure_58 (gk_7 hG) (gl_in (gl_7 hG) (by decide)) ?_
      refine zO_aload_n dX11_spreadSure_59 rfl (zR_P _) ?_
      refine gt11 (k := 0) dX11_spreadSure_60 wF_X11_10 (by decide) (gk_0 hG) (zgv (c := 11) (k := 0) rfl (Or.inr ⟨_, rfl⟩) (gf_0_0 hG)) ?_
      refine gt9 (k := 6) dX11_spreadSure_63 wF_X11_154 (by decide) (gk_1 hG) (zgv (c := 9) (k := 6) rfl (Or.inl ⟨_, rfl⟩) (gf_1_6 hG)) ?_
      refine zO_iconst dX11_spreadSure_66 (by decide) ?_
      refine zO_iald dX11_spreadSure_67 (gk_7 hG) (gl_in (gl_7 hG) (by decide)) ?_
      refine zO_iconst dX11_spreadSure_68 (by decide) ?_
      refine zO_callV (Y' := YX2_spread) (cw := zcV F n sl) (as := [zI (D 7 0), zI (D 7 1), zI 0]) (rest := []) (na := 3) (ci := 2) rfl dX11_spreadSure_69 wC_X2_spread wN_X2 wM_X11_380 wI_X2_spread wV_X2_spread (by decide) (by decide) rfl rfl (Nat.le_of_ble_eq_true rfl) rfl (by decide) (gk_52 hG) (fun r hr => zMet_cast (Nat.add_assoc d 0 3) (mX2_spread (d := d + 0) hG (D 7 0) (D 7 1) 0 r hr)) ?_
      intro D_8 _
      show zO _ _ _ _ _ _ [] (F, D_8, n, sl) _ _
      exact zO_ret (rv := none) dX11_spreadSure_72 rfl trivial rfl
set_option maxHeartbeats 20000000 in
theorem mX11_spreadSure {l : Launch} {E : zE} {d : Nat} {F : zFs} {n sl : Nat} (hG : zG F) (v1 : Int) {D : zDa} : ∀ r, fX11_spreadSure F  v1 D = some r → zMet l E (d + 4) YX11_spreadSure [zR 0, zI v1] (F, D, n, sl) (zcV F n sl r) := by
  intro r hr
  refine zMet_of (plainFor_of_name (by decide)) (fun _ h => (nomatch h)) (Nat.le_of_ble_eq_true rfl) ?_
  have hz : zO l E (d + 4) YX11_spreadSure 0 [(0, zR 0), (1, zI v1)] [] (F, D, n, sl) (zcV F n sl) (fX11_spreadSure F  v1 D) := by
    unfold fX11_spreadSure
    refine zO_aload_n dX11_spreadSure_0 rfl (zR_P _) ?_
    refine gt11 (k := 0) dX11_spreadSure_1 wF_X11_10 (by decide) (gk_0 hG) (zgv (c := 11) (k := 0) rfl (Or.inr ⟨_, rfl⟩) (gf_0_0 hG)) ?_
    refine zO_callV (Y' := YX9_bowlSize) (cw := zcI F n sl) (as := []) (rest := []) (na := 0) (ci := 9) rfl dX11_spreadSure_4 wC_X9_bowlSize wN_X9 wM_X11_215 wI_X9_bowlSize wV_X9_bowlSize (by decide) (by decide) rfl rfl (Nat.le_of_ble_eq_true rfl) rfl (by decide) (gk_1 hG) (fun r hr => zMet_cast (Nat.add_assoc d 3 0) (mX9_bowlSize (d := d + 3) hG  r hr)) ?_
    rintro ⟨r_1, D_2⟩ -
    show zO _ _ _ _ _ _ [zI r_1] (F, D_2, n, sl) _ _
    refine zO_istore_n dX11_spreadSure_7 (by decide) ?_
    refine zO_ls (ls' := [(0, zR 0), (1, zI v1), (2, zI r_1)]) rfl ?_
    refine zO_aload_n dX11_spreadSure_8 rfl (zR_P _) ?_
    refine gt11 (k := 12) dX11_spreadSure_9 wF_X11_60 (by decide) (gk_0 hG) (zgv (c := 11) (k := 12) rfl (Or.inr ⟨_, rfl⟩) (gf_0_12 hG)) ?_
    refine zO_callV (Y' := YX2_empty) (cw := zcV F n sl) (as := []) (rest := []) (na := 0) (ci := 2) rfl dX11_spreadSure_12 wC_X2_empty wN_X2 wM_X11_374 wI_X2_empty wV_X2_empty (by decide) (by decide) rfl rfl (Nat.le_of_ble_eq_true rfl) rfl (by decide) (gk_52 hG) (fun r hr => zMet_cast (Nat.add_assoc d 2 1) (mX2_empty (d := d + 2) hG  r hr)) ?_
    intro D_4 _
    show zO _ _ _ _ _ _ [] (F, D_4, n, sl) _ _
    refine zO_iconst dX11_spreadSure_15 (by decide) ?_
    refine zO_istore_n dX11_spreadSure_16 (by decide) ?_
    refine zO_ls (ls' := [(0, zR 0), (1, zI v1), (2, zI r_1), (3, zI 0)]) rfl ?_
    refine zO_live [0, 1, 2, 3] ?_
    exact sX11_spreadSure_17 hG v1 r_1 zfu 0 D_4
  exact hz r hr
theorem dX11_sure_0 : decode cX11_sure 0 = .ok (.iload_n 1, 1) := by decide +kernel
theorem dX11_sure_1 : decode cX11_sure 1 = .ok (.ifCond .lt 14, 3) := by decide +kernel
theorem dX11_sure_4 : decode cX11_sure 4 = .ok (.iload_n 1, 1) := by decide +kernel
theorem dX11_sure_5 : decode cX11_sure 5 = .ok (.aload_n 0, 1) := by decide +kernel
theorem dX11_sure_6 : decode cX11_sure 6 = .ok (.getfield 10, 3) := by decide +kernel
theorem dX11_sure_9 : decode cX11_sure 9 = .ok (.invokevirtual 215, 3) := by decide +kernel
theorem dX11_sure_12 : decode cX11_sure 12 = .ok (.if_icmp .le 7, 3) := by decide +kernel
theorem dX11_sure_15 : decode cX11_sure 15 = .ok (.ldc2_w 206, 3) := by decide +kernel
theorem dX11_sure_18 : decode cX11_sure 18 = .ok (.lreturn, 1) := by decide +kernel
theorem dX11_sure_19 : decode cX11_sure 19 = .ok (.aload_n 0, 1) := by decide +kernel
theorem dX11_sure_20 : decode cX11_sure 20 = .ok (.getfield 60, 3) := by decide +kernel
theorem dX11_sure_23 : decode cX11_sure 23 = .ok (.aload_n 0, 1) := by decide +kernel
theorem dX11_sure_24 : decode cX11_sure 24 = .ok (.getfield 53, 3) := by decide +kernel
theorem dX11_sure_27 : decode cX11_sure 27 = .ok (.invokevirtual 219, 3) := by decide +kernel
theorem dX11_sure_30 : decode cX11_sure 30 = .ok (.aload_n 0, 1) := by decide +kernel
theorem dX11_sure_31 : decode cX11_sure 31 = .ok (.iload_n 1, 1) := by decide +kernel
theorem dX11_sure_32 : decode cX11_sure 32 = .ok (.invokevirtual 223, 3) := by decide +kernel
theorem dX11_sure_35 : decode cX11_sure 35 = .ok (.aload_n 0, 1) := by decide +kernel
theorem dX11_sure_36 : decode cX11_sure 36 = .ok (.getfield 60, 3) := by decide +kernel
theorem dX11_sure_39 : decode cX11_sure 39 = .ok (.aload_n 0, 1) := by decide +kernel
theorem dX11_sure_40 : decode cX11_sure 40 = .ok (.getfield 60, 3) := by decide +kernel
theorem dX11_sure_43 : decode cX11_sure 43 = .ok (.aload_n 0, 1) := by decide +kernel
theorem dX11_sure_44 : decode cX11_sure 44 = .ok (.getfield 10, 3) := by decide +kernel
theorem dX11_sure_47 : decode cX11_sure 47 = .ok (.getfield 154, 3) := by decide +kernel
theorem dX11_sure_50 : decode cX11_sure 50 = .ok (.iconst 2, 1) := by decide +kernel
theorem dX11_sure_51 : decode cX11_sure 51 = .ok (.iaload, 1) := by decide +kernel
theorem dX11_sure_52 : decode cX11_sure 52 = .ok (.invokevirtual 198, 3) := by decide +kernel
theorem dX11_sure_55 : decode cX11_sure 55 = .ok (.iload_n 2, 1) := by decide +kernel
theorem dX11_sure_56 : decode cX11_sure 56 = .ok (.invokevirtual 202, 3) := by decide +kernel
theorem dX11_sure_59 : decode cX11_sure 59 = .ok (.lreturn, 1) := by decide +kernel
abbrev YX11_sure : zY := (yX11_sure, cX11_sure, 3, (Option.some Jvm.ClassFile.FieldType.long), [])
def fX11_sure (F : zFs) (v1 : Int) (v2 : Int) (D : zDa) : Option (Int × zDa) :=
  if v1 < 0 then
    some ((-1), D)
  else
    (fX9_bowlSize F D).bind (fun (r_1, D_2) =>
      if r_1 < v1 then
        some ((-1), D_2)
      else
        (fX2_setChances F D_2).bind (fun D_4 =>
          (fX11_spreadSure F v1 D_4).bind (fun D_6 =>
            (fX2_atLeast F (D_6 7 2) D_6).bind (fun (r_7, D_8) =>
              (fX2_fraction F r_7 v2 D_8).bind (fun (r_9, D_10) =>
                some (r_9, D_10))))))
set_option maxHeartbeats 20000000 in
theorem mX11_sure {l : Launch} {E : zE} {d : Nat} {F : zFs} {n sl : Nat} (hG : zG F) (v1 : Int) (v2 : Int) {D : zDa} : ∀ r, fX11_sure F  v1 v2 D = some r → zMet l E (d + 5) YX11_sure [zR 0, zI v1, zI v2] (F, D, n, sl) (zcJ F n sl r) := by
  intro r hr
  refine zMet_of (plainFor_of_name (by decide)) (fun _ h => (nomatch h)) (Nat.le_of_ble_eq_true rfl) ?_
  have hz : zO l E (d + 5) YX11_sure 0 [(0, zR 0), (1, zI v1), (2, zI v2)] [] (F, D, n, sl) (zcJ F n sl) (fX11_sure F  v1 v2 D) := by
    unfold fX11_sure
    refine zO_iload_n dX11_sure_0 rfl ?_
    refine zO_if_lt (tgt := 15) dX11_sure_1 rfl (fun c1 => ?_) (fun c1 => ?_)
    · refine zO_ldc2 (n := -1) dX11_sure_15 wK_X11_206 (by decide) ?_
      exact zO_ret (rv := some (zL (-1))) dX11_sure_18 rfl trivial rfl
    · refine zO_iload_n dX11_sure_4 rfl ?_
      refine zO_aload_n dX11_sure_5 rfl (zR_P _) ?_
      refine gt11 (k := 0) dX11_sure_6 wF_X11_10 (by decide) (gk_0 hG) (zgv (c := 11) (k := 0) rfl (Or.inr ⟨_, rfl⟩) (gf_0_0 hG)) ?_
      refine zO_callV (Y' := YX9_bowlSize) (cw := zcI F n sl) (as := []) (rest := [zI v1]) (na := 0) (ci := 9) rfl dX11_sure_9 wC_X9_bowlSize wN_X9 wM_X11_215 wI_X9_bowlSize wV_X9_bowlSize (by decide) (by decide) rfl rfl (Nat.le_of_ble_eq_true rfl) rfl (by decide) (gk_1 hG) (fun r hr => zMet_cast (Nat.add_assoc d 4 0) (mX9_bowlSize (d := d + 4) hG  r hr)) ?_
      rintro ⟨r_1, D_2⟩ -
      show zO _ _ _ _ _ _ [zI r_1, zI v1] (F, D_2, n, sl) _ _
      refine zO_icmp_le (tgt := 19) dX11_sure_12 rfl (fun c12 => ?_) (fun c12 => ?_)
      · refine zO_ldc2 (n := -1) dX11_sure_15 wK_X11_206 (by decide) ?_
        exact zO_ret (rv := some (zL (-1))) dX11_sure_18 rfl trivial rfl
      · refine zO_aload_n dX11_sure_19 rfl (zR_P _) ?_
        refine gt11 (k := 12) dX11_sure_20 wF_X11_60 (by decide) (gk_0 hG) (zgv (c := 11) (k := 12) rfl (Or.inr ⟨_, rfl⟩) (gf_0_12 hG)) ?_
        refine zO_aload_n dX11_sure_23 rfl (zR_P _) ?_
        refine gt11 (k := 11) dX11_sure_24 wF_X11_53 (by decide) (gk_0 hG) (zgv (c := 11) (k := 11) rfl (Or.inr ⟨_, rfl⟩) (gf_0_11 hG)) ?_
        refine zO_callV (Y' := YX2_setChances) (cw := zcV F n sl) (as := [zR 49]) (rest := []) (na := 1) (ci := 2) rfl dX11_sure_27 wC_X2_setChances wN_X2 wM_X11_219 wI_X2_setChances wV_X2_setChances (by decide) (by decide) rfl rfl (Nat.le_of_ble_eq_true rfl) rfl (by decide) (gk_52 hG) (fun r hr => zMet_cast (Nat.add_assoc d 0 4) (mX2_setChances (d := d + 0) hG  r hr)) ?_
        intro D_4 _
        show zO _ _ _ _ _ _ [] (F, D_4, n, sl) _ _
        refine zO_aload_n dX11_sure_30 rfl (zR_P _) ?_
        refine zO_iload_n dX11_sure_31 rfl ?_
        refine zO_callV (Y' := YX11_spreadSure) (cw := zcV F n sl) (as := [zI v1]) (rest := []) (na := 1) (ci := 11) rfl dX11_sure_32 wC_X11_spreadSure wN_X11 wM_X11_223 wI_X11_spreadSure wV_X11_spreadSure (by decide) (by decide) rfl rfl (Nat.le_of_ble_eq_true rfl) rfl (by decide) (gk_0 hG) (fun r hr => zMet_cast (Nat.add_assoc d 0 4) (mX11_spreadSure (d := d + 0) hG v1 r hr)) ?_
        intro D_6 _
        show zO _ _ _ _ _ _ [] (F, D_6, n, sl) _ _
        refine zO_aload_n dX11_sure_35 rfl (zR_P _) ?_
        refine gt11 (k := 12) dX11_sure_36 wF_X11_60 (by decide) (gk_0 hG) (zgv (c := 11) (k := 12) rfl (Or.inr ⟨_, rfl⟩) (gf_0_12 hG)) ?_
        refine zO_aload_n dX11_sure_39 rfl (zR_P _) ?_
        refine gt11 (k := 12) dX11_sure_40 wF_X11_60 (by decide) (gk_0 hG) (zgv (c := 11) (k := 12) rfl (Or.inr ⟨_, rfl⟩) (gf_0_12 hG)) ?_
        refine zO_aload_n dX11_sure_43 rfl (zR_P _) ?_
        refine gt11 (k := 0) dX11_sure_44 wF_X11_10 (by decide) (gk_0 hG) (zgv (c := 11) (k := 0) rfl (Or.inr ⟨_, rfl⟩) (gf_0_0 hG)) ?_
        refine gt9 (k := 6) dX11_sure_47 wF_X11_154 (by decide) (gk_1 hG) (zgv (c := 9) (k := 6) rfl (Or.inl ⟨_, rfl⟩) (gf_1_6 hG)) ?_
        refine zO_iconst dX11_sure_50 (by decide) ?_
        refine zO_iald dX11_sure_51 (gk_7 hG) (gl_in (gl_7 hG) (by decide)) ?_
        refine zO_callV (Y' := YX2_atLeast) (cw := zcJ F n sl) (as := [zI (D_6 7 2)]) (rest := [zR 52]) (na := 1) (ci := 2) rfl dX11_sure_52 wC_X2_atLeast wN_X2 wM_X11_198 wI_X2_atLeast wV_X2_atLeast (by decide) (by decide) rfl rfl (Nat.le_of_ble_eq_true rfl) rfl (by decide) (gk_52 hG) (fun r hr => zMet_cast (Nat.add_assoc d 3 1) (mX2_atLeast (d := d + 3) hG (D_6 7 2) r hr)) ?_
        rintro ⟨r_7, D_8⟩ -
        show zO _ _ _ _ _ _ [zL r_7, zR 52] (F, D_8, n, sl) _ _
        refine zO_iload_n dX11_sure_55 rfl ?_
        refine zO_callV (Y' := YX2_fraction) (cw := zcJ F n sl) (as := [zL r_7, zI v2]) (rest := []) (na := 2) (ci := 2) rfl dX11_sure_56 wC_X2_fraction wN_X2 wM_X11_202 wI_X2_fraction wV_X2_fraction (by decide) (by decide) rfl rfl (Nat.le_of_ble_eq_true rfl) rfl (by decide) (gk_52 hG) (fun r hr => zMet_cast (Nat.add_assoc d 3 1) (mX2_fraction (d := d + 3) hG r_7 v2 r hr)) ?_
        rintro ⟨r_9, D_10⟩ -
        show zO _ _ _ _ _ _ [zL r_9] (F, D_10, n, sl) _ _
        exact zO_ret (rv := some (zL r_9)) dX11_sure_59 rfl trivial rfl
  exact hz r hr
theorem dX11_safe_0 : decode cX11_safe 0 = .ok (.aload_n 0, 1) := by decide +kernel
theorem dX11_safe_1 : decode cX11_safe 1 = .ok (.getfield 10, 3) := by decide +kernel
theorem dX11_safe_4 : decode cX11_safe 4 = .ok (.invokevirtual 215, 3) := by decide +kernel
theorem dX11_safe_7 : decode cX11_safe 7 = .ok (.istore_n 1, 1) := by decide +kernel
theorem dX11_safe_8 : decode cX11_safe 8 = .ok (.aload_n 0, 1) := by decide +kernel
theorem dX11_safe_9 : decode cX11_safe 9 = .ok (.getfield 60, 3) := by decide +kernel
theorem dX11_safe_12 : decode cX11_safe 12 = .ok (.aload_n 0, 1) := by decide +kernel
theorem dX11_safe_13 : decode cX11_safe 13 = .ok (.getfield 53, 3) := by decide +kernel
theorem dX11_safe_16 : decode cX11_safe 16 = .ok (.invokevirtual 219, 3) := by decide +kernel
theorem dX11_safe_19 : decode cX11_safe 19 = .ok (.iconst 0, 1) := by decide +kernel
theorem dX11_safe_20 : decode cX11_safe 20 = .ok (.istore_n 2, 1) := by decide +kernel
theorem dX11_safe_21 : decode cX11_safe 21 = .ok (.iload_n 2, 1) := by decide +kernel
theorem dX11_safe_22 : decode cX11_safe 22 = .ok (.iload_n 1, 1) := by decide +kernel
theorem dX11_safe_23 : decode cX11_safe 23 = .ok (.if_icmp .gt 43, 3) := by decide +kernel
theorem dX11_safe_26 : decode cX11_safe 26 = .ok (.aload_n 0, 1) := by decide +kernel
theorem dX11_safe_27 : decode cX11_safe 27 = .ok (.iload_n 2, 1) := by decide +kernel
theorem dX11_safe_28 : decode cX11_safe 28 = .ok (.invokevirtual 223, 3) := by decide +kernel
theorem dX11_safe_31 : decode cX11_safe 31 = .ok (.aload_n 0, 1) := by decide +kernel
theorem dX11_safe_32 : decode cX11_safe 32 = .ok (.getfield 60, 3) := by decide +kernel
theorem dX11_safe_35 : decode cX11_safe 35 = .ok (.aload_n 0, 1) := by decide +kernel
theorem dX11_safe_36 : decode cX11_safe 36 = .ok (.getfield 10, 3) := by decide +kernel
theorem dX11_safe_39 : decode cX11_safe 39 = .ok (.getfield 154, 3) := by decide +kernel
theorem dX11_safe_42 : decode cX11_safe 42 = .ok (.iconst 2, 1) := by decide +kernel
theorem dX11_safe_43 : decode cX11_safe 43 = .ok (.iaload, 1) := by decide +kernel
theorem dX11_safe_44 : decode cX11_safe 44 = .ok (.invokevirtual 198, 3) := by decide +kernel
theorem dX11_safe_47 : decode cX11_safe 47 = .ok (.aload_n 0, 1) := by decide +kernel
theorem dX11_safe_48 : decode cX11_safe 48 = .ok (.getfield 60, 3) := by decide +kernel
theorem dX11_safe_51 : decode cX11_safe 51 = .ok (.getfield 226, 3) := by decide +kernel
theorem dX11_safe_54 : decode cX11_safe 54 = .ok (.lcmp, 1) := by decide +kernel
theorem dX11_safe_55 : decode cX11_safe 55 = .ok (.ifCond .ne 5, 3) := by decide +kernel
theorem dX11_safe_58 : decode cX11_safe 58 = .ok (.iload_n 2, 1) := by decide +kernel
theorem dX11_safe_59 : decode cX11_safe 59 = .ok (.ireturn, 1) := by decide +kernel
theorem dX11_safe_60 : decode cX11_safe 60 = .ok (.iinc 2 1, 3) := by decide +kernel
theorem dX11_safe_63 : decode cX11_safe 63 = .ok (.goto (-42), 3) := by decide +kernel
theorem dX11_safe_66 : decode cX11_safe 66 = .ok (.iconst (-1), 1) := by decide +kernel
theorem dX11_safe_67 : decode cX11_safe 67 = .ok (.ireturn, 1) := by decide +kernel
abbrev YX11_safe : zY := (yX11_safe, cX11_safe, 3, (Option.some Jvm.ClassFile.FieldType.int), [])
def fX11_safe_21 (F : zFs) (o1 : Int)  (k_21 : Int → zDa → Option (Int × zDa)) (v2 : Int) (D : zDa) : Option (Int × zDa) :=
  if o1 < v2 then
    some ((-1), D)
  else
    (fX11_spreadSure F v2 D).bind (fun D_6 =>
      (fX2_atLeast F (D_6 7 2) D_6).bind (fun (r_7, D_8) =>
        if r_7 = (D_8 52 7) then
          some (v2, D_8)
        else
          if (-2147483648 ≤ v2 + 1 ∧ v2 + 1 ≤ 2147483647) then
            k_21 (v2 + 1) D_8
          else none))
def fX11_safe (F : zFs)  (D : zDa) : Option (Int × zDa) :=
  (fX9_bowlSize F D).bind (fun (r_1, D_2) =>
    (fX2_setChances F D_2).bind (fun D_4 =>
      zfix (fun _ _ => none) (fX11_safe_21 F r_1) zfu 0 D_4))
set_option maxHeartbeats 20000000 in
theorem sX11_safe_21 {l : Launch} {E : zE} {d : Nat} {F : zFs} {n sl : Nat} (hG : zG F)  (o1 : Int)   : ∀ (N : Nat) (v2 : Int) (D : zDa), zO l E (d + 5) YX11_safe 21 [(0, zR 0), (1, zI o1), (2, zI v2)] [] (F, D, n, sl) (zcI F n sl) (zfix (fun _ _ => none) (fX11_safe_21 F o1) N v2 D) := by
  intro N
  induction N with
  | zero => intro v2 D; exact zO_none
  | succ N hk_21 =>
    intro v2 D
    show zO _ _ _ _ _ _ _ _ _ ((fX11_safe_21 F o1) (zfix (fun _ _ => none) (fX11_safe_21 F o1) N) v2 D)
    unfold fX11_safe_21
    refine zO_iload_n dX11_safe_21 rfl ?_
    refine zO_iload_n dX11_safe_22 rfl ?_
    refine zO_icmp_gt (tgt := 66) dX11_safe_23 rfl (fun c23 => ?_) (fun c23 => ?_)
    · refine zO_iconst dX11_safe_66 (by decide) ?_
      exact zO_ret (rv := some (zI (-1))) dX11_safe_67 rfl rfl rfl
    · refine zO_aload_n dX11_safe_26 rfl (zR_P _) ?_
      refine zO_iload_n dX11_safe_27 rfl ?_
      refine zO_callV (Y' := YX11_spreadSure) (cw := zcV F n sl) (as := [zI v2]) (rest := []) (na := 1) (ci := 11) rfl dX11_safe_28 wC_X11_spreadSure wN_X11 wM_X11_223 wI_X11_spreadSure wV_X11_spreadSure (by decide) (by decide) rfl rfl (Nat.le_of_ble_eq_true rfl) rfl (by decide) (gk_0 hG) (fun r hr => zMet_cast (Nat.add_assoc d 0 4) (mX11_spreadSure (d := d + 0) hG v2 r hr)) ?_
      intro D_6 _
      show zO _ _ _ _ _ _ [] (F, D_6, n, sl) _ _
      refine zO_aload_n dX11_safe_31 rfl (zR_P _) ?_
      refine gt11 (k := 12) dX11_safe_32 wF_X11_60 (by decide) (gk_0 hG) (zgv (c := 11) (k := 12) rfl (Or.inr ⟨_, rfl⟩) (gf_0_12 hG)) ?_
      refine zO_aload_n dX11_safe_35 rfl (zR_P _) ?_
      refine gt11 (k := 0) dX11_safe_36 wF_X11_10 (by decide) (gk_0 hG) (zgv (c := 11) (k := 0) rfl (Or.inr ⟨_, rfl⟩) (gf_0_0 hG)) ?_
      refine gt9 (k := 6) dX11_safe_39 wF_X11_154 (by decide) (gk_1 hG) (zgv (c := 9) (k := 6) rfl (Or.inl ⟨_, rfl⟩) (gf_1_6 hG)) ?_
      refine zO_iconst dX11_safe_42 (by decide) ?_
      refine zO_iald dX11_safe_43 (gk_7 hG) (gl_in (gl_7 hG) (by decide)) ?_
      refine zO_callV (Y' := YX2_atLeast) (cw := zcJ F n sl) (as := [zI (D_6 7 2)]) (rest := []) (na := 1) (ci := 2) rfl dX11_safe_44 wC_X2_atLeast wN_X2 wM_X11_198 wI_X2_atLeast wV_X2_atLeast (by decide) (by decide) rfl rfl (Nat.le_of_ble_eq_true rfl) rfl (by decide) (gk_52 hG) (fun r hr => zMet_cast (Nat.add_assoc d 3 1) (mX2_atLeast (d := d + 3) hG (D_6 7 2) r hr)) ?_
      rintro ⟨r_7, D_8⟩ -
      show zO _ _ _ _ _ _ [zL r_7] (F, D_8, n, sl) _ _
      refine zO_aload_n dX11_safe_47 rfl (zR_P _) ?_
      refine gt11 (k := 12) dX11_safe_48 wF_X11_60 (by decide) (gk_0 hG) (zgv (c := 11) (k := 12) rfl (Or.inr ⟨_, rfl⟩) (gf_0_12 hG)) ?_
      refine gt2 (k := 7) (v := zL (D_8 52 7)) dX11_safe_51 wF_X11_226 (by decide) (gk_52 hG) rfl ?_
      refine zO_lif_ne (tgt := 60) dX11_safe_54 dX11_safe_55 rfl (fun c54 => ?_) (fun c54 => ?_)
      · refine zO_iload_n dX11_safe_58 rfl ?_
        exact zO_ret (rv := some (zI v2)) dX11_safe_59 rfl rfl rfl
      · refine zO_chk (fun h1 => ?_)
        refine zO_iinc dX11_safe_60 rfl h1 (by decide) ?_
        refine zO_ls (ls' := [(0, zR 0), (1, zI o1), (2, zI (v2 + 1))]) rfl ?_
        refine zO_goto (tgt := 21) dX11_safe_63 rfl ?_
        refine zO_live [0, 1, 2] ?_
        exact hk_21 (v2 + 1) D_8
set_option maxHeartbeats 20000000 in
theorem mX11_safe {l : Launch} {E : zE} {d : Nat} {F : zFs} {n sl : Nat} (hG : zG F)  {D : zDa} : ∀ r, fX11_safe F   D = some r → zMet l E (d + 5) YX11_safe [zR 0] (F, D, n, sl) (zcI F n sl r) := by
  intro r hr
  refine zMet_of (plainFor_of_name (by decide)) (fun _ h => (nomatch h)) (Nat.le_of_ble_eq_true rfl) ?_
  have hz : zO l E (d + 5) YX11_safe 0 [(0, zR 0)] [] (F, D, n, sl) (zcI F n sl) (fX11_safe F   D) := by
    unfold fX11_safe
    refine zO_aload_n dX11_safe_0 rfl (zR_P _) ?_
    refine gt11 (k := 0) dX11_safe_1 wF_X11_10 (by decide) (gk_0 hG) (zgv (c := 11) (k := 0) rfl (Or.inr ⟨_, rfl⟩) (gf_0_0 hG)) ?_
    refine zO_callV (Y' := YX9_bowlSize) (cw := zcI F n sl) (as := []) (rest := []) (na := 0) (ci := 9) rfl dX11_safe_4 wC_X9_bowlSize wN_X9 wM_X11_215 wI_X9_bowlSize wV_X9_bowlSize (by decide) (by decide) rfl rfl (Nat.le_of_ble_eq_true rfl) rfl (by decide) (gk_1 hG) (fun r hr => zMet_cast (Nat.add_assoc d 4 0) (mX9_bowlSize (d := d + 4) hG  r hr)) ?_
    rintro ⟨r_1, D_2⟩ -
    show zO _ _ _ _ _ _ [zI r_1] (F, D_2, n, sl) _ _
    refine zO_istore_n dX11_safe_7 (by decide) ?_
    refine zO_ls (ls' := [(0, zR 0), (1, zI r_1)]) rfl ?_
    refine zO_aload_n dX11_safe_8 rfl (zR_P _) ?_
    refine gt11 (k := 12) dX11_safe_9 wF_X11_60 (by decide) (gk_0 hG) (zgv (c := 11) (k := 12) rfl (Or.inr ⟨_, rfl⟩) (gf_0_12 hG)) ?_
    refine zO_aload_n dX11_safe_12 rfl (zR_P _) ?_
    refine gt11 (k := 11) dX11_safe_13 wF_X11_53 (by decide) (gk_0 hG) (zgv (c := 11) (k := 11) rfl (Or.inr ⟨_, rfl⟩) (gf_0_11 hG)) ?_
    refine zO_callV (Y' := YX2_setChances) (cw := zcV F n sl) (as := [zR 49]) (rest := []) (na := 1) (ci := 2) rfl dX11_safe_16 wC_X2_setChances wN_X2 wM_X11_219 wI_X2_setChances wV_X2_setChances (by decide) (by decide) rfl rfl (Nat.le_of_ble_eq_true rfl) rfl (by decide) (gk_52 hG) (fun r hr => zMet_cast (Nat.add_assoc d 0 4) (mX2_setChances (d := d + 0) hG  r hr)) ?_
    intro D_4 _
    show zO _ _ _ _ _ _ [] (F, D_4, n, sl) _ _
    refine zO_iconst dX11_safe_19 (by decide) ?_
    refine zO_istore_n dX11_safe_20 (by decide) ?_
    refine zO_ls (ls' := [(0, zR 0), (1, zI r_1), (2, zI 0)]) rfl ?_
    refine zO_live [0, 1, 2] ?_
    exact sX11_safe_21 hG r_1 zfu 0 D_4
  exact hz r hr
theorem dX11_worth_0 : decode cX11_worth 0 = .ok (.aload_n 0, 1) := by decide +kernel
theorem dX11_worth_1 : decode cX11_worth 1 = .ok (.getfield 10, 3) := by decide +kernel
theorem dX11_worth_4 : decode cX11_worth 4 = .ok (.iload_n 1, 1) := by decide +kernel
theorem dX11_worth_5 : decode cX11_worth 5 = .ok (.invokevirtual 126, 3) := by decide +kernel
theorem dX11_worth_8 : decode cX11_worth 8 = .ok (.ifCond .ne 6, 3) := by decide +kernel
theorem dX11_worth_11 : decode cX11_worth 11 = .ok (.ldc 230, 2) := by decide +kernel
theorem dX11_worth_13 : decode cX11_worth 13 = .ok (.ireturn, 1) := by decide +kernel
theorem dX11_worth_14 : decode cX11_worth 14 = .ok (.aload_n 0, 1) := by decide +kernel
theorem dX11_worth_15 : decode cX11_worth 15 = .ok (.getfield 10, 3) := by decide +kernel
theorem dX11_worth_18 : decode cX11_worth 18 = .ok (.getfield 136, 3) := by decide +kernel
theorem dX11_worth_21 : decode cX11_worth 21 = .ok (.iload_n 1, 1) := by decide +kernel
theorem dX11_worth_22 : decode cX11_worth 22 = .ok (.iaload, 1) := by decide +kernel
theorem dX11_worth_23 : decode cX11_worth 23 = .ok (.ifCond .eq 5, 3) := by decide +kernel
theorem dX11_worth_26 : decode cX11_worth 26 = .ok (.iconst 0, 1) := by decide +kernel
theorem dX11_worth_27 : decode cX11_worth 27 = .ok (.ireturn, 1) := by decide +kernel
theorem dX11_worth_28 : decode cX11_worth 28 = .ok (.aload_n 0, 1) := by decide +kernel
theorem dX11_worth_29 : decode cX11_worth 29 = .ok (.iload_n 1, 1) := by decide +kernel
theorem dX11_worth_30 : decode cX11_worth 30 = .ok (.iconst 2, 1) := by decide +kernel
theorem dX11_worth_31 : decode cX11_worth 31 = .ok (.invokevirtual 194, 3) := by decide +kernel
theorem dX11_worth_34 : decode cX11_worth 34 = .ok (.aload_n 0, 1) := by decide +kernel
theorem dX11_worth_35 : decode cX11_worth 35 = .ok (.getfield 60, 3) := by decide +kernel
theorem dX11_worth_38 : decode cX11_worth 38 = .ok (.aload_n 0, 1) := by decide +kernel
theorem dX11_worth_39 : decode cX11_worth 39 = .ok (.getfield 10, 3) := by decide +kernel
theorem dX11_worth_42 : decode cX11_worth 42 = .ok (.getfield 154, 3) := by decide +kernel
theorem dX11_worth_45 : decode cX11_worth 45 = .ok (.iconst 2, 1) := by decide +kernel
theorem dX11_worth_46 : decode cX11_worth 46 = .ok (.iaload, 1) := by decide +kernel
theorem dX11_worth_47 : decode cX11_worth 47 = .ok (.invokevirtual 198, 3) := by decide +kernel
theorem dX11_worth_50 : decode cX11_worth 50 = .ok (.aload_n 0, 1) := by decide +kernel
theorem dX11_worth_51 : decode cX11_worth 51 = .ok (.getfield 60, 3) := by decide +kernel
theorem dX11_worth_54 : decode cX11_worth 54 = .ok (.getfield 226, 3) := by decide +kernel
theorem dX11_worth_57 : decode cX11_worth 57 = .ok (.invokestatic 231, 3) := by decide +kernel
theorem dX11_worth_60 : decode cX11_worth 60 = .ok (.istore_n 2, 1) := by decide +kernel
theorem dX11_worth_61 : decode cX11_worth 61 = .ok (.aload_n 0, 1) := by decide +kernel
theorem dX11_worth_62 : decode cX11_worth 62 = .ok (.iload_n 1, 1) := by decide +kernel
theorem dX11_worth_63 : decode cX11_worth 63 = .ok (.iconst 0, 1) := by decide +kernel
theorem dX11_worth_64 : decode cX11_worth 64 = .ok (.invokevirtual 194, 3) := by decide +kernel
theorem dX11_worth_67 : decode cX11_worth 67 = .ok (.iload_n 2, 1) := by decide +kernel
theorem dX11_worth_68 : decode cX11_worth 68 = .ok (.aload_n 0, 1) := by decide +kernel
theorem dX11_worth_69 : decode cX11_worth 69 = .ok (.getfield 60, 3) := by decide +kernel
theorem dX11_worth_72 : decode cX11_worth 72 = .ok (.aload_n 0, 1) := by decide +kernel
theorem dX11_worth_73 : decode cX11_worth 73 = .ok (.getfield 10, 3) := by decide +kernel
theorem dX11_worth_76 : decode cX11_worth 76 = .ok (.getfield 154, 3) := by decide +kernel
theorem dX11_worth_79 : decode cX11_worth 79 = .ok (.iconst 2, 1) := by decide +kernel
theorem dX11_worth_80 : decode cX11_worth 80 = .ok (.iaload, 1) := by decide +kernel
theorem dX11_worth_81 : decode cX11_worth 81 = .ok (.invokevirtual 198, 3) := by decide +kernel
theorem dX11_worth_84 : decode cX11_worth 84 = .ok (.aload_n 0, 1) := by decide +kernel
theorem dX11_worth_85 : decode cX11_worth 85 = .ok (.getfield 60, 3) := by decide +kernel
theorem dX11_worth_88 : decode cX11_worth 88 = .ok (.getfield 226, 3) := by decide +kernel
theorem dX11_worth_91 : decode cX11_worth 91 = .ok (.invokestatic 231, 3) := by decide +kernel
theorem dX11_worth_94 : decode cX11_worth 94 = .ok (.isub, 1) := by decide +kernel
theorem dX11_worth_95 : decode cX11_worth 95 = .ok (.ireturn, 1) := by decide +kernel
abbrev YX11_worth : zY := (yX11_worth, cX11_worth, 3, (Option.some Jvm.ClassFile.FieldType.int), [])
def fX11_worth (F : zFs) (v1 : Int) (D : zDa) : Option (Int × zDa) :=
  (fX9_has F v1 D).bind (fun (r_1, D_2) =>
    if r_1 = 0 then
      some ((-10000000), D_2)
    else
      if (0 ≤ v1 ∧ v1 < 20) then
        if (D_2 6 v1.toNat) = 0 then
          (fX11_spreadKnown F v1 2 D_2).bind (fun D_4 =>
            (fX2_atLeast F (D_4 7 2) D_4).bind (fun (r_5, D_6) =>
              (fX2_millionths F r_5 (D_6 52 7) D_6).bind (fun (r_7, D_8) =>
                (fX11_spreadKnown F v1 0 D_8).bind (fun D_10 =>
                  (fX2_atLeast F (D_10 7 2) D_10).bind (fun (r_11, D_12) =>
                    (fX2_millionths F r_11 (D_12 52 7) D_12).bind (fun (r_13, D_14) =>
                      if (-2147483648 ≤ r_7 - r_13 ∧ r_7 - r_13 ≤ 2147483647) then
                        some ((r_7 - r_13), D_14)
                      else none))))))
        else
          some (0, D_2)
      else none)
set_option maxHeartbeats 20000000 in
theorem mX11_worth {l : Launch} {E : zE} {d : Nat} {F : zFs} {n sl : Nat} (hG : zG F) (v1 : Int) {D : zDa} : ∀ r, fX11_worth F  v1 D = some r → zMet l E (d + 6) YX11_worth [zR 0, zI v1] (F, D, n, sl) (zcI F n sl r) := by
  intro r hr
  refine zMet_of (plainFor_of_name (by decide)) (fun _ h => (nomatch h)) (Nat.le_of_ble_eq_true rfl) ?_
  have hz : zO l E (d + 6) YX11_worth 0 [(0, zR 0), (1, zI v1)] [] (F, D, n, sl) (zcI F n sl) (fX11_worth F  v1 D) := by
    unfold fX11_worth
    refine zO_aload_n dX11_worth_0 rfl (zR_P _) ?_
    refine gt11 (k := 0) dX11_worth_1 wF_X11_10 (by decide) (gk_0 hG) (zgv (c := 11) (k := 0) rfl (Or.inr ⟨_, rfl⟩) (gf_0_0 hG)) ?_
    refine zO_iload_n dX11_worth_4 rfl ?_
    refine zO_callV (Y' := YX9_has) (cw := zcI F n sl) (as := [zI v1]) (rest := []) (na := 1) (ci := 9) rfl dX11_worth_5 wC_X9_has wN_X9 wM_X11_126 wI_X9_has wV_X9_has (by decide) (by decide) rfl rfl (Nat.le_of_ble_eq_true rfl) rfl (by decide) (gk_1 hG) (fun r hr => zMet_cast (Nat.add_assoc d 5 0) (mX9_has (d := d + 5) hG v1 r hr)) ?_
    rintro ⟨r_1, D_2⟩ -
    show zO _ _ _ _ _ _ [zI r_1] (F, D_2, n, sl) _ _
    refine zO_if_ne (tgt := 14) dX11_worth_8 rfl (fun c8 => ?_) (fun c8 => ?_)
    · refine zO_ldc (n := -10000000) dX11_worth_11 wK_X11_230 (by decide) ?_
      exact zO_ret (rv := some (zI (-10000000))) dX11_worth_13 rfl rfl rfl
    · refine zO_chk (fun h1 => ?_)
      refine zO_aload_n dX11_worth_14 rfl (zR_P _) ?_
      refine gt11 (k := 0) dX11_worth_15 wF_X11_10 (by decide) (gk_0 hG) (zgv (c := 11) (k := 0) rfl (Or.inr ⟨_, rfl⟩) (gf_0_0 hG)) ?_
      refine gt9 (k := 4) dX11_worth_18 wF_X11_136 (by decide) (gk_1 hG) (zgv (c := 9) (k := 4) rfl (Or.inl ⟨_, rfl⟩) (gf_1_4 hG)) ?_
      refine zO_iload_n dX11_worth_21 rfl ?_
      refine zO_iald dX11_worth_22 (gk_6 hG) (gl_in (gl_6 hG) h1) ?_
      refine zO_if_eq (tgt := 28) dX11_worth_23 rfl (fun c23 => ?_) (fun c23 => ?_)
      · refine zO_aload_n dX11_worth_28 rfl (zR_P _) ?_
        refine zO_iload_n dX11_worth_29 rfl ?_
        refine zO_iconst dX11_worth_30 (by decide) ?_
        refine zO_callV (Y' := YX11_spreadKnown) (cw := zcV F n sl) (as := [zI v1, zI 2]) (rest := []) (na := 2) (ci := 11) rfl dX11_worth_31 wC_X11_spreadKnown wN_X11 wM_X11_194 wI_X11_spreadKnown wV_X11_spreadKnown (by decide) (by decide) rfl rfl (Nat.le_of_ble_eq_true rfl) rfl (by decide) (gk_0 hG) (fun r hr => zMet_cast (Nat.add_assoc d 0 5) (mX11_spreadKnown (d := d + 0) hG v1 2 r hr)) ?_
        intro D_4 _
        show zO _ _ _ _ _ _ [] (F, D_4, n, sl) _ _
        refine zO_aload_n dX11_worth_34 rfl (zR_P _) ?_
        refine gt11 (k := 12) dX11_worth_35 wF_X11_60 (by decide) (gk_0 hG) (zgv (c := 11) (k := 12) rfl (Or.inr ⟨_, rfl⟩) (gf_0_12 hG)) ?_
        refine zO_aload_n dX11_worth_38 rfl (zR_P _) ?_
        refine gt11 (k := 0) dX11_worth_39 wF_X11_10 (by decide) (gk_0 hG) (zgv (c := 11) (k := 0) rfl (Or.inr ⟨_, rfl⟩) (gf_0_0 hG)) ?_
        refine gt9 (k := 6) dX11_worth_42 wF_X11_154 (by decide) (gk_1 hG) (zgv (c := 9) (k := 6) rfl (Or.inl ⟨_, rfl⟩) (gf_1_6 hG)) ?_
        refine zO_iconst dX11_worth_45 (by decide) ?_
        refine zO_iald dX11_worth_46 (gk_7 hG) (gl_in (gl_7 hG) (by decide)) ?_
        refine zO_callV (Y' := YX2_atLeast) (cw := zcJ F n sl) (as := [zI (D_4 7 2)]) (rest := []) (na := 1) (ci := 2) rfl dX11_worth_47 wC_X2_atLeast wN_X2 wM_X11_198 wI_X2_atLeast wV_X2_atLeast (by decide) (by decide) rfl rfl (Nat.le_of_ble_eq_true rfl) rfl (by decide) (gk_52 hG) (fun r hr => zMet_cast (Nat.add_assoc d 4 1) (mX2_atLeast (d := d + 4) hG (D_4 7 2) r hr)) ?_
        rintro ⟨r_5, D_6⟩ -
        show zO _ _ _ _ _ _ [zL r_5] (F, D_6, n, sl) _ _
        refine zO_aload_n dX11_worth_50 rfl (zR_P _) ?_
        refine gt11 (k := 12) dX11_worth_51 wF_X11_60 (by decide) (gk_0 hG) (zgv (c := 11) (k := 12) rfl (Or.inr ⟨_, rfl⟩) (gf_0_12 hG)) ?_
        refine gt2 (k := 7) (v := zL (D_6 52 7)) dX11_worth_54 wF_X11_226 (by decide) (gk_52 hG) rfl ?_
        refine zO_callS (Y' := YX2_millionths) (cw := zcI F n sl) (as := [zL r_5, zL (D_6 52 7)]) (rest := []) (na := 2) dX11_worth_57 wC_X2_millionths wN_X2 wM_X11_231 wS_X2_millionths (by decide) (by decide) rfl rfl (Nat.le_of_ble_eq_true rfl) (fun r hr => zMet_cast (Nat.add_assoc d 5 0) (mX2_millionths (d := d + 5) hG r_5 (D_6 52 7) r hr)) ?_
        rintro ⟨r_7, D_8⟩ -
        show zO _ _ _ _ _ _ [zI r_7] (F, D_8, n, sl) _ _
        refine zO_istore_n dX11_worth_60 (by decide) ?_
        refine zO_ls (ls' := [(0, zR 0), (1, zI v1), (2, zI r_7)]) rfl ?_
        refine zO_aload_n dX11_worth_61 rfl (zR_P _) ?_
        refine zO_iload_n dX11_worth_62 rfl ?_
        refine zO_iconst dX11_worth_63 (by decide) ?_
        refine zO_callV (Y' := YX11_spreadKnown) (cw := zcV F n sl) (as := [zI v1, zI 0]) (rest := []) (na := 2) (ci := 11) rfl dX11_worth_64 wC_X11_spreadKnown wN_X11 wM_X11_194 wI_X11_spreadKnown wV_X11_spreadKnown (by decide) (by decide) rfl rfl (Nat.le_of_ble_eq_true rfl) rfl (by decide) (gk_0 hG) (fun r hr => zMet_cast (Nat.add_assoc d 0 5) (mX11_spreadKnown (d := d + 0) hG v1 0 r hr)) ?_
        intro D_10 _
        show zO _ _ _ _ _ _ [] (F, D_10, n, sl) _ _
        refine zO_iload_n dX11_worth_67 rfl ?_
        refine zO_aload_n dX11_worth_68 rfl (zR_P _) ?_
        refine gt11 (k := 12) dX11_worth_69 wF_X11_60 (by decide) (gk_0 hG) (zgv (c := 11) (k := 12) rfl (Or.inr ⟨_, rfl⟩) (gf_0_12 hG)) ?_
        refine zO_aload_n dX11_worth_72 rfl (zR_P _) ?_
        refine gt11 (k := 0) dX11_worth_73 wF_X11_10 (by decide) (gk_0 hG) (zgv (c := 11) (k := 0) rfl (Or.inr ⟨_, rfl⟩) (gf_0_0 hG)) ?_
        refine gt9 (k := 6) dX11_worth_76 wF_X11_154 (by decide) (gk_1 hG) (zgv (c := 9) (k := 6) rfl (Or.inl ⟨_, rfl⟩) (gf_1_6 hG)) ?_
        refine zO_iconst dX11_worth_79 (by decide) ?_
        refine zO_iald dX11_worth_80 (gk_7 hG) (gl_in (gl_7 hG) (by decide)) ?_
        refine zO_callV (Y' := YX2_atLeast) (cw := zcJ F n sl) (as := [zI (D_10 7 2)]) (rest := [zI r_7]) (na := 1) (ci := 2) rfl dX11_worth_81 wC_X2_atLeast wN_X2 wM_X11_198 wI_X2_atLeast wV_X2_atLeast (by decide) (by decide) rfl rfl (Nat.le_of_ble_eq_true rfl) rfl (by decide) (gk_52 hG) (fun r hr => zMet_cast (Nat.add_assoc d 4 1) (mX2_atLeast (d := d + 4) hG (D_10 7 2) r hr)) ?_
        rintro ⟨r_11, D_12⟩ -
        show zO _ _ _ _ _ _ [zL r_11, zI r_7] (F, D_12, n, sl) _ _
        refine zO_aload_n dX11_worth_84 rfl (zR_P _) ?_
        refine gt11 (k := 12) dX11_worth_85 wF_X11_60 (by decide) (gk_0 hG) (zgv (c := 11) (k := 12) rfl (Or.inr ⟨_, rfl⟩) (gf_0_12 hG)) ?_
        refine gt2 (k := 7) (v := zL (D_12 52 7)) dX11_worth_88 wF_X11_226 (by decide) (gk_52 hG) rfl ?_
        refine zO_callS (Y' := YX2_millionths) (cw := zcI F n sl) (as := [zL r_11, zL (D_12 52 7)]) (rest := [zI r_7]) (na := 2) dX11_worth_91 wC_X2_millionths wN_X2 wM_X11_231 wS_X2_millionths (by decide) (by decide) rfl rfl (Nat.le_of_ble_eq_true rfl) (fun r hr => zMet_cast (Nat.add_assoc d 5 0) (mX2_millionths (d := d + 5) hG r_11 (D_12 52 7) r hr)) ?_
        rintro ⟨r_13, D_14⟩ -
        show zO _ _ _ _ _ _ [zI r_13, zI r_7] (F, D_14, n, sl) _ _
        refine zO_chk (fun h2 => ?_)
        refine zO_isub dX11_worth_94 h2 ?_
        exact zO_ret (rv := some (zI (r_7 - r_13))) dX11_worth_95 rfl rfl rfl
      · refine zO_iconst dX11_worth_26 (by decide) ?_
        exact zO_ret (rv := some (zI 0)) dX11_worth_27 rfl rfl rfl
  exact hz r hr
theorem dX11_best_0 : decode cX11_best 0 = .ok (.iload_n 1, 1) := by decide +kernel
theorem dX11_best_1 : decode cX11_best 1 = .ok (.ifCond .lt 19, 3) := by decide +kernel
theorem dX11_best_4 : decode cX11_best 4 = .ok (.iload_n 1, 1) := by decide +kernel
theorem dX11_best_5 : decode cX11_best 5 = .ok (.sipush 400, 3) := by decide +kernel
theorem dX11_best_8 : decode cX11_best 8 = .ok (.if_icmp .gt 12, 3) := by decide +kernel
theorem dX11_best_11 : decode cX11_best 11 = .ok (.iload_n 2, 1) := by decide +kernel
theorem dX11_best_12 : decode cX11_best 12 = .ok (.ifCond .lt 8, 3) := by decide +kernel
theorem dX11_best_15 : decode cX11_best 15 = .ok (.iload_n 2, 1) := by decide +kernel
theorem dX11_best_16 : decode cX11_best 16 = .ok (.iconst 2, 1) := by decide +kernel
theorem dX11_best_17 : decode cX11_best 17 = .ok (.if_icmp .le 7, 3) := by decide +kernel
theorem dX11_best_20 : decode cX11_best 20 = .ok (.ldc2_w 206, 3) := by decide +kernel
theorem dX11_best_23 : decode cX11_best 23 = .ok (.lreturn, 1) := by decide +kernel
theorem dX11_best_24 : decode cX11_best 24 = .ok (.aload_n 0, 1) := by decide +kernel
theorem dX11_best_25 : decode cX11_best 25 = .ok (.getfield 69, 3) := by decide +kernel
theorem dX11_best_28 : decode cX11_best 28 = .ok (.invokevirtual 235, 3) := by decide +kernel
theorem dX11_best_31 : decode cX11_best 31 = .ok (.aload_n 0, 1) := by decide +kernel
theorem dX11_best_32 : decode cX11_best 32 = .ok (.getfield 69, 3) := by decide +kernel
theorem dX11_best_35 : decode cX11_best 35 = .ok (.iload_n 1, 1) := by decide +kernel
theorem dX11_best_36 : decode cX11_best 36 = .ok (.invokevirtual 238, 3) := by decide +kernel
theorem dX11_best_39 : decode cX11_best 39 = .ok (.iload_n 2, 1) := by decide +kernel
theorem dX11_best_40 : decode cX11_best 40 = .ok (.iconst 2, 1) := by decide +kernel
theorem dX11_best_41 : decode cX11_best 41 = .ok (.if_icmp .ne 12, 3) := by decide +kernel
theorem dX11_best_44 : decode cX11_best 44 = .ok (.aload_n 0, 1) := by decide +kernel
theorem dX11_best_45 : decode cX11_best 45 = .ok (.getfield 69, 3) := by decide +kernel
theorem dX11_best_48 : decode cX11_best 48 = .ok (.getfield 241, 3) := by decide +kernel
theorem dX11_best_51 : decode cX11_best 51 = .ok (.i2l, 1) := by decide +kernel
theorem dX11_best_52 : decode cX11_best 52 = .ok (.lreturn, 1) := by decide +kernel
theorem dX11_best_53 : decode cX11_best 53 = .ok (.aload_n 0, 1) := by decide +kernel
theorem dX11_best_54 : decode cX11_best 54 = .ok (.getfield 69, 3) := by decide +kernel
theorem dX11_best_57 : decode cX11_best 57 = .ok (.getfield 244, 3) := by decide +kernel
theorem dX11_best_60 : decode cX11_best 60 = .ok (.aload_n 0, 1) := by decide +kernel
theorem dX11_best_61 : decode cX11_best 61 = .ok (.getfield 69, 3) := by decide +kernel
theorem dX11_best_64 : decode cX11_best 64 = .ok (.getfield 247, 3) := by decide +kernel
theorem dX11_best_67 : decode cX11_best 67 = .ok (.iload_n 2, 1) := by decide +kernel
theorem dX11_best_68 : decode cX11_best 68 = .ok (.invokestatic 248, 3) := by decide +kernel
theorem dX11_best_71 : decode cX11_best 71 = .ok (.lreturn, 1) := by decide +kernel
abbrev YX11_best : zY := (yX11_best, cX11_best, 3, (Option.some Jvm.ClassFile.FieldType.long), [])
def fX11_best (v1 : Int) (v2 : Int) (F : zFs) (D : zDa) (n sl : Nat) : Option (Int × zM) :=
  if v1 < 0 then
    some ((-1), (F, D, n, sl))
  else
    if 400 < v1 then
      some ((-1), (F, D, n, sl))
    else
      if v2 < 0 then
        some ((-1), (F, D, n, sl))
      else
        if 2 < v2 then
          some ((-1), (F, D, n, sl))
        else
          (fX4_refresh F D n sl).bind (fun (F_2, D_3, n_4, sl_5) =>
            if zG F_2 ∧ 126 ≤ n_4 then
              (fX4_choose F_2 v1 D_3).bind (fun D_7 =>
                if v2 = 2 then
                  some ((D_7 60 19), (F_2, D_7, n_4, sl_5))
                else
                  (fX2_lowest F_2 (D_7 60 18) (D_7 60 17) v2 D_7).bind (fun (r_8, D_9) =>
                    some (r_8, (F_2, D_9, n_4, sl_5))))
            else none)
set_option maxHeartbeats 20000000 in
theorem mX11_best {l : Launch} {E : zE} {d : Nat} (v1 : Int) (v2 : Int) {F : zFs} {D : zDa} {n sl : Nat} (hG : zG F) (hN : 126 ≤ n) : ∀ r, fX11_best v1 v2 F D n sl = some r → zMet l E (d + 7) YX11_best [zR 0, zI v1, zI v2] (F, D, n, sl) (zmJ r) := by
  intro r hr
  refine zMet_of (plainFor_of_name (by decide)) (fun _ h => (nomatch h)) (Nat.le_of_ble_eq_true rfl) ?_
  have hz : zO l E (d + 7) YX11_best 0 [(0, zR 0), (1, zI v1), (2, zI v2)] [] (F, D, n, sl) (zmJ) (fX11_best v1 v2 F D n sl) := by
    unfold fX11_best
    refine zO_iload_n dX11_best_0 rfl ?_
    refine zO_if_lt (tgt := 20) dX11_best_1 rfl (fun c1 => ?_) (fun c1 => ?_)
    · refine zO_ldc2 (n := -1) dX11_best_20 wK_X11_206 (by decide) ?_
      exact zO_ret (rv := some (zL (-1))) dX11_best_23 rfl trivial rfl
    · refine zO_iload_n dX11_best_4 rfl ?_
      refine zO_sipush dX11_best_5 (by decide) ?_
      refine zO_icmp_gt (tgt := 20) dX11_best_8 rfl (fun c8 => ?_) (fun c8 => ?_)
      · refine zO_ldc2 (n := -1) dX11_best_20 wK_X11_206 (by decide) ?_
        exact zO_ret (rv := some (zL (-1))) dX11_best_23 rfl trivial rfl
      · refine zO_iload_n dX11_best_11 rfl ?_
        refine zO_if_lt (tgt := 20) dX11_best_12 rfl (fun c12 => ?_) (fun c12 => ?_)
        · refine zO_ldc2 (n := -1) dX11_best_20 wK_X11_206 (by decide) ?_
          exact zO_ret (rv := some (zL (-1))) dX11_best_23 rfl trivial rfl
        · refine zO_iload_n dX11_best_15 rfl ?_
          refine zO_iconst dX11_best_16 (by decide) ?_
          refine zO_icmp_le (tgt := 24) dX11_best_17 rfl (fun c17 => ?_) (fun c17 => ?_)
          · refine zO_ldc2 (n := -1) dX11_best_20 wK_X11_206 (by decide) ?_
            exact zO_ret (rv := some (zL (-1))) dX11_best_23 rfl trivial rfl
          · refine zO_aload_n dX11_best_24 rfl (zR_P _) ?_
            refine gt11 (k := 13) dX11_best_25 wF_X11_69 (by decide) (gk_0 hG) (zgv (c := 11) (k := 13) rfl (Or.inr ⟨_, rfl⟩) (gf_0_13 hG)) ?_
            refine zO_callV (Y' := YX4_refresh) (cw := zmV) (as := []) (rest := []) (na := 0) (ci := 4) rfl dX11_best_28 wC_X4_refresh wN_X4 wM_X11_235 wI_X4_refresh wV_X4_refresh (by decide) (by decide) rfl rfl (Nat.le_of_ble_eq_true rfl) rfl (by decide) (gk_60 hG) (fun r hr => zMet_cast (Nat.add_assoc d 0 6) (mX4_refresh (d := d + 0)  hG hN r hr)) ?_
            rintro ⟨F_2, D_3, n_4, sl_5⟩ -
            show zO _ _ _ _ _ _ [] (F_2, D_3, n_4, sl_5) _ _
            refine zO_chk (fun g5 => ?_)
            refine zO_aload_n dX11_best_31 rfl (zR_P _) ?_
            refine gt11 (k := 13) dX11_best_32 wF_X11_69 (by decide) (gk_0 g5.1) (zgv (c := 11) (k := 13) rfl (Or.inr ⟨_, rfl⟩) (gf_0_13 g5.1)) ?_
            refine zO_iload_n dX11_best_35 rfl ?_
            refine zO_callV (Y' := YX4_choose) (cw := zcV F_2 n_4 sl_5) (as := [zI v1]) (rest := []) (na := 1) (ci := 4) rfl dX11_best_36 wC_X4_choose wN_X4 wM_X11_238 wI_X4_choose wV_X4_choose (by decide) (by decide) rfl rfl (Nat.le_of_ble_eq_true rfl) rfl (by decide) (gk_60 g5.1) (fun r hr => zMet_cast (Nat.add_assoc d 5 1) (mX4_choose (d := d + 5) g5.1 v1 r hr)) ?_
            intro D_7 _
            show zO _ _ _ _ _ _ [] (F_2, D_7, n_4, sl_5) _ _
            refine zO_iload_n dX11_best_39 rfl ?_
            refine zO_iconst dX11_best_40 (by decide) ?_
            refine zO_icmp_ne (tgt := 53) dX11_best_41 rfl (fun c41 => ?_) (fun c41 => ?_)
            · refine zO_aload_n dX11_best_44 rfl (zR_P _) ?_
              refine gt11 (k := 13) dX11_best_45 wF_X11_69 (by decide) (gk_0 g5.1) (zgv (c := 11) (k := 13) rfl (Or.inr ⟨_, rfl⟩) (gf_0_13 g5.1)) ?_
              refine gt4 (k := 19) (v := zI (D_7 60 19)) dX11_best_48 wF_X11_241 (by decide) (gk_60 g5.1) rfl ?_
              refine zO_i2l dX11_best_51 ?_
              exact zO_ret (rv := some (zL (D_7 60 19))) dX11_best_52 rfl trivial rfl
            · refine zO_aload_n dX11_best_53 rfl (zR_P _) ?_
              refine gt11 (k := 13) dX11_best_54 wF_X11_69 (by decide) (gk_0 g5.1) (zgv (c := 11) (k := 13) rfl (Or.inr ⟨_, rfl⟩) (gf_0_13 g5.1)) ?_
              refine gt4 (k := 18) (v := zL (D_7 60 18)) dX11_best_57 wF_X11_244 (by decide) (gk_60 g5.1) rfl ?_
              refine zO_aload_n dX11_best_60 rfl (zR_P _) ?_
              refine gt11 (k := 13) dX11_best_61 wF_X11_69 (by decide) (gk_0 g5.1) (zgv (c := 11) (k := 13) rfl (Or.inr ⟨_, rfl⟩) (gf_0_13 g5.1)) ?_
              refine gt4 (k := 17) (v := zL (D_7 60 17)) dX11_best_64 wF_X11_247 (by decide) (gk_60 g5.1) rfl ?_
              refine zO_iload_n dX11_best_67 rfl ?_
              refine zO_callS (Y' := YX2_lowest) (cw := zcJ F_2 n_4 sl_5) (as := [zL (D_7 60 18), zL (D_7 60 17), zI v2]) (rest := []) (na := 3) dX11_best_68 wC_X2_lowest wN_X2 wM_X11_248 wS_X2_lowest (by decide) (by decide) rfl rfl (Nat.le_of_ble_eq_true rfl) (fun r hr => zMet_cast (Nat.add_assoc d 6 0) (mX2_lowest (d := d + 6) g5.1 (D_7 60 18) (D_7 60 17) v2 r hr)) ?_
              rintro ⟨r_8, D_9⟩ -
              show zO _ _ _ _ _ _ [zL r_8] (F_2, D_9, n_4, sl_5) _ _
              exact zO_ret (rv := some (zL r_8)) dX11_best_71 rfl trivial rfl
  exact hz r hr
theorem dX11_level_0 : decode cX11_level 0 = .ok (.iload_n 1, 1) := by decide +kernel
theorem dX11_level_1 : decode cX11_level 1 = .ok (.ifCond .lt 21, 3) := by decide +kernel
theorem dX11_level_4 : decode cX11_level 4 = .ok (.iload_n 1, 1) := by decide +kernel
theorem dX11_level_5 : decode cX11_level 5 = .ok (.sipush 400, 3) := by decide +kernel
theorem dX11_level_8 : decode cX11_level 8 = .ok (.if_icmp .gt 14, 3) := by decide +kernel
theorem dX11_level_11 : decode cX11_level 11 = .ok (.aload_n 0, 1) := by decide +kernel
theorem dX11_level_12 : decode cX11_level 12 = .ok (.getfield 10, 3) := by decide +kernel
theorem dX11_level_15 : decode cX11_level 15 = .ok (.iload_n 2, 1) := by decide +kernel
theorem dX11_level_16 : decode cX11_level 16 = .ok (.invokevirtual 252, 3) := by decide +kernel
theorem dX11_level_19 : decode cX11_level 19 = .ok (.ifCond .ne 5, 3) := by decide +kernel
theorem dX11_level_22 : decode cX11_level 22 = .ok (.iconst (-1), 1) := by decide +kernel
theorem dX11_level_23 : decode cX11_level 23 = .ok (.ireturn, 1) := by decide +kernel
theorem dX11_level_24 : decode cX11_level 24 = .ok (.aload_n 0, 1) := by decide +kernel
theorem dX11_level_25 : decode cX11_level 25 = .ok (.getfield 69, 3) := by decide +kernel
theorem dX11_level_28 : decode cX11_level 28 = .ok (.invokevirtual 235, 3) := by decide +kernel
theorem dX11_level_31 : decode cX11_level 31 = .ok (.aload_n 0, 1) := by decide +kernel
theorem dX11_level_32 : decode cX11_level 32 = .ok (.getfield 69, 3) := by decide +kernel
theorem dX11_level_35 : decode cX11_level 35 = .ok (.iload_n 1, 1) := by decide +kernel
theorem dX11_level_36 : decode cX11_level 36 = .ok (.invokevirtual 255, 3) := by decide +kernel
theorem dX11_level_39 : decode cX11_level 39 = .ok (.aload_n 0, 1) := by decide +kernel
theorem dX11_level_40 : decode cX11_level 40 = .ok (.getfield 69, 3) := by decide +kernel
theorem dX11_level_43 : decode cX11_level 43 = .ok (.getfield 258, 3) := by decide +kernel
theorem dX11_level_46 : decode cX11_level 46 = .ok (.iload_n 2, 1) := by decide +kernel
theorem dX11_level_47 : decode cX11_level 47 = .ok (.iaload, 1) := by decide +kernel
theorem dX11_level_48 : decode cX11_level 48 = .ok (.ireturn, 1) := by decide +kernel
abbrev YX11_level : zY := (yX11_level, cX11_level, 3, (Option.some Jvm.ClassFile.FieldType.int), [])
def fX11_level (v1 : Int) (v2 : Int) (F : zFs) (D : zDa) (n sl : Nat) : Option (Int × zM) :=
  if v1 < 0 then
    some ((-1), (F, D, n, sl))
  else
    if 400 < v1 then
      some ((-1), (F, D, n, sl))
    else
      (fX9_inBowl F v2 D).bind (fun (r_1, D_2) =>
        if r_1 = 0 then
          some ((-1), (F, D_2, n, sl))
        else
          (fX4_refresh F D_2 n sl).bind (fun (F_4, D_5, n_6, sl_7) =>
            if zG F_4 ∧ 126 ≤ n_6 then
              (fX4_findFirst F_4 v1 D_5).bind (fun D_9 =>
                if (0 ≤ v2 ∧ v2 < 20) then
                  some ((D_9 69 v2.toNat), (F_4, D_9, n_6, sl_7))
                else none)
            else none))
set_option maxHeartbeats 20000000 in
theorem mX11_level {l : Launch} {E : zE} {d : Nat} (v1 : Int) (v2 : Int) {F : zFs} {D : zDa} {n sl : Nat} (hG : zG F) (hN : 126 ≤ n) : ∀ r, fX11_level v1 v2 F D n sl = some r → zMet l E (d + 7) YX11_level [zR 0, zI v1, zI v2] (F, D, n, sl) (zmI r) := by
  intro r hr
  refine zMet_of (plainFor_of_name (by decide)) (fun _ h => (nomatch h)) (Nat.le_of_ble_eq_true rfl) ?_
  have hz : zO l E (d + 7) YX11_level 0 [(0, zR 0), (1, zI v1), (2, zI v2)] [] (F, D, n, sl) (zmI) (fX11_level v1 v2 F D n sl) := by
    unfold fX11_level
    refine zO_iload_n dX11_level_0 rfl ?_
    refine zO_if_lt (tgt := 22) dX11_level_1 rfl (fun c1 => ?_) (fun c1 => ?_)
    · refine zO_iconst dX11_level_22 (by decide) ?_
      exact zO_ret (rv := some (zI (-1))) dX11_level_23 rfl rfl rfl
    · refine zO_iload_n dX11_level_4 rfl ?_
      refine zO_sipush dX11_level_5 (by decide) ?_
      refine zO_icmp_gt (tgt := 22) dX11_level_8 rfl (fun c8 => ?_) (fun c8 => ?_)
      · refine zO_iconst dX11_level_22 (by decide) ?_
        exact zO_ret (rv := some (zI (-1))) dX11_level_23 rfl rfl rfl
      · refine zO_aload_n dX11_level_11 rfl (zR_P _) ?_
        refine gt11 (k := 0) dX11_level_12 wF_X11_10 (by decide) (gk_0 hG) (zgv (c := 11) (k := 0) rfl (Or.inr ⟨_, rfl⟩) (gf_0_0 hG)) ?_
        refine zO_iload_n dX11_level_15 rfl ?_
        refine zO_callV (Y' := YX9_inBowl) (cw := zcI F n sl) (as := [zI v2]) (rest := []) (na := 1) (ci := 9) rfl dX11_level_16 wC_X9_inBowl wN_X9 wM_X11_252 wI_X9_inBowl wV_X9_inBowl (by decide) (by decide) rfl rfl (Nat.le_of_ble_eq_true rfl) rfl (by decide) (gk_1 hG) (fun r hr => zMet_cast (Nat.add_assoc d 5 1) (mX9_inBowl (d := d + 5) hG v2 r hr)) ?_
        rintro ⟨r_1, D_2⟩ -
        show zO _ _ _ _ _ _ [zI r_1] (F, D_2, n, sl) _ _
        refine zO_if_ne (tgt := 24) dX11_level_19 rfl (fun c19 => ?_) (fun c19 => ?_)
        · refine zO_iconst dX11_level_22 (by decide) ?_
          exact zO_ret (rv := some (zI (-1))) dX11_level_23 rfl rfl rfl
        · refine zO_aload_n dX11_level_24 rfl (zR_P _) ?_
          refine gt11 (k := 13) dX11_level_25 wF_X11_69 (by decide) (gk_0 hG) (zgv (c := 11) (k := 13) rfl (Or.inr ⟨_, rfl⟩) (gf_0_13 hG)) ?_
          refine zO_callV (Y' := YX4_refresh) (cw := zmV) (as := []) (rest := []) (na := 0) (ci := 4) rfl dX11_level_28 wC_X4_refresh wN_X4 wM_X11_235 wI_X4_refresh wV_X4_refresh (by decide) (by decide) rfl rfl (Nat.le_of_ble_eq_true rfl) rfl (by decide) (gk_60 hG) (fun r hr => zMet_cast (Nat.add_assoc d 0 6) (mX4_refresh (d := d + 0)  hG hN r hr)) ?_
          rintro ⟨F_4, D_5, n_6, sl_7⟩ -
          show zO _ _ _ _ _ _ [] (F_4, D_5, n_6, sl_7) _ _
          refine zO_chk (fun g7 => ?_)
          refine zO_aload_n dX11_level_31 rfl (zR_P _) ?_
          refine gt11 (k := 13) dX11_level_32 wF_X11_69 (by decide) (gk_0 g7.1) (zgv (c := 11) (k := 13) rfl (Or.inr ⟨_, rfl⟩) (gf_0_13 g7.1)) ?_
          refine zO_iload_n dX11_level_35 rfl ?_
          refine zO_callV (Y' := YX4_findFirst) (cw := zcV F_4 n_6 sl_7) (as := [zI v1]) (rest := []) (na := 1) (ci := 4) rfl dX11_level_36 wC_X4_findFirst wN_X4 wM_X11_255 wI_X4_findFirst wV_X4_findFirst (by decide) (by decide) rfl rfl (Nat.le_of_ble_eq_true rfl) rfl (by decide) (gk_60 g7.1) (fun r hr => zMet_cast (Nat.add_assoc d 3 3) (mX4_findFirst (d := d + 3) g7.1 v1 r hr)) ?_
          intro D_9 _
          show zO _ _ _ _ _ _ [] (F_4, D_9, n_6, sl_7) _ _
          refine zO_chk (fun h1 => ?_)
          refine zO_aload_n dX11_level_39 rfl (zR_P _) ?_
          refine gt11 (k := 13) dX11_level_40 wF_X11_69 (by decide) (gk_0 g7.1) (zgv (c := 11) (k := 13) rfl (Or.inr ⟨_, rfl⟩) (gf_0_13 g7.1)) ?_
          refine gt4 (k := 15) dX11_level_43 wF_X11_258 (by decide) (gk_60 g7.1) (zgv (c := 4) (k := 15) rfl (Or.inl ⟨_, rfl⟩) (gf_60_15 g7.1)) ?_
          refine zO_iload_n dX11_level_46 rfl ?_
          refine zO_iald dX11_level_47 (gk_69 g7.1) (gl_in (gl_69 g7.1) h1) ?_
          exact zO_ret (rv := some (zI (D_9 69 v2.toNat))) dX11_level_48 rfl rfl rfl
  exact hz r hr
theorem dX11_enough_0 : decode cX11_enough 0 = .ok (.iload_n 1, 1) := by decide +kernel
theorem dX11_enough_1 : decode cX11_enough 1 = .ok (.ifCond .lt 9, 3) := by decide +kernel
theorem dX11_enough_4 : decode cX11_enough 4 = .ok (.iload_n 1, 1) := by decide +kernel
theorem dX11_enough_5 : decode cX11_enough 5 = .ok (.bipush 100, 2) := by decide +kernel
theorem dX11_enough_7 : decode cX11_enough 7 = .ok (.if_icmp .le 5, 3) := by decide +kernel
theorem dX11_enough_10 : decode cX11_enough 10 = .ok (.iconst (-1), 1) := by decide +kernel
theorem dX11_enough_11 : decode cX11_enough 11 = .ok (.ireturn, 1) := by decide +kernel
theorem dX11_enough_12 : decode cX11_enough 12 = .ok (.aload_n 0, 1) := by decide +kernel
theorem dX11_enough_13 : decode cX11_enough 13 = .ok (.getfield 69, 3) := by decide +kernel
theorem dX11_enough_16 : decode cX11_enough 16 = .ok (.invokevirtual 235, 3) := by decide +kernel
theorem dX11_enough_19 : decode cX11_enough 19 = .ok (.aload_n 0, 1) := by decide +kernel
theorem dX11_enough_20 : decode cX11_enough 20 = .ok (.getfield 69, 3) := by decide +kernel
theorem dX11_enough_23 : decode cX11_enough 23 = .ok (.iload_n 1, 1) := by decide +kernel
theorem dX11_enough_24 : decode cX11_enough 24 = .ok (.invokevirtual 261, 3) := by decide +kernel
theorem dX11_enough_27 : decode cX11_enough 27 = .ok (.ireturn, 1) := by decide +kernel
abbrev YX11_enough : zY := (yX11_enough, cX11_enough, 2, (Option.some Jvm.ClassFile.FieldType.int), [])
def fX11_enough (v1 : Int) (F : zFs) (D : zDa) (n sl : Nat) : Option (Int × zM) :=
  if v1 < 0 then
    some ((-1), (F, D, n, sl))
  else
    if 100 < v1 then
      some ((-1), (F, D, n, sl))
    else
      (fX4_refresh F D n sl).bind (fun (F_2, D_3, n_4, sl_5) =>
        if zG F_2 ∧ 126 ≤ n_4 then
          (fX4_fewestHours F_2 v1 D_3).bind (fun (r_6, D_7) =>
            some (r_6, (F_2, D_7, n_4, sl_5)))
        else none)
set_option maxHeartbeats 20000000 in
theorem mX11_enough {l : Launch} {E : zE} {d : Nat} (v1 : Int) {F : zFs} {D : zDa} {n sl : Nat} (hG : zG F) (hN : 126 ≤ n) : ∀ r, fX11_enough v1 F D n sl = some r → zMet l E (d + 7) YX11_enough [zR 0, zI v1] (F, D, n, sl) (zmI r) := by
  intro r hr
  refine zMet_of (plainFor_of_name (by decide)) (fun _ h => (nomatch h)) (Nat.le_of_ble_eq_true rfl) ?_
  have hz : zO l E (d + 7) YX11_enough 0 [(0, zR 0), (1, zI v1)] [] (F, D, n, sl) (zmI) (fX11_enough v1 F D n sl) := by
    unfold fX11_enough
    refine zO_iload_n dX11_enough_0 rfl ?_
    refine zO_if_lt (tgt := 10) dX11_enough_1 rfl (fun c1 => ?_) (fun c1 => ?_)
    · refine zO_iconst dX11_enough_10 (by decide) ?_
      exact zO_ret (rv := some (zI (-1))) dX11_enough_11 rfl rfl rfl
    · refine zO_iload_n dX11_enough_4 rfl ?_
      refine zO_bipush dX11_enough_5 (by decide) ?_
      refine zO_icmp_le (tgt := 12) dX11_enough_7 rfl (fun c7 => ?_) (fun c7 => ?_)
      · refine zO_iconst dX11_enough_10 (by decide) ?_
        exact zO_ret (rv := some (zI (-1))) dX11_enough_11 rfl rfl rfl
      · refine zO_aload_n dX11_enough_12 rfl (zR_P _) ?_
        refine gt11 (k := 13) dX11_enough_13 wF_X11_69 (by decide) (gk_0 hG) (zgv (c := 11) (k := 13) rfl (Or.inr ⟨_, rfl⟩) (gf_0_13 hG)) ?_
        refine zO_callV (Y' := YX4_refresh) (cw := zmV) (as := []) (rest := []) (na := 0) (ci := 4) rfl dX11_enough_16 wC_X4_refresh wN_X4 wM_X11_235 wI_X4_refresh wV_X4_refresh (by decide) (by decide) rfl rfl (Nat.le_of_ble_eq_true rfl) rfl (by decide) (gk_60 hG) (fun r hr => zMet_cast (Nat.add_assoc d 0 6) (mX4_refresh (d := d + 0)  hG hN r hr)) ?_
        rintro ⟨F_2, D_3, n_4, sl_5⟩ -
        show zO _ _ _ _ _ _ [] (F_2, D_3, n_4, sl_5) _ _
        refine zO_chk (fun g5 => ?_)
        refine zO_aload_n dX11_enough_19 rfl (zR_P _) ?_
        refine gt11 (k := 13) dX11_enough_20 wF_X11_69 (by decide) (gk_0 g5.1) (zgv (c := 11) (k := 13) rfl (Or.inr ⟨_, rfl⟩) (gf_0_13 g5.1)) ?_
        refine zO_iload_n dX11_enough_23 rfl ?_
        refine zO_callV (Y' := YX4_fewestHours) (cw := zcI F_2 n_4 sl_5) (as := [zI v1]) (rest := []) (na := 1) (ci := 4) rfl dX11_enough_24 wC_X4_fewestHours wN_X4 wM_X11_261 wI_X4_fewestHours wV_X4_fewestHours (by decide) (by decide) rfl rfl (Nat.le_of_ble_eq_true rfl) rfl (by decide) (gk_60 g5.1) (fun r hr => zMet_cast (Nat.add_assoc d 5 1) (mX4_fewestHours (d := d + 5) g5.1 v1 r hr)) ?_
        rintro ⟨r_6, D_7⟩ -
        show zO _ _ _ _ _ _ [zI r_6] (F_2, D_7, n_4, sl_5) _ _
        exact zO_ret (rv := some (zI r_6)) dX11_enough_27 rfl rfl rfl
  exact hz r hr
