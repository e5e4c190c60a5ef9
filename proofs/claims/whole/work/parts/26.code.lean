/-! printed by wip/gen/emit_all.py: J7_copyOf_59c91 X6_read X7_sameHours X7_sortIn X7_withOneMore X7_canLearn X7_mostOfAll X7_firstFriend X7_refresh X8_begin J6_bitCount_0f7a4 X8_lots -/
theorem dJ7_copyOf_59c91_0 : decode cJ7_copyOf_59c91 0 = .ok (.iload_n 1, 1) := by decide +kernel
theorem dJ7_copyOf_59c91_1 : decode cJ7_copyOf_59c91 1 = .ok (.aload_n 0, 1) := by decide +kernel
theorem dJ7_copyOf_59c91_2 : decode cJ7_copyOf_59c91 2 = .ok (.arraylength, 1) := by decide +kernel
theorem dJ7_copyOf_59c91_3 : decode cJ7_copyOf_59c91 3 = .ok (.if_icmp .ne 11, 3) := by decide +kernel
theorem dJ7_copyOf_59c91_6 : decode cJ7_copyOf_59c91 6 = .ok (.aload_n 0, 1) := by decide +kernel
theorem dJ7_copyOf_59c91_7 : decode cJ7_copyOf_59c91 7 = .ok (.invokevirtual 316, 3) := by decide +kernel
theorem dJ7_copyOf_59c91_10 : decode cJ7_copyOf_59c91 10 = .ok (.checkcast 317, 3) := by decide +kernel
theorem dJ7_copyOf_59c91_13 : decode cJ7_copyOf_59c91 13 = .ok (.areturn, 1) := by decide +kernel
theorem dJ7_copyOf_59c91_14 : decode cJ7_copyOf_59c91 14 = .ok (.iload_n 1, 1) := by decide +kernel
theorem dJ7_copyOf_59c91_15 : decode cJ7_copyOf_59c91 15 = .ok (.newarray .int, 2) := by decide +kernel
theorem dJ7_copyOf_59c91_17 : decode cJ7_copyOf_59c91 17 = .ok (.astore_n 2, 1) := by decide +kernel
theorem dJ7_copyOf_59c91_18 : decode cJ7_copyOf_59c91 18 = .ok (.aload_n 0, 1) := by decide +kernel
theorem dJ7_copyOf_59c91_19 : decode cJ7_copyOf_59c91 19 = .ok (.iconst 0, 1) := by decide +kernel
theorem dJ7_copyOf_59c91_20 : decode cJ7_copyOf_59c91 20 = .ok (.aload_n 2, 1) := by decide +kernel
theorem dJ7_copyOf_59c91_21 : decode cJ7_copyOf_59c91 21 = .ok (.iconst 0, 1) := by decide +kernel
theorem dJ7_copyOf_59c91_22 : decode cJ7_copyOf_59c91 22 = .ok (.aload_n 0, 1) := by decide +kernel
theorem dJ7_copyOf_59c91_23 : decode cJ7_copyOf_59c91 23 = .ok (.arraylength, 1) := by decide +kernel
theorem dJ7_copyOf_59c91_24 : decode cJ7_copyOf_59c91 24 = .ok (.iload_n 1, 1) := by decide +kernel
theorem dJ7_copyOf_59c91_25 : decode cJ7_copyOf_59c91 25 = .ok (.invokestatic 304, 3) := by decide +kernel
theorem dJ7_copyOf_59c91_28 : decode cJ7_copyOf_59c91 28 = .ok (.invokestatic 150, 3) := by decide +kernel
theorem dJ7_copyOf_59c91_31 : decode cJ7_copyOf_59c91 31 = .ok (.aload_n 2, 1) := by decide +kernel
theorem dJ7_copyOf_59c91_32 : decode cJ7_copyOf_59c91 32 = .ok (.areturn, 1) := by decide +kernel
abbrev YJ7_copyOf_59c91 : zY := (yJ7_copyOf_59c91, cJ7_copyOf_59c91, 3, (Option.some (Jvm.ClassFile.FieldType.array Jvm.ClassFile.FieldType.int)), [])
def fJ7_copyOf_59c91 (a0 : Nat) (v1 : Int) (F : zFs) (D : zDa) (n sl : Nat) : Option (Int × zM) :=
  if ((F a0).1 = 20) ∧ n < 900000 ∧ (0 ≤ v1 ∧ v1 ≤ 1000000) then
    if v1 = ((F a0).2.1 : Int) then some ((n : Int), (znew F n (20, (F a0).2.1, fun _ => 0), zrow D n (D a0), n + 1, sl + (F a0).2.1))
    else
      (fJ9_min_7cf53 F ((F a0).2.1 : Int) v1 D).bind (fun (r, D1) =>
        if r ≤ v1 ∧ r ≤ ((F a0).2.1 : Int) ∧ 0 ≤ r ∧ a0 ≠ n then
          some ((n : Int), (znew F n (20, v1.toNat, fun _ => 0), zrow (zrow D n (fun _ => 0)) n (va_cpy (D a0) (fun _ => 0) 0 0 r.toNat), n + 1, sl + v1.toNat)) else none)
  else none
theorem mJ7_copyOf_59c91 {l : Launch} {E : zE} {d : Nat} (a0 : Nat) (v1 : Int) {F : zFs} {D : zDa} {n sl : Nat} (hG : zG F) (hN : 126 ≤ n) : ∀ r, fJ7_copyOf_59c91 a0 v1 F D n sl = some r → zMet l E (d + 1) YJ7_copyOf_59c91 [zR a0, zI v1] (F, D, n, sl) (zmQ r) := by
  intro r hr
  refine zMet_of (by decide +kernel) (fun _ h => (nomatch h)) (Nat.le_of_ble_eq_true rfl) ?_
  have hz : zO l E (d + 1) YJ7_copyOf_59c91 0 [(0, zR a0), (1, zI v1)] [] (F, D, n, sl) zmQ (fJ7_copyOf_59c91 a0 v1 F D n sl) := by
    unfold fJ7_copyOf_59c91
    refine zO_chk (fun h => ?_)
    refine zO_iload_n dJ7_copyOf_59c91_0 rfl ?_
    refine zO_aload_n dJ7_copyOf_59c91_1 rfl (zR_P _) ?_
    refine zO_alen (kd := 20) dJ7_copyOf_59c91_2 h.1 (by decide) ?_
    refine zO_icmp_ne (tgt := 14) dJ7_copyOf_59c91_3 rfl (fun c => ?_) (fun c => ?_)
    · refine zO_aload_n dJ7_copyOf_59c91_6 rfl (zR_P _) ?_
      refine zO_clone dJ7_copyOf_59c91_7 wM_J7_316 h.1 h.2.1 (Nat.le_of_ble_eq_true rfl) ?_
      refine zO_castI dJ7_copyOf_59c91_10 wL_J7_317 (by rw [znew_self]) ?_
      refine zO_st (st' := [zq (n : Int)]) (congrArg (fun v => [v]) (zq_nat n).symm) ?_
      exact zO_retQ dJ7_copyOf_59c91_13 (zretok_q _ (Or.inl ⟨_, rfl⟩)) rfl
    · have hG2 : zG (znew F n (20, v1.toNat, fun _ => 0)) := zG_new hG hN
      refine zO_iload_n dJ7_copyOf_59c91_14 rfl ?_
      refine zO_newi (kd := 20) dJ7_copyOf_59c91_15 (by decide) h.2.2 h.2.1 ?_
      refine zO_astore_n dJ7_copyOf_59c91_17 (by decide) (zR_P _) ?_
      refine zO_aload_n dJ7_copyOf_59c91_18 rfl (zR_P _) ?_
      refine zO_iconst dJ7_copyOf_59c91_19 (by decide) ?_
      refine zO_aload_n dJ7_copyOf_59c91_20 rfl (zR_P _) ?_
      refine zO_iconst dJ7_copyOf_59c91_21 (by decide) ?_
      refine zO_aload_n dJ7_copyOf_59c91_22 rfl (zR_P _) ?_
      by_cases hne : a0 = n
      · intro r hr
        exfalso
        cases hf : fJ9_min_7cf53 F ((F a0).2.1 : Int) v1 D with
        | none => rw [hf] at hr; cases hr
        | some q =>
          rw [hf] at hr
          simp [hne] at hr
      · have hk0 : (znew F n (20, v1.toNat, fun _ => 0) a0).1 = 20 := by rw [znew_ne hne]; exact h.1
        have hl0 : (znew F n (20, v1.toNat, fun _ => 0) a0).2.1 = (F a0).2.1 := by rw [znew_ne hne]
        refine zO_alen (kd := 20) dJ7_copyOf_59c91_23 hk0 (by decide) ?_
        refine zO_st (st' := [zI ((F a0).2.1 : Int), zI 0, zR n, zI 0, zR a0]) (by rw [hl0]) ?_
        refine zO_iload_n dJ7_copyOf_59c91_24 rfl ?_
        have hmin : ∀ r, fJ9_min_7cf53 F ((F a0).2.1 : Int) v1 D = some r → r = (if v1 < ((F a0).2.1 : Int) then v1 else ((F a0).2.1 : Int), D) := by
          intro r hr
          unfold fJ9_min_7cf53 at hr
          split at hr
          · next q => rw [if_pos q]; exact (Option.some.inj hr).symm
          · next q => rw [if_neg q]; exact (Option.some.inj hr).symm
        refine zO_callS (y := fJ9_min_7cf53 F ((F a0).2.1 : Int) v1 D) (cw := fun q => (some (zI q.1), (znew F n (20, v1.toNat, fun _ => 0), zrow D n (fun _ => 0), n + 1, sl + v1.toNat))) (Y' := YJ9_min_7cf53) (as := [zI ((F a0).2.1 : Int), zI v1]) (rest := [zI 0, zR n, zI 0, zR a0]) (na := 2) dJ7_copyOf_59c91_25 wC_J9_min_7cf53 wN_J9 wM_J7_304 wS_J9_min_7cf53 (by decide) (by decide) rfl rfl (Nat.le_of_ble_eq_true rfl) (fun r hr => ?_) ?_
        · have e := hmin r hr
          have h9 : fJ9_min_7cf53 (znew F n (20, v1.toNat, fun _ => 0)) ((F a0).2.1 : Int) v1 (zrow D n (fun _ => 0)) = some (r.1, zrow D n (fun _ => 0)) := by
            subst e
            unfold fJ9_min_7cf53
            split
            · rfl
            · rfl
          exact mJ9_min_7cf53 (d := d) hG2 ((F a0).2.1 : Int) v1 _ h9
        · rintro ⟨r, D1⟩ hr
          have e := hmin _ hr
          show zO _ _ _ _ _ _ [zI r, zI 0, zR n, zI 0, zR a0] (znew F n (20, v1.toNat, fun _ => 0), zrow D n (fun _ => 0), n + 1, sl + v1.toNat) _ _
          refine zO_chk (fun h2 => ?_)
          have hkn : (znew F n (20, v1.toNat, fun _ => 0) n).1 = 20 := by rw [znew_self]
          refine zO_copy (kd := 20) dJ7_copyOf_59c91_28 wM_J7_150 (by decide) hk0 hkn ⟨by decide, by decide, h2.2.2.1, by rw [hl0]; omega, by rw [znew_self]; dsimp only; omega⟩ (Nat.le_of_ble_eq_true rfl) ?_
          rw [zrow_ne hne, zrow_self]
          refine zO_aload_n dJ7_copyOf_59c91_31 rfl (zR_P _) ?_
          refine zO_st (st' := [zq (n : Int)]) (congrArg (fun v => [v]) (zq_nat n).symm) ?_
          exact zO_retQ dJ7_copyOf_59c91_32 (zretok_q _ (Or.inl ⟨_, rfl⟩)) rfl
  exact hz r hr
theorem dX6_read_0 : decode cX6_read 0 = .ok (.aload_n 0, 1) := by decide +kernel
theorem dX6_read_1 : decode cX6_read 1 = .ok (.aload_n 1, 1) := by decide +kernel
theorem dX6_read_2 : decode cX6_read 2 = .ok (.iload_n 2, 1) := by decide +kernel
theorem dX6_read_3 : decode cX6_read 3 = .ok (.aload_n 1, 1) := by decide +kernel
theorem dX6_read_4 : decode cX6_read 4 = .ok (.arraylength, 1) := by decide +kernel
theorem dX6_read_5 : decode cX6_read 5 = .ok (.sipush 400, 3) := by decide +kernel
theorem dX6_read_8 : decode cX6_read 8 = .ok (.invokestatic 36, 3) := by decide +kernel
theorem dX6_read_11 : decode cX6_read 11 = .ok (.invokestatic 36, 3) := by decide +kernel
theorem dX6_read_14 : decode cX6_read 14 = .ok (.invokevirtual 42, 3) := by decide +kernel
theorem dX6_read_17 : decode cX6_read 17 = .ok (.aload_n 0, 1) := by decide +kernel
theorem dX6_read_18 : decode cX6_read 18 = .ok (.iconst 0, 1) := by decide +kernel
theorem dX6_read_19 : decode cX6_read 19 = .ok (.putfield 46, 3) := by decide +kernel
theorem dX6_read_22 : decode cX6_read 22 = .ok (.aload_n 0, 1) := by decide +kernel
theorem dX6_read_23 : decode cX6_read 23 = .ok (.iconst 0, 1) := by decide +kernel
theorem dX6_read_24 : decode cX6_read 24 = .ok (.putfield 49, 3) := by decide +kernel
theorem dX6_read_27 : decode cX6_read 27 = .ok (.aload_n 0, 1) := by decide +kernel
theorem dX6_read_28 : decode cX6_read 28 = .ok (.iconst 0, 1) := by decide +kernel
theorem dX6_read_29 : decode cX6_read 29 = .ok (.putfield 52, 3) := by decide +kernel
theorem dX6_read_32 : decode cX6_read 32 = .ok (.aload_n 0, 1) := by decide +kernel
theorem dX6_read_33 : decode cX6_read 33 = .ok (.iconst 0, 1) := by decide +kernel
theorem dX6_read_34 : decode cX6_read 34 = .ok (.putfield 55, 3) := by decide +kernel
theorem dX6_read_37 : decode cX6_read 37 = .ok (.aload_n 0, 1) := by decide +kernel
theorem dX6_read_38 : decode cX6_read 38 = .ok (.iconst (-1), 1) := by decide +kernel
theorem dX6_read_39 : decode cX6_read 39 = .ok (.putfield 32, 3) := by decide +kernel
theorem dX6_read_42 : decode cX6_read 42 = .ok (.aload_n 0, 1) := by decide +kernel
theorem dX6_read_43 : decode cX6_read 43 = .ok (.invokevirtual 58, 3) := by decide +kernel
theorem dX6_read_46 : decode cX6_read 46 = .ok (.istore_n 3, 1) := by decide +kernel
theorem dX6_read_47 : decode cX6_read 47 = .ok (.iconst 0, 1) := by decide +kernel
theorem dX6_read_48 : decode cX6_read 48 = .ok (.istore 4, 2) := by decide +kernel
theorem dX6_read_50 : decode cX6_read 50 = .ok (.iload 4, 2) := by decide +kernel
theorem dX6_read_52 : decode cX6_read 52 = .ok (.bipush 12, 2) := by decide +kernel
theorem dX6_read_54 : decode cX6_read 54 = .ok (.if_icmp .ge 42, 3) := by decide +kernel
theorem dX6_read_57 : decode cX6_read 57 = .ok (.iload_n 3, 1) := by decide +kernel
theorem dX6_read_58 : decode cX6_read 58 = .ok (.ifCond .eq 38, 3) := by decide +kernel
theorem dX6_read_61 : decode cX6_read 61 = .ok (.aload_n 0, 1) := by decide +kernel
theorem dX6_read_62 : decode cX6_read 62 = .ok (.getfield 9, 3) := by decide +kernel
theorem dX6_read_65 : decode cX6_read 65 = .ok (.aload_n 0, 1) := by decide +kernel
theorem dX6_read_66 : decode cX6_read 66 = .ok (.getfield 46, 3) := by decide +kernel
theorem dX6_read_69 : decode cX6_read 69 = .ok (.iaload, 1) := by decide +kernel
theorem dX6_read_70 : decode cX6_read 70 = .ok (.bipush 59, 2) := by decide +kernel
theorem dX6_read_72 : decode cX6_read 72 = .ok (.if_icmp .ne 24, 3) := by decide +kernel
theorem dX6_read_75 : decode cX6_read 75 = .ok (.aload_n 0, 1) := by decide +kernel
theorem dX6_read_76 : decode cX6_read 76 = .ok (.dup, 1) := by decide +kernel
theorem dX6_read_77 : decode cX6_read 77 = .ok (.getfield 46, 3) := by decide +kernel
theorem dX6_read_80 : decode cX6_read 80 = .ok (.iconst 1, 1) := by decide +kernel
theorem dX6_read_81 : decode cX6_read 81 = .ok (.iadd, 1) := by decide +kernel
theorem dX6_read_82 : decode cX6_read 82 = .ok (.putfield 46, 3) := by decide +kernel
theorem dX6_read_85 : decode cX6_read 85 = .ok (.aload_n 0, 1) := by decide +kernel
theorem dX6_read_86 : decode cX6_read 86 = .ok (.invokevirtual 58, 3) := by decide +kernel
theorem dX6_read_89 : decode cX6_read 89 = .ok (.istore_n 3, 1) := by decide +kernel
theorem dX6_read_90 : decode cX6_read 90 = .ok (.iinc 4 1, 3) := by decide +kernel
theorem dX6_read_93 : decode cX6_read 93 = .ok (.goto (-43), 3) := by decide +kernel
theorem dX6_read_96 : decode cX6_read 96 = .ok (.iload_n 3, 1) := by decide +kernel
theorem dX6_read_97 : decode cX6_read 97 = .ok (.ifCond .eq 23, 3) := by decide +kernel
theorem dX6_read_100 : decode cX6_read 100 = .ok (.aload_n 0, 1) := by decide +kernel
theorem dX6_read_101 : decode cX6_read 101 = .ok (.getfield 9, 3) := by decide +kernel
theorem dX6_read_104 : decode cX6_read 104 = .ok (.aload_n 0, 1) := by decide +kernel
theorem dX6_read_105 : decode cX6_read 105 = .ok (.getfield 46, 3) := by decide +kernel
theorem dX6_read_108 : decode cX6_read 108 = .ok (.iaload, 1) := by decide +kernel
theorem dX6_read_109 : decode cX6_read 109 = .ok (.sipush 256, 3) := by decide +kernel
theorem dX6_read_112 : decode cX6_read 112 = .ok (.if_icmp .eq 8, 3) := by decide +kernel
theorem dX6_read_115 : decode cX6_read 115 = .ok (.aload_n 0, 1) := by decide +kernel
theorem dX6_read_116 : decode cX6_read 116 = .ok (.invokevirtual 62, 3) := by decide +kernel
theorem dX6_read_119 : decode cX6_read 119 = .ok (.istore_n 3, 1) := by decide +kernel
theorem dX6_read_120 : decode cX6_read 120 = .ok (.iload_n 3, 1) := by decide +kernel
theorem dX6_read_121 : decode cX6_read 121 = .ok (.ifCond .ne 5, 3) := by decide +kernel
theorem dX6_read_124 : decode cX6_read 124 = .ok (.aconst_null, 1) := by decide +kernel
theorem dX6_read_125 : decode cX6_read 125 = .ok (.areturn, 1) := by decide +kernel
theorem dX6_read_126 : decode cX6_read 126 = .ok (.new 21, 3) := by decide +kernel
theorem dX6_read_129 : decode cX6_read 129 = .ok (.dup, 1) := by decide +kernel
theorem dX6_read_130 : decode cX6_read 130 = .ok (.aload_n 0, 1) := by decide +kernel
theorem dX6_read_131 : decode cX6_read 131 = .ok (.getfield 52, 3) := by decide +kernel
theorem dX6_read_134 : decode cX6_read 134 = .ok (.aload_n 0, 1) := by decide +kernel
theorem dX6_read_135 : decode cX6_read 135 = .ok (.getfield 23, 3) := by decide +kernel
theorem dX6_read_138 : decode cX6_read 138 = .ok (.aload_n 0, 1) := by decide +kernel
theorem dX6_read_139 : decode cX6_read 139 = .ok (.getfield 52, 3) := by decide +kernel
theorem dX6_read_142 : decode cX6_read 142 = .ok (.invokestatic 65, 3) := by decide +kernel
theorem dX6_read_145 : decode cX6_read 145 = .ok (.aload_n 0, 1) := by decide +kernel
theorem dX6_read_146 : decode cX6_read 146 = .ok (.getfield 26, 3) := by decide +kernel
theorem dX6_read_149 : decode cX6_read 149 = .ok (.aload_n 0, 1) := by decide +kernel
theorem dX6_read_150 : decode cX6_read 150 = .ok (.getfield 52, 3) := by decide +kernel
theorem dX6_read_153 : decode cX6_read 153 = .ok (.iconst 1, 1) := by decide +kernel
theorem dX6_read_154 : decode cX6_read 154 = .ok (.iadd, 1) := by decide +kernel
theorem dX6_read_155 : decode cX6_read 155 = .ok (.invokestatic 65, 3) := by decide +kernel
theorem dX6_read_158 : decode cX6_read 158 = .ok (.aload_n 0, 1) := by decide +kernel
theorem dX6_read_159 : decode cX6_read 159 = .ok (.getfield 29, 3) := by decide +kernel
theorem dX6_read_162 : decode cX6_read 162 = .ok (.aload_n 0, 1) := by decide +kernel
theorem dX6_read_163 : decode cX6_read 163 = .ok (.getfield 55, 3) := by decide +kernel
theorem dX6_read_166 : decode cX6_read 166 = .ok (.invokestatic 65, 3) := by decide +kernel
theorem dX6_read_169 : decode cX6_read 169 = .ok (.invokespecial 71, 3) := by decide +kernel
theorem dX6_read_172 : decode cX6_read 172 = .ok (.areturn, 1) := by decide +kernel
abbrev YX6_read : zY := (yX6_read, cX6_read, 5, (Option.some (Jvm.ClassFile.FieldType.object "ExamSlips$Paper")), [])
def fX6_read_120  (v3 : Int) (F : zFs) (D : zDa) (n sl : Nat) : Option (Int × zM) :=
  if v3 = 0 then
    some ((-1), (F, D, n, sl))
  else
    if (n < 900000) then
      (fJ7_copyOf_59c91 46 ((zrow D n (zdf 3)) 42 5) (znew F n (4, 0, zdf 3)) (zrow D n (zdf 3)) (n + 1) (sl + 4)).bind (fun (r_14, (F_15, D_16, n_17, sl_18)) =>
        if zG F_15 ∧ 126 ≤ n_17 then
          if (-2147483648 ≤ (D_16 42 5) + 1 ∧ (D_16 42 5) + 1 ≤ 2147483647) then
            (fJ7_copyOf_59c91 47 ((D_16 42 5) + 1) F_15 D_16 n_17 sl_18).bind (fun (r_19, (F_20, D_21, n_22, sl_23)) =>
              if zG F_20 ∧ 126 ≤ n_22 then
                (fJ7_copyOf_59c91 48 (D_21 42 9) F_20 D_21 n_22 sl_23).bind (fun (r_24, (F_25, D_26, n_27, sl_28)) =>
                  if zG F_25 ∧ 126 ≤ n_27 then
                    if (0 ≤ r_24) ∧ (0 ≤ r_19) ∧ (0 ≤ r_14) then
                      (fX3_init n ((zrow D n (zdf 3)) 42 5) r_14.toNat r_19.toNat r_24.toNat F_25 D_26 n_27 sl_28).bind (fun (F_30, D_31, n_32, sl_33) =>
                        if zG F_30 ∧ 126 ≤ n_32 then
                          some ((n : Int), (F_30, D_31, n_32, sl_33))
                        else none)
                    else none
                  else none)
              else none)
          else none
        else none)
    else none
def fX6_read_96  (v3 : Int) (F : zFs) (D : zDa) (n sl : Nat) : Option (Int × zM) :=
  if v3 = 0 then
    fX6_read_120 v3 F D n sl
  else
    if (0 ≤ (D 42 3) ∧ (D 42 3) < 401) then
      if (D 43 (D 42 3).toNat) = 256 then
        fX6_read_120 v3 F D n sl
      else
        (fX6_fail F D).bind (fun (r_34, D_35) =>
          fX6_read_120 r_34 F D_35 n sl)
    else none
def fX6_read_50   (k_50 : Int → Int → zFs → zDa → Nat → Nat → Option (Int × zM)) (v3 : Int) (v4 : Int) (F : zFs) (D : zDa) (n sl : Nat) : Option (Int × zM) :=
  if v4 < 12 then
    if v3 = 0 then
      fX6_read_96 v3 F D n sl
    else
      if (0 ≤ (D 42 3) ∧ (D 42 3) < 401) then
        if (D 43 (D 42 3).toNat) = 59 then
          if (-2147483648 ≤ (D 42 3) + 1 ∧ (D 42 3) + 1 ≤ 2147483647) then
            zlet (zwr D 42 3 ((D 42 3) + 1)) (fun D_36 =>
              (fX6_clause F D_36).bind (fun (r_37, D_38) =>
                if (-2147483648 ≤ v4 + 1 ∧ v4 + 1 ≤ 2147483647) then
                  k_50 r_37 (v4 + 1) F D_38 n sl
                else none))
          else none
        else
          fX6_read_96 v3 F D n sl
      else none
  else
    fX6_read_96 v3 F D n sl
def fX6_read (v2 : Int) (F : zFs) (D : zDa) (n sl : Nat) : Option (Int × zM) :=
  (fJ9_min_7cf53 F 400 400 D).bind (fun (r_1, D_2) =>
    (fJ9_min_7cf53 F v2 r_1 D_2).bind (fun (r_3, D_4) =>
      (fX6_cutTokens F r_3 D_4).bind (fun D_6 =>
        zlet (zwr D_6 42 3 0) (fun D_7 =>
          zlet (zwr D_7 42 4 0) (fun D_8 =>
            zlet (zwr D_8 42 5 0) (fun D_9 =>
              zlet (zwr D_9 42 9 0) (fun D_10 =>
                zlet (zwr D_10 42 10 (-1)) (fun D_11 =>
                  (fX6_clause F D_11).bind (fun (r_12, D_13) =>
                    zfix (fun _ _ _ _ _ _ => none) (fX6_read_50 ) zfu r_12 0 F D_13 n sl)))))))))
set_option maxHeartbeats 20000000 in
theorem sX6_read_120 {l : Launch} {E : zE} {d : Nat}  (v3 : Int)   (F : zFs) (D : zDa) (n sl : Nat) (hG : zG F) (hN : 126 ≤ n) : zO l E (d + 86) YX6_read 120 [(0, zR 42), (3, zI v3)] [] (F, D, n, sl) (zmQ) (fX6_read_120 v3 F D n sl) := by
  unfold fX6_read_120
  refine zO_iload_n dX6_read_120 rfl ?_
  refine zO_if_ne (tgt := 126) dX6_read_121 rfl (fun c121 => ?_) (fun c121 => ?_)
  · refine zO_null dX6_read_124 ?_
    refine zO_st (st' := [zq (-1)]) (by first | rfl | exact congrArg (fun v => [v]) (zq_nat _).symm) ?_
    exact zO_retQ dX6_read_125 (zretok_q _ (by first | exact Or.inl ⟨_, rfl⟩ | exact Or.inr ⟨_, rfl⟩)) rfl
  · refine zO_chk (fun h1 => ?_)
    refine nw3 dX6_read_126 wL_X6_21 h1 ?_
    have hh2 : zG (znew F n (4, 0, zdf 3)) := zG_new hG hN
    have hh2n : 126 ≤ n + 1 := Nat.le_succ_of_le hN
    refine zO_dup dX6_read_129 (rfl) ?_
    refine zO_aload_n dX6_read_130 rfl (zR_P _) ?_
    refine gt6 (k := 5) (v := zI ((zrow D n (zdf 3)) 42 5)) dX6_read_131 wF_X6_52 (by decide) (gk_42 hh2) rfl ?_
    refine zO_aload_n dX6_read_134 rfl (zR_P _) ?_
    refine gt6 (k := 6) dX6_read_135 wF_X6_23 (by decide) (gk_42 hh2) (zgv (c := 6) (k := 6) rfl (Or.inl ⟨_, rfl⟩) (gf_42_6 hh2)) ?_
    refine zO_aload_n dX6_read_138 rfl (zR_P _) ?_
    refine gt6 (k := 5) (v := zI ((zrow D n (zdf 3)) 42 5)) dX6_read_139 wF_X6_52 (by decide) (gk_42 hh2) rfl ?_
    refine zO_callS (Y' := YJ7_copyOf_59c91) (cw := zmQ) (as := [zR 46, zI ((zrow D n (zdf 3)) 42 5)]) (rest := [zI ((zrow D n (zdf 3)) 42 5), zR n, zR n]) (na := 2) dX6_read_142 wC_J7_copyOf_59c91 wN_J7 wM_X6_65 wS_J7_copyOf_59c91 (by decide) (by decide) rfl rfl (Nat.le_of_ble_eq_true rfl) (fun r hr => zMet_cast (Nat.add_assoc d 84 1) (mJ7_copyOf_59c91 (d := d + 84) 46 ((zrow D n (zdf 3)) 42 5) hh2 hh2n r hr)) ?_
    rintro ⟨r_14, F_15, D_16, n_17, sl_18⟩ -
    show zO _ _ _ _ _ _ [zq r_14, zI ((zrow D n (zdf 3)) 42 5), zR n, zR n] (F_15, D_16, n_17, sl_18) _ _
    refine zO_chk (fun g18 => ?_)
    refine zO_chk (fun h3 => ?_)
    refine zO_aload_n dX6_read_145 rfl (zR_P _) ?_
    refine gt6 (k := 7) dX6_read_146 wF_X6_26 (by decide) (gk_42 g18.1) (zgv (c := 6) (k := 7) rfl (Or.inl ⟨_, rfl⟩) (gf_42_7 g18.1)) ?_
    refine zO_aload_n dX6_read_149 rfl (zR_P _) ?_
    refine gt6 (k := 5) (v := zI (D_16 42 5)) dX6_read_150 wF_X6_52 (by decide) (gk_42 g18.1) rfl ?_
    refine zO_iconst dX6_read_153 (by decide) ?_
    refine zO_iadd dX6_read_154 h3 ?_
    refine zO_callS (Y' := YJ7_copyOf_59c91) (cw := zmQ) (as := [zR 47, zI ((D_16 42 5) + 1)]) (rest := [zq r_14, zI ((zrow D n (zdf 3)) 42 5), zR n, zR n]) (na := 2) dX6_read_155 wC_J7_copyOf_59c91 wN_J7 wM_X6_65 wS_J7_copyOf_59c91 (by decide) (by decide) rfl rfl (by unfold zwid; simp only [List.map_cons, List.map_nil, zq_cat]; exact Nat.le_of_ble_eq_true rfl) (fun r hr => zMet_cast (Nat.add_assoc d 84 1) (mJ7_copyOf_59c91 (d := d + 84) 47 ((D_16 42 5) + 1) g18.1 g18.2 r hr)) ?_
    rintro ⟨r_19, F_20, D_21, n_22, sl_23⟩ -
    show zO _ _ _ _ _ _ [zq r_19, zq r_14, zI ((zrow D n (zdf 3)) 42 5), zR n, zR n] (F_20, D_21, n_22, sl_23) _ _
    refine zO_chk (fun g23 => ?_)
    refine zO_aload_n dX6_read_158 rfl (zR_P _) ?_
    refine gt6 (k := 8) dX6_read_159 wF_X6_29 (by decide) (gk_42 g23.1) (zgv (c := 6) (k := 8) rfl (Or.inl ⟨_, rfl⟩) (gf_42_8 g23.1)) ?_
    refine zO_aload_n dX6_read_162 rfl (zR_P _) ?_
    refine gt6 (k := 9) (v := zI (D_21 42 9)) dX6_read_163 wF_X6_55 (by decide) (gk_42 g23.1) rfl ?_
    refine zO_callS (Y' := YJ7_copyOf_59c91) (cw := zmQ) (as := [zR 48, zI (D_21 42 9)]) (rest := [zq r_19, zq r_14, zI ((zrow D n (zdf 3)) 42 5), zR n, zR n]) (na := 2) dX6_read_166 wC_J7_copyOf_59c91 wN_J7 wM_X6_65 wS_J7_copyOf_59c91 (by decide) (by decide) rfl rfl (by unfold zwid; simp only [List.map_cons, List.map_nil, zq_cat]; exact Nat.le_of_ble_eq_true rfl) (fun r hr => zMet_cast (Nat.add_assoc d 84 1) (mJ7_copyOf_59c91 (d := d + 84) 48 (D_21 42 9) g23.1 g23.2 r hr)) ?_
    rintro ⟨r_24, F_25, D_26, n_27, sl_28⟩ -
    show zO _ _ _ _ _ _ [zq r_24, zq r_19, zq r_14, zI ((zrow D n (zdf 3)) 42 5), zR n, zR n] (F_25, D_26, n_27, sl_28) _ _
    refine zO_chk (fun g28 => ?_)
    refine zO_chk (fun h4 => ?_)
    refine zO_q0 h4.1 ?_
    refine zO_q1 h4.2.1 ?_
    refine zO_q2 h4.2.2 ?_
    refine zO_callI (Y' := YX3_init) (cw := zmV) (as := [zI ((zrow D n (zdf 3)) 42 5), zR r_14.toNat, zR r_19.toNat, zR r_24.toNat]) (rest := [zR n]) (na := 4) dX6_read_169 wC_X3_init wN_X3 wM_X6_71 wI_X3_init rfl rfl (by decide) (by decide) rfl rfl (Nat.le_of_ble_eq_true rfl) (fun r hr => mX3_init (d := d + 85) n ((zrow D n (zdf 3)) 42 5) r_14.toNat r_19.toNat r_24.toNat r hr) ?_
    rintro ⟨F_30, D_31, n_32, sl_33⟩ -
    show zO _ _ _ _ _ _ [zR n] (F_30, D_31, n_32, sl_33) _ _
    refine zO_chk (fun g33 => ?_)
    refine zO_st (st' := [zq (n : Int)]) (by first | rfl | exact congrArg (fun v => [v]) (zq_nat _).symm) ?_
    exact zO_retQ dX6_read_172 (zretok_q _ (by first | exact Or.inl ⟨_, rfl⟩ | exact Or.inr ⟨_, rfl⟩)) rfl
set_option maxHeartbeats 20000000 in
theorem sX6_read_96 {l : Launch} {E : zE} {d : Nat}  (v3 : Int)   (F : zFs) (D : zDa) (n sl : Nat) (hG : zG F) (hN : 126 ≤ n) : zO l E (d + 86) YX6_read 96 [(0, zR 42), (3, zI v3)] [] (F, D, n, sl) (zmQ) (fX6_read_96 v3 F D n sl) := by
  unfold fX6_read_96
  refine zO_iload_n dX6_read_96 rfl ?_
  refine zO_if_eq (tgt := 120) dX6_read_97 rfl (fun c97 => ?_) (fun c97 => ?_)
  · refine zO_live [0, 3] ?_
    exact sX6_read_120 v3 F D n sl hG hN
  · refine zO_chk (fun h5 => ?_)
    refine zO_aload_n dX6_read_100 rfl (zR_P _) ?_
    refine gt6 (k := 0) dX6_read_101 wF_X6_9 (by decide) (gk_42 hG) (zgv (c := 6) (k := 0) rfl (Or.inl ⟨_, rfl⟩) (gf_42_0 hG)) ?_
    refine zO_aload_n dX6_read_104 rfl (zR_P _) ?_
    refine gt6 (k := 3) (v := zI (D 42 3)) dX6_read_105 wF_X6_46 (by decide) (gk_42 hG) rfl ?_
    refine zO_iald dX6_read_108 (gk_43 hG) (gl_in (gl_43 hG) h5) ?_
    refine zO_sipush dX6_read_109 (by decide) ?_
    refine zO_icmp_eq (tgt := 120) dX6_read_112 rfl (fun c112 => ?_) (fun c112 => ?_)
    · refine zO_live [0, 3] ?_
      exact sX6_read_120 v3 F D n sl hG hN
    · refine zO_aload_n dX6_read_115 rfl (zR_P _) ?_
      refine zO_callV (Y' := YX6_fail) (cw := zcI F n sl) (as := []) (rest := []) (na := 0) (ci := 6) rfl dX6_read_116 wC_X6_fail wN_X6 wM_X6_62 wI_X6_fail wV_X6_fail (by decide) (by decide) rfl rfl (Nat.le_of_ble_eq_true rfl) rfl (by decide) (gk_42 hG) (fun r hr => zMet_cast (Nat.add_assoc d 85 0) (mX6_fail (d := d + 85) hG  r hr)) ?_
      rintro ⟨r_34, D_35⟩ -
      show zO _ _ _ _ _ _ [zI r_34] (F, D_35, n, sl) _ _
      refine zO_istore_n dX6_read_119 (by decide) ?_
      refine zO_ls (ls' := [(0, zR 42), (3, zI r_34)]) rfl ?_
      refine zO_live [0, 3] ?_
      exact sX6_read_120 r_34 F D_35 n sl hG hN
set_option maxHeartbeats 20000000 in
theorem sX6_read_50 {l : Launch} {E : zE} {d : Nat}     : ∀ (N : Nat) (v3 : Int) (v4 : Int) (F : zFs) (D : zDa) (n sl : Nat), zG F → 126 ≤ n → zO l E (d + 86) YX6_read 50 [(0, zR 42), (3, zI v3), (4, zI v4)] [] (F, D, n, sl) (zmQ) (zfix (fun _ _ _ _ _ _ => none) (fX6_read_50 ) N v3 v4 F D n sl) := by
  intro N
  induction N with
  | zero => intro v3 v4 F D n sl hG hN; exact zO_none
  | succ N hk_50 =>
    intro v3 v4 F D n sl hG hN
    show zO _ _ _ _ _ _ _ _ _ ((fX6_read_50 ) (zfix (fun _ _ _ _ _ _ => none) (fX6_read_50 ) N) v3 v4 F D n sl)
    unfold fX6_read_50
    refine zO_iload dX6_read_50 rfl ?_
    refine zO_bipush dX6_read_52 (by decide) ?_
    refine zO_icmp_ge (tgt := 96) dX6_read_54 rfl (fun c54 => ?_) (fun c54 => ?_)
    · refine zO_iload_n dX6_read_57 rfl ?_
      refine zO_if_eq (tgt := 96) dX6_read_58 rfl (fun c58 => ?_) (fun c58 => ?_)
      · refine zO_live [0, 3] ?_
        exact sX6_read_96 v3 F D n sl hG hN
      · refine zO_chk (fun h6 => ?_)
        refine zO_aload_n dX6_read_61 rfl (zR_P _) ?_
        refine gt6 (k := 0) dX6_read_62 wF_X6_9 (by decide) (gk_42 hG) (zgv (c := 6) (k := 0) rfl (Or.inl ⟨_, rfl⟩) (gf_42_0 hG)) ?_
        refine zO_aload_n dX6_read_65 rfl (zR_P _) ?_
        refine gt6 (k := 3) (v := zI (D 42 3)) dX6_read_66 wF_X6_46 (by decide) (gk_42 hG) rfl ?_
        refine zO_iald dX6_read_69 (gk_43 hG) (gl_in (gl_43 hG) h6) ?_
        refine zO_bipush dX6_read_70 (by decide) ?_
        refine zO_icmp_ne (tgt := 96) dX6_read_72 rfl (fun c72 => ?_) (fun c72 => ?_)
        · refine zO_chk (fun h7 => ?_)
          refine zO_aload_n dX6_read_75 rfl (zR_P _) ?_
          refine zO_dup dX6_read_76 (rfl) ?_
          refine gt6 (k := 3) (v := zI (D 42 3)) dX6_read_77 wF_X6_46 (by decide) (gk_42 hG) rfl ?_
          refine zO_iconst dX6_read_80 (by decide) ?_
          refine zO_iadd dX6_read_81 h7 ?_
          refine ptI6 (k := 3) (z := ((D 42 3) + 1)) dX6_read_82 wF_X6_46 (by decide) rfl (gk_42 hG) rfl ?_
          refine zO_letD (fun D_36 eD_36 => ?_)
          refine zO_aload_n dX6_read_85 rfl (zR_P _) ?_
          refine zO_callV (Y' := YX6_clause) (cw := zcI F n sl) (as := []) (rest := []) (na := 0) (ci := 6) rfl dX6_read_86 wC_X6_clause wN_X6 wM_X6_58 wI_X6_clause wV_X6_clause (by decide) (by decide) rfl rfl (Nat.le_of_ble_eq_true rfl) rfl (by decide) (gk_42 hG) (fun r hr => zMet_cast (Nat.add_assoc d 0 85) (mX6_clause (d := d + 0) hG  r hr)) ?_
          rintro ⟨r_37, D_38⟩ -
          show zO _ _ _ _ _ _ [zI r_37] (F, D_38, n, sl) _ _
          refine zO_chk (fun h8 => ?_)
          refine zO_istore_n dX6_read_89 (by decide) ?_
          refine zO_ls (ls' := [(0, zR 42), (3, zI r_37), (4, zI v4)]) rfl ?_
          refine zO_iinc dX6_read_90 rfl h8 (by decide) ?_
          refine zO_ls (ls' := [(0, zR 42), (3, zI r_37), (4, zI (v4 + 1))]) rfl ?_
          refine zO_goto (tgt := 50) dX6_read_93 rfl ?_
          refine zO_live [0, 3, 4] ?_
          exact hk_50 r_37 (v4 + 1) F D_38 n sl hG hN
        · refine zO_live [0, 3] ?_
          exact sX6_read_96 v3 F D n sl hG hN
    · refine zO_live [0, 3] ?_
      exact sX6_read_96 v3 F D n sl hG hN
set_option maxHeartbeats 20000000 in
theorem mX6_read {l : Launch} {E : zE} {d : Nat} (v2 : Int) {F : zFs} {D : zDa} {n sl : Nat} (hG : zG F) (hN : 126 ≤ n) : ∀ r, fX6_read v2 F D n sl = some r → zMet l E (d + 86) YX6_read [zR 42, zR 39, zI v2] (F, D, n, sl) (zmQ r) := by
  intro r hr
  refine zMet_of (plainFor_of_name (by decide)) (fun _ h => (nomatch h)) (Nat.le_of_ble_eq_true rfl) ?_
  have hz : zO l E (d + 86) YX6_read 0 [(0, zR 42), (1, zR 39), (2, zI v2)] [] (F, D, n, sl) (zmQ) (fX6_read v2 F D n sl) := by
    unfold fX6_read
    refine zO_aload_n dX6_read_0 rfl (zR_P _) ?_
    refine zO_aload_n dX6_read_1 rfl (zR_P _) ?_
    refine zO_iload_n dX6_read_2 rfl ?_
    refine zO_aload_n dX6_read_3 rfl (zR_P _) ?_
    refine zO_alen (kd := 20) dX6_read_4 (gk_39 hG) (by decide) ?_
    refine zO_st (st' := [zI 400, zI v2, zR 39, zR 42]) (by rw [gl_39 hG]; rfl) ?_
    refine zO_sipush dX6_read_5 (by decide) ?_
    refine zO_callS (Y' := YJ9_min_7cf53) (cw := zcI F n sl) (as := [zI 400, zI 400]) (rest := [zI v2, zR 39, zR 42]) (na := 2) dX6_read_8 wC_J9_min_7cf53 wN_J9 wM_X6_36 wS_J9_min_7cf53 (by decide) (by decide) rfl rfl (Nat.le_of_ble_eq_true rfl) (fun r hr => zMet_cast (Nat.add_assoc d 85 0) (mJ9_min_7cf53 (d := d + 85) hG 400 400 r hr)) ?_
    rintro ⟨r_1, D_2⟩ -
    show zO _ _ _ _ _ _ [zI r_1, zI v2, zR 39, zR 42] (F, D_2, n, sl) _ _
    refine zO_callS (Y' := YJ9_min_7cf53) (cw := zcI F n sl) (as := [zI v2, zI r_1]) (rest := [zR 39, zR 42]) (na := 2) dX6_read_11 wC_J9_min_7cf53 wN_J9 wM_X6_36 wS_J9_min_7cf53 (by decide) (by decide) rfl rfl (Nat.le_of_ble_eq_true rfl) (fun r hr => zMet_cast (Nat.add_assoc d 85 0) (mJ9_min_7cf53 (d := d + 85) hG v2 r_1 r hr)) ?_
    rintro ⟨r_3, D_4⟩ -
    show zO _ _ _ _ _ _ [zI r_3, zR 39, zR 42] (F, D_4, n, sl) _ _
    refine zO_callV (Y' := YX6_cutTokens) (cw := zcV F n sl) (as := [zR 39, zI r_3]) (rest := []) (na := 2) (ci := 6) rfl dX6_read_14 wC_X6_cutTokens wN_X6 wM_X6_42 wI_X6_cutTokens wV_X6_cutTokens (by decide) (by decide) rfl rfl (Nat.le_of_ble_eq_true rfl) rfl (by decide) (gk_42 hG) (fun r hr => zMet_cast (Nat.add_assoc d 79 6) (mX6_cutTokens (d := d + 79) hG r_3 r hr)) ?_
    intro D_6 _
    show zO _ _ _ _ _ _ [] (F, D_6, n, sl) _ _
    refine zO_aload_n dX6_read_17 rfl (zR_P _) ?_
    refine zO_iconst dX6_read_18 (by decide) ?_
    refine ptI6 (k := 3) (z := 0) dX6_read_19 wF_X6_46 (by decide) rfl (gk_42 hG) rfl ?_
    refine zO_letD (fun D_7 eD_7 => ?_)
    refine zO_aload_n dX6_read_22 rfl (zR_P _) ?_
    refine zO_iconst dX6_read_23 (by decide) ?_
    refine ptI6 (k := 4) (z := 0) dX6_read_24 wF_X6_49 (by decide) rfl (gk_42 hG) rfl ?_
    refine zO_letD (fun D_8 eD_8 => ?_)
    refine zO_aload_n dX6_read_27 rfl (zR_P _) ?_
    refine zO_iconst dX6_read_28 (by decide) ?_
    refine ptI6 (k := 5) (z := 0) dX6_read_29 wF_X6_52 (by decide) rfl (gk_42 hG) rfl ?_
    refine zO_letD (fun D_9 eD_9 => ?_)
    refine zO_aload_n dX6_read_32 rfl (zR_P _) ?_
    refine zO_iconst dX6_read_33 (by decide) ?_
    refine ptI6 (k := 9) (z := 0) dX6_read_34 wF_X6_55 (by decide) rfl (gk_42 hG) rfl ?_
    refine zO_letD (fun D_10 eD_10 => ?_)
    refine zO_aload_n dX6_read_37 rfl (zR_P _) ?_
    refine zO_iconst dX6_read_38 (by decide) ?_
    refine ptI6 (k := 10) (z := (-1)) dX6_read_39 wF_X6_32 (by decide) rfl (gk_42 hG) rfl ?_
    refine zO_letD (fun D_11 eD_11 => ?_)
    refine zO_aload_n dX6_read_42 rfl (zR_P _) ?_
    refine zO_callV (Y' := YX6_clause) (cw := zcI F n sl) (as := []) (rest := []) (na := 0) (ci := 6) rfl dX6_read_43 wC_X6_clause wN_X6 wM_X6_58 wI_X6_clause wV_X6_clause (by decide) (by decide) rfl rfl (Nat.le_of_ble_eq_true rfl) rfl (by decide) (gk_42 hG) (fun r hr => zMet_cast (Nat.add_assoc d 0 85) (mX6_clause (d := d + 0) hG  r hr)) ?_
    rintro ⟨r_12, D_13⟩ -
    show zO _ _ _ _ _ _ [zI r_12] (F, D_13, n, sl) _ _
    refine zO_istore_n dX6_read_46 (by decide) ?_
    refine zO_ls (ls' := [(0, zR 42), (1, zR 39), (2, zI v2), (3, zI r_12)]) rfl ?_
    refine zO_iconst dX6_read_47 (by decide) ?_
    refine zO_istore dX6_read_48 (by decide) ?_
    refine zO_ls (ls' := [(0, zR 42), (1, zR 39), (2, zI v2), (3, zI r_12), (4, zI 0)]) rfl ?_
    refine zO_live [0, 3, 4] ?_
    exact sX6_read_50  zfu r_12 0 F D_13 n sl hG hN
  exact hz r hr
theorem dX7_sameHours_0 : decode cX7_sameHours 0 = .ok (.iconst 0, 1) := by decide +kernel
theorem dX7_sameHours_1 : decode cX7_sameHours 1 = .ok (.istore_n 1, 1) := by decide +kernel
theorem dX7_sameHours_2 : decode cX7_sameHours 2 = .ok (.iload_n 1, 1) := by decide +kernel
theorem dX7_sameHours_3 : decode cX7_sameHours 3 = .ok (.iconst 3, 1) := by decide +kernel
theorem dX7_sameHours_4 : decode cX7_sameHours 4 = .ok (.if_icmp .ge 29, 3) := by decide +kernel
theorem dX7_sameHours_7 : decode cX7_sameHours 7 = .ok (.aload_n 0, 1) := by decide +kernel
theorem dX7_sameHours_8 : decode cX7_sameHours 8 = .ok (.getfield 15, 3) := by decide +kernel
theorem dX7_sameHours_11 : decode cX7_sameHours 11 = .ok (.iload_n 1, 1) := by decide +kernel
theorem dX7_sameHours_12 : decode cX7_sameHours 12 = .ok (.iaload, 1) := by decide +kernel
theorem dX7_sameHours_13 : decode cX7_sameHours 13 = .ok (.aload_n 0, 1) := by decide +kernel
theorem dX7_sameHours_14 : decode cX7_sameHours 14 = .ok (.getfield 37, 3) := by decide +kernel
theorem dX7_sameHours_17 : decode cX7_sameHours 17 = .ok (.getfield 54, 3) := by decide +kernel
theorem dX7_sameHours_20 : decode cX7_sameHours 20 = .ok (.iload_n 1, 1) := by decide +kernel
theorem dX7_sameHours_21 : decode cX7_sameHours 21 = .ok (.iaload, 1) := by decide +kernel
theorem dX7_sameHours_22 : decode cX7_sameHours 22 = .ok (.if_icmp .eq 5, 3) := by decide +kernel
theorem dX7_sameHours_25 : decode cX7_sameHours 25 = .ok (.iconst 0, 1) := by decide +kernel
theorem dX7_sameHours_26 : decode cX7_sameHours 26 = .ok (.ireturn, 1) := by decide +kernel
theorem dX7_sameHours_27 : decode cX7_sameHours 27 = .ok (.iinc 1 1, 3) := by decide +kernel
theorem dX7_sameHours_30 : decode cX7_sameHours 30 = .ok (.goto (-28), 3) := by decide +kernel
theorem dX7_sameHours_33 : decode cX7_sameHours 33 = .ok (.iconst 1, 1) := by decide +kernel
theorem dX7_sameHours_34 : decode cX7_sameHours 34 = .ok (.ireturn, 1) := by decide +kernel
abbrev YX7_sameHours : zY := (yX7_sameHours, cX7_sameHours, 2, (Option.some Jvm.ClassFile.FieldType.boolean), [])
def fX7_sameHours_2 (F : zFs)   (k_2 : Int → zDa → Option (Int × zDa)) (v1 : Int) (D : zDa) : Option (Int × zDa) :=
  if v1 < 3 then
    if (0 ≤ v1 ∧ v1 < 3) then
      if (D 79 v1.toNat) = (D 11 v1.toNat) then
        if (-2147483648 ≤ v1 + 1 ∧ v1 + 1 ≤ 2147483647) then
          k_2 (v1 + 1) D
        else none
      else
        some (0, D)
    else none
  else
    some (1, D)
def fX7_sameHours (F : zFs)  (D : zDa) : Option (Int × zDa) :=
  zfix (fun _ _ => none) (fX7_sameHours_2 F) zfu 0 D
set_option maxHeartbeats 20000000 in
theorem sX7_sameHours_2 {l : Launch} {E : zE} {d : Nat} {F : zFs} {n sl : Nat} (hG : zG F)     : ∀ (N : Nat) (v1 : Int) (D : zDa), zO l E (d + 0) YX7_sameHours 2 [(0, zR 78), (1, zI v1)] [] (F, D, n, sl) (zcI F n sl) (zfix (fun _ _ => none) (fX7_sameHours_2 F) N v1 D) := by
  intro N
  induction N with
  | zero => intro v1 D; exact zO_none
  | succ N hk_2 =>
    intro v1 D
    show zO _ _ _ _ _ _ _ _ _ ((fX7_sameHours_2 F) (zfix (fun _ _ => none) (fX7_sameHours_2 F) N) v1 D)
    unfold fX7_sameHours_2
    refine zO_iload_n dX7_sameHours_2 rfl ?_
    refine zO_iconst dX7_sameHours_3 (by decide) ?_
    refine zO_icmp_ge (tgt := 33) dX7_sameHours_4 rfl (fun c4 => ?_) (fun c4 => ?_)
    · refine zO_chk (fun h1 => ?_)
      refine zO_aload_n dX7_sameHours_7 rfl (zR_P _) ?_
      refine gt7 (k := 3) dX7_sameHours_8 wF_X7_15 (by decide) (gk_78 hG) (zgv (c := 7) (k := 3) rfl (Or.inl ⟨_, rfl⟩) (gf_78_3 hG)) ?_
      refine zO_iload_n dX7_sameHours_11 rfl ?_
      refine zO_iald dX7_sameHours_12 (gk_79 hG) (gl_in (gl_79 hG) h1) ?_
      refine zO_aload_n dX7_sameHours_13 rfl (zR_P _) ?_
      refine gt7 (k := 0) dX7_sameHours_14 wF_X7_37 (by decide) (gk_78 hG) (zgv (c := 7) (k := 0) rfl (Or.inr ⟨_, rfl⟩) (gf_78_0 hG)) ?_
      refine gt9 (k := 13) dX7_sameHours_17 wF_X7_54 (by decide) (gk_1 hG) (zgv (c := 9) (k := 13) rfl (Or.inl ⟨_, rfl⟩) (gf_1_13 hG)) ?_
      refine zO_iload_n dX7_sameHours_20 rfl ?_
      refine zO_iald dX7_sameHours_21 (gk_11 hG) (gl_in (gl_11 hG) h1) ?_
      refine zO_icmp_eq (tgt := 27) dX7_sameHours_22 rfl (fun c22 => ?_) (fun c22 => ?_)
      · refine zO_chk (fun h2 => ?_)
        refine zO_iinc dX7_sameHours_27 rfl h2 (by decide) ?_
        refine zO_ls (ls' := [(0, zR 78), (1, zI (v1 + 1))]) rfl ?_
        refine zO_goto (tgt := 2) dX7_sameHours_30 rfl ?_
        refine zO_live [0, 1] ?_
        exact hk_2 (v1 + 1) D
      · refine zO_iconst dX7_sameHours_25 (by decide) ?_
        exact zO_ret (rv := some (zI 0)) dX7_sameHours_26 rfl rfl rfl
    · refine zO_iconst dX7_sameHours_33 (by decide) ?_
      exact zO_ret (rv := some (zI 1)) dX7_sameHours_34 rfl rfl rfl
set_option maxHeartbeats 20000000 in
theorem mX7_sameHours {l : Launch} {E : zE} {d : Nat} {F : zFs} {n sl : Nat} (hG : zG F)  {D : zDa} : ∀ r, fX7_sameHours F   D = some r → zMet l E (d + 0) YX7_sameHours [zR 78] (F, D, n, sl) (zcI F n sl r) := by
  intro r hr
  refine zMet_of (plainFor_of_name (by decide)) (fun _ h => (nomatch h)) (Nat.le_of_ble_eq_true rfl) ?_
  have hz : zO l E (d + 0) YX7_sameHours 0 [(0, zR 78)] [] (F, D, n, sl) (zcI F n sl) (fX7_sameHours F   D) := by
    unfold fX7_sameHours
    refine zO_iconst dX7_sameHours_0 (by decide) ?_
    refine zO_istore_n dX7_sameHours_1 (by decide) ?_
    refine zO_ls (ls' := [(0, zR 78), (1, zI 0)]) rfl ?_
    refine zO_live [0, 1] ?_
    exact sX7_sameHours_2 hG zfu 0 D
  exact hz r hr
theorem dX7_sortIn_0 : decode cX7_sortIn 0 = .ok (.iload_n 1, 1) := by decide +kernel
theorem dX7_sortIn_1 : decode cX7_sortIn 1 = .ok (.istore_n 2, 1) := by decide +kernel
theorem dX7_sortIn_2 : decode cX7_sortIn 2 = .ok (.iload_n 2, 1) := by decide +kernel
theorem dX7_sortIn_3 : decode cX7_sortIn 3 = .ok (.ifCond .le 45, 3) := by decide +kernel
theorem dX7_sortIn_6 : decode cX7_sortIn 6 = .ok (.aload_n 0, 1) := by decide +kernel
theorem dX7_sortIn_7 : decode cX7_sortIn 7 = .ok (.getfield 19, 3) := by decide +kernel
theorem dX7_sortIn_10 : decode cX7_sortIn 10 = .ok (.aload_n 0, 1) := by decide +kernel
theorem dX7_sortIn_11 : decode cX7_sortIn 11 = .ok (.getfield 22, 3) := by decide +kernel
theorem dX7_sortIn_14 : decode cX7_sortIn 14 = .ok (.iload_n 2, 1) := by decide +kernel
theorem dX7_sortIn_15 : decode cX7_sortIn 15 = .ok (.iconst 1, 1) := by decide +kernel
theorem dX7_sortIn_16 : decode cX7_sortIn 16 = .ok (.isub, 1) := by decide +kernel
theorem dX7_sortIn_17 : decode cX7_sortIn 17 = .ok (.iaload, 1) := by decide +kernel
theorem dX7_sortIn_18 : decode cX7_sortIn 18 = .ok (.iaload, 1) := by decide +kernel
theorem dX7_sortIn_19 : decode cX7_sortIn 19 = .ok (.aload_n 0, 1) := by decide +kernel
theorem dX7_sortIn_20 : decode cX7_sortIn 20 = .ok (.getfield 19, 3) := by decide +kernel
theorem dX7_sortIn_23 : decode cX7_sortIn 23 = .ok (.iload_n 1, 1) := by decide +kernel
theorem dX7_sortIn_24 : decode cX7_sortIn 24 = .ok (.iaload, 1) := by decide +kernel
theorem dX7_sortIn_25 : decode cX7_sortIn 25 = .ok (.if_icmp .le 23, 3) := by decide +kernel
theorem dX7_sortIn_28 : decode cX7_sortIn 28 = .ok (.aload_n 0, 1) := by decide +kernel
theorem dX7_sortIn_29 : decode cX7_sortIn 29 = .ok (.getfield 22, 3) := by decide +kernel
theorem dX7_sortIn_32 : decode cX7_sortIn 32 = .ok (.iload_n 2, 1) := by decide +kernel
theorem dX7_sortIn_33 : decode cX7_sortIn 33 = .ok (.aload_n 0, 1) := by decide +kernel
theorem dX7_sortIn_34 : decode cX7_sortIn 34 = .ok (.getfield 22, 3) := by decide +kernel
theorem dX7_sortIn_37 : decode cX7_sortIn 37 = .ok (.iload_n 2, 1) := by decide +kernel
theorem dX7_sortIn_38 : decode cX7_sortIn 38 = .ok (.iconst 1, 1) := by decide +kernel
theorem dX7_sortIn_39 : decode cX7_sortIn 39 = .ok (.isub, 1) := by decide +kernel
theorem dX7_sortIn_40 : decode cX7_sortIn 40 = .ok (.iaload, 1) := by decide +kernel
theorem dX7_sortIn_41 : decode cX7_sortIn 41 = .ok (.iastore, 1) := by decide +kernel
theorem dX7_sortIn_42 : decode cX7_sortIn 42 = .ok (.iinc 2 (-1), 3) := by decide +kernel
theorem dX7_sortIn_45 : decode cX7_sortIn 45 = .ok (.goto (-43), 3) := by decide +kernel
theorem dX7_sortIn_48 : decode cX7_sortIn 48 = .ok (.aload_n 0, 1) := by decide +kernel
theorem dX7_sortIn_49 : decode cX7_sortIn 49 = .ok (.getfield 22, 3) := by decide +kernel
theorem dX7_sortIn_52 : decode cX7_sortIn 52 = .ok (.iload_n 2, 1) := by decide +kernel
theorem dX7_sortIn_53 : decode cX7_sortIn 53 = .ok (.iload_n 1, 1) := by decide +kernel
theorem dX7_sortIn_54 : decode cX7_sortIn 54 = .ok (.iastore, 1) := by decide +kernel
theorem dX7_sortIn_55 : decode cX7_sortIn 55 = .ok (.return_, 1) := by decide +kernel
abbrev YX7_sortIn : zY := (yX7_sortIn, cX7_sortIn, 3, none, [])
def fX7_sortIn_48 (F : zFs)  (o1 : Int) (v2 : Int) (D : zDa) : Option zDa :=
  if (0 ≤ v2 ∧ v2 < 12) then
    zlet (zwr D 81 v2.toNat o1) (fun D_2 =>
      some D_2)
  else none
def fX7_sortIn_2 (F : zFs) (o1 : Int)  (k_2 : Int → zDa → Option zDa) (v2 : Int) (D : zDa) : Option zDa :=
  if 0 < v2 then
    if (-2147483648 ≤ v2 - 1 ∧ v2 - 1 ≤ 2147483647) ∧ (0 ≤ (v2 - 1) ∧ (v2 - 1) < 12) ∧ (0 ≤ (D 81 (v2 - 1).toNat) ∧ (D 81 (v2 - 1).toNat) < 12) ∧ (0 ≤ o1 ∧ o1 < 12) then
      if (D 80 o1.toNat) < (D 80 (D 81 (v2 - 1).toNat).toNat) then
        if (0 ≤ v2 ∧ v2 < 12) then
          zlet (zwr D 81 v2.toNat (D 81 (v2 - 1).toNat)) (fun D_1 =>
            if (-2147483648 ≤ v2 + (-1) ∧ v2 + (-1) ≤ 2147483647) then
              k_2 (v2 + (-1)) D_1
            else none)
        else none
      else
        fX7_sortIn_48 F o1 v2 D
    else none
  else
    fX7_sortIn_48 F o1 v2 D
def fX7_sortIn (F : zFs) (v1 : Int) (D : zDa) : Option zDa :=
  zfix (fun _ _ => none) (fX7_sortIn_2 F v1) zfu v1 D
set_option maxHeartbeats 20000000 in
theorem sX7_sortIn_48 {l : Launch} {E : zE} {d : Nat} {F : zFs} {n sl : Nat} (hG : zG F)  (o1 : Int) (v2 : Int)   (D : zDa) : zO l E (d + 0) YX7_sortIn 48 [(0, zR 78), (1, zI o1), (2, zI v2)] [] (F, D, n, sl) (zcV F n sl) (fX7_sortIn_48 F o1 v2 D) := by
  unfold fX7_sortIn_48
  refine zO_chk (fun h4 => ?_)
  refine zO_aload_n dX7_sortIn_48 rfl (zR_P _) ?_
  refine gt7 (k := 6) dX7_sortIn_49 wF_X7_22 (by decide) (gk_78 hG) (zgv (c := 7) (k := 6) rfl (Or.inl ⟨_, rfl⟩) (gf_78_6 hG)) ?_
  refine zO_iload_n dX7_sortIn_52 rfl ?_
  refine zO_iload_n dX7_sortIn_53 rfl ?_
  refine zO_iast dX7_sortIn_54 (gk_81 hG) (gl_in (gl_81 hG) h4) ?_
  refine zO_letD (fun D_2 eD_2 => ?_)
  exact zO_ret (rv := none) dX7_sortIn_55 rfl trivial rfl
set_option maxHeartbeats 20000000 in
theorem sX7_sortIn_2 {l : Launch} {E : zE} {d : Nat} {F : zFs} {n sl : Nat} (hG : zG F)  (o1 : Int)   : ∀ (N : Nat) (v2 : Int) (D : zDa), zO l E (d + 0) YX7_sortIn 2 [(0, zR 78), (1, zI o1), (2, zI v2)] [] (F, D, n, sl) (zcV F n sl) (zfix (fun _ _ => none) (fX7_sortIn_2 F o1) N v2 D) := by
  intro N
  induction N with
  | zero => intro v2 D; exact zO_none
  | succ N hk_2 =>
    intro v2 D
    show zO _ _ _ _ _ _ _ _ _ ((fX7_sortIn_2 F o1) (zfix (fun _ _ => none) (fX7_sortIn_2 F o1) N) v2 D)
    unfold fX7_sortIn_2
    refine zO_iload_n dX7_sortIn_2 rfl ?_
    refine zO_if_le (tgt := 48) dX7_sortIn_3 rfl (fun c3 => ?_) (fun c3 => ?_)
    · refine zO_chk (fun h1 => ?_)
      refine zO_aload_n dX7_sortIn_6 rfl (zR_P _) ?_
      refine gt7 (k := 5) dX7_sortIn_7 wF_X7_19 (by decide) (gk_78 hG) (zgv (c := 7) (k := 5) rfl (Or.inl ⟨_, rfl⟩) (gf_78_5 hG)) ?_
      refine zO_aload_n dX7_sortIn_10 rfl (zR_P _) ?_
      refine gt7 (k := 6) dX7_sortIn_11 wF_X7_22 (by decide) (gk_78 hG) (zgv (c := 7) (k := 6) rfl (Or.inl ⟨_, rfl⟩) (gf_78_6 hG)) ?_
      refine zO_iload_n dX7_sortIn_14 rfl ?_
      refine zO_iconst dX7_sortIn_15 (by decide) ?_
      refine zO_isub dX7_sortIn_16 h1.1 ?_
      refine zO_iald dX7_sortIn_17 (gk_81 hG) (gl_in (gl_81 hG) h1.2.1) ?_
      refine zO_iald dX7_sortIn_18 (gk_80 hG) (gl_in (gl_80 hG) h1.2.2.1) ?_
      refine zO_aload_n dX7_sortIn_19 rfl (zR_P _) ?_
      refine gt7 (k := 5) dX7_sortIn_20 wF_X7_19 (by decide) (gk_78 hG) (zgv (c := 7) (k := 5) rfl (Or.inl ⟨_, rfl⟩) (gf_78_5 hG)) ?_
      refine zO_iload_n dX7_sortIn_23 rfl ?_
      refine zO_iald dX7_sortIn_24 (gk_80 hG) (gl_in (gl_80 hG) h1.2.2.2) ?_
      refine zO_icmp_le (tgt := 48) dX7_sortIn_25 rfl (fun c25 => ?_) (fun c25 => ?_)
      · refine zO_chk (fun h2 => ?_)
        refine zO_aload_n dX7_sortIn_28 rfl (zR_P _) ?_
        refine gt7 (k := 6) dX7_sortIn_29 wF_X7_22 (by decide) (gk_78 hG) (zgv (c := 7) (k := 6) rfl (Or.inl ⟨_, rfl⟩) (gf_78_6 hG)) ?_
        refine zO_iload_n dX7_sortIn_32 rfl ?_
        refine zO_aload_n dX7_sortIn_33 rfl (zR_P _) ?_
        refine gt7 (k := 6) dX7_sortIn_34 wF_X7_22 (by decide) (gk_78 hG) (zgv (c := 7) (k := 6) rfl (Or.inl ⟨_, rfl⟩) (gf_78_6 hG)) ?_
        refine zO_iload_n dX7_sortIn_37 rfl ?_
        refine zO_iconst dX7_sortIn_38 (by decide) ?_
        refine zO_isub dX7_sortIn_39 h1.1 ?_
        refine zO_iald dX7_sortIn_40 (gk_81 hG) (gl_in (gl_81 hG) h1.2.1) ?_
        refine zO_iast dX7_sortIn_41 (gk_81 hG) (gl_in (gl_81 hG) h2) ?_
        refine zO_letD (fun D_1 eD_1 => ?_)
        refine zO_chk (fun h3 => ?_)
        refine zO_iinc dX7_sortIn_42 rfl h3 (by decide) ?_
        refine zO_ls (ls' := [(0, zR 78), (1, zI o1), (2, zI (v2 + (-1)))]) rfl ?_
        refine zO_goto (tgt := 2) dX7_sortIn_45 rfl ?_
        refine zO_live [0, 1, 2] ?_
        exact hk_2 (v2 + (-1)) D_1
      · refine zO_live [0, 1, 2] ?_
        exact sX7_sortIn_48 hG o1 v2 D
    · refine zO_live [0, 1, 2] ?_
      exact sX7_sortIn_48 hG o1 v2 D
set_option maxHeartbeats 20000000 in
theorem mX7_sortIn {l : Launch} {E : zE} {d : Nat} {F : zFs} {n sl : Nat} (hG : zG F) (v1 : Int) {D : zDa} : ∀ r, fX7_sortIn F  v1 D = some r → zMet l E (d + 0) YX7_sortIn [zR 78, zI v1] (F, D, n, sl) (zcV F n sl r) := by
  intro r hr
  refine zMet_of (plainFor_of_name (by decide)) (fun _ h => (nomatch h)) (Nat.le_of_ble_eq_true rfl) ?_
  have hz : zO l E (d + 0) YX7_sortIn 0 [(0, zR 78), (1, zI v1)] [] (F, D, n, sl) (zcV F n sl) (fX7_sortIn F  v1 D) := by
    unfold fX7_sortIn
    refine zO_iload_n dX7_sortIn_0 rfl ?_
    refine zO_istore_n dX7_sortIn_1 (by decide) ?_
    refine zO_ls (ls' := [(0, zR 78), (1, zI v1), (2, zI v1)]) rfl ?_
    refine zO_live [0, 1, 2] ?_
    exact sX7_sortIn_2 hG v1 zfu v1 D
  exact hz r hr
theorem dX7_withOneMore_0 : decode cX7_withOneMore 0 = .ok (.iload_n 1, 1) := by decide +kernel
theorem dX7_withOneMore_1 : decode cX7_withOneMore 1 = .ok (.bipush 100, 2) := by decide +kernel
theorem dX7_withOneMore_3 : decode cX7_withOneMore 3 = .ok (.idiv, 1) := by decide +kernel
theorem dX7_withOneMore_4 : decode cX7_withOneMore 4 = .ok (.istore_n 3, 1) := by decide +kernel
theorem dX7_withOneMore_5 : decode cX7_withOneMore 5 = .ok (.iload_n 1, 1) := by decide +kernel
theorem dX7_withOneMore_6 : decode cX7_withOneMore 6 = .ok (.bipush 100, 2) := by decide +kernel
theorem dX7_withOneMore_8 : decode cX7_withOneMore 8 = .ok (.irem, 1) := by decide +kernel
theorem dX7_withOneMore_9 : decode cX7_withOneMore 9 = .ok (.istore 4, 2) := by decide +kernel
theorem dX7_withOneMore_11 : decode cX7_withOneMore 11 = .ok (.iload_n 3, 1) := by decide +kernel
theorem dX7_withOneMore_12 : decode cX7_withOneMore 12 = .ok (.iconst 3, 1) := by decide +kernel
theorem dX7_withOneMore_13 : decode cX7_withOneMore 13 = .ok (.if_icmp .ge 25, 3) := by decide +kernel
theorem dX7_withOneMore_16 : decode cX7_withOneMore 16 = .ok (.iload 4, 2) := by decide +kernel
theorem dX7_withOneMore_18 : decode cX7_withOneMore 18 = .ok (.iload_n 2, 1) := by decide +kernel
theorem dX7_withOneMore_19 : decode cX7_withOneMore 19 = .ok (.iadd, 1) := by decide +kernel
theorem dX7_withOneMore_20 : decode cX7_withOneMore 20 = .ok (.aload_n 0, 1) := by decide +kernel
theorem dX7_withOneMore_21 : decode cX7_withOneMore 21 = .ok (.getfield 25, 3) := by decide +kernel
theorem dX7_withOneMore_24 : decode cX7_withOneMore 24 = .ok (.iload_n 3, 1) := by decide +kernel
theorem dX7_withOneMore_25 : decode cX7_withOneMore 25 = .ok (.iaload, 1) := by decide +kernel
theorem dX7_withOneMore_26 : decode cX7_withOneMore 26 = .ok (.if_icmp .le 12, 3) := by decide +kernel
theorem dX7_withOneMore_29 : decode cX7_withOneMore 29 = .ok (.iinc 3 1, 3) := by decide +kernel
theorem dX7_withOneMore_32 : decode cX7_withOneMore 32 = .ok (.iconst 0, 1) := by decide +kernel
theorem dX7_withOneMore_33 : decode cX7_withOneMore 33 = .ok (.istore 4, 2) := by decide +kernel
theorem dX7_withOneMore_35 : decode cX7_withOneMore 35 = .ok (.goto (-24), 3) := by decide +kernel
theorem dX7_withOneMore_38 : decode cX7_withOneMore 38 = .ok (.iload_n 3, 1) := by decide +kernel
theorem dX7_withOneMore_39 : decode cX7_withOneMore 39 = .ok (.iconst 3, 1) := by decide +kernel
theorem dX7_withOneMore_40 : decode cX7_withOneMore 40 = .ok (.if_icmp .ge 15, 3) := by decide +kernel
theorem dX7_withOneMore_43 : decode cX7_withOneMore 43 = .ok (.iload_n 3, 1) := by decide +kernel
theorem dX7_withOneMore_44 : decode cX7_withOneMore 44 = .ok (.bipush 100, 2) := by decide +kernel
theorem dX7_withOneMore_46 : decode cX7_withOneMore 46 = .ok (.imul, 1) := by decide +kernel
theorem dX7_withOneMore_47 : decode cX7_withOneMore 47 = .ok (.iload 4, 2) := by decide +kernel
theorem dX7_withOneMore_49 : decode cX7_withOneMore 49 = .ok (.iadd, 1) := by decide +kernel
theorem dX7_withOneMore_50 : decode cX7_withOneMore 50 = .ok (.iload_n 2, 1) := by decide +kernel
theorem dX7_withOneMore_51 : decode cX7_withOneMore 51 = .ok (.iadd, 1) := by decide +kernel
theorem dX7_withOneMore_52 : decode cX7_withOneMore 52 = .ok (.goto 6, 3) := by decide +kernel
theorem dX7_withOneMore_55 : decode cX7_withOneMore 55 = .ok (.sipush 1000, 3) := by decide +kernel
theorem dX7_withOneMore_58 : decode cX7_withOneMore 58 = .ok (.ireturn, 1) := by decide +kernel
abbrev YX7_withOneMore : zY := (yX7_withOneMore, cX7_withOneMore, 5, (Option.some Jvm.ClassFile.FieldType.int), [])
def fX7_withOneMore_38 (F : zFs)  (o2 : Int) (v3 : Int) (v4 : Int) (D : zDa) : Option (Int × zDa) :=
  if v3 < 3 then
    if (-2147483648 ≤ v3 * 100 ∧ v3 * 100 ≤ 2147483647) ∧ (-2147483648 ≤ (v3 * 100) + v4 ∧ (v3 * 100) + v4 ≤ 2147483647) ∧ (-2147483648 ≤ ((v3 * 100) + v4) + o2 ∧ ((v3 * 100) + v4) + o2 ≤ 2147483647) then
      some ((((v3 * 100) + v4) + o2), D)
    else none
  else
    some (1000, D)
def fX7_withOneMore_11 (F : zFs) (o2 : Int)  (k_11 : Int → Int → zDa → Option (Int × zDa)) (v3 : Int) (v4 : Int) (D : zDa) : Option (Int × zDa) :=
  if v3 < 3 then
    if (-2147483648 ≤ v4 + o2 ∧ v4 + o2 ≤ 2147483647) ∧ (0 ≤ v3 ∧ v3 < 3) then
      if (D 82 v3.toNat) < (v4 + o2) then
        if (-2147483648 ≤ v3 + 1 ∧ v3 + 1 ≤ 2147483647) then
          k_11 (v3 + 1) 0 D
        else none
      else
        fX7_withOneMore_38 F o2 v3 v4 D
    else none
  else
    fX7_withOneMore_38 F o2 v3 v4 D
def fX7_withOneMore (F : zFs) (v1 : Int) (v2 : Int) (D : zDa) : Option (Int × zDa) :=
  zlet ((Int.tdiv v1 100)) (fun x3_1 =>
    zlet ((Int.tmod v1 100)) (fun x4_2 =>
      zfix (fun _ _ _ => none) (fX7_withOneMore_11 F v2) zfu x3_1 x4_2 D))
set_option maxHeartbeats 20000000 in
theorem sX7_withOneMore_38 {l : Launch} {E : zE} {d : Nat} {F : zFs} {n sl : Nat} (hG : zG F)  (o2 : Int) (v3 : Int) (v4 : Int)   (D : zDa) : zO l E (d + 0) YX7_withOneMore 38 [(2, zI o2), (3, zI v3), (4, zI v4)] [] (F, D, n, sl) (zcI F n sl) (fX7_withOneMore_38 F o2 v3 v4 D) := by
  unfold fX7_withOneMore_38
  refine zO_iload_n dX7_withOneMore_38 rfl ?_
  refine zO_iconst dX7_withOneMore_39 (by decide) ?_
  refine zO_icmp_ge (tgt := 55) dX7_withOneMore_40 rfl (fun c40 => ?_) (fun c40 => ?_)
  · refine zO_chk (fun h3 => ?_)
    refine zO_iload_n dX7_withOneMore_43 rfl ?_
    refine zO_bipush dX7_withOneMore_44 (by decide) ?_
    refine zO_imul dX7_withOneMore_46 h3.1 ?_
    refine zO_iload dX7_withOneMore_47 rfl ?_
    refine zO_iadd dX7_withOneMore_49 h3.2.1 ?_
    refine zO_iload_n dX7_withOneMore_50 rfl ?_
    refine zO_iadd dX7_withOneMore_51 h3.2.2 ?_
    refine zO_goto (tgt := 58) dX7_withOneMore_52 rfl ?_
    exact zO_ret (rv := some (zI (((v3 * 100) + v4) + o2))) dX7_withOneMore_58 rfl rfl rfl
  · refine zO_sipush dX7_withOneMore_55 (by decide) ?_
    exact zO_ret (rv := some (zI 1000)) dX7_withOneMore_58 rfl rfl rfl
set_option maxHeartbeats 20000000 in
theorem sX7_withOneMore_11 {l : Launch} {E : zE} {d : Nat} {F : zFs} {n sl : Nat} (hG : zG F)  (o2 : Int)   : ∀ (N : Nat) (v3 : Int) (v4 : Int) (D : zDa), zO l E (d + 0) YX7_withOneMore 11 [(0, zR 78), (2, zI o2), (3, zI v3), (4, zI v4)] [] (F, D, n, sl) (zcI F n sl) (zfix (fun _ _ _ => none) (fX7_withOneMore_11 F o2) N v3 v4 D) := by
  intro N
  induction N with
  | zero => intro v3 v4 D; exact zO_none
  | succ N hk_11 =>
    intro v3 v4 D
    show zO _ _ _ _ _ _ _ _ _ ((fX7_withOneMore_11 F o2) (zfix (fun _ _ _ => none) (fX7_withOneMore_11 F o2) N) v3 v4 D)
    unfold fX7_withOneMore_11
    refine zO_iload_n dX7_withOneMore_11 rfl ?_
    refine zO_iconst dX7_withOneMore_12 (by decide) ?_
    refine zO_icmp_ge (tgt := 38) dX7_withOneMore_13 rfl (fun c13 => ?_) (fun c13 => ?_)
    · refine zO_chk (fun h1 => ?_)
      refine zO_iload dX7_withOneMore_16 rfl ?_
      refine zO_iload_n dX7_withOneMore_18 rfl ?_
      refine zO_iadd dX7_withOneMore_19 h1.1 ?_
      refine zO_aload_n dX7_withOneMore_20 rfl (zR_P _) ?_
      refine gt7 (k := 7) dX7_withOneMore_21 wF_X7_25 (by decide) (gk_78 hG) (zgv (c := 7) (k := 7) rfl (Or.inl ⟨_, rfl⟩) (gf_78_7 hG)) ?_
      refine zO_iload_n dX7_withOneMore_24 rfl ?_
      refine zO_iald dX7_withOneMore_25 (gk_82 hG) (gl_in (gl_82 hG) h1.2) ?_
      refine zO_icmp_le (tgt := 38) dX7_withOneMore_26 rfl (fun c26 => ?_) (fun c26 => ?_)
      · refine zO_chk (fun h2 => ?_)
        refine zO_iinc dX7_withOneMore_29 rfl h2 (by decide) ?_
        refine zO_ls (ls' := [(0, zR 78), (2, zI o2), (3, zI (v3 + 1)), (4, zI v4)]) rfl ?_
        refine zO_iconst dX7_withOneMore_32 (by decide) ?_
        refine zO_istore dX7_withOneMore_33 (by decide) ?_
        refine zO_ls (ls' := [(0, zR 78), (2, zI o2), (3, zI (v3 + 1)), (4, zI 0)]) rfl ?_
        refine zO_goto (tgt := 11) dX7_withOneMore_35 rfl ?_
        refine zO_live [0, 2, 3, 4] ?_
        exact hk_11 (v3 + 1) 0 D
      · refine zO_live [2, 3, 4] ?_
        exact sX7_withOneMore_38 hG o2 v3 v4 D
    · refine zO_live [2, 3, 4] ?_
      exact sX7_withOneMore_38 hG o2 v3 v4 D
set_option maxHeartbeats 20000000 in
theorem mX7_withOneMore {l : Launch} {E : zE} {d : Nat} {F : zFs} {n sl : Nat} (hG : zG F) (v1 : Int) (v2 : Int) {D : zDa} : ∀ r, fX7_withOneMore F  v1 v2 D = some r → zMet l E (d + 0) YX7_withOneMore [zR 78, zI v1, zI v2] (F, D, n, sl) (zcI F n sl r) := by
  intro r hr
  refine zMet_of (plainFor_of_name (by decide)) (fun _ h => (nomatch h)) (Nat.le_of_ble_eq_true rfl) ?_
  have hz : zO l E (d + 0) YX7_withOneMore 0 [(0, zR 78), (1, zI v1), (2, zI v2)] [] (F, D, n, sl) (zcI F n sl) (fX7_withOneMore F  v1 v2 D) := by
    unfold fX7_withOneMore
    refine zO_iload_n dX7_withOneMore_0 rfl ?_
    refine zO_bipush dX7_withOneMore_1 (by decide) ?_
    refine zO_idiv dX7_withOneMore_3 (by decide) (fun q => absurd q.2 (by decide)) ?_
    refine zO_letI (fun x3_1 ex3_1 => ?_)
    refine zO_istore_n dX7_withOneMore_4 (by decide) ?_
    refine zO_ls (ls' := [(0, zR 78), (1, zI v1), (2, zI v2), (3, zI x3_1)]) rfl ?_
    refine zO_iload_n dX7_withOneMore_5 rfl ?_
    refine zO_bipush dX7_withOneMore_6 (by decide) ?_
    refine zO_irem dX7_withOneMore_8 (by decide) ?_
    refine zO_letI (fun x4_2 ex4_2 => ?_)
    refine zO_istore dX7_withOneMore_9 (by decide) ?_
    refine zO_ls (ls' := [(0, zR 78), (1, zI v1), (2, zI v2), (3, zI x3_1), (4, zI x4_2)]) rfl ?_
    refine zO_live [0, 2, 3, 4] ?_
    exact sX7_withOneMore_11 hG v2 zfu x3_1 x4_2 D
  exact hz r hr
theorem dX7_canLearn_0 : decode cX7_canLearn 0 = .ok (.iconst 0, 1) := by decide +kernel
theorem dX7_canLearn_1 : decode cX7_canLearn 1 = .ok (.istore_n 3, 1) := by decide +kernel
theorem dX7_canLearn_2 : decode cX7_canLearn 2 = .ok (.iconst 0, 1) := by decide +kernel
theorem dX7_canLearn_3 : decode cX7_canLearn 3 = .ok (.istore 4, 2) := by decide +kernel
theorem dX7_canLearn_5 : decode cX7_canLearn 5 = .ok (.iconst 0, 1) := by decide +kernel
theorem dX7_canLearn_6 : decode cX7_canLearn 6 = .ok (.istore 5, 2) := by decide +kernel
theorem dX7_canLearn_8 : decode cX7_canLearn 8 = .ok (.iload 5, 2) := by decide +kernel
theorem dX7_canLearn_10 : decode cX7_canLearn 10 = .ok (.aload_n 0, 1) := by decide +kernel
theorem dX7_canLearn_11 : decode cX7_canLearn 11 = .ok (.getfield 72, 3) := by decide +kernel
theorem dX7_canLearn_14 : decode cX7_canLearn 14 = .ok (.if_icmp .ge 57, 3) := by decide +kernel
theorem dX7_canLearn_17 : decode cX7_canLearn 17 = .ok (.iload_n 3, 1) := by decide +kernel
theorem dX7_canLearn_18 : decode cX7_canLearn 18 = .ok (.iload_n 2, 1) := by decide +kernel
theorem dX7_canLearn_19 : decode cX7_canLearn 19 = .ok (.if_icmp .ge 52, 3) := by decide +kernel
theorem dX7_canLearn_22 : decode cX7_canLearn 22 = .ok (.aload_n 0, 1) := by decide +kernel
theorem dX7_canLearn_23 : decode cX7_canLearn 23 = .ok (.getfield 22, 3) := by decide +kernel
theorem dX7_canLearn_26 : decode cX7_canLearn 26 = .ok (.iload 5, 2) := by decide +kernel
theorem dX7_canLearn_28 : decode cX7_canLearn 28 = .ok (.iaload, 1) := by decide +kernel
theorem dX7_canLearn_29 : decode cX7_canLearn 29 = .ok (.iload_n 1, 1) := by decide +kernel
theorem dX7_canLearn_30 : decode cX7_canLearn 30 = .ok (.if_icmp .lt 35, 3) := by decide +kernel
theorem dX7_canLearn_33 : decode cX7_canLearn 33 = .ok (.aload_n 0, 1) := by decide +kernel
theorem dX7_canLearn_34 : decode cX7_canLearn 34 = .ok (.getfield 28, 3) := by decide +kernel
theorem dX7_canLearn_37 : decode cX7_canLearn 37 = .ok (.iload_n 3, 1) := by decide +kernel
theorem dX7_canLearn_38 : decode cX7_canLearn 38 = .ok (.aload_n 0, 1) := by decide +kernel
theorem dX7_canLearn_39 : decode cX7_canLearn 39 = .ok (.getfield 19, 3) := by decide +kernel
theorem dX7_canLearn_42 : decode cX7_canLearn 42 = .ok (.aload_n 0, 1) := by decide +kernel
theorem dX7_canLearn_43 : decode cX7_canLearn 43 = .ok (.getfield 22, 3) := by decide +kernel
theorem dX7_canLearn_46 : decode cX7_canLearn 46 = .ok (.iload 5, 2) := by decide +kernel
theorem dX7_canLearn_48 : decode cX7_canLearn 48 = .ok (.iaload, 1) := by decide +kernel
theorem dX7_canLearn_49 : decode cX7_canLearn 49 = .ok (.iaload, 1) := by decide +kernel
theorem dX7_canLearn_50 : decode cX7_canLearn 50 = .ok (.iastore, 1) := by decide +kernel
theorem dX7_canLearn_51 : decode cX7_canLearn 51 = .ok (.iload 4, 2) := by decide +kernel
theorem dX7_canLearn_53 : decode cX7_canLearn 53 = .ok (.aload_n 0, 1) := by decide +kernel
theorem dX7_canLearn_54 : decode cX7_canLearn 54 = .ok (.getfield 28, 3) := by decide +kernel
theorem dX7_canLearn_57 : decode cX7_canLearn 57 = .ok (.iload_n 3, 1) := by decide +kernel
theorem dX7_canLearn_58 : decode cX7_canLearn 58 = .ok (.iaload, 1) := by decide +kernel
theorem dX7_canLearn_59 : decode cX7_canLearn 59 = .ok (.iadd, 1) := by decide +kernel
theorem dX7_canLearn_60 : decode cX7_canLearn 60 = .ok (.istore 4, 2) := by decide +kernel
theorem dX7_canLearn_62 : decode cX7_canLearn 62 = .ok (.iinc 3 1, 3) := by decide +kernel
theorem dX7_canLearn_65 : decode cX7_canLearn 65 = .ok (.iinc 5 1, 3) := by decide +kernel
theorem dX7_canLearn_68 : decode cX7_canLearn 68 = .ok (.goto (-60), 3) := by decide +kernel
theorem dX7_canLearn_71 : decode cX7_canLearn 71 = .ok (.iload_n 3, 1) := by decide +kernel
theorem dX7_canLearn_72 : decode cX7_canLearn 72 = .ok (.iload_n 2, 1) := by decide +kernel
theorem dX7_canLearn_73 : decode cX7_canLearn 73 = .ok (.if_icmp .lt 28, 3) := by decide +kernel
theorem dX7_canLearn_76 : decode cX7_canLearn 76 = .ok (.iload 4, 2) := by decide +kernel
theorem dX7_canLearn_78 : decode cX7_canLearn 78 = .ok (.aload_n 0, 1) := by decide +kernel
theorem dX7_canLearn_79 : decode cX7_canLearn 79 = .ok (.getfield 25, 3) := by decide +kernel
theorem dX7_canLearn_82 : decode cX7_canLearn 82 = .ok (.iconst 0, 1) := by decide +kernel
theorem dX7_canLearn_83 : decode cX7_canLearn 83 = .ok (.iaload, 1) := by decide +kernel
theorem dX7_canLearn_84 : decode cX7_canLearn 84 = .ok (.aload_n 0, 1) := by decide +kernel
theorem dX7_canLearn_85 : decode cX7_canLearn 85 = .ok (.getfield 25, 3) := by decide +kernel
theorem dX7_canLearn_88 : decode cX7_canLearn 88 = .ok (.iconst 1, 1) := by decide +kernel
theorem dX7_canLearn_89 : decode cX7_canLearn 89 = .ok (.iaload, 1) := by decide +kernel
theorem dX7_canLearn_90 : decode cX7_canLearn 90 = .ok (.iadd, 1) := by decide +kernel
theorem dX7_canLearn_91 : decode cX7_canLearn 91 = .ok (.aload_n 0, 1) := by decide +kernel
theorem dX7_canLearn_92 : decode cX7_canLearn 92 = .ok (.getfield 25, 3) := by decide +kernel
theorem dX7_canLearn_95 : decode cX7_canLearn 95 = .ok (.iconst 2, 1) := by decide +kernel
theorem dX7_canLearn_96 : decode cX7_canLearn 96 = .ok (.iaload, 1) := by decide +kernel
theorem dX7_canLearn_97 : decode cX7_canLearn 97 = .ok (.iadd, 1) := by decide +kernel
theorem dX7_canLearn_98 : decode cX7_canLearn 98 = .ok (.if_icmp .le 5, 3) := by decide +kernel
theorem dX7_canLearn_101 : decode cX7_canLearn 101 = .ok (.iconst 0, 1) := by decide +kernel
theorem dX7_canLearn_102 : decode cX7_canLearn 102 = .ok (.ireturn, 1) := by decide +kernel
theorem dX7_canLearn_103 : decode cX7_canLearn 103 = .ok (.aload_n 0, 1) := by decide +kernel
theorem dX7_canLearn_104 : decode cX7_canLearn 104 = .ok (.getfield 31, 3) := by decide +kernel
theorem dX7_canLearn_107 : decode cX7_canLearn 107 = .ok (.arraylength, 1) := by decide +kernel
theorem dX7_canLearn_108 : decode cX7_canLearn 108 = .ok (.iconst 1, 1) := by decide +kernel
theorem dX7_canLearn_109 : decode cX7_canLearn 109 = .ok (.iload_n 2, 1) := by decide +kernel
theorem dX7_canLearn_110 : decode cX7_canLearn 110 = .ok (.ishl, 1) := by decide +kernel
theorem dX7_canLearn_111 : decode cX7_canLearn 111 = .ok (.if_icmp .ge 12, 3) := by decide +kernel
theorem dX7_canLearn_114 : decode cX7_canLearn 114 = .ok (.aload_n 0, 1) := by decide +kernel
theorem dX7_canLearn_115 : decode cX7_canLearn 115 = .ok (.iconst 1, 1) := by decide +kernel
theorem dX7_canLearn_116 : decode cX7_canLearn 116 = .ok (.iload_n 2, 1) := by decide +kernel
theorem dX7_canLearn_117 : decode cX7_canLearn 117 = .ok (.ishl, 1) := by decide +kernel
theorem dX7_canLearn_118 : decode cX7_canLearn 118 = .ok (.newarray .int, 2) := by decide +kernel
theorem dX7_canLearn_120 : decode cX7_canLearn 120 = .ok (.putfield 31, 3) := by decide +kernel
theorem dX7_canLearn_123 : decode cX7_canLearn 123 = .ok (.aload_n 0, 1) := by decide +kernel
theorem dX7_canLearn_124 : decode cX7_canLearn 124 = .ok (.getfield 31, 3) := by decide +kernel
theorem dX7_canLearn_127 : decode cX7_canLearn 127 = .ok (.iconst 0, 1) := by decide +kernel
theorem dX7_canLearn_128 : decode cX7_canLearn 128 = .ok (.iconst 0, 1) := by decide +kernel
theorem dX7_canLearn_129 : decode cX7_canLearn 129 = .ok (.iastore, 1) := by decide +kernel
theorem dX7_canLearn_130 : decode cX7_canLearn 130 = .ok (.iconst 1, 1) := by decide +kernel
theorem dX7_canLearn_131 : decode cX7_canLearn 131 = .ok (.istore 5, 2) := by decide +kernel
theorem dX7_canLearn_133 : decode cX7_canLearn 133 = .ok (.iload 5, 2) := by decide +kernel
theorem dX7_canLearn_135 : decode cX7_canLearn 135 = .ok (.iconst 1, 1) := by decide +kernel
theorem dX7_canLearn_136 : decode cX7_canLearn 136 = .ok (.iload_n 2, 1) := by decide +kernel
theorem dX7_canLearn_137 : decode cX7_canLearn 137 = .ok (.ishl, 1) := by decide +kernel
theorem dX7_canLearn_138 : decode cX7_canLearn 138 = .ok (.if_icmp .ge 79, 3) := by decide +kernel
theorem dX7_canLearn_141 : decode cX7_canLearn 141 = .ok (.sipush 1000, 3) := by decide +kernel
theorem dX7_canLearn_144 : decode cX7_canLearn 144 = .ok (.istore 6, 2) := by decide +kernel
theorem dX7_canLearn_146 : decode cX7_canLearn 146 = .ok (.iconst 0, 1) := by decide +kernel
theorem dX7_canLearn_147 : decode cX7_canLearn 147 = .ok (.istore 7, 2) := by decide +kernel
theorem dX7_canLearn_149 : decode cX7_canLearn 149 = .ok (.iload 7, 2) := by decide +kernel
theorem dX7_canLearn_151 : decode cX7_canLearn 151 = .ok (.iload_n 2, 1) := by decide +kernel
theorem dX7_canLearn_152 : decode cX7_canLearn 152 = .ok (.if_icmp .ge 50, 3) := by decide +kernel
theorem dX7_canLearn_155 : decode cX7_canLearn 155 = .ok (.iload 5, 2) := by decide +kernel
theorem dX7_canLearn_157 : decode cX7_canLearn 157 = .ok (.iload 7, 2) := by decide +kernel
theorem dX7_canLearn_159 : decode cX7_canLearn 159 = .ok (.iushr, 1) := by decide +kernel
theorem dX7_canLearn_160 : decode cX7_canLearn 160 = .ok (.iconst 1, 1) := by decide +kernel
theorem dX7_canLearn_161 : decode cX7_canLearn 161 = .ok (.iand, 1) := by decide +kernel
theorem dX7_canLearn_162 : decode cX7_canLearn 162 = .ok (.iconst 1, 1) := by decide +kernel
theorem dX7_canLearn_163 : decode cX7_canLearn 163 = .ok (.if_icmp .ne 33, 3) := by decide +kernel
theorem dX7_canLearn_166 : decode cX7_canLearn 166 = .ok (.iload 6, 2) := by decide +kernel
theorem dX7_canLearn_168 : decode cX7_canLearn 168 = .ok (.aload_n 0, 1) := by decide +kernel
theorem dX7_canLearn_169 : decode cX7_canLearn 169 = .ok (.aload_n 0, 1) := by decide +kernel
theorem dX7_canLearn_170 : decode cX7_canLearn 170 = .ok (.getfield 31, 3) := by decide +kernel
theorem dX7_canLearn_173 : decode cX7_canLearn 173 = .ok (.iload 5, 2) := by decide +kernel
theorem dX7_canLearn_175 : decode cX7_canLearn 175 = .ok (.iconst 1, 1) := by decide +kernel
theorem dX7_canLearn_176 : decode cX7_canLearn 176 = .ok (.iload 7, 2) := by decide +kernel
theorem dX7_canLearn_178 : decode cX7_canLearn 178 = .ok (.ishl, 1) := by decide +kernel
theorem dX7_canLearn_179 : decode cX7_canLearn 179 = .ok (.ixor, 1) := by decide +kernel
theorem dX7_canLearn_180 : decode cX7_canLearn 180 = .ok (.iaload, 1) := by decide +kernel
theorem dX7_canLearn_181 : decode cX7_canLearn 181 = .ok (.aload_n 0, 1) := by decide +kernel
theorem dX7_canLearn_182 : decode cX7_canLearn 182 = .ok (.getfield 28, 3) := by decide +kernel
theorem dX7_canLearn_185 : decode cX7_canLearn 185 = .ok (.iload 7, 2) := by decide +kernel
theorem dX7_canLearn_187 : decode cX7_canLearn 187 = .ok (.iaload, 1) := by decide +kernel
theorem dX7_canLearn_188 : decode cX7_canLearn 188 = .ok (.invokevirtual 99, 3) := by decide +kernel
theorem dX7_canLearn_191 : decode cX7_canLearn 191 = .ok (.invokestatic 66, 3) := by decide +kernel
theorem dX7_canLearn_194 : decode cX7_canLearn 194 = .ok (.istore 6, 2) := by decide +kernel
theorem dX7_canLearn_196 : decode cX7_canLearn 196 = .ok (.iinc 7 1, 3) := by decide +kernel
theorem dX7_canLearn_199 : decode cX7_canLearn 199 = .ok (.goto (-50), 3) := by decide +kernel
theorem dX7_canLearn_202 : decode cX7_canLearn 202 = .ok (.aload_n 0, 1) := by decide +kernel
theorem dX7_canLearn_203 : decode cX7_canLearn 203 = .ok (.getfield 31, 3) := by decide +kernel
theorem dX7_canLearn_206 : decode cX7_canLearn 206 = .ok (.iload 5, 2) := by decide +kernel
theorem dX7_canLearn_208 : decode cX7_canLearn 208 = .ok (.iload 6, 2) := by decide +kernel
theorem dX7_canLearn_210 : decode cX7_canLearn 210 = .ok (.iastore, 1) := by decide +kernel
theorem dX7_canLearn_211 : decode cX7_canLearn 211 = .ok (.iinc 5 1, 3) := by decide +kernel
theorem dX7_canLearn_214 : decode cX7_canLearn 214 = .ok (.goto (-81), 3) := by decide +kernel
theorem dX7_canLearn_217 : decode cX7_canLearn 217 = .ok (.aload_n 0, 1) := by decide +kernel
theorem dX7_canLearn_218 : decode cX7_canLearn 218 = .ok (.getfield 31, 3) := by decide +kernel
theorem dX7_canLearn_221 : decode cX7_canLearn 221 = .ok (.iconst 1, 1) := by decide +kernel
theorem dX7_canLearn_222 : decode cX7_canLearn 222 = .ok (.iload_n 2, 1) := by decide +kernel
theorem dX7_canLearn_223 : decode cX7_canLearn 223 = .ok (.ishl, 1) := by decide +kernel
theorem dX7_canLearn_224 : decode cX7_canLearn 224 = .ok (.iconst 1, 1) := by decide +kernel
theorem dX7_canLearn_225 : decode cX7_canLearn 225 = .ok (.isub, 1) := by decide +kernel
theorem dX7_canLearn_226 : decode cX7_canLearn 226 = .ok (.iaload, 1) := by decide +kernel
theorem dX7_canLearn_227 : decode cX7_canLearn 227 = .ok (.sipush 1000, 3) := by decide +kernel
theorem dX7_canLearn_230 : decode cX7_canLearn 230 = .ok (.if_icmp .ge 7, 3) := by decide +kernel
theorem dX7_canLearn_233 : decode cX7_canLearn 233 = .ok (.iconst 1, 1) := by decide +kernel
theorem dX7_canLearn_234 : decode cX7_canLearn 234 = .ok (.goto 4, 3) := by decide +kernel
theorem dX7_canLearn_237 : decode cX7_canLearn 237 = .ok (.iconst 0, 1) := by decide +kernel
theorem dX7_canLearn_238 : decode cX7_canLearn 238 = .ok (.ireturn, 1) := by decide +kernel
abbrev YX7_canLearn : zY := (yX7_canLearn, cX7_canLearn, 8, (Option.some Jvm.ClassFile.FieldType.boolean), [])
def fX7_canLearn_65 (k_8 : Int → Int → Int → zFs → zDa → Nat → Nat → Option (Int × zM)) (o1 : Int) (o2 : Int) (v3 : Int) (v4 : Int) (v5 : Int) (F : zFs) (D : zDa) (n sl : Nat) : Option (Int × zM) :=
  if (-2147483648 ≤ v5 + 1 ∧ v5 + 1 ≤ 2147483647) then
    k_8 v3 v4 (v5 + 1) F D n sl
  else none
def fX7_canLearn_196 (k_133 : Int → zFs → zDa → Nat → Nat → Option (Int × zM)) (k_149 : Int → Int → zFs → zDa → Nat → Nat → Option (Int × zM)) (o2 : Int) (o5 : Int) (v6 : Int) (v7 : Int) (F : zFs) (D : zDa) (n sl : Nat) : Option (Int × zM) :=
  if (-2147483648 ≤ v7 + 1 ∧ v7 + 1 ≤ 2147483647) then
    k_149 v6 (v7 + 1) F D n sl
  else none
def fX7_canLearn_149 (o2 : Int) (o5 : Int) (k_133 : Int → zFs → zDa → Nat → Nat → Option (Int × zM)) (k_149 : Int → Int → zFs → zDa → Nat → Nat → Option (Int × zM)) (v6 : Int) (v7 : Int) (F : zFs) (D : zDa) (n sl : Nat) : Option (Int × zM) :=
  if v7 < o2 then
    if (zand (zushr o5 v7) 1) = 1 then
      if (0 ≤ (D 78 9)) ∧ ((F ((D 78 9).toNat)).1 = 20) ∧ ((0 : Int) ≤ (zxor o5 (zshl 1 v7)) ∧ ((zxor o5 (zshl 1 v7)) : Int) < ((F ((D 78 9).toNat)).2.1 : Int)) ∧ (0 ≤ v7 ∧ v7 < 12) then
        (fX7_withOneMore F (D ((D 78 9).toNat) (zxor o5 (zshl 1 v7)).toNat) (D 83 v7.toNat) D).bind (fun (r_5, D_6) =>
          (fJ9_min_7cf53 F v6 r_5 D_6).bind (fun (r_7, D_8) =>
            fX7_canLearn_196 k_133 k_149 o2 o5 r_7 v7 F D_8 n sl))
      else none
    else
      fX7_canLearn_196 k_133 k_149 o2 o5 v6 v7 F D n sl
  else
    if (0 ≤ (D 78 9)) ∧ ((F ((D 78 9).toNat)).1 = 20) ∧ ((0 : Int) ≤ o5 ∧ (o5 : Int) < ((F ((D 78 9).toNat)).2.1 : Int)) then
      zlet (zwr D ((D 78 9).toNat) o5.toNat v6) (fun D_9 =>
        if (-2147483648 ≤ o5 + 1 ∧ o5 + 1 ≤ 2147483647) then
          k_133 (o5 + 1) F D_9 n sl
        else none)
    else none
def fX7_canLearn_133 (o2 : Int)  (k_133 : Int → zFs → zDa → Nat → Nat → Option (Int × zM)) (v5 : Int) (F : zFs) (D : zDa) (n sl : Nat) : Option (Int × zM) :=
  if v5 < (zshl 1 o2) then
    zfix (fun _ _ _ _ _ _ => none) (fX7_canLearn_149 o2 v5 k_133) zfu 1000 0 F D n sl
  else
    if (-2147483648 ≤ (zshl 1 o2) - 1 ∧ (zshl 1 o2) - 1 ≤ 2147483647) ∧ (0 ≤ (D 78 9)) ∧ ((F ((D 78 9).toNat)).1 = 20) ∧ ((0 : Int) ≤ ((zshl 1 o2) - 1) ∧ (((zshl 1 o2) - 1) : Int) < ((F ((D 78 9).toNat)).2.1 : Int)) then
      if (D ((D 78 9).toNat) ((zshl 1 o2) - 1).toNat) < 1000 then
        some (1, (F, D, n, sl))
      else
        some (0, (F, D, n, sl))
    else none
def fX7_canLearn_123  (o2 : Int) (F : zFs) (D : zDa) (n sl : Nat) : Option (Int × zM) :=
  if (0 ≤ (D 78 9)) ∧ ((F ((D 78 9).toNat)).1 = 20) ∧ ((0 : Int) ≤ 0 ∧ (0 : Int) < ((F ((D 78 9).toNat)).2.1 : Int)) then
    zlet (zwr D ((D 78 9).toNat) 0 0) (fun D_4 =>
      zfix (fun _ _ _ _ _ => none) (fX7_canLearn_133 o2) zfu 1 F D_4 n sl)
  else none
def fX7_canLearn_71  (o2 : Int) (v3 : Int) (v4 : Int) (F : zFs) (D : zDa) (n sl : Nat) : Option (Int × zM) :=
  if v3 < o2 then
    some (0, (F, D, n, sl))
  else
    if (-2147483648 ≤ (D 82 0) + (D 82 1) ∧ (D 82 0) + (D 82 1) ≤ 2147483647) ∧ (-2147483648 ≤ ((D 82 0) + (D 82 1)) + (D 82 2) ∧ ((D 82 0) + (D 82 1)) + (D 82 2) ≤ 2147483647) then
      if (((D 82 0) + (D 82 1)) + (D 82 2)) < v4 then
        some (0, (F, D, n, sl))
      else
        if (0 ≤ (D 78 9)) ∧ ((F ((D 78 9).toNat)).1 = 20) then
          if ((F ((D 78 9).toNat)).2.1 : Int) < (zshl 1 o2) then
            if (0 ≤ (zshl 1 o2) ∧ (zshl 1 o2) ≤ 1000000) ∧ (n < 900000) then
              zlet (zwr (zrow D n (fun _ => 0)) 78 9 (((n : Nat) : Int) : Int)) (fun D_3 =>
                fX7_canLearn_123 o2 (znew F n (20, (zshl 1 o2).toNat, fun _ => 0)) D_3 (n + 1) (sl + (zshl 1 o2).toNat))
            else none
          else
            fX7_canLearn_123 o2 F D n sl
        else none
    else none
def fX7_canLearn_8 (o1 : Int) (o2 : Int)  (k_8 : Int → Int → Int → zFs → zDa → Nat → Nat → Option (Int × zM)) (v3 : Int) (v4 : Int) (v5 : Int) (F : zFs) (D : zDa) (n sl : Nat) : Option (Int × zM) :=
  if v5 < (D 78 4) then
    if v3 < o2 then
      if (0 ≤ v5 ∧ v5 < 12) then
        if (D 81 v5.toNat) < o1 then
          fX7_canLearn_65 k_8 o1 o2 v3 v4 v5 F D n sl
        else
          if (0 ≤ (D 81 v5.toNat) ∧ (D 81 v5.toNat) < 12) ∧ (0 ≤ v3 ∧ v3 < 12) then
            zlet (zwr D 83 v3.toNat (D 80 (D 81 v5.toNat).toNat)) (fun D_1 =>
              if (-2147483648 ≤ v4 + (D_1 83 v3.toNat) ∧ v4 + (D_1 83 v3.toNat) ≤ 2147483647) then
                zlet ((v4 + (D_1 83 v3.toNat))) (fun x4_2 =>
                  if (-2147483648 ≤ v3 + 1 ∧ v3 + 1 ≤ 2147483647) then
                    fX7_canLearn_65 k_8 o1 o2 (v3 + 1) x4_2 v5 F D_1 n sl
                  else none)
              else none)
          else none
      else none
    else
      fX7_canLearn_71 o2 v3 v4 F D n sl
  else
    fX7_canLearn_71 o2 v3 v4 F D n sl
def fX7_canLearn (v1 : Int) (v2 : Int) (F : zFs) (D : zDa) (n sl : Nat) : Option (Int × zM) :=
  zfix (fun _ _ _ _ _ _ _ => none) (fX7_canLearn_8 v1 v2) zfu 0 0 0 F D n sl
set_option maxHeartbeats 20000000 in
theorem sX7_canLearn_65 {l : Launch} {E : zE} {d : Nat}  (o1 : Int) (o2 : Int) (v3 : Int) (v4 : Int) (v5 : Int) (k_8 : Int → Int → Int → zFs → zDa → Nat → Nat → Option (Int × zM)) (hk_8 : ∀ (u3 : Int) (u4 : Int) (u5 : Int) (F : zFs) (D : zDa) (n sl : Nat), zG F → 126 ≤ n → zO l E (d + 1) YX7_canLearn 8 [(0, zR 78), (1, zI o1), (2, zI o2), (3, zI u3), (4, zI u4), (5, zI u5)] [] (F, D, n, sl) zmI (k_8 u3 u4 u5 F D n sl)) (F : zFs) (D : zDa) (n sl : Nat) (hG : zG F) (hN : 126 ≤ n) : zO l E (d + 1) YX7_canLearn 65 [(0, zR 78), (1, zI o1), (2, zI o2), (3, zI v3), (4, zI v4), (5, zI v5)] [] (F, D, n, sl) (zmI) (fX7_canLearn_65 k_8 o1 o2 v3 v4 v5 F D n sl) := by
  unfold fX7_canLearn_65
  refine zO_chk (fun h2 => ?_)
  refine zO_iinc dX7_canLearn_65 rfl h2 (by decide) ?_
  refine zO_ls (ls' := [(0, zR 78), (1, zI o1), (2, zI o2), (3, zI v3), (4, zI v4), (5, zI (v5 + 1))]) rfl ?_
  refine zO_goto (tgt := 8) dX7_canLearn_68 rfl ?_
  refine zO_live [0, 1, 2, 3, 4, 5] ?_
  exact hk_8 v3 v4 (v5 + 1) F D n sl hG hN
set_option maxHeartbeats 20000000 in
theorem sX7_canLearn_196 {l : Launch} {E : zE} {d : Nat}  (o2 : Int) (o5 : Int) (v6 : Int) (v7 : Int) (k_133 : Int → zFs → zDa → Nat → Nat → Option (Int × zM)) (k_149 : Int → Int → zFs → zDa → Nat → Nat → Option (Int × zM)) (hk_133 : ∀ (u5 : Int) (F : zFs) (D : zDa) (n sl : Nat), zG F → 126 ≤ n → zO l E (d + 1) YX7_canLearn 133 [(0, zR 78), (2, zI o2), (5, zI u5)] [] (F, D, n, sl) zmI (k_133 u5 F D n sl)) (hk_149 : ∀ (u6 : Int) (u7 : Int) (F : zFs) (D : zDa) (n sl : Nat), zG F → 126 ≤ n → zO l E (d + 1) YX7_canLearn 149 [(0, zR 78), (2, zI o2), (5, zI o5), (6, zI u6), (7, zI u7)] [] (F, D, n, sl) zmI (k_149 u6 u7 F D n sl)) (F : zFs) (D : zDa) (n sl : Nat) (hG : zG F) (hN : 126 ≤ n) : zO l E (d + 1) YX7_canLearn 196 [(0, zR 78), (2, zI o2), (5, zI o5), (6, zI v6), (7, zI v7)] [] (F, D, n, sl) (zmI) (fX7_canLearn_196 k_133 k_149 o2 o5 v6 v7 F D n sl) := by
  unfold fX7_canLearn_196
  refine zO_chk (fun h12 => ?_)
  refine zO_iinc dX7_canLearn_196 rfl h12 (by decide) ?_
  refine zO_ls (ls' := [(0, zR 78), (2, zI o2), (5, zI o5), (6, zI v6), (7, zI (v7 + 1))]) rfl ?_
  refine zO_goto (tgt := 149) dX7_canLearn_199 rfl ?_
  refine zO_live [0, 2, 5, 6, 7] ?_
  exact hk_149 v6 (v7 + 1) F D n sl hG hN
set_option maxHeartbeats 20000000 in
theorem sX7_canLearn_149 {l : Launch} {E : zE} {d : Nat}  (o2 : Int) (o5 : Int) (k_133 : Int → zFs → zDa → Nat → Nat → Option (Int × zM)) (hk_133 : ∀ (u5 : Int) (F : zFs) (D : zDa) (n sl : Nat), zG F → 126 ≤ n → zO l E (d + 1) YX7_canLearn 133 [(0, zR 78), (2, zI o2), (5, zI u5)] [] (F, D, n, sl) zmI (k_133 u5 F D n sl)) : ∀ (N : Nat) (v6 : Int) (v7 : Int) (F : zFs) (D : zDa) (n sl : Nat), zG F → 126 ≤ n → zO l E (d + 1) YX7_canLearn 149 [(0, zR 78), (2, zI o2), (5, zI o5), (6, zI v6), (7, zI v7)] [] (F, D, n, sl) (zmI) (zfix (fun _ _ _ _ _ _ => none) (fX7_canLearn_149 o2 o5 k_133) N v6 v7 F D n sl) := by
  intro N
  induction N with
  | zero => intro v6 v7 F D n sl hG hN; exact zO_none
  | succ N hk_149 =>
    intro v6 v7 F D n sl hG hN
    show zO _ _ _ _ _ _ _ _ _ ((fX7_canLearn_149 o2 o5 k_133) (zfix (fun _ _ _ _ _ _ => none) (fX7_canLearn_149 o2 o5 k_133) N) v6 v7 F D n sl)
    unfold fX7_canLearn_149
    refine zO_iload dX7_canLearn_149 rfl ?_
    refine zO_iload_n dX7_canLearn_151 rfl ?_
    refine zO_icmp_ge (tgt := 202) dX7_canLearn_152 rfl (fun c152 => ?_) (fun c152 => ?_)
    · refine zO_iload dX7_canLearn_155 rfl ?_
      refine zO_iload dX7_canLearn_157 rfl ?_
      refine zO_iushr dX7_canLearn_159 ?_
      refine zO_iconst dX7_canLearn_160 (by decide) ?_
      refine zO_iand dX7_canLearn_161 ?_
      refine zO_iconst dX7_canLearn_162 (by decide) ?_
      refine zO_icmp_ne (tgt := 196) dX7_canLearn_163 rfl (fun c163 => ?_) (fun c163 => ?_)
      · refine zO_chk (fun h11 => ?_)
        refine zO_iload dX7_canLearn_166 rfl ?_
        refine zO_aload_n dX7_canLearn_168 rfl (zR_P _) ?_
        refine zO_aload_n dX7_canLearn_169 rfl (zR_P _) ?_
        refine gt7 (k := 9) (v := zq (D 78 9)) dX7_canLearn_170 wF_X7_31 (by decide) (gk_78 hG) rfl ?_
        refine zO_iload dX7_canLearn_173 rfl ?_
        refine zO_iconst dX7_canLearn_175 (by decide) ?_
        refine zO_iload dX7_canLearn_176 rfl ?_
        refine zO_ishl dX7_canLearn_178 ?_
        refine zO_ixor dX7_canLearn_179 ?_
        refine zO_q1 h11.1 ?_
        refine zO_iald dX7_canLearn_180 h11.2.1 h11.2.2.1 ?_
        refine zO_aload_n dX7_canLearn_181 rfl (zR_P _) ?_
        refine gt7 (k := 8) dX7_canLearn_182 wF_X7_28 (by decide) (gk_78 hG) (zgv (c := 7) (k := 8) rfl (Or.inl ⟨_, rfl⟩) (gf_78_8 hG)) ?_
        refine zO_iload dX7_canLearn_185 rfl ?_
        refine zO_iald dX7_canLearn_187 (gk_83 hG) (gl_in (gl_83 hG) h11.2.2.2) ?_
        refine zO_callV (Y' := YX7_withOneMore) (cw := zcI F n sl) (as := [zI (D ((D 78 9).toNat) (zxor o5 (zshl 1 v7)).toNat), zI (D 83 v7.toNat)]) (rest := [zI v6]) (na := 2) (ci := 7) rfl dX7_canLearn_188 wC_X7_withOneMore wN_X7 wM_X7_99 wI_X7_withOneMore wV_X7_withOneMore (by decide) (by decide) rfl rfl (Nat.le_of_ble_eq_true rfl) rfl (by decide) (gk_78 hG) (fun r hr => zMet_cast (Nat.add_assoc d 0 0) (mX7_withOneMore (d := d + 0) hG (D ((D 78 9).toNat) (zxor o5 (zshl 1 v7)).toNat) (D 83 v7.toNat) r hr)) ?_
        rintro ⟨r_5, D_6⟩ -
        show zO _ _ _ _ _ _ [zI r_5, zI v6] (F, D_6, n, sl) _ _
        refine zO_callS (Y' := YJ9_min_7cf53) (cw := zcI F n sl) (as := [zI v6, zI r_5]) (rest := []) (na := 2) dX7_canLearn_191 wC_J9_min_7cf53 wN_J9 wM_X7_66 wS_J9_min_7cf53 (by decide) (by decide) rfl rfl (Nat.le_of_ble_eq_true rfl) (fun r hr => zMet_cast (Nat.add_assoc d 0 0) (mJ9_min_7cf53 (d := d + 0) hG v6 r_5 r hr)) ?_
        rintro ⟨r_7, D_8⟩ -
        show zO _ _ _ _ _ _ [zI r_7] (F, D_8, n, sl) _ _
        refine zO_istore dX7_canLearn_194 (by decide) ?_
        refine zO_ls (ls' := [(0, zR 78), (2, zI o2), (5, zI o5), (6, zI r_7), (7, zI v7)]) rfl ?_
        refine zO_live [0, 2, 5, 6, 7] ?_
        exact sX7_canLearn_196 o2 o5 r_7 v7 _ _ hk_133 hk_149 F D_8 n sl hG hN
      · refine zO_live [0, 2, 5, 6, 7] ?_
        exact sX7_canLearn_196 o2 o5 v6 v7 _ _ hk_133 hk_149 F D n sl hG hN
    · refine zO_chk (fun h13 => ?_)
      refine zO_aload_n dX7_canLearn_202 rfl (zR_P _) ?_
      refine gt7 (k := 9) (v := zq (D 78 9)) dX7_canLearn_203 wF_X7_31 (by decide) (gk_78 hG) rfl ?_
      refine zO_iload dX7_canLearn_206 rfl ?_
      refine zO_iload dX7_canLearn_208 rfl ?_
      refine zO_q2 h13.1 ?_
      refine zO_iast dX7_canLearn_210 h13.2.1 h13.2.2 ?_
      refine zO_letD (fun D_9 eD_9 => ?_)
      refine zO_chk (fun h14 => ?_)
      refine zO_iinc dX7_canLearn_211 rfl h14 (by decide) ?_
      refine zO_ls (ls' := [(0, zR 78), (2, zI o2), (5, zI (o5 + 1)), (6, zI v6), (7, zI v7)]) rfl ?_
      refine zO_goto (tgt := 133) dX7_canLearn_214 rfl ?_
      refine zO_live [0, 2, 5] ?_
      exact hk_133 (o5 + 1) F D_9 n sl hG hN
set_option maxHeartbeats 20000000 in
theorem sX7_canLearn_133 {l : Launch} {E : zE} {d : Nat}  (o2 : Int)   : ∀ (N : Nat) (v5 : Int) (F : zFs) (D : zDa) (n sl : Nat), zG F → 126 ≤ n → zO l E (d + 1) YX7_canLearn 133 [(0, zR 78), (2, zI o2), (5, zI v5)] [] (F, D, n, sl) (zmI) (zfix (fun _ _ _ _ _ => none) (fX7_canLearn_133 o2) N v5 F D n sl) := by
  intro N
  induction N with
  | zero => intro v5 F D n sl hG hN; exact zO_none
  | succ N hk_133 =>
    intro v5 F D n sl hG hN
    show zO _ _ _ _ _ _ _ _ _ ((fX7_canLearn_133 o2) (zfix (fun _ _ _ _ _ => none) (fX7_canLearn_133 o2) N) v5 F D n sl)
    unfold fX7_canLearn_133
    refine zO_iload dX7_canLearn_133 rfl ?_
    refine zO_iconst dX7_canLearn_135 (by decide) ?_
    refine zO_iload_n dX7_canLearn_136 rfl ?_
    refine zO_ishl dX7_canLearn_137 ?_
    refine zO_icmp_ge (tgt := 217) dX7_canLearn_138 rfl (fun c138 => ?_) (fun c138 => ?_)
    · refine zO_sipush dX7_canLearn_141 (by decide) ?_
      refine zO_istore dX7_canLearn_144 (by decide) ?_
      refine zO_ls (ls' := [(0, zR 78), (2, zI o2), (5, zI v5), (6, zI 1000)]) rfl ?_
      refine zO_iconst dX7_canLearn_146 (by decide) ?_
      refine zO_istore dX7_canLearn_147 (by decide) ?_
      refine zO_ls (ls' := [(0, zR 78), (2, zI o2), (5, zI v5), (6, zI 1000), (7, zI 0)]) rfl ?_
      refine zO_live [0, 2, 5, 6, 7] ?_
      exact sX7_canLearn_149 o2 v5 _ hk_133 zfu 1000 0 F D n sl hG hN
    · refine zO_chk (fun h15 => ?_)
      refine zO_aload_n dX7_canLearn_217 rfl (zR_P _) ?_
      refine gt7 (k := 9) (v := zq (D 78 9)) dX7_canLearn_218 wF_X7_31 (by decide) (gk_78 hG) rfl ?_
      refine zO_iconst dX7_canLearn_221 (by decide) ?_
      refine zO_iload_n dX7_canLearn_222 rfl ?_
      refine zO_ishl dX7_canLearn_223 ?_
      refine zO_iconst dX7_canLearn_224 (by decide) ?_
      refine zO_isub dX7_canLearn_225 h15.1 ?_
      refine zO_q1 h15.2.1 ?_
      refine zO_iald dX7_canLearn_226 h15.2.2.1 h15.2.2.2 ?_
      refine zO_sipush dX7_canLearn_227 (by decide) ?_
      refine zO_icmp_ge (tgt := 237) dX7_canLearn_230 rfl (fun c230 => ?_) (fun c230 => ?_)
      · refine zO_iconst dX7_canLearn_233 (by decide) ?_
        refine zO_goto (tgt := 238) dX7_canLearn_234 rfl ?_
        exact zO_ret (rv := some (zI 1)) dX7_canLearn_238 rfl rfl rfl
      · refine zO_iconst dX7_canLearn_237 (by decide) ?_
        exact zO_ret (rv := some (zI 0)) dX7_canLearn_238 rfl rfl rfl
set_option maxHeartbeats 20000000 in
theorem sX7_canLearn_123 {l : Launch} {E : zE} {d : Nat}  (o2 : Int)   (F : zFs) (D : zDa) (n sl : Nat) (hG : zG F) (hN : 126 ≤ n) : zO l E (d + 1) YX7_canLearn 123 [(0, zR 78), (2, zI o2)] [] (F, D, n, sl) (zmI) (fX7_canLearn_123 o2 F D n sl) := by
  unfold fX7_canLearn_123
  refine zO_chk (fun h10 => ?_)
  refine zO_aload_n dX7_canLearn_123 rfl (zR_P _) ?_
  refine gt7 (k := 9) (v := zq (D 78 9)) dX7_canLearn_124 wF_X7_31 (by decide) (gk_78 hG) rfl ?_
  refine zO_iconst dX7_canLearn_127 (by decide) ?_
  refine zO_iconst dX7_canLearn_128 (by decide) ?_
  refine zO_q2 h10.1 ?_
  refine zO_iast dX7_canLearn_129 h10.2.1 h10.2.2 ?_
  refine zO_letD (fun D_4 eD_4 => ?_)
  refine zO_iconst dX7_canLearn_130 (by decide) ?_
  refine zO_istore dX7_canLearn_131 (by decide) ?_
  refine zO_ls (ls' := [(0, zR 78), (2, zI o2), (5, zI 1)]) rfl ?_
  refine zO_live [0, 2, 5] ?_
  exact sX7_canLearn_133 o2 zfu 1 F D_4 n sl hG hN
set_option maxHeartbeats 20000000 in
theorem sX7_canLearn_71 {l : Launch} {E : zE} {d : Nat}  (o2 : Int) (v3 : Int) (v4 : Int)   (F : zFs) (D : zDa) (n sl : Nat) (hG : zG F) (hN : 126 ≤ n) : zO l E (d + 1) YX7_canLearn 71 [(0, zR 78), (2, zI o2), (3, zI v3), (4, zI v4)] [] (F, D, n, sl) (zmI) (fX7_canLearn_71 o2 v3 v4 F D n sl) := by
  unfold fX7_canLearn_71
  refine zO_iload_n dX7_canLearn_71 rfl ?_
  refine zO_iload_n dX7_canLearn_72 rfl ?_
  refine zO_icmp_lt (tgt := 101) dX7_canLearn_73 rfl (fun c73 => ?_) (fun c73 => ?_)
  · refine zO_iconst dX7_canLearn_101 (by decide) ?_
    exact zO_ret (rv := some (zI 0)) dX7_canLearn_102 rfl rfl rfl
  · refine zO_chk (fun h6 => ?_)
    refine zO_iload dX7_canLearn_76 rfl ?_
    refine zO_aload_n dX7_canLearn_78 rfl (zR_P _) ?_
    refine gt7 (k := 7) dX7_canLearn_79 wF_X7_25 (by decide) (gk_78 hG) (zgv (c := 7) (k := 7) rfl (Or.inl ⟨_, rfl⟩) (gf_78_7 hG)) ?_
    refine zO_iconst dX7_canLearn_82 (by decide) ?_
    refine zO_iald dX7_canLearn_83 (gk_82 hG) (gl_in (gl_82 hG) (by decide)) ?_
    refine zO_aload_n dX7_canLearn_84 rfl (zR_P _) ?_
    refine gt7 (k := 7) dX7_canLearn_85 wF_X7_25 (by decide) (gk_78 hG) (zgv (c := 7) (k := 7) rfl (Or.inl ⟨_, rfl⟩) (gf_78_7 hG)) ?_
    refine zO_iconst dX7_canLearn_88 (by decide) ?_
    refine zO_iald dX7_canLearn_89 (gk_82 hG) (gl_in (gl_82 hG) (by decide)) ?_
    refine zO_iadd dX7_canLearn_90 h6.1 ?_
    refine zO_aload_n dX7_canLearn_91 rfl (zR_P _) ?_
    refine gt7 (k := 7) dX7_canLearn_92 wF_X7_25 (by decide) (gk_78 hG) (zgv (c := 7) (k := 7) rfl (Or.inl ⟨_, rfl⟩) (gf_78_7 hG)) ?_
    refine zO_iconst dX7_canLearn_95 (by decide) ?_
    refine zO_iald dX7_canLearn_96 (gk_82 hG) (gl_in (gl_82 hG) (by decide)) ?_
    refine zO_iadd dX7_canLearn_97 h6.2 ?_
    refine zO_icmp_le (tgt := 103) dX7_canLearn_98 rfl (fun c98 => ?_) (fun c98 => ?_)
    · refine zO_iconst dX7_canLearn_101 (by decide) ?_
      exact zO_ret (rv := some (zI 0)) dX7_canLearn_102 rfl rfl rfl
    · refine zO_chk (fun h7 => ?_)
      refine zO_aload_n dX7_canLearn_103 rfl (zR_P _) ?_
      refine gt7 (k := 9) (v := zq (D 78 9)) dX7_canLearn_104 wF_X7_31 (by decide) (gk_78 hG) rfl ?_
      refine zO_q0 h7.1 ?_
      refine zO_alen (kd := 20) dX7_canLearn_107 h7.2 (by decide) ?_
      refine zO_iconst dX7_canLearn_108 (by decide) ?_
      refine zO_iload_n dX7_canLearn_109 rfl ?_
      refine zO_ishl dX7_canLearn_110 ?_
      refine zO_icmp_ge (tgt := 123) dX7_canLearn_111 rfl (fun c111 => ?_) (fun c111 => ?_)
      · refine zO_chk (fun h8 => ?_)
        refine zO_aload_n dX7_canLearn_114 rfl (zR_P _) ?_
        refine zO_iconst dX7_canLearn_115 (by decide) ?_
        refine zO_iload_n dX7_canLearn_116 rfl ?_
        refine zO_ishl dX7_canLearn_117 ?_
        refine zO_newi (kd := 20) dX7_canLearn_118 (by decide) h8.1 h8.2 ?_
        have hh9 : zG (znew F n (20, (zshl 1 o2).toNat, fun _ => 0)) := zG_new hG hN
        have hh9n : 126 ≤ n + 1 := Nat.le_succ_of_le hN
        refine pt7 (k := 9) (z := (((n : Nat) : Int) : Int)) dX7_canLearn_120 wF_X7_31 (by decide) rfl (gk_78 hh9) ((zq_nat _).symm) trivial ?_
        refine zO_letD (fun D_3 eD_3 => ?_)
        refine zO_live [0, 2] ?_
        exact sX7_canLearn_123 o2 (znew F n (20, (zshl 1 o2).toNat, fun _ => 0)) D_3 (n + 1) (sl + (zshl 1 o2).toNat) hh9 hh9n
      · refine zO_live [0, 2] ?_
        exact sX7_canLearn_123 o2 F D n sl hG hN
set_option maxHeartbeats 20000000 in
theorem sX7_canLearn_8 {l : Launch} {E : zE} {d : Nat}  (o1 : Int) (o2 : Int)   : ∀ (N : Nat) (v3 : Int) (v4 : Int) (v5 : Int) (F : zFs) (D : zDa) (n sl : Nat), zG F → 126 ≤ n → zO l E (d + 1) YX7_canLearn 8 [(0, zR 78), (1, zI o1), (2, zI o2), (3, zI v3), (4, zI v4), (5, zI v5)] [] (F, D, n, sl) (zmI) (zfix (fun _ _ _ _ _ _ _ => none) (fX7_canLearn_8 o1 o2) N v3 v4 v5 F D n sl) := by
  intro N
  induction N with
  | zero => intro v3 v4 v5 F D n sl hG hN; exact zO_none
  | succ N hk_8 =>
    intro v3 v4 v5 F D n sl hG hN
    show zO _ _ _ _ _ _ _ _ _ ((fX7_canLearn_8 o1 o2) (zfix (fun _ _ _ _ _ _ _ => none) (fX7_canLearn_8 o1 o2) N) v3 v4 v5 F D n sl)
    unfold fX7_canLearn_8
    refine zO_iload dX7_canLearn_8 rfl ?_
    refine zO_aload_n dX7_canLearn_10 rfl (zR_P _) ?_
    refine gt7 (k := 4) (v := zI (D 78 4)) dX7_canLearn_11 wF_X7_72 (by decide) (gk_78 hG) rfl ?_
    refine zO_icmp_ge (tgt := 71) dX7_canLearn_14 rfl (fun c14 => ?_) (fun c14 => ?_)
    · refine zO_iload_n dX7_canLearn_17 rfl ?_
      refine zO_iload_n dX7_canLearn_18 rfl ?_
      refine zO_icmp_ge (tgt := 71) dX7_canLearn_19 rfl (fun c19 => ?_) (fun c19 => ?_)
      · refine zO_chk (fun h1 => ?_)
        refine zO_aload_n dX7_canLearn_22 rfl (zR_P _) ?_
        refine gt7 (k := 6) dX7_canLearn_23 wF_X7_22 (by decide) (gk_78 hG) (zgv (c := 7) (k := 6) rfl (Or.inl ⟨_, rfl⟩) (gf_78_6 hG)) ?_
        refine zO_iload dX7_canLearn_26 rfl ?_
        refine zO_iald dX7_canLearn_28 (gk_81 hG) (gl_in (gl_81 hG) h1) ?_
        refine zO_iload_n dX7_canLearn_29 rfl ?_
        refine zO_icmp_lt (tgt := 65) dX7_canLearn_30 rfl (fun c30 => ?_) (fun c30 => ?_)
        · refine zO_live [0, 1, 2, 3, 4, 5] ?_
          exact sX7_canLearn_65 o1 o2 v3 v4 v5 _ hk_8 F D n sl hG hN
        · refine zO_chk (fun h3 => ?_)
          refine zO_aload_n dX7_canLearn_33 rfl (zR_P _) ?_
          refine gt7 (k := 8) dX7_canLearn_34 wF_X7_28 (by decide) (gk_78 hG) (zgv (c := 7) (k := 8) rfl (Or.inl ⟨_, rfl⟩) (gf_78_8 hG)) ?_
          refine zO_iload_n dX7_canLearn_37 rfl ?_
          refine zO_aload_n dX7_canLearn_38 rfl (zR_P _) ?_
          refine gt7 (k := 5) dX7_canLearn_39 wF_X7_19 (by decide) (gk_78 hG) (zgv (c := 7) (k := 5) rfl (Or.inl ⟨_, rfl⟩) (gf_78_5 hG)) ?_
          refine zO_aload_n dX7_canLearn_42 rfl (zR_P _) ?_
          refine gt7 (k := 6) dX7_canLearn_43 wF_X7_22 (by decide) (gk_78 hG) (zgv (c := 7) (k := 6) rfl (Or.inl ⟨_, rfl⟩) (gf_78_6 hG)) ?_
          refine zO_iload dX7_canLearn_46 rfl ?_
          refine zO_iald dX7_canLearn_48 (gk_81 hG) (gl_in (gl_81 hG) h1) ?_
          refine zO_iald dX7_canLearn_49 (gk_80 hG) (gl_in (gl_80 hG) h3.1) ?_
          refine zO_iast dX7_canLearn_50 (gk_83 hG) (gl_in (gl_83 hG) h3.2) ?_
          refine zO_letD (fun D_1 eD_1 => ?_)
          refine zO_chk (fun h4 => ?_)
          refine zO_iload dX7_canLearn_51 rfl ?_
          refine zO_aload_n dX7_canLearn_53 rfl (zR_P _) ?_
          refine gt7 (k := 8) dX7_canLearn_54 wF_X7_28 (by decide) (gk_78 hG) (zgv (c := 7) (k := 8) rfl (Or.inl ⟨_, rfl⟩) (gf_78_8 hG)) ?_
          refine zO_iload_n dX7_canLearn_57 rfl ?_
          refine zO_iald dX7_canLearn_58 (gk_83 hG) (gl_in (gl_83 hG) h3.2) ?_
          refine zO_iadd dX7_canLearn_59 h4 ?_
          refine zO_letI (fun x4_2 ex4_2 => ?_)
          refine zO_istore dX7_canLearn_60 (by decide) ?_
          refine zO_ls (ls' := [(0, zR 78), (1, zI o1), (2, zI o2), (3, zI v3), (4, zI x4_2), (5, zI v5)]) rfl ?_
          refine zO_chk (fun h5 => ?_)
          refine zO_iinc dX7_canLearn_62 rfl h5 (by decide) ?_
          refine zO_ls (ls' := [(0, zR 78), (1, zI o1), (2, zI o2), (3, zI (v3 + 1)), (4, zI x4_2), (5, zI v5)]) rfl ?_
          refine zO_live [0, 1, 2, 3, 4, 5] ?_
          exact sX7_canLearn_65 o1 o2 (v3 + 1) x4_2 v5 _ hk_8 F D_1 n sl hG hN
      · refine zO_live [0, 2, 3, 4] ?_
        exact sX7_canLearn_71 o2 v3 v4 F D n sl hG hN
    · refine zO_live [0, 2, 3, 4] ?_
      exact sX7_canLearn_71 o2 v3 v4 F D n sl hG hN
set_option maxHeartbeats 20000000 in
theorem mX7_canLearn {l : Launch} {E : zE} {d : Nat} (v1 : Int) (v2 : Int) {F : zFs} {D : zDa} {n sl : Nat} (hG : zG F) (hN : 126 ≤ n) : ∀ r, fX7_canLearn v1 v2 F D n sl = some r → zMet l E (d + 1) YX7_canLearn [zR 78, zI v1, zI v2] (F, D, n, sl) (zmI r) := by
  intro r hr
  refine zMet_of (plainFor_of_name (by decide)) (fun _ h => (nomatch h)) (Nat.le_of_ble_eq_true rfl) ?_
  have hz : zO l E (d + 1) YX7_canLearn 0 [(0, zR 78), (1, zI v1), (2, zI v2)] [] (F, D, n, sl) (zmI) (fX7_canLearn v1 v2 F D n sl) := by
    unfold fX7_canLearn
    refine zO_iconst dX7_canLearn_0 (by decide) ?_
    refine zO_istore_n dX7_canLearn_1 (by decide) ?_
    refine zO_ls (ls' := [(0, zR 78), (1, zI v1), (2, zI v2), (3, zI 0)]) rfl ?_
    refine zO_iconst dX7_canLearn_2 (by decide) ?_
    refine zO_istore dX7_canLearn_3 (by decide) ?_
    refine zO_ls (ls' := [(0, zR 78), (1, zI v1), (2, zI v2), (3, zI 0), (4, zI 0)]) rfl ?_
    refine zO_iconst dX7_canLearn_5 (by decide) ?_
    refine zO_istore dX7_canLearn_6 (by decide) ?_
    refine zO_ls (ls' := [(0, zR 78), (1, zI v1), (2, zI v2), (3, zI 0), (4, zI 0), (5, zI 0)]) rfl ?_
    refine zO_live [0, 1, 2, 3, 4, 5] ?_
    exact sX7_canLearn_8 v1 v2 zfu 0 0 0 F D n sl hG hN
  exact hz r hr
theorem dX7_mostOfAll_0 : decode cX7_mostOfAll 0 = .ok (.aload_n 0, 1) := by decide +kernel
theorem dX7_mostOfAll_1 : decode cX7_mostOfAll 1 = .ok (.getfield 72, 3) := by decide +kernel
theorem dX7_mostOfAll_4 : decode cX7_mostOfAll 4 = .ok (.istore_n 1, 1) := by decide +kernel
theorem dX7_mostOfAll_5 : decode cX7_mostOfAll 5 = .ok (.iload_n 1, 1) := by decide +kernel
theorem dX7_mostOfAll_6 : decode cX7_mostOfAll 6 = .ok (.ifCond .le 18, 3) := by decide +kernel
theorem dX7_mostOfAll_9 : decode cX7_mostOfAll 9 = .ok (.aload_n 0, 1) := by decide +kernel
theorem dX7_mostOfAll_10 : decode cX7_mostOfAll 10 = .ok (.iconst 0, 1) := by decide +kernel
theorem dX7_mostOfAll_11 : decode cX7_mostOfAll 11 = .ok (.iload_n 1, 1) := by decide +kernel
theorem dX7_mostOfAll_12 : decode cX7_mostOfAll 12 = .ok (.invokevirtual 95, 3) := by decide +kernel
theorem dX7_mostOfAll_15 : decode cX7_mostOfAll 15 = .ok (.ifCond .ne 9, 3) := by decide +kernel
theorem dX7_mostOfAll_18 : decode cX7_mostOfAll 18 = .ok (.iinc 1 (-1), 3) := by decide +kernel
theorem dX7_mostOfAll_21 : decode cX7_mostOfAll 21 = .ok (.goto (-16), 3) := by decide +kernel
theorem dX7_mostOfAll_24 : decode cX7_mostOfAll 24 = .ok (.iload_n 1, 1) := by decide +kernel
theorem dX7_mostOfAll_25 : decode cX7_mostOfAll 25 = .ok (.ireturn, 1) := by decide +kernel
abbrev YX7_mostOfAll : zY := (yX7_mostOfAll, cX7_mostOfAll, 2, (Option.some Jvm.ClassFile.FieldType.int), [])
def fX7_mostOfAll_5   (k_5 : Int → zFs → zDa → Nat → Nat → Option (Int × zM)) (v1 : Int) (F : zFs) (D : zDa) (n sl : Nat) : Option (Int × zM) :=
  if 0 < v1 then
    (fX7_canLearn 0 v1 F D n sl).bind (fun (r_2, (F_3, D_4, n_5, sl_6)) =>
      if zG F_3 ∧ 126 ≤ n_5 then
        if r_2 = 0 then
          if (-2147483648 ≤ v1 + (-1) ∧ v1 + (-1) ≤ 2147483647) then
            k_5 (v1 + (-1)) F_3 D_4 n_5 sl_6
          else none
        else
          some (v1, (F_3, D_4, n_5, sl_6))
      else none)
  else
    some (v1, (F, D, n, sl))
def fX7_mostOfAll  (F : zFs) (D : zDa) (n sl : Nat) : Option (Int × zM) :=
  zlet ((D 78 4)) (fun x1_1 =>
    zfix (fun _ _ _ _ _ => none) (fX7_mostOfAll_5 ) zfu x1_1 F D n sl)
set_option maxHeartbeats 20000000 in
theorem sX7_mostOfAll_5 {l : Launch} {E : zE} {d : Nat}     : ∀ (N : Nat) (v1 : Int) (F : zFs) (D : zDa) (n sl : Nat), zG F → 126 ≤ n → zO l E (d + 2) YX7_mostOfAll 5 [(0, zR 78), (1, zI v1)] [] (F, D, n, sl) (zmI) (zfix (fun _ _ _ _ _ => none) (fX7_mostOfAll_5 ) N v1 F D n sl) := by
  intro N
  induction N with
  | zero => intro v1 F D n sl hG hN; exact zO_none
  | succ N hk_5 =>
    intro v1 F D n sl hG hN
    show zO _ _ _ _ _ _ _ _ _ ((fX7_mostOfAll_5 ) (zfix (fun _ _ _ _ _ => none) (fX7_mostOfAll_5 ) N) v1 F D n sl)
    unfold fX7_mostOfAll_5
    refine zO_iload_n dX7_mostOfAll_5 rfl ?_
    refine zO_if_le (tgt := 24) dX7_mostOfAll_6 rfl (fun c6 => ?_) (fun c6 => ?_)
    · refine zO_aload_n dX7_mostOfAll_9 rfl (zR_P _) ?_
      refine zO_iconst dX7_mostOfAll_10 (by decide) ?_
      refine zO_iload_n dX7_mostOfAll_11 rfl ?_
      refine zO_callV (Y' := YX7_canLearn) (cw := zmI) (as := [zI 0, zI v1]) (rest := []) (na := 2) (ci := 7) rfl dX7_mostOfAll_12 wC_X7_canLearn wN_X7 wM_X7_95 wI_X7_canLearn wV_X7_canLearn (by decide) (by decide) rfl rfl (Nat.le_of_ble_eq_true rfl) rfl (by decide) (gk_78 hG) (fun r hr => zMet_cast (Nat.add_assoc d 0 1) (mX7_canLearn (d := d + 0) 0 v1 hG hN r hr)) ?_
      rintro ⟨r_2, F_3, D_4, n_5, sl_6⟩ -
      show zO _ _ _ _ _ _ [zI r_2] (F_3, D_4, n_5, sl_6) _ _
      refine zO_chk (fun g6 => ?_)
      refine zO_if_ne (tgt := 24) dX7_mostOfAll_15 rfl (fun c15 => ?_) (fun c15 => ?_)
      · refine zO_chk (fun h1 => ?_)
        refine zO_iinc dX7_mostOfAll_18 rfl h1 (by decide) ?_
        refine zO_ls (ls' := [(0, zR 78), (1, zI (v1 + (-1)))]) rfl ?_
        refine zO_goto (tgt := 5) dX7_mostOfAll_21 rfl ?_
        refine zO_live [0, 1] ?_
        exact hk_5 (v1 + (-1)) F_3 D_4 n_5 sl_6 g6.1 g6.2
      · refine zO_iload_n dX7_mostOfAll_24 rfl ?_
        exact zO_ret (rv := some (zI v1)) dX7_mostOfAll_25 rfl rfl rfl
    · refine zO_iload_n dX7_mostOfAll_24 rfl ?_
      exact zO_ret (rv := some (zI v1)) dX7_mostOfAll_25 rfl rfl rfl
set_option maxHeartbeats 20000000 in
theorem mX7_mostOfAll {l : Launch} {E : zE} {d : Nat}  {F : zFs} {D : zDa} {n sl : Nat} (hG : zG F) (hN : 126 ≤ n) : ∀ r, fX7_mostOfAll  F D n sl = some r → zMet l E (d + 2) YX7_mostOfAll [zR 78] (F, D, n, sl) (zmI r) := by
  intro r hr
  refine zMet_of (plainFor_of_name (by decide)) (fun _ h => (nomatch h)) (Nat.le_of_ble_eq_true rfl) ?_
  have hz : zO l E (d + 2) YX7_mostOfAll 0 [(0, zR 78)] [] (F, D, n, sl) (zmI) (fX7_mostOfAll  F D n sl) := by
    unfold fX7_mostOfAll
    refine zO_aload_n dX7_mostOfAll_0 rfl (zR_P _) ?_
    refine gt7 (k := 4) (v := zI (D 78 4)) dX7_mostOfAll_1 wF_X7_72 (by decide) (gk_78 hG) rfl ?_
    refine zO_letI (fun x1_1 ex1_1 => ?_)
    refine zO_istore_n dX7_mostOfAll_4 (by decide) ?_
    refine zO_ls (ls' := [(0, zR 78), (1, zI x1_1)]) rfl ?_
    refine zO_live [0, 1] ?_
    exact sX7_mostOfAll_5  zfu x1_1 F D n sl hG hN
  exact hz r hr
theorem dX7_firstFriend_0 : decode cX7_firstFriend 0 = .ok (.iconst 0, 1) := by decide +kernel
theorem dX7_firstFriend_1 : decode cX7_firstFriend 1 = .ok (.istore_n 3, 1) := by decide +kernel
theorem dX7_firstFriend_2 : decode cX7_firstFriend 2 = .ok (.iload_n 3, 1) := by decide +kernel
theorem dX7_firstFriend_3 : decode cX7_firstFriend 3 = .ok (.iconst 3, 1) := by decide +kernel
theorem dX7_firstFriend_4 : decode cX7_firstFriend 4 = .ok (.if_icmp .ge 73, 3) := by decide +kernel
theorem dX7_firstFriend_7 : decode cX7_firstFriend 7 = .ok (.iload_n 2, 1) := by decide +kernel
theorem dX7_firstFriend_8 : decode cX7_firstFriend 8 = .ok (.ifCond .le 69, 3) := by decide +kernel
theorem dX7_firstFriend_11 : decode cX7_firstFriend 11 = .ok (.aload_n 0, 1) := by decide +kernel
theorem dX7_firstFriend_12 : decode cX7_firstFriend 12 = .ok (.getfield 19, 3) := by decide +kernel
theorem dX7_firstFriend_15 : decode cX7_firstFriend 15 = .ok (.iload_n 1, 1) := by decide +kernel
theorem dX7_firstFriend_16 : decode cX7_firstFriend 16 = .ok (.iaload, 1) := by decide +kernel
theorem dX7_firstFriend_17 : decode cX7_firstFriend 17 = .ok (.aload_n 0, 1) := by decide +kernel
theorem dX7_firstFriend_18 : decode cX7_firstFriend 18 = .ok (.getfield 25, 3) := by decide +kernel
theorem dX7_firstFriend_21 : decode cX7_firstFriend 21 = .ok (.iload_n 3, 1) := by decide +kernel
theorem dX7_firstFriend_22 : decode cX7_firstFriend 22 = .ok (.iaload, 1) := by decide +kernel
theorem dX7_firstFriend_23 : decode cX7_firstFriend 23 = .ok (.if_icmp .gt 48, 3) := by decide +kernel
theorem dX7_firstFriend_26 : decode cX7_firstFriend 26 = .ok (.aload_n 0, 1) := by decide +kernel
theorem dX7_firstFriend_27 : decode cX7_firstFriend 27 = .ok (.getfield 25, 3) := by decide +kernel
theorem dX7_firstFriend_30 : decode cX7_firstFriend 30 = .ok (.iload_n 3, 1) := by decide +kernel
theorem dX7_firstFriend_31 : decode cX7_firstFriend 31 = .ok (.dup2, 1) := by decide +kernel
theorem dX7_firstFriend_32 : decode cX7_firstFriend 32 = .ok (.iaload, 1) := by decide +kernel
theorem dX7_firstFriend_33 : decode cX7_firstFriend 33 = .ok (.aload_n 0, 1) := by decide +kernel
theorem dX7_firstFriend_34 : decode cX7_firstFriend 34 = .ok (.getfield 19, 3) := by decide +kernel
theorem dX7_firstFriend_37 : decode cX7_firstFriend 37 = .ok (.iload_n 1, 1) := by decide +kernel
theorem dX7_firstFriend_38 : decode cX7_firstFriend 38 = .ok (.iaload, 1) := by decide +kernel
theorem dX7_firstFriend_39 : decode cX7_firstFriend 39 = .ok (.isub, 1) := by decide +kernel
theorem dX7_firstFriend_40 : decode cX7_firstFriend 40 = .ok (.iastore, 1) := by decide +kernel
theorem dX7_firstFriend_41 : decode cX7_firstFriend 41 = .ok (.aload_n 0, 1) := by decide +kernel
theorem dX7_firstFriend_42 : decode cX7_firstFriend 42 = .ok (.iload_n 1, 1) := by decide +kernel
theorem dX7_firstFriend_43 : decode cX7_firstFriend 43 = .ok (.iconst 1, 1) := by decide +kernel
theorem dX7_firstFriend_44 : decode cX7_firstFriend 44 = .ok (.iadd, 1) := by decide +kernel
theorem dX7_firstFriend_45 : decode cX7_firstFriend 45 = .ok (.iload_n 2, 1) := by decide +kernel
theorem dX7_firstFriend_46 : decode cX7_firstFriend 46 = .ok (.iconst 1, 1) := by decide +kernel
theorem dX7_firstFriend_47 : decode cX7_firstFriend 47 = .ok (.isub, 1) := by decide +kernel
theorem dX7_firstFriend_48 : decode cX7_firstFriend 48 = .ok (.invokevirtual 95, 3) := by decide +kernel
theorem dX7_firstFriend_51 : decode cX7_firstFriend 51 = .ok (.ifCond .eq 5, 3) := by decide +kernel
theorem dX7_firstFriend_54 : decode cX7_firstFriend 54 = .ok (.iload_n 3, 1) := by decide +kernel
theorem dX7_firstFriend_55 : decode cX7_firstFriend 55 = .ok (.ireturn, 1) := by decide +kernel
theorem dX7_firstFriend_56 : decode cX7_firstFriend 56 = .ok (.aload_n 0, 1) := by decide +kernel
theorem dX7_firstFriend_57 : decode cX7_firstFriend 57 = .ok (.getfield 25, 3) := by decide +kernel
theorem dX7_firstFriend_60 : decode cX7_firstFriend 60 = .ok (.iload_n 3, 1) := by decide +kernel
theorem dX7_firstFriend_61 : decode cX7_firstFriend 61 = .ok (.dup2, 1) := by decide +kernel
theorem dX7_firstFriend_62 : decode cX7_firstFriend 62 = .ok (.iaload, 1) := by decide +kernel
theorem dX7_firstFriend_63 : decode cX7_firstFriend 63 = .ok (.aload_n 0, 1) := by decide +kernel
theorem dX7_firstFriend_64 : decode cX7_firstFriend 64 = .ok (.getfield 19, 3) := by decide +kernel
theorem dX7_firstFriend_67 : decode cX7_firstFriend 67 = .ok (.iload_n 1, 1) := by decide +kernel
theorem dX7_firstFriend_68 : decode cX7_firstFriend 68 = .ok (.iaload, 1) := by decide +kernel
theorem dX7_firstFriend_69 : decode cX7_firstFriend 69 = .ok (.iadd, 1) := by decide +kernel
theorem dX7_firstFriend_70 : decode cX7_firstFriend 70 = .ok (.iastore, 1) := by decide +kernel
theorem dX7_firstFriend_71 : decode cX7_firstFriend 71 = .ok (.iinc 3 1, 3) := by decide +kernel
theorem dX7_firstFriend_74 : decode cX7_firstFriend 74 = .ok (.goto (-72), 3) := by decide +kernel
theorem dX7_firstFriend_77 : decode cX7_firstFriend 77 = .ok (.iconst (-1), 1) := by decide +kernel
theorem dX7_firstFriend_78 : decode cX7_firstFriend 78 = .ok (.ireturn, 1) := by decide +kernel
abbrev YX7_firstFriend : zY := (yX7_firstFriend, cX7_firstFriend, 4, (Option.some Jvm.ClassFile.FieldType.int), [])
def fX7_firstFriend_71 (k_2 : Int → zFs → zDa → Nat → Nat → Option (Int × zM)) (o1 : Int) (o2 : Int) (v3 : Int) (F : zFs) (D : zDa) (n sl : Nat) : Option (Int × zM) :=
  if (-2147483648 ≤ v3 + 1 ∧ v3 + 1 ≤ 2147483647) then
    k_2 (v3 + 1) F D n sl
  else none
def fX7_firstFriend_2 (o1 : Int) (o2 : Int)  (k_2 : Int → zFs → zDa → Nat → Nat → Option (Int × zM)) (v3 : Int) (F : zFs) (D : zDa) (n sl : Nat) : Option (Int × zM) :=
  if v3 < 3 then
    if 0 < o2 then
      if (0 ≤ o1 ∧ o1 < 12) ∧ (0 ≤ v3 ∧ v3 < 3) then
        if (D 82 v3.toNat) < (D 80 o1.toNat) then
          fX7_firstFriend_71 k_2 o1 o2 v3 F D n sl
        else
          if (-2147483648 ≤ (D 82 v3.toNat) - (D 80 o1.toNat) ∧ (D 82 v3.toNat) - (D 80 o1.toNat) ≤ 2147483647) then
            zlet (zwr D 82 v3.toNat ((D 82 v3.toNat) - (D 80 o1.toNat))) (fun D_1 =>
              if (-2147483648 ≤ o1 + 1 ∧ o1 + 1 ≤ 2147483647) ∧ (-2147483648 ≤ o2 - 1 ∧ o2 - 1 ≤ 2147483647) then
                (fX7_canLearn (o1 + 1) (o2 - 1) F D_1 n sl).bind (fun (r_2, (F_3, D_4, n_5, sl_6)) =>
                  if zG F_3 ∧ 126 ≤ n_5 then
                    if r_2 = 0 then
                      if (-2147483648 ≤ (D_4 82 v3.toNat) + (D_4 80 o1.toNat) ∧ (D_4 82 v3.toNat) + (D_4 80 o1.toNat) ≤ 2147483647) then
                        zlet (zwr D_4 82 v3.toNat ((D_4 82 v3.toNat) + (D_4 80 o1.toNat))) (fun D_7 =>
                          fX7_firstFriend_71 k_2 o1 o2 v3 F_3 D_7 n_5 sl_6)
                      else none
                    else
                      some (v3, (F_3, D_4, n_5, sl_6))
                  else none)
              else none)
          else none
      else none
    else
      some ((-1), (F, D, n, sl))
  else
    some ((-1), (F, D, n, sl))
def fX7_firstFriend (v1 : Int) (v2 : Int) (F : zFs) (D : zDa) (n sl : Nat) : Option (Int × zM) :=
  zfix (fun _ _ _ _ _ => none) (fX7_firstFriend_2 v1 v2) zfu 0 F D n sl
set_option maxHeartbeats 20000000 in
theorem sX7_firstFriend_71 {l : Launch} {E : zE} {d : Nat}  (o1 : Int) (o2 : Int) (v3 : Int) (k_2 : Int → zFs → zDa → Nat → Nat → Option (Int × zM)) (hk_2 : ∀ (u3 : Int) (F : zFs) (D : zDa) (n sl : Nat), zG F → 126 ≤ n → zO l E (d + 2) YX7_firstFriend 2 [(0, zR 78), (1, zI o1), (2, zI o2), (3, zI u3)] [] (F, D, n, sl) zmI (k_2 u3 F D n sl)) (F : zFs) (D : zDa) (n sl : Nat) (hG : zG F) (hN : 126 ≤ n) : zO l E (d + 2) YX7_firstFriend 71 [(0, zR 78), (1, zI o1), (2, zI o2), (3, zI v3)] [] (F, D, n, sl) (zmI) (fX7_firstFriend_71 k_2 o1 o2 v3 F D n sl) := by
  unfold fX7_firstFriend_71
  refine zO_chk (fun h2 => ?_)
  refine zO_iinc dX7_firstFriend_71 rfl h2 (by decide) ?_
  refine zO_ls (ls' := [(0, zR 78), (1, zI o1), (2, zI o2), (3, zI (v3 + 1))]) rfl ?_
  refine zO_goto (tgt := 2) dX7_firstFriend_74 rfl ?_
  refine zO_live [0, 1, 2, 3] ?_
  exact hk_2 (v3 + 1) F D n sl hG hN
set_option maxHeartbeats 20000000 in
theorem sX7_firstFriend_2 {l : Launch} {E : zE} {d : Nat}  (o1 : Int) (o2 : Int)   : ∀ (N : Nat) (v3 : Int) (F : zFs) (D : zDa) (n sl : Nat), zG F → 126 ≤ n → zO l E (d + 2) YX7_firstFriend 2 [(0, zR 78), (1, zI o1), (2, zI o2), (3, zI v3)] [] (F, D, n, sl) (zmI) (zfix (fun _ _ _ _ _ => none) (fX7_firstFriend_2 o1 o2) N v3 F D n sl) := by
  intro N
  induction N with
  | zero => intro v3 F D n sl hG hN; exact zO_none
  | succ N hk_2 =>
    intro v3 F D n sl hG hN
    show zO _ _ _ _ _ _ _ _ _ ((fX7_firstFriend_2 o1 o2) (zfix (fun _ _ _ _ _ => none) (fX7_firstFriend_2 o1 o2) N) v3 F D n sl)
    unfold fX7_firstFriend_2
    refine zO_iload_n dX7_firstFriend_2 rfl ?_
    refine zO_iconst dX7_firstFriend_3 (by decide) ?_
    refine zO_icmp_ge (tgt := 77) dX7_firstFriend_4 rfl (fun c4 => ?_) (fun c4 => ?_)
    · refine zO_iload_n dX7_firstFriend_7 rfl ?_
      refine zO_if_le (tgt := 77) dX7_firstFriend_8 rfl (fun c8 => ?_) (fun c8 => ?_)
      · refine zO_chk (fun h1 => ?_)
        refine zO_aload_n dX7_firstFriend_11 rfl (zR_P _) ?_
        refine gt7 (k := 5) dX7_firstFriend_12 wF_X7_19 (by decide) (gk_78 hG) (zgv (c := 7) (k := 5) rfl (Or.inl ⟨_, rfl⟩) (gf_78_5 hG)) ?_
        refine zO_iload_n dX7_firstFriend_15 rfl ?_
        refine zO_iald dX7_firstFriend_16 (gk_80 hG) (gl_in (gl_80 hG) h1.1) ?_
        refine zO_aload_n dX7_firstFriend_17 rfl (zR_P _) ?_
        refine gt7 (k := 7) dX7_firstFriend_18 wF_X7_25 (by decide) (gk_78 hG) (zgv (c := 7) (k := 7) rfl (Or.inl ⟨_, rfl⟩) (gf_78_7 hG)) ?_
        refine zO_iload_n dX7_firstFriend_21 rfl ?_
        refine zO_iald dX7_firstFriend_22 (gk_82 hG) (gl_in (gl_82 hG) h1.2) ?_
        refine zO_icmp_gt (tgt := 71) dX7_firstFriend_23 rfl (fun c23 => ?_) (fun c23 => ?_)
        · refine zO_live [0, 1, 2, 3] ?_
          exact sX7_firstFriend_71 o1 o2 v3 _ hk_2 F D n sl hG hN
        · refine zO_chk (fun h3 => ?_)
          refine zO_aload_n dX7_firstFriend_26 rfl (zR_P _) ?_
          refine gt7 (k := 7) dX7_firstFriend_27 wF_X7_25 (by decide) (gk_78 hG) (zgv (c := 7) (k := 7) rfl (Or.inl ⟨_, rfl⟩) (gf_78_7 hG)) ?_
          refine zO_iload_n dX7_firstFriend_30 rfl ?_
          refine zO_dup2a dX7_firstFriend_31 (rfl) (rfl) ?_
          refine zO_iald dX7_firstFriend_32 (gk_82 hG) (gl_in (gl_82 hG) h1.2) ?_
          refine zO_aload_n dX7_firstFriend_33 rfl (zR_P _) ?_
          refine gt7 (k := 5) dX7_firstFriend_34 wF_X7_19 (by decide) (gk_78 hG) (zgv (c := 7) (k := 5) rfl (Or.inl ⟨_, rfl⟩) (gf_78_5 hG)) ?_
          refine zO_iload_n dX7_firstFriend_37 rfl ?_
          refine zO_iald dX7_firstFriend_38 (gk_80 hG) (gl_in (gl_80 hG) h1.1) ?_
          refine zO_isub dX7_firstFriend_39 h3 ?_
          refine zO_iast dX7_firstFriend_40 (gk_82 hG) (gl_in (gl_82 hG) h1.2) ?_
          refine zO_letD (fun D_1 eD_1 => ?_)
          refine zO_chk (fun h4 => ?_)
          refine zO_aload_n dX7_firstFriend_41 rfl (zR_P _) ?_
          refine zO_iload_n dX7_firstFriend_42 rfl ?_
          refine zO_iconst dX7_firstFriend_43 (by decide) ?_
          refine zO_iadd dX7_firstFriend_44 h4.1 ?_
          refine zO_iload_n dX7_firstFriend_45 rfl ?_
          refine zO_iconst dX7_firstFriend_46 (by decide) ?_
          refine zO_isub dX7_firstFriend_47 h4.2 ?_
          refine zO_callV (Y' := YX7_canLearn) (cw := zmI) (as := [zI (o1 + 1), zI (o2 - 1)]) (rest := []) (na := 2) (ci := 7) rfl dX7_firstFriend_48 wC_X7_canLearn wN_X7 wM_X7_95 wI_X7_canLearn wV_X7_canLearn (by decide) (by decide) rfl rfl (Nat.le_of_ble_eq_true rfl) rfl (by decide) (gk_78 hG) (fun r hr => zMet_cast (Nat.add_assoc d 0 1) (mX7_canLearn (d := d + 0) (o1 + 1) (o2 - 1) hG hN r hr)) ?_
          rintro ⟨r_2, F_3, D_4, n_5, sl_6⟩ -
          show zO _ _ _ _ _ _ [zI r_2] (F_3, D_4, n_5, sl_6) _ _
          refine zO_chk (fun g6 => ?_)
          refine zO_if_eq (tgt := 56) dX7_firstFriend_51 rfl (fun c51 => ?_) (fun c51 => ?_)
          · refine zO_chk (fun h5 => ?_)
            refine zO_aload_n dX7_firstFriend_56 rfl (zR_P _) ?_
            refine gt7 (k := 7) dX7_firstFriend_57 wF_X7_25 (by decide) (gk_78 g6.1) (zgv (c := 7) (k := 7) rfl (Or.inl ⟨_, rfl⟩) (gf_78_7 g6.1)) ?_
            refine zO_iload_n dX7_firstFriend_60 rfl ?_
            refine zO_dup2a dX7_firstFriend_61 (rfl) (rfl) ?_
            refine zO_iald dX7_firstFriend_62 (gk_82 g6.1) (gl_in (gl_82 g6.1) h1.2) ?_
            refine zO_aload_n dX7_firstFriend_63 rfl (zR_P _) ?_
            refine gt7 (k := 5) dX7_firstFriend_64 wF_X7_19 (by decide) (gk_78 g6.1) (zgv (c := 7) (k := 5) rfl (Or.inl ⟨_, rfl⟩) (gf_78_5 g6.1)) ?_
            refine zO_iload_n dX7_firstFriend_67 rfl ?_
            refine zO_iald dX7_firstFriend_68 (gk_80 g6.1) (gl_in (gl_80 g6.1) h1.1) ?_
            refine zO_iadd dX7_firstFriend_69 h5 ?_
            refine zO_iast dX7_firstFriend_70 (gk_82 g6.1) (gl_in (gl_82 g6.1) h1.2) ?_
            refine zO_letD (fun D_7 eD_7 => ?_)
            refine zO_live [0, 1, 2, 3] ?_
            exact sX7_firstFriend_71 o1 o2 v3 _ hk_2 F_3 D_7 n_5 sl_6 g6.1 g6.2
          · refine zO_iload_n dX7_firstFriend_54 rfl ?_
            exact zO_ret (rv := some (zI v3)) dX7_firstFriend_55 rfl rfl rfl
      · refine zO_iconst dX7_firstFriend_77 (by decide) ?_
        exact zO_ret (rv := some (zI (-1))) dX7_firstFriend_78 rfl rfl rfl
    · refine zO_iconst dX7_firstFriend_77 (by decide) ?_
      exact zO_ret (rv := some (zI (-1))) dX7_firstFriend_78 rfl rfl rfl
set_option maxHeartbeats 20000000 in
theorem mX7_firstFriend {l : Launch} {E : zE} {d : Nat} (v1 : Int) (v2 : Int) {F : zFs} {D : zDa} {n sl : Nat} (hG : zG F) (hN : 126 ≤ n) : ∀ r, fX7_firstFriend v1 v2 F D n sl = some r → zMet l E (d + 2) YX7_firstFriend [zR 78, zI v1, zI v2] (F, D, n, sl) (zmI r) := by
  intro r hr
  refine zMet_of (plainFor_of_name (by decide)) (fun _ h => (nomatch h)) (Nat.le_of_ble_eq_true rfl) ?_
  have hz : zO l E (d + 2) YX7_firstFriend 0 [(0, zR 78), (1, zI v1), (2, zI v2)] [] (F, D, n, sl) (zmI) (fX7_firstFriend v1 v2 F D n sl) := by
    unfold fX7_firstFriend
    refine zO_iconst dX7_firstFriend_0 (by decide) ?_
    refine zO_istore_n dX7_firstFriend_1 (by decide) ?_
    refine zO_ls (ls' := [(0, zR 78), (1, zI v1), (2, zI v2), (3, zI 0)]) rfl ?_
    refine zO_live [0, 1, 2, 3] ?_
    exact sX7_firstFriend_2 v1 v2 zfu 0 F D n sl hG hN
  exact hz r hr
theorem dX7_refresh_0 : decode cX7_refresh 0 = .ok (.aload_n 0, 1) := by decide +kernel
theorem dX7_refresh_1 : decode cX7_refresh 1 = .ok (.getfield 9, 3) := by decide +kernel
theorem dX7_refresh_4 : decode cX7_refresh 4 = .ok (.aload_n 0, 1) := by decide +kernel
theorem dX7_refresh_5 : decode cX7_refresh 5 = .ok (.getfield 37, 3) := by decide +kernel
theorem dX7_refresh_8 : decode cX7_refresh 8 = .ok (.getfield 45, 3) := by decide +kernel
theorem dX7_refresh_11 : decode cX7_refresh 11 = .ok (.if_icmp .ne 11, 3) := by decide +kernel
theorem dX7_refresh_14 : decode cX7_refresh 14 = .ok (.aload_n 0, 1) := by decide +kernel
theorem dX7_refresh_15 : decode cX7_refresh 15 = .ok (.invokevirtual 50, 3) := by decide +kernel
theorem dX7_refresh_18 : decode cX7_refresh 18 = .ok (.ifCond .eq 4, 3) := by decide +kernel
theorem dX7_refresh_21 : decode cX7_refresh 21 = .ok (.return_, 1) := by decide +kernel
theorem dX7_refresh_22 : decode cX7_refresh 22 = .ok (.aload_n 0, 1) := by decide +kernel
theorem dX7_refresh_23 : decode cX7_refresh 23 = .ok (.aload_n 0, 1) := by decide +kernel
theorem dX7_refresh_24 : decode cX7_refresh 24 = .ok (.getfield 37, 3) := by decide +kernel
theorem dX7_refresh_27 : decode cX7_refresh 27 = .ok (.getfield 45, 3) := by decide +kernel
theorem dX7_refresh_30 : decode cX7_refresh 30 = .ok (.putfield 9, 3) := by decide +kernel
theorem dX7_refresh_33 : decode cX7_refresh 33 = .ok (.aload_n 0, 1) := by decide +kernel
theorem dX7_refresh_34 : decode cX7_refresh 34 = .ok (.getfield 37, 3) := by decide +kernel
theorem dX7_refresh_37 : decode cX7_refresh 37 = .ok (.getfield 54, 3) := by decide +kernel
theorem dX7_refresh_40 : decode cX7_refresh 40 = .ok (.iconst 0, 1) := by decide +kernel
theorem dX7_refresh_41 : decode cX7_refresh 41 = .ok (.aload_n 0, 1) := by decide +kernel
theorem dX7_refresh_42 : decode cX7_refresh 42 = .ok (.getfield 15, 3) := by decide +kernel
theorem dX7_refresh_45 : decode cX7_refresh 45 = .ok (.iconst 0, 1) := by decide +kernel
theorem dX7_refresh_46 : decode cX7_refresh 46 = .ok (.iconst 3, 1) := by decide +kernel
theorem dX7_refresh_47 : decode cX7_refresh 47 = .ok (.invokestatic 57, 3) := by decide +kernel
theorem dX7_refresh_50 : decode cX7_refresh 50 = .ok (.aload_n 0, 1) := by decide +kernel
theorem dX7_refresh_51 : decode cX7_refresh 51 = .ok (.bipush 12, 2) := by decide +kernel
theorem dX7_refresh_53 : decode cX7_refresh 53 = .ok (.aload_n 0, 1) := by decide +kernel
theorem dX7_refresh_54 : decode cX7_refresh 54 = .ok (.getfield 37, 3) := by decide +kernel
theorem dX7_refresh_57 : decode cX7_refresh 57 = .ok (.getfield 63, 3) := by decide +kernel
theorem dX7_refresh_60 : decode cX7_refresh 60 = .ok (.invokestatic 66, 3) := by decide +kernel
theorem dX7_refresh_63 : decode cX7_refresh 63 = .ok (.putfield 72, 3) := by decide +kernel
theorem dX7_refresh_66 : decode cX7_refresh 66 = .ok (.iconst 0, 1) := by decide +kernel
theorem dX7_refresh_67 : decode cX7_refresh 67 = .ok (.istore_n 1, 1) := by decide +kernel
theorem dX7_refresh_68 : decode cX7_refresh 68 = .ok (.iload_n 1, 1) := by decide +kernel
theorem dX7_refresh_69 : decode cX7_refresh 69 = .ok (.aload_n 0, 1) := by decide +kernel
theorem dX7_refresh_70 : decode cX7_refresh 70 = .ok (.getfield 72, 3) := by decide +kernel
theorem dX7_refresh_73 : decode cX7_refresh 73 = .ok (.if_icmp .ge 43, 3) := by decide +kernel
theorem dX7_refresh_76 : decode cX7_refresh 76 = .ok (.aload_n 0, 1) := by decide +kernel
theorem dX7_refresh_77 : decode cX7_refresh 77 = .ok (.getfield 19, 3) := by decide +kernel
theorem dX7_refresh_80 : decode cX7_refresh 80 = .ok (.iload_n 1, 1) := by decide +kernel
theorem dX7_refresh_81 : decode cX7_refresh 81 = .ok (.aload_n 0, 1) := by decide +kernel
theorem dX7_refresh_82 : decode cX7_refresh 82 = .ok (.getfield 41, 3) := by decide +kernel
theorem dX7_refresh_85 : decode cX7_refresh 85 = .ok (.iload_n 1, 1) := by decide +kernel
theorem dX7_refresh_86 : decode cX7_refresh 86 = .ok (.iconst 1, 1) := by decide +kernel
theorem dX7_refresh_87 : decode cX7_refresh 87 = .ok (.iconst 0, 1) := by decide +kernel
theorem dX7_refresh_88 : decode cX7_refresh 88 = .ok (.iconst 0, 1) := by decide +kernel
theorem dX7_refresh_89 : decode cX7_refresh 89 = .ok (.invokevirtual 75, 3) := by decide +kernel
theorem dX7_refresh_92 : decode cX7_refresh 92 = .ok (.aload_n 0, 1) := by decide +kernel
theorem dX7_refresh_93 : decode cX7_refresh 93 = .ok (.getfield 41, 3) := by decide +kernel
theorem dX7_refresh_96 : decode cX7_refresh 96 = .ok (.iload_n 1, 1) := by decide +kernel
theorem dX7_refresh_97 : decode cX7_refresh 97 = .ok (.iconst 2, 1) := by decide +kernel
theorem dX7_refresh_98 : decode cX7_refresh 98 = .ok (.iconst 0, 1) := by decide +kernel
theorem dX7_refresh_99 : decode cX7_refresh 99 = .ok (.iconst 0, 1) := by decide +kernel
theorem dX7_refresh_100 : decode cX7_refresh 100 = .ok (.invokevirtual 75, 3) := by decide +kernel
theorem dX7_refresh_103 : decode cX7_refresh 103 = .ok (.iadd, 1) := by decide +kernel
theorem dX7_refresh_104 : decode cX7_refresh 104 = .ok (.iastore, 1) := by decide +kernel
theorem dX7_refresh_105 : decode cX7_refresh 105 = .ok (.aload_n 0, 1) := by decide +kernel
theorem dX7_refresh_106 : decode cX7_refresh 106 = .ok (.iload_n 1, 1) := by decide +kernel
theorem dX7_refresh_107 : decode cX7_refresh 107 = .ok (.invokevirtual 81, 3) := by decide +kernel
theorem dX7_refresh_110 : decode cX7_refresh 110 = .ok (.iinc 1 1, 3) := by decide +kernel
theorem dX7_refresh_113 : decode cX7_refresh 113 = .ok (.goto (-45), 3) := by decide +kernel
theorem dX7_refresh_116 : decode cX7_refresh 116 = .ok (.aload_n 0, 1) := by decide +kernel
theorem dX7_refresh_117 : decode cX7_refresh 117 = .ok (.getfield 37, 3) := by decide +kernel
theorem dX7_refresh_120 : decode cX7_refresh 120 = .ok (.getfield 54, 3) := by decide +kernel
theorem dX7_refresh_123 : decode cX7_refresh 123 = .ok (.iconst 0, 1) := by decide +kernel
theorem dX7_refresh_124 : decode cX7_refresh 124 = .ok (.aload_n 0, 1) := by decide +kernel
theorem dX7_refresh_125 : decode cX7_refresh 125 = .ok (.getfield 25, 3) := by decide +kernel
theorem dX7_refresh_128 : decode cX7_refresh 128 = .ok (.iconst 0, 1) := by decide +kernel
theorem dX7_refresh_129 : decode cX7_refresh 129 = .ok (.iconst 3, 1) := by decide +kernel
theorem dX7_refresh_130 : decode cX7_refresh 130 = .ok (.invokestatic 57, 3) := by decide +kernel
theorem dX7_refresh_133 : decode cX7_refresh 133 = .ok (.aload_n 0, 1) := by decide +kernel
theorem dX7_refresh_134 : decode cX7_refresh 134 = .ok (.aload_n 0, 1) := by decide +kernel
theorem dX7_refresh_135 : decode cX7_refresh 135 = .ok (.invokevirtual 85, 3) := by decide +kernel
theorem dX7_refresh_138 : decode cX7_refresh 138 = .ok (.putfield 89, 3) := by decide +kernel
theorem dX7_refresh_141 : decode cX7_refresh 141 = .ok (.aload_n 0, 1) := by decide +kernel
theorem dX7_refresh_142 : decode cX7_refresh 142 = .ok (.getfield 89, 3) := by decide +kernel
theorem dX7_refresh_145 : decode cX7_refresh 145 = .ok (.istore_n 1, 1) := by decide +kernel
theorem dX7_refresh_146 : decode cX7_refresh 146 = .ok (.iconst 0, 1) := by decide +kernel
theorem dX7_refresh_147 : decode cX7_refresh 147 = .ok (.istore_n 2, 1) := by decide +kernel
theorem dX7_refresh_148 : decode cX7_refresh 148 = .ok (.iload_n 2, 1) := by decide +kernel
theorem dX7_refresh_149 : decode cX7_refresh 149 = .ok (.aload_n 0, 1) := by decide +kernel
theorem dX7_refresh_150 : decode cX7_refresh 150 = .ok (.getfield 72, 3) := by decide +kernel
theorem dX7_refresh_153 : decode cX7_refresh 153 = .ok (.if_icmp .ge 34, 3) := by decide +kernel
theorem dX7_refresh_156 : decode cX7_refresh 156 = .ok (.aload_n 0, 1) := by decide +kernel
theorem dX7_refresh_157 : decode cX7_refresh 157 = .ok (.getfield 34, 3) := by decide +kernel
theorem dX7_refresh_160 : decode cX7_refresh 160 = .ok (.iload_n 2, 1) := by decide +kernel
theorem dX7_refresh_161 : decode cX7_refresh 161 = .ok (.aload_n 0, 1) := by decide +kernel
theorem dX7_refresh_162 : decode cX7_refresh 162 = .ok (.iload_n 2, 1) := by decide +kernel
theorem dX7_refresh_163 : decode cX7_refresh 163 = .ok (.iload_n 1, 1) := by decide +kernel
theorem dX7_refresh_164 : decode cX7_refresh 164 = .ok (.invokevirtual 92, 3) := by decide +kernel
theorem dX7_refresh_167 : decode cX7_refresh 167 = .ok (.iastore, 1) := by decide +kernel
theorem dX7_refresh_168 : decode cX7_refresh 168 = .ok (.aload_n 0, 1) := by decide +kernel
theorem dX7_refresh_169 : decode cX7_refresh 169 = .ok (.getfield 34, 3) := by decide +kernel
theorem dX7_refresh_172 : decode cX7_refresh 172 = .ok (.iload_n 2, 1) := by decide +kernel
theorem dX7_refresh_173 : decode cX7_refresh 173 = .ok (.iaload, 1) := by decide +kernel
theorem dX7_refresh_174 : decode cX7_refresh 174 = .ok (.iconst (-1), 1) := by decide +kernel
theorem dX7_refresh_175 : decode cX7_refresh 175 = .ok (.if_icmp .eq 6, 3) := by decide +kernel
theorem dX7_refresh_178 : decode cX7_refresh 178 = .ok (.iinc 1 (-1), 3) := by decide +kernel
theorem dX7_refresh_181 : decode cX7_refresh 181 = .ok (.iinc 2 1, 3) := by decide +kernel
theorem dX7_refresh_184 : decode cX7_refresh 184 = .ok (.goto (-36), 3) := by decide +kernel
theorem dX7_refresh_187 : decode cX7_refresh 187 = .ok (.return_, 1) := by decide +kernel
abbrev YX7_refresh : zY := (yX7_refresh, cX7_refresh, 3, none, [])
def fX7_refresh_181 (k_148 : Int → Int → zFs → zDa → Nat → Nat → Option zM) (v1 : Int) (v2 : Int) (F : zFs) (D : zDa) (n sl : Nat) : Option zM :=
  if (-2147483648 ≤ v2 + 1 ∧ v2 + 1 ≤ 2147483647) then
    k_148 v1 (v2 + 1) F D n sl
  else none
def fX7_refresh_148   (k_148 : Int → Int → zFs → zDa → Nat → Nat → Option zM) (v1 : Int) (v2 : Int) (F : zFs) (D : zDa) (n sl : Nat) : Option zM :=
  if v2 < (D 78 4) then
    (fX7_firstFriend v2 v1 F D n sl).bind (fun (r_23, (F_24, D_25, n_26, sl_27)) =>
      if zG F_24 ∧ 126 ≤ n_26 then
        if (0 ≤ v2 ∧ v2 < 12) then
          zlet (zwr D_25 85 v2.toNat r_23) (fun D_28 =>
            if (D_28 85 v2.toNat) = (-1) then
              fX7_refresh_181 k_148 v1 v2 F_24 D_28 n_26 sl_27
            else
              if (-2147483648 ≤ v1 + (-1) ∧ v1 + (-1) ≤ 2147483647) then
                fX7_refresh_181 k_148 (v1 + (-1)) v2 F_24 D_28 n_26 sl_27
              else none)
        else none
      else none)
  else
    some (F, D, n, sl)
def fX7_refresh_68   (k_68 : Int → zFs → zDa → Nat → Nat → Option zM) (v1 : Int) (F : zFs) (D : zDa) (n sl : Nat) : Option zM :=
  if v1 < (D 78 4) then
    (fX10_hoursOf F v1 1 0 0 D).bind (fun (r_8, D_9) =>
      (fX10_hoursOf F v1 2 0 0 D_9).bind (fun (r_10, D_11) =>
        if (-2147483648 ≤ r_8 + r_10 ∧ r_8 + r_10 ≤ 2147483647) ∧ (0 ≤ v1 ∧ v1 < 12) then
          zlet (zwr D_11 80 v1.toNat (r_8 + r_10)) (fun D_12 =>
            (fX7_sortIn F v1 D_12).bind (fun D_14 =>
              if (-2147483648 ≤ v1 + 1 ∧ v1 + 1 ≤ 2147483647) then
                k_68 (v1 + 1) F D_14 n sl
              else none))
        else none))
  else
    if ((0 : Int) ≤ 0 ∧ (0 : Int) ≤ 0 ∧ (0 : Int) ≤ 3 ∧ (0 + 3 : Int) ≤ 3 ∧ (0 + 3 : Int) ≤ 3) then
      zlet (zrow D 82 (va_cpy (D 11) (D 82) 0 0 3)) (fun D_15 =>
        (fX7_mostOfAll F D_15 n sl).bind (fun (r_16, (F_17, D_18, n_19, sl_20)) =>
          if zG F_17 ∧ 126 ≤ n_19 then
            zlet (zwr D_18 78 11 r_16) (fun D_21 =>
              zlet ((D_21 78 11)) (fun x1_22 =>
                zfix (fun _ _ _ _ _ _ => none) (fX7_refresh_148 ) zfu x1_22 0 F_17 D_21 n_19 sl_20))
          else none))
    else none
def fX7_refresh_22   (F : zFs) (D : zDa) (n sl : Nat) : Option zM :=
  zlet (zwr D 78 2 (D 1 16)) (fun D_3 =>
    if ((0 : Int) ≤ 0 ∧ (0 : Int) ≤ 0 ∧ (0 : Int) ≤ 3 ∧ (0 + 3 : Int) ≤ 3 ∧ (0 + 3 : Int) ≤ 3) then
      zlet (zrow D_3 79 (va_cpy (D_3 11) (D_3 79) 0 0 3)) (fun D_4 =>
        (fJ9_min_7cf53 F 12 (D_4 1 5) D_4).bind (fun (r_5, D_6) =>
          zlet (zwr D_6 78 4 r_5) (fun D_7 =>
            zfix (fun _ _ _ _ _ => none) (fX7_refresh_68 ) zfu 0 F D_7 n sl)))
    else none)
def fX7_refresh  (F : zFs) (D : zDa) (n sl : Nat) : Option zM :=
  if (D 78 2) = (D 1 16) then
    (fX7_sameHours F D).bind (fun (r_1, D_2) =>
      if r_1 = 0 then
        fX7_refresh_22 F D_2 n sl
      else
        some (F, D_2, n, sl))
  else
    fX7_refresh_22 F D n sl
set_option maxHeartbeats 20000000 in
theorem sX7_refresh_181 {l : Launch} {E : zE} {d : Nat}  (v1 : Int) (v2 : Int) (k_148 : Int → Int → zFs → zDa → Nat → Nat → Option zM) (hk_148 : ∀ (u1 : Int) (u2 : Int) (F : zFs) (D : zDa) (n sl : Nat), zG F → 126 ≤ n → zO l E (d + 4) YX7_refresh 148 [(0, zR 78), (1, zI u1), (2, zI u2)] [] (F, D, n, sl) zmV (k_148 u1 u2 F D n sl)) (F : zFs) (D : zDa) (n sl : Nat) (hG : zG F) (hN : 126 ≤ n) : zO l E (d + 4) YX7_refresh 181 [(0, zR 78), (1, zI v1), (2, zI v2)] [] (F, D, n, sl) (zmV) (fX7_refresh_181 k_148 v1 v2 F D n sl) := by
  unfold fX7_refresh_181
  refine zO_chk (fun h6 => ?_)
  refine zO_iinc dX7_refresh_181 rfl h6 (by decide) ?_
  refine zO_ls (ls' := [(0, zR 78), (1, zI v1), (2, zI (v2 + 1))]) rfl ?_
  refine zO_goto (tgt := 148) dX7_refresh_184 rfl ?_
  refine zO_live [0, 1, 2] ?_
  exact hk_148 v1 (v2 + 1) F D n sl hG hN
set_option maxHeartbeats 20000000 in
theorem sX7_refresh_148 {l : Launch} {E : zE} {d : Nat}     : ∀ (N : Nat) (v1 : Int) (v2 : Int) (F : zFs) (D : zDa) (n sl : Nat), zG F → 126 ≤ n → zO l E (d + 4) YX7_refresh 148 [(0, zR 78), (1, zI v1), (2, zI v2)] [] (F, D, n, sl) (zmV) (zfix (fun _ _ _ _ _ _ => none) (fX7_refresh_148 ) N v1 v2 F D n sl) := by
  intro N
  induction N with
  | zero => intro v1 v2 F D n sl hG hN; exact zO_none
  | succ N hk_148 =>
    intro v1 v2 F D n sl hG hN
    show zO _ _ _ _ _ _ _ _ _ ((fX7_refresh_148 ) (zfix (fun _ _ _ _ _ _ => none) (fX7_refresh_148 ) N) v1 v2 F D n sl)
    unfold fX7_refresh_148
    refine zO_iload_n dX7_refresh_148 rfl ?_
    refine zO_aload_n dX7_refresh_149 rfl (zR_P _) ?_
    refine gt7 (k := 4) (v := zI (D 78 4)) dX7_refresh_150 wF_X7_72 (by decide) (gk_78 hG) rfl ?_
    refine zO_icmp_ge (tgt := 187) dX7_refresh_153 rfl (fun c153 => ?_) (fun c153 => ?_)
    · refine zO_aload_n dX7_refresh_156 rfl (zR_P _) ?_
      refine gt7 (k := 10) dX7_refresh_157 wF_X7_34 (by decide) (gk_78 hG) (zgv (c := 7) (k := 10) rfl (Or.inl ⟨_, rfl⟩) (gf_78_10 hG)) ?_
      refine zO_iload_n dX7_refresh_160 rfl ?_
      refine zO_aload_n dX7_refresh_161 rfl (zR_P _) ?_
      refine zO_iload_n dX7_refresh_162 rfl ?_
      refine zO_iload_n dX7_refresh_163 rfl ?_
      refine zO_callV (Y' := YX7_firstFriend) (cw := zmI) (as := [zI v2, zI v1]) (rest := [zI v2, zR 85]) (na := 2) (ci := 7) rfl dX7_refresh_164 wC_X7_firstFriend wN_X7 wM_X7_92 wI_X7_firstFriend wV_X7_firstFriend (by decide) (by decide) rfl rfl (Nat.le_of_ble_eq_true rfl) rfl (by decide) (gk_78 hG) (fun r hr => zMet_cast (Nat.add_assoc d 1 2) (mX7_firstFriend (d := d + 1) v2 v1 hG hN r hr)) ?_
      rintro ⟨r_23, F_24, D_25, n_26, sl_27⟩ -
      show zO _ _ _ _ _ _ [zI r_23, zI v2, zR 85] (F_24, D_25, n_26, sl_27) _ _
      refine zO_chk (fun g27 => ?_)
      refine zO_chk (fun h5 => ?_)
      refine zO_iast dX7_refresh_167 (gk_85 g27.1) (gl_in (gl_85 g27.1) h5) ?_
      refine zO_letD (fun D_28 eD_28 => ?_)
      refine zO_aload_n dX7_refresh_168 rfl (zR_P _) ?_
      refine gt7 (k := 10) dX7_refresh_169 wF_X7_34 (by decide) (gk_78 g27.1) (zgv (c := 7) (k := 10) rfl (Or.inl ⟨_, rfl⟩) (gf_78_10 g27.1)) ?_
      refine zO_iload_n dX7_refresh_172 rfl ?_
      refine zO_iald dX7_refresh_173 (gk_85 g27.1) (gl_in (gl_85 g27.1) h5) ?_
      refine zO_iconst dX7_refresh_174 (by decide) ?_
      refine zO_icmp_eq (tgt := 181) dX7_refresh_175 rfl (fun c175 => ?_) (fun c175 => ?_)
      · refine zO_live [0, 1, 2] ?_
        exact sX7_refresh_181 v1 v2 _ hk_148 F_24 D_28 n_26 sl_27 g27.1 g27.2
      · refine zO_chk (fun h7 => ?_)
        refine zO_iinc dX7_refresh_178 rfl h7 (by decide) ?_
        refine zO_ls (ls' := [(0, zR 78), (1, zI (v1 + (-1))), (2, zI v2)]) rfl ?_
        refine zO_live [0, 1, 2] ?_
        exact sX7_refresh_181 (v1 + (-1)) v2 _ hk_148 F_24 D_28 n_26 sl_27 g27.1 g27.2
    · exact zO_ret (rv := none) dX7_refresh_187 rfl trivial rfl
set_option maxHeartbeats 20000000 in
theorem sX7_refresh_68 {l : Launch} {E : zE} {d : Nat}     : ∀ (N : Nat) (v1 : Int) (F : zFs) (D : zDa) (n sl : Nat), zG F → 126 ≤ n → zO l E (d + 4) YX7_refresh 68 [(0, zR 78), (1, zI v1)] [] (F, D, n, sl) (zmV) (zfix (fun _ _ _ _ _ => none) (fX7_refresh_68 ) N v1 F D n sl) := by
  intro N
  induction N with
  | zero => intro v1 F D n sl hG hN; exact zO_none
  | succ N hk_68 =>
    intro v1 F D n sl hG hN
    show zO _ _ _ _ _ _ _ _ _ ((fX7_refresh_68 ) (zfix (fun _ _ _ _ _ => none) (fX7_refresh_68 ) N) v1 F D n sl)
    unfold fX7_refresh_68
    refine zO_iload_n dX7_refresh_68 rfl ?_
    refine zO_aload_n dX7_refresh_69 rfl (zR_P _) ?_
    refine gt7 (k := 4) (v := zI (D 78 4)) dX7_refresh_70 wF_X7_72 (by decide) (gk_78 hG) rfl ?_
    refine zO_icmp_ge (tgt := 116) dX7_refresh_73 rfl (fun c73 => ?_) (fun c73 => ?_)
    · refine zO_aload_n dX7_refresh_76 rfl (zR_P _) ?_
      refine gt7 (k := 5) dX7_refresh_77 wF_X7_19 (by decide) (gk_78 hG) (zgv (c := 7) (k := 5) rfl (Or.inl ⟨_, rfl⟩) (gf_78_5 hG)) ?_
      refine zO_iload_n dX7_refresh_80 rfl ?_
      refine zO_aload_n dX7_refresh_81 rfl (zR_P _) ?_
      refine gt7 (k := 1) dX7_refresh_82 wF_X7_41 (by decide) (gk_78 hG) (zgv (c := 7) (k := 1) rfl (Or.inr ⟨_, rfl⟩) (gf_78_1 hG)) ?_
      refine zO_iload_n dX7_refresh_85 rfl ?_
      refine zO_iconst dX7_refresh_86 (by decide) ?_
      refine zO_iconst dX7_refresh_87 (by decide) ?_
      refine zO_iconst dX7_refresh_88 (by decide) ?_
      refine zO_callV (Y' := YX10_hoursOf) (cw := zcI F n sl) (as := [zI v1, zI 1, zI 0, zI 0]) (rest := [zI v1, zR 80]) (na := 4) (ci := 10) rfl dX7_refresh_89 wC_X10_hoursOf wN_X10 wM_X7_75 wI_X10_hoursOf wV_X10_hoursOf (by decide) (by decide) rfl rfl (Nat.le_of_ble_eq_true rfl) rfl (by decide) (gk_49 hG) (fun r hr => zMet_cast (Nat.add_assoc d 0 3) (mX10_hoursOf (d := d + 0) hG v1 1 0 0 r hr)) ?_
      rintro ⟨r_8, D_9⟩ -
      show zO _ _ _ _ _ _ [zI r_8, zI v1, zR 80] (F, D_9, n, sl) _ _
      refine zO_aload_n dX7_refresh_92 rfl (zR_P _) ?_
      refine gt7 (k := 1) dX7_refresh_93 wF_X7_41 (by decide) (gk_78 hG) (zgv (c := 7) (k := 1) rfl (Or.inr ⟨_, rfl⟩) (gf_78_1 hG)) ?_
      refine zO_iload_n dX7_refresh_96 rfl ?_
      refine zO_iconst dX7_refresh_97 (by decide) ?_
      refine zO_iconst dX7_refresh_98 (by decide) ?_
      refine zO_iconst dX7_refresh_99 (by decide) ?_
      refine zO_callV (Y' := YX10_hoursOf) (cw := zcI F n sl) (as := [zI v1, zI 2, zI 0, zI 0]) (rest := [zI r_8, zI v1, zR 80]) (na := 4) (ci := 10) rfl dX7_refresh_100 wC_X10_hoursOf wN_X10 wM_X7_75 wI_X10_hoursOf wV_X10_hoursOf (by decide) (by decide) rfl rfl (Nat.le_of_ble_eq_true rfl) rfl (by decide) (gk_49 hG) (fun r hr => zMet_cast (Nat.add_assoc d 0 3) (mX10_hoursOf (d := d + 0) hG v1 2 0 0 r hr)) ?_
      rintro ⟨r_10, D_11⟩ -
      show zO _ _ _ _ _ _ [zI r_10, zI r_8, zI v1, zR 80] (F, D_11, n, sl) _ _
      refine zO_chk (fun h2 => ?_)
      refine zO_iadd dX7_refresh_103 h2.1 ?_
      refine zO_iast dX7_refresh_104 (gk_80 hG) (gl_in (gl_80 hG) h2.2) ?_
      refine zO_letD (fun D_12 eD_12 => ?_)
      refine zO_aload_n dX7_refresh_105 rfl (zR_P _) ?_
      refine zO_iload_n dX7_refresh_106 rfl ?_
      refine zO_callV (Y' := YX7_sortIn) (cw := zcV F n sl) (as := [zI v1]) (rest := []) (na := 1) (ci := 7) rfl dX7_refresh_107 wC_X7_sortIn wN_X7 wM_X7_81 wI_X7_sortIn wV_X7_sortIn (by decide) (by decide) rfl rfl (Nat.le_of_ble_eq_true rfl) rfl (by decide) (gk_78 hG) (fun r hr => zMet_cast (Nat.add_assoc d 3 0) (mX7_sortIn (d := d + 3) hG v1 r hr)) ?_
      intro D_14 _
      show zO _ _ _ _ _ _ [] (F, D_14, n, sl) _ _
      refine zO_chk (fun h3 => ?_)
      refine zO_iinc dX7_refresh_110 rfl h3 (by decide) ?_
      refine zO_ls (ls' := [(0, zR 78), (1, zI (v1 + 1))]) rfl ?_
      refine zO_goto (tgt := 68) dX7_refresh_113 rfl ?_
      refine zO_live [0, 1] ?_
      exact hk_68 (v1 + 1) F D_14 n sl hG hN
    · refine zO_chk (fun h4 => ?_)
      refine zO_aload_n dX7_refresh_116 rfl (zR_P _) ?_
      refine gt7 (k := 0) dX7_refresh_117 wF_X7_37 (by decide) (gk_78 hG) (zgv (c := 7) (k := 0) rfl (Or.inr ⟨_, rfl⟩) (gf_78_0 hG)) ?_
      refine gt9 (k := 13) dX7_refresh_120 wF_X7_54 (by decide) (gk_1 hG) (zgv (c := 9) (k := 13) rfl (Or.inl ⟨_, rfl⟩) (gf_1_13 hG)) ?_
      refine zO_iconst dX7_refresh_123 (by decide) ?_
      refine zO_aload_n dX7_refresh_124 rfl (zR_P _) ?_
      refine gt7 (k := 7) dX7_refresh_125 wF_X7_25 (by decide) (gk_78 hG) (zgv (c := 7) (k := 7) rfl (Or.inl ⟨_, rfl⟩) (gf_78_7 hG)) ?_
      refine zO_iconst dX7_refresh_128 (by decide) ?_
      refine zO_iconst dX7_refresh_129 (by decide) ?_
      refine zO_copy (kd := 20) dX7_refresh_130 wM_X7_57 (by decide) (gk_11 hG) (gk_82 hG) (by rw [gl_11 hG, gl_82 hG]; exact h4) (Nat.le_of_ble_eq_true rfl) ?_
      refine zO_letD (fun D_15 eD_15 => ?_)
      refine zO_aload_n dX7_refresh_133 rfl (zR_P _) ?_
      refine zO_aload_n dX7_refresh_134 rfl (zR_P _) ?_
      refine zO_callV (Y' := YX7_mostOfAll) (cw := zmI) (as := []) (rest := [zR 78]) (na := 0) (ci := 7) rfl dX7_refresh_135 wC_X7_mostOfAll wN_X7 wM_X7_85 wI_X7_mostOfAll wV_X7_mostOfAll (by decide) (by decide) rfl rfl (Nat.le_of_ble_eq_true rfl) rfl (by decide) (gk_78 hG) (fun r hr => zMet_cast (Nat.add_assoc d 1 2) (mX7_mostOfAll (d := d + 1)  hG hN r hr)) ?_
      rintro ⟨r_16, F_17, D_18, n_19, sl_20⟩ -
      show zO _ _ _ _ _ _ [zI r_16, zR 78] (F_17, D_18, n_19, sl_20) _ _
      refine zO_chk (fun g20 => ?_)
      refine ptI7 (k := 11) (z := r_16) dX7_refresh_138 wF_X7_89 (by decide) rfl (gk_78 g20.1) rfl ?_
      refine zO_letD (fun D_21 eD_21 => ?_)
      refine zO_aload_n dX7_refresh_141 rfl (zR_P _) ?_
      refine gt7 (k := 11) (v := zI (D_21 78 11)) dX7_refresh_142 wF_X7_89 (by decide) (gk_78 g20.1) rfl ?_
      refine zO_letI (fun x1_22 ex1_22 => ?_)
      refine zO_istore_n dX7_refresh_145 (by decide) ?_
      refine zO_ls (ls' := [(0, zR 78), (1, zI x1_22)]) rfl ?_
      refine zO_iconst dX7_refresh_146 (by decide) ?_
      refine zO_istore_n dX7_refresh_147 (by decide) ?_
      refine zO_ls (ls' := [(0, zR 78), (1, zI x1_22), (2, zI 0)]) rfl ?_
      refine zO_live [0, 1, 2] ?_
      exact sX7_refresh_148  zfu x1_22 0 F_17 D_21 n_19 sl_20 g20.1 g20.2
set_option maxHeartbeats 20000000 in
theorem sX7_refresh_22 {l : Launch} {E : zE} {d : Nat}     (F : zFs) (D : zDa) (n sl : Nat) (hG : zG F) (hN : 126 ≤ n) : zO l E (d + 4) YX7_refresh 22 [(0, zR 78)] [] (F, D, n, sl) (zmV) (fX7_refresh_22 F D n sl) := by
  unfold fX7_refresh_22
  refine zO_aload_n dX7_refresh_22 rfl (zR_P _) ?_
  refine zO_aload_n dX7_refresh_23 rfl (zR_P _) ?_
  refine gt7 (k := 0) dX7_refresh_24 wF_X7_37 (by decide) (gk_78 hG) (zgv (c := 7) (k := 0) rfl (Or.inr ⟨_, rfl⟩) (gf_78_0 hG)) ?_
  refine gt9 (k := 16) (v := zI (D 1 16)) dX7_refresh_27 wF_X7_45 (by decide) (gk_1 hG) rfl ?_
  refine ptI7 (k := 2) (z := (D 1 16)) dX7_refresh_30 wF_X7_9 (by decide) rfl (gk_78 hG) rfl ?_
  refine zO_letD (fun D_3 eD_3 => ?_)
  refine zO_chk (fun h1 => ?_)
  refine zO_aload_n dX7_refresh_33 rfl (zR_P _) ?_
  refine gt7 (k := 0) dX7_refresh_34 wF_X7_37 (by decide) (gk_78 hG) (zgv (c := 7) (k := 0) rfl (Or.inr ⟨_, rfl⟩) (gf_78_0 hG)) ?_
  refine gt9 (k := 13) dX7_refresh_37 wF_X7_54 (by decide) (gk_1 hG) (zgv (c := 9) (k := 13) rfl (Or.inl ⟨_, rfl⟩) (gf_1_13 hG)) ?_
  refine zO_iconst dX7_refresh_40 (by decide) ?_
  refine zO_aload_n dX7_refresh_41 rfl (zR_P _) ?_
  refine gt7 (k := 3) dX7_refresh_42 wF_X7_15 (by decide) (gk_78 hG) (zgv (c := 7) (k := 3) rfl (Or.inl ⟨_, rfl⟩) (gf_78_3 hG)) ?_
  refine zO_iconst dX7_refresh_45 (by decide) ?_
  refine zO_iconst dX7_refresh_46 (by decide) ?_
  refine zO_copy (kd := 20) dX7_refresh_47 wM_X7_57 (by decide) (gk_11 hG) (gk_79 hG) (by rw [gl_11 hG, gl_79 hG]; exact h1) (Nat.le_of_ble_eq_true rfl) ?_
  refine zO_letD (fun D_4 eD_4 => ?_)
  refine zO_aload_n dX7_refresh_50 rfl (zR_P _) ?_
  refine zO_bipush dX7_refresh_51 (by decide) ?_
  refine zO_aload_n dX7_refresh_53 rfl (zR_P _) ?_
  refine gt7 (k := 0) dX7_refresh_54 wF_X7_37 (by decide) (gk_78 hG) (zgv (c := 7) (k := 0) rfl (Or.inr ⟨_, rfl⟩) (gf_78_0 hG)) ?_
  refine gt9 (k := 5) (v := zI (D_4 1 5)) dX7_refresh_57 wF_X7_63 (by decide) (gk_1 hG) rfl ?_
  refine zO_callS (Y' := YJ9_min_7cf53) (cw := zcI F n sl) (as := [zI 12, zI (D_4 1 5)]) (rest := [zR 78]) (na := 2) dX7_refresh_60 wC_J9_min_7cf53 wN_J9 wM_X7_66 wS_J9_min_7cf53 (by decide) (by decide) rfl rfl (Nat.le_of_ble_eq_true rfl) (fun r hr => zMet_cast (Nat.add_assoc d 3 0) (mJ9_min_7cf53 (d := d + 3) hG 12 (D_4 1 5) r hr)) ?_
  rintro ⟨r_5, D_6⟩ -
  show zO _ _ _ _ _ _ [zI r_5, zR 78] (F, D_6, n, sl) _ _
  refine ptI7 (k := 4) (z := r_5) dX7_refresh_63 wF_X7_72 (by decide) rfl (gk_78 hG) rfl ?_
  refine zO_letD (fun D_7 eD_7 => ?_)
  refine zO_iconst dX7_refresh_66 (by decide) ?_
  refine zO_istore_n dX7_refresh_67 (by decide) ?_
  refine zO_ls (ls' := [(0, zR 78), (1, zI 0)]) rfl ?_
  refine zO_live [0, 1] ?_
  exact sX7_refresh_68  zfu 0 F D_7 n sl hG hN
set_option maxHeartbeats 20000000 in
theorem mX7_refresh {l : Launch} {E : zE} {d : Nat}  {F : zFs} {D : zDa} {n sl : Nat} (hG : zG F) (hN : 126 ≤ n) : ∀ r, fX7_refresh  F D n sl = some r → zMet l E (d + 4) YX7_refresh [zR 78] (F, D, n, sl) (zmV r) := by
  intro r hr
  refine zMet_of (plainFor_of_name (by decide)) (fun _ h => (nomatch h)) (Nat.le_of_ble_eq_true rfl) ?_
  have hz : zO l E (d + 4) YX7_refresh 0 [(0, zR 78)] [] (F, D, n, sl) (zmV) (fX7_refresh  F D n sl) := by
    unfold fX7_refresh
    refine zO_aload_n dX7_refresh_0 rfl (zR_P _) ?_
    refine gt7 (k := 2) (v := zI (D 78 2)) dX7_refresh_1 wF_X7_9 (by decide) (gk_78 hG) rfl ?_
    refine zO_aload_n dX7_refresh_4 rfl (zR_P _) ?_
    refine gt7 (k := 0) dX7_refresh_5 wF_X7_37 (by decide) (gk_78 hG) (zgv (c := 7) (k := 0) rfl (Or.inr ⟨_, rfl⟩) (gf_78_0 hG)) ?_
    refine gt9 (k := 16) (v := zI (D 1 16)) dX7_refresh_8 wF_X7_45 (by decide) (gk_1 hG) rfl ?_
    refine zO_icmp_ne (tgt := 22) dX7_refresh_11 rfl (fun c11 => ?_) (fun c11 => ?_)
    · refine zO_aload_n dX7_refresh_14 rfl (zR_P _) ?_
      refine zO_callV (Y' := YX7_sameHours) (cw := zcI F n sl) (as := []) (rest := []) (na := 0) (ci := 7) rfl dX7_refresh_15 wC_X7_sameHours wN_X7 wM_X7_50 wI_X7_sameHours wV_X7_sameHours (by decide) (by decide) rfl rfl (Nat.le_of_ble_eq_true rfl) rfl (by decide) (gk_78 hG) (fun r hr => zMet_cast (Nat.add_assoc d 3 0) (mX7_sameHours (d := d + 3) hG  r hr)) ?_
      rintro ⟨r_1, D_2⟩ -
      show zO _ _ _ _ _ _ [zI r_1] (F, D_2, n, sl) _ _
      refine zO_if_eq (tgt := 22) dX7_refresh_18 rfl (fun c18 => ?_) (fun c18 => ?_)
      · refine zO_live [0] ?_
        exact sX7_refresh_22 F D_2 n sl hG hN
      · exact zO_ret (rv := none) dX7_refresh_21 rfl trivial rfl
    · refine zO_live [0] ?_
      exact sX7_refresh_22 F D n sl hG hN
  exact hz r hr
theorem dX8_begin_0 : decode cX8_begin 0 = .ok (.aload_n 0, 1) := by decide +kernel
theorem dX8_begin_1 : decode cX8_begin 1 = .ok (.iload_n 1, 1) := by decide +kernel
theorem dX8_begin_2 : decode cX8_begin 2 = .ok (.putfield 23, 3) := by decide +kernel
theorem dX8_begin_5 : decode cX8_begin 5 = .ok (.iconst 0, 1) := by decide +kernel
theorem dX8_begin_6 : decode cX8_begin 6 = .ok (.istore_n 2, 1) := by decide +kernel
theorem dX8_begin_7 : decode cX8_begin 7 = .ok (.iload_n 2, 1) := by decide +kernel
theorem dX8_begin_8 : decode cX8_begin 8 = .ok (.iconst 3, 1) := by decide +kernel
theorem dX8_begin_9 : decode cX8_begin 9 = .ok (.if_icmp .ge 23, 3) := by decide +kernel
theorem dX8_begin_12 : decode cX8_begin 12 = .ok (.aload_n 0, 1) := by decide +kernel
theorem dX8_begin_13 : decode cX8_begin 13 = .ok (.getfield 9, 3) := by decide +kernel
theorem dX8_begin_16 : decode cX8_begin 16 = .ok (.iload_n 2, 1) := by decide +kernel
theorem dX8_begin_17 : decode cX8_begin 17 = .ok (.aload_n 0, 1) := by decide +kernel
theorem dX8_begin_18 : decode cX8_begin 18 = .ok (.getfield 19, 3) := by decide +kernel
theorem dX8_begin_21 : decode cX8_begin 21 = .ok (.iload_n 2, 1) := by decide +kernel
theorem dX8_begin_22 : decode cX8_begin 22 = .ok (.invokevirtual 27, 3) := by decide +kernel
theorem dX8_begin_25 : decode cX8_begin 25 = .ok (.iastore, 1) := by decide +kernel
theorem dX8_begin_26 : decode cX8_begin 26 = .ok (.iinc 2 1, 3) := by decide +kernel
theorem dX8_begin_29 : decode cX8_begin 29 = .ok (.goto (-22), 3) := by decide +kernel
theorem dX8_begin_32 : decode cX8_begin 32 = .ok (.aload_n 0, 1) := by decide +kernel
theorem dX8_begin_33 : decode cX8_begin 33 = .ok (.iconst 0, 1) := by decide +kernel
theorem dX8_begin_34 : decode cX8_begin 34 = .ok (.putfield 33, 3) := by decide +kernel
theorem dX8_begin_37 : decode cX8_begin 37 = .ok (.aload_n 0, 1) := by decide +kernel
theorem dX8_begin_38 : decode cX8_begin 38 = .ok (.iconst 0, 1) := by decide +kernel
theorem dX8_begin_39 : decode cX8_begin 39 = .ok (.putfield 36, 3) := by decide +kernel
theorem dX8_begin_42 : decode cX8_begin 42 = .ok (.iconst 0, 1) := by decide +kernel
theorem dX8_begin_43 : decode cX8_begin 43 = .ok (.istore_n 2, 1) := by decide +kernel
theorem dX8_begin_44 : decode cX8_begin 44 = .ok (.iload_n 2, 1) := by decide +kernel
theorem dX8_begin_45 : decode cX8_begin 45 = .ok (.aload_n 0, 1) := by decide +kernel
theorem dX8_begin_46 : decode cX8_begin 46 = .ok (.getfield 15, 3) := by decide +kernel
theorem dX8_begin_49 : decode cX8_begin 49 = .ok (.getfield 39, 3) := by decide +kernel
theorem dX8_begin_52 : decode cX8_begin 52 = .ok (.if_icmp .ge 51, 3) := by decide +kernel
theorem dX8_begin_55 : decode cX8_begin 55 = .ok (.aload_n 0, 1) := by decide +kernel
theorem dX8_begin_56 : decode cX8_begin 56 = .ok (.dup, 1) := by decide +kernel
theorem dX8_begin_57 : decode cX8_begin 57 = .ok (.getfield 33, 3) := by decide +kernel
theorem dX8_begin_60 : decode cX8_begin 60 = .ok (.iconst 1, 1) := by decide +kernel
theorem dX8_begin_61 : decode cX8_begin 61 = .ok (.aload_n 0, 1) := by decide +kernel
theorem dX8_begin_62 : decode cX8_begin 62 = .ok (.getfield 15, 3) := by decide +kernel
theorem dX8_begin_65 : decode cX8_begin 65 = .ok (.getfield 44, 3) := by decide +kernel
theorem dX8_begin_68 : decode cX8_begin 68 = .ok (.iload_n 2, 1) := by decide +kernel
theorem dX8_begin_69 : decode cX8_begin 69 = .ok (.iaload, 1) := by decide +kernel
theorem dX8_begin_70 : decode cX8_begin 70 = .ok (.isub, 1) := by decide +kernel
theorem dX8_begin_71 : decode cX8_begin 71 = .ok (.iload_n 2, 1) := by decide +kernel
theorem dX8_begin_72 : decode cX8_begin 72 = .ok (.ishl, 1) := by decide +kernel
theorem dX8_begin_73 : decode cX8_begin 73 = .ok (.ior, 1) := by decide +kernel
theorem dX8_begin_74 : decode cX8_begin 74 = .ok (.putfield 33, 3) := by decide +kernel
theorem dX8_begin_77 : decode cX8_begin 77 = .ok (.aload_n 0, 1) := by decide +kernel
theorem dX8_begin_78 : decode cX8_begin 78 = .ok (.dup, 1) := by decide +kernel
theorem dX8_begin_79 : decode cX8_begin 79 = .ok (.getfield 36, 3) := by decide +kernel
theorem dX8_begin_82 : decode cX8_begin 82 = .ok (.aload_n 0, 1) := by decide +kernel
theorem dX8_begin_83 : decode cX8_begin 83 = .ok (.getfield 15, 3) := by decide +kernel
theorem dX8_begin_86 : decode cX8_begin 86 = .ok (.getfield 47, 3) := by decide +kernel
theorem dX8_begin_89 : decode cX8_begin 89 = .ok (.iload_n 2, 1) := by decide +kernel
theorem dX8_begin_90 : decode cX8_begin 90 = .ok (.iaload, 1) := by decide +kernel
theorem dX8_begin_91 : decode cX8_begin 91 = .ok (.iload_n 2, 1) := by decide +kernel
theorem dX8_begin_92 : decode cX8_begin 92 = .ok (.ishl, 1) := by decide +kernel
theorem dX8_begin_93 : decode cX8_begin 93 = .ok (.ior, 1) := by decide +kernel
theorem dX8_begin_94 : decode cX8_begin 94 = .ok (.putfield 36, 3) := by decide +kernel
theorem dX8_begin_97 : decode cX8_begin 97 = .ok (.iinc 2 1, 3) := by decide +kernel
theorem dX8_begin_100 : decode cX8_begin 100 = .ok (.goto (-56), 3) := by decide +kernel
theorem dX8_begin_103 : decode cX8_begin 103 = .ok (.aload_n 0, 1) := by decide +kernel
theorem dX8_begin_104 : decode cX8_begin 104 = .ok (.dup, 1) := by decide +kernel
theorem dX8_begin_105 : decode cX8_begin 105 = .ok (.getfield 36, 3) := by decide +kernel
theorem dX8_begin_108 : decode cX8_begin 108 = .ok (.aload_n 0, 1) := by decide +kernel
theorem dX8_begin_109 : decode cX8_begin 109 = .ok (.getfield 33, 3) := by decide +kernel
theorem dX8_begin_112 : decode cX8_begin 112 = .ok (.iand, 1) := by decide +kernel
theorem dX8_begin_113 : decode cX8_begin 113 = .ok (.putfield 36, 3) := by decide +kernel
theorem dX8_begin_116 : decode cX8_begin 116 = .ok (.return_, 1) := by decide +kernel
abbrev YX8_begin : zY := (yX8_begin, cX8_begin, 3, none, [])
def fX8_begin_44 (F : zFs)   (k_44 : Int → zDa → Option zDa) (v2 : Int) (D : zDa) : Option zDa :=
  if v2 < (D 1 5) then
    if (0 ≤ v2 ∧ v2 < 20) ∧ (-2147483648 ≤ 1 - (D 6 v2.toNat) ∧ 1 - (D 6 v2.toNat) ≤ 2147483647) then
      zlet (zwr D 89 4 (zor (D 89 4) (zshl (1 - (D 6 v2.toNat)) v2))) (fun D_7 =>
        zlet (zwr D_7 89 5 (zor (D_7 89 5) (zshl (D_7 5 v2.toNat) v2))) (fun D_8 =>
          if (-2147483648 ≤ v2 + 1 ∧ v2 + 1 ≤ 2147483647) then
            k_44 (v2 + 1) D_8
          else none))
    else none
  else
    zlet (zwr D 89 5 (zand (D 89 5) (D 89 4))) (fun D_9 =>
      some D_9)
def fX8_begin_7 (F : zFs)   (k_7 : Int → zDa → Option zDa) (v2 : Int) (D : zDa) : Option zDa :=
  if v2 < 3 then
    (fX10_chanceOf F v2 D).bind (fun (r_2, D_3) =>
      if (0 ≤ v2 ∧ v2 < 3) then
        zlet (zwr D_3 90 v2.toNat r_2) (fun D_4 =>
          if (-2147483648 ≤ v2 + 1 ∧ v2 + 1 ≤ 2147483647) then
            k_7 (v2 + 1) D_4
          else none)
      else none)
  else
    zlet (zwr D 89 4 0) (fun D_5 =>
      zlet (zwr D_5 89 5 0) (fun D_6 =>
        zfix (fun _ _ => none) (fX8_begin_44 F) zfu 0 D_6))
def fX8_begin (F : zFs) (v1 : Int) (D : zDa) : Option zDa :=
  zlet (zwr D 89 3 v1) (fun D_1 =>
    zfix (fun _ _ => none) (fX8_begin_7 F) zfu 0 D_1)
set_option maxHeartbeats 20000000 in
theorem sX8_begin_44 {l : Launch} {E : zE} {d : Nat} {F : zFs} {n sl : Nat} (hG : zG F)     : ∀ (N : Nat) (v2 : Int) (D : zDa), zO l E (d + 4) YX8_begin 44 [(0, zR 89), (2, zI v2)] [] (F, D, n, sl) (zcV F n sl) (zfix (fun _ _ => none) (fX8_begin_44 F) N v2 D) := by
  intro N
  induction N with
  | zero => intro v2 D; exact zO_none
  | succ N hk_44 =>
    intro v2 D
    show zO _ _ _ _ _ _ _ _ _ ((fX8_begin_44 F) (zfix (fun _ _ => none) (fX8_begin_44 F) N) v2 D)
    unfold fX8_begin_44
    refine zO_iload_n dX8_begin_44 rfl ?_
    refine zO_aload_n dX8_begin_45 rfl (zR_P _) ?_
    refine gt8 (k := 0) dX8_begin_46 wF_X8_15 (by decide) (gk_89 hG) (zgv (c := 8) (k := 0) rfl (Or.inr ⟨_, rfl⟩) (gf_89_0 hG)) ?_
    refine gt9 (k := 5) (v := zI (D 1 5)) dX8_begin_49 wF_X8_39 (by decide) (gk_1 hG) rfl ?_
    refine zO_icmp_ge (tgt := 103) dX8_begin_52 rfl (fun c52 => ?_) (fun c52 => ?_)
    · refine zO_chk (fun h3 => ?_)
      refine zO_aload_n dX8_begin_55 rfl (zR_P _) ?_
      refine zO_dup dX8_begin_56 (rfl) ?_
      refine gt8 (k := 4) (v := zI (D 89 4)) dX8_begin_57 wF_X8_33 (by decide) (gk_89 hG) rfl ?_
      refine zO_iconst dX8_begin_60 (by decide) ?_
      refine zO_aload_n dX8_begin_61 rfl (zR_P _) ?_
      refine gt8 (k := 0) dX8_begin_62 wF_X8_15 (by decide) (gk_89 hG) (zgv (c := 8) (k := 0) rfl (Or.inr ⟨_, rfl⟩) (gf_89_0 hG)) ?_
      refine gt9 (k := 4) dX8_begin_65 wF_X8_44 (by decide) (gk_1 hG) (zgv (c := 9) (k := 4) rfl (Or.inl ⟨_, rfl⟩) (gf_1_4 hG)) ?_
      refine zO_iload_n dX8_begin_68 rfl ?_
      refine zO_iald dX8_begin_69 (gk_6 hG) (gl_in (gl_6 hG) h3.1) ?_
      refine zO_isub dX8_begin_70 h3.2 ?_
      refine zO_iload_n dX8_begin_71 rfl ?_
      refine zO_ishl dX8_begin_72 ?_
      refine zO_ior dX8_begin_73 ?_
      refine ptI8 (k := 4) (z := (zor (D 89 4) (zshl (1 - (D 6 v2.toNat)) v2))) dX8_begin_74 wF_X8_33 (by decide) rfl (gk_89 hG) rfl ?_
      refine zO_letD (fun D_7 eD_7 => ?_)
      refine zO_aload_n dX8_begin_77 rfl (zR_P _) ?_
      refine zO_dup dX8_begin_78 (rfl) ?_
      refine gt8 (k := 5) (v := zI (D_7 89 5)) dX8_begin_79 wF_X8_36 (by decide) (gk_89 hG) rfl ?_
      refine zO_aload_n dX8_begin_82 rfl (zR_P _) ?_
      refine gt8 (k := 0) dX8_begin_83 wF_X8_15 (by decide) (gk_89 hG) (zgv (c := 8) (k := 0) rfl (Or.inr ⟨_, rfl⟩) (gf_89_0 hG)) ?_
      refine gt9 (k := 3) dX8_begin_86 wF_X8_47 (by decide) (gk_1 hG) (zgv (c := 9) (k := 3) rfl (Or.inl ⟨_, rfl⟩) (gf_1_3 hG)) ?_
      refine zO_iload_n dX8_begin_89 rfl ?_
      refine zO_iald dX8_begin_90 (gk_5 hG) (gl_in (gl_5 hG) h3.1) ?_
      refine zO_iload_n dX8_begin_91 rfl ?_
      refine zO_ishl dX8_begin_92 ?_
      refine zO_ior dX8_begin_93 ?_
      refine ptI8 (k := 5) (z := (zor (D_7 89 5) (zshl (D_7 5 v2.toNat) v2))) dX8_begin_94 wF_X8_36 (by decide) rfl (gk_89 hG) rfl ?_
      refine zO_letD (fun D_8 eD_8 => ?_)
      refine zO_chk (fun h4 => ?_)
      refine zO_iinc dX8_begin_97 rfl h4 (by decide) ?_
      refine zO_ls (ls' := [(0, zR 89), (2, zI (v2 + 1))]) rfl ?_
      refine zO_goto (tgt := 44) dX8_begin_100 rfl ?_
      refine zO_live [0, 2] ?_
      exact hk_44 (v2 + 1) D_8
    · refine zO_aload_n dX8_begin_103 rfl (zR_P _) ?_
      refine zO_dup dX8_begin_104 (rfl) ?_
      refine gt8 (k := 5) (v := zI (D 89 5)) dX8_begin_105 wF_X8_36 (by decide) (gk_89 hG) rfl ?_
      refine zO_aload_n dX8_begin_108 rfl (zR_P _) ?_
      refine gt8 (k := 4) (v := zI (D 89 4)) dX8_begin_109 wF_X8_33 (by decide) (gk_89 hG) rfl ?_
      refine zO_iand dX8_begin_112 ?_
      refine ptI8 (k := 5) (z := (zand (D 89 5) (D 89 4))) dX8_begin_113 wF_X8_36 (by decide) rfl (gk_89 hG) rfl ?_
      refine zO_letD (fun D_9 eD_9 => ?_)
      exact zO_ret (rv := none) dX8_begin_116 rfl trivial rfl
set_option maxHeartbeats 20000000 in
theorem sX8_begin_7 {l : Launch} {E : zE} {d : Nat} {F : zFs} {n sl : Nat} (hG : zG F)     : ∀ (N : Nat) (v2 : Int) (D : zDa), zO l E (d + 4) YX8_begin 7 [(0, zR 89), (2, zI v2)] [] (F, D, n, sl) (zcV F n sl) (zfix (fun _ _ => none) (fX8_begin_7 F) N v2 D) := by
  intro N
  induction N with
  | zero => intro v2 D; exact zO_none
  | succ N hk_7 =>
    intro v2 D
    show zO _ _ _ _ _ _ _ _ _ ((fX8_begin_7 F) (zfix (fun _ _ => none) (fX8_begin_7 F) N) v2 D)
    unfold fX8_begin_7
    refine zO_iload_n dX8_begin_7 rfl ?_
    refine zO_iconst dX8_begin_8 (by decide) ?_
    refine zO_icmp_ge (tgt := 32) dX8_begin_9 rfl (fun c9 => ?_) (fun c9 => ?_)
    · refine zO_aload_n dX8_begin_12 rfl (zR_P _) ?_
      refine gt8 (k := 2) dX8_begin_13 wF_X8_9 (by decide) (gk_89 hG) (zgv (c := 8) (k := 2) rfl (Or.inl ⟨_, rfl⟩) (gf_89_2 hG)) ?_
      refine zO_iload_n dX8_begin_16 rfl ?_
      refine zO_aload_n dX8_begin_17 rfl (zR_P _) ?_
      refine gt8 (k := 1) dX8_begin_18 wF_X8_19 (by decide) (gk_89 hG) (zgv (c := 8) (k := 1) rfl (Or.inr ⟨_, rfl⟩) (gf_89_1 hG)) ?_
      refine zO_iload_n dX8_begin_21 rfl ?_
      refine zO_callV (Y' := YX10_chanceOf) (cw := zcI F n sl) (as := [zI v2]) (rest := [zI v2, zR 90]) (na := 1) (ci := 10) rfl dX8_begin_22 wC_X10_chanceOf wN_X10 wM_X8_27 wI_X10_chanceOf wV_X10_chanceOf (by decide) (by decide) rfl rfl (Nat.le_of_ble_eq_true rfl) rfl (by decide) (gk_49 hG) (fun r hr => zMet_cast (Nat.add_assoc d 0 3) (mX10_chanceOf (d := d + 0) hG v2 r hr)) ?_
      rintro ⟨r_2, D_3⟩ -
      show zO _ _ _ _ _ _ [zI r_2, zI v2, zR 90] (F, D_3, n, sl) _ _
      refine zO_chk (fun h1 => ?_)
      refine zO_iast dX8_begin_25 (gk_90 hG) (gl_in (gl_90 hG) h1) ?_
      refine zO_letD (fun D_4 eD_4 => ?_)
      refine zO_chk (fun h2 => ?_)
      refine zO_iinc dX8_begin_26 rfl h2 (by decide) ?_
      refine zO_ls (ls' := [(0, zR 89), (2, zI (v2 + 1))]) rfl ?_
      refine zO_goto (tgt := 7) dX8_begin_29 rfl ?_
      refine zO_live [0, 2] ?_
      exact hk_7 (v2 + 1) D_4
    · refine zO_aload_n dX8_begin_32 rfl (zR_P _) ?_
      refine zO_iconst dX8_begin_33 (by decide) ?_
      refine ptI8 (k := 4) (z := 0) dX8_begin_34 wF_X8_33 (by decide) rfl (gk_89 hG) rfl ?_
      refine zO_letD (fun D_5 eD_5 => ?_)
      refine zO_aload_n dX8_begin_37 rfl (zR_P _) ?_
      refine zO_iconst dX8_begin_38 (by decide) ?_
      refine ptI8 (k := 5) (z := 0) dX8_begin_39 wF_X8_36 (by decide) rfl (gk_89 hG) rfl ?_
      refine zO_letD (fun D_6 eD_6 => ?_)
      refine zO_iconst dX8_begin_42 (by decide) ?_
      refine zO_istore_n dX8_begin_43 (by decide) ?_
      refine zO_ls (ls' := [(0, zR 89), (2, zI 0)]) rfl ?_
      refine zO_live [0, 2] ?_
      exact sX8_begin_44 hG zfu 0 D_6
set_option maxHeartbeats 20000000 in
theorem mX8_begin {l : Launch} {E : zE} {d : Nat} {F : zFs} {n sl : Nat} (hG : zG F) (v1 : Int) {D : zDa} : ∀ r, fX8_begin F  v1 D = some r → zMet l E (d + 4) YX8_begin [zR 89, zI v1] (F, D, n, sl) (zcV F n sl r) := by
  intro r hr
  refine zMet_of (plainFor_of_name (by decide)) (fun _ h => (nomatch h)) (Nat.le_of_ble_eq_true rfl) ?_
  have hz : zO l E (d + 4) YX8_begin 0 [(0, zR 89), (1, zI v1)] [] (F, D, n, sl) (zcV F n sl) (fX8_begin F  v1 D) := by
    unfold fX8_begin
    refine zO_aload_n dX8_begin_0 rfl (zR_P _) ?_
    refine zO_iload_n dX8_begin_1 rfl ?_
    refine ptI8 (k := 3) (z := v1) dX8_begin_2 wF_X8_23 (by decide) rfl (gk_89 hG) rfl ?_
    refine zO_letD (fun D_1 eD_1 => ?_)
    refine zO_iconst dX8_begin_5 (by decide) ?_
    refine zO_istore_n dX8_begin_6 (by decide) ?_
    refine zO_ls (ls' := [(0, zR 89), (1, zI v1), (2, zI 0)]) rfl ?_
    refine zO_live [0, 2] ?_
    exact sX8_begin_7 hG zfu 0 D_1
  exact hz r hr
theorem dJ6_bitCount_0f7a4_0 : decode cJ6_bitCount_0f7a4 0 = .ok (.iload_n 0, 1) := by decide +kernel
theorem dJ6_bitCount_0f7a4_1 : decode cJ6_bitCount_0f7a4 1 = .ok (.iload_n 0, 1) := by decide +kernel
theorem dJ6_bitCount_0f7a4_2 : decode cJ6_bitCount_0f7a4 2 = .ok (.iconst 1, 1) := by decide +kernel
theorem dJ6_bitCount_0f7a4_3 : decode cJ6_bitCount_0f7a4 3 = .ok (.iushr, 1) := by decide +kernel
theorem dJ6_bitCount_0f7a4_4 : decode cJ6_bitCount_0f7a4 4 = .ok (.ldc_w 265, 3) := by decide +kernel
theorem dJ6_bitCount_0f7a4_7 : decode cJ6_bitCount_0f7a4 7 = .ok (.iand, 1) := by decide +kernel
theorem dJ6_bitCount_0f7a4_8 : decode cJ6_bitCount_0f7a4 8 = .ok (.isub, 1) := by decide +kernel
theorem dJ6_bitCount_0f7a4_9 : decode cJ6_bitCount_0f7a4 9 = .ok (.istore_n 0, 1) := by decide +kernel
theorem dJ6_bitCount_0f7a4_10 : decode cJ6_bitCount_0f7a4 10 = .ok (.iload_n 0, 1) := by decide +kernel
theorem dJ6_bitCount_0f7a4_11 : decode cJ6_bitCount_0f7a4 11 = .ok (.ldc_w 266, 3) := by decide +kernel
theorem dJ6_bitCount_0f7a4_14 : decode cJ6_bitCount_0f7a4 14 = .ok (.iand, 1) := by decide +kernel
theorem dJ6_bitCount_0f7a4_15 : decode cJ6_bitCount_0f7a4 15 = .ok (.iload_n 0, 1) := by decide +kernel
theorem dJ6_bitCount_0f7a4_16 : decode cJ6_bitCount_0f7a4 16 = .ok (.iconst 2, 1) := by decide +kernel
theorem dJ6_bitCount_0f7a4_17 : decode cJ6_bitCount_0f7a4 17 = .ok (.iushr, 1) := by decide +kernel
theorem dJ6_bitCount_0f7a4_18 : decode cJ6_bitCount_0f7a4 18 = .ok (.ldc_w 266, 3) := by decide +kernel
theorem dJ6_bitCount_0f7a4_21 : decode cJ6_bitCount_0f7a4 21 = .ok (.iand, 1) := by decide +kernel
theorem dJ6_bitCount_0f7a4_22 : decode cJ6_bitCount_0f7a4 22 = .ok (.iadd, 1) := by decide +kernel
theorem dJ6_bitCount_0f7a4_23 : decode cJ6_bitCount_0f7a4 23 = .ok (.istore_n 0, 1) := by decide +kernel
theorem dJ6_bitCount_0f7a4_24 : decode cJ6_bitCount_0f7a4 24 = .ok (.iload_n 0, 1) := by decide +kernel
theorem dJ6_bitCount_0f7a4_25 : decode cJ6_bitCount_0f7a4 25 = .ok (.iload_n 0, 1) := by decide +kernel
theorem dJ6_bitCount_0f7a4_26 : decode cJ6_bitCount_0f7a4 26 = .ok (.iconst 4, 1) := by decide +kernel
theorem dJ6_bitCount_0f7a4_27 : decode cJ6_bitCount_0f7a4 27 = .ok (.iushr, 1) := by decide +kernel
theorem dJ6_bitCount_0f7a4_28 : decode cJ6_bitCount_0f7a4 28 = .ok (.iadd, 1) := by decide +kernel
theorem dJ6_bitCount_0f7a4_29 : decode cJ6_bitCount_0f7a4 29 = .ok (.ldc_w 267, 3) := by decide +kernel
theorem dJ6_bitCount_0f7a4_32 : decode cJ6_bitCount_0f7a4 32 = .ok (.iand, 1) := by decide +kernel
theorem dJ6_bitCount_0f7a4_33 : decode cJ6_bitCount_0f7a4 33 = .ok (.istore_n 0, 1) := by decide +kernel
theorem dJ6_bitCount_0f7a4_34 : decode cJ6_bitCount_0f7a4 34 = .ok (.iload_n 0, 1) := by decide +kernel
theorem dJ6_bitCount_0f7a4_35 : decode cJ6_bitCount_0f7a4 35 = .ok (.iload_n 0, 1) := by decide +kernel
theorem dJ6_bitCount_0f7a4_36 : decode cJ6_bitCount_0f7a4 36 = .ok (.bipush 8, 2) := by decide +kernel
theorem dJ6_bitCount_0f7a4_38 : decode cJ6_bitCount_0f7a4 38 = .ok (.iushr, 1) := by decide +kernel
theorem dJ6_bitCount_0f7a4_39 : decode cJ6_bitCount_0f7a4 39 = .ok (.iadd, 1) := by decide +kernel
theorem dJ6_bitCount_0f7a4_40 : decode cJ6_bitCount_0f7a4 40 = .ok (.istore_n 0, 1) := by decide +kernel
theorem dJ6_bitCount_0f7a4_41 : decode cJ6_bitCount_0f7a4 41 = .ok (.iload_n 0, 1) := by decide +kernel
theorem dJ6_bitCount_0f7a4_42 : decode cJ6_bitCount_0f7a4 42 = .ok (.iload_n 0, 1) := by decide +kernel
theorem dJ6_bitCount_0f7a4_43 : decode cJ6_bitCount_0f7a4 43 = .ok (.bipush 16, 2) := by decide +kernel
theorem dJ6_bitCount_0f7a4_45 : decode cJ6_bitCount_0f7a4 45 = .ok (.iushr, 1) := by decide +kernel
theorem dJ6_bitCount_0f7a4_46 : decode cJ6_bitCount_0f7a4 46 = .ok (.iadd, 1) := by decide +kernel
theorem dJ6_bitCount_0f7a4_47 : decode cJ6_bitCount_0f7a4 47 = .ok (.istore_n 0, 1) := by decide +kernel
theorem dJ6_bitCount_0f7a4_48 : decode cJ6_bitCount_0f7a4 48 = .ok (.iload_n 0, 1) := by decide +kernel
theorem dJ6_bitCount_0f7a4_49 : decode cJ6_bitCount_0f7a4 49 = .ok (.bipush 63, 2) := by decide +kernel
theorem dJ6_bitCount_0f7a4_51 : decode cJ6_bitCount_0f7a4 51 = .ok (.iand, 1) := by decide +kernel
theorem dJ6_bitCount_0f7a4_52 : decode cJ6_bitCount_0f7a4 52 = .ok (.ireturn, 1) := by decide +kernel
abbrev YJ6_bitCount_0f7a4 : zY := (yJ6_bitCount_0f7a4, cJ6_bitCount_0f7a4, 1, (Option.some Jvm.ClassFile.FieldType.int), [])
def fJ6_bitCount_0f7a4 (F : zFs) (v0 : Int) (D : zDa) : Option (Int × zDa) :=
  if (-2147483648 ≤ v0 - (zand (zushr v0 1) 1431655765) ∧ v0 - (zand (zushr v0 1) 1431655765) ≤ 2147483647) then
    zlet ((v0 - (zand (zushr v0 1) 1431655765))) (fun x0_1 =>
      if (-2147483648 ≤ (zand x0_1 858993459) + (zand (zushr x0_1 2) 858993459) ∧ (zand x0_1 858993459) + (zand (zushr x0_1 2) 858993459) ≤ 2147483647) then
        zlet (((zand x0_1 858993459) + (zand (zushr x0_1 2) 858993459))) (fun x0_2 =>
          if (-2147483648 ≤ x0_2 + (zushr x0_2 4) ∧ x0_2 + (zushr x0_2 4) ≤ 2147483647) then
            zlet ((zand (x0_2 + (zushr x0_2 4)) 252645135)) (fun x0_3 =>
              if (-2147483648 ≤ x0_3 + (zushr x0_3 8) ∧ x0_3 + (zushr x0_3 8) ≤ 2147483647) then
                zlet ((x0_3 + (zushr x0_3 8))) (fun x0_4 =>
                  if (-2147483648 ≤ x0_4 + (zushr x0_4 16) ∧ x0_4 + (zushr x0_4 16) ≤ 2147483647) then
                    zlet ((x0_4 + (zushr x0_4 16))) (fun x0_5 =>
                      some ((zand x0_5 63), D))
                  else none)
              else none)
          else none)
      else none)
  else none
set_option maxHeartbeats 20000000 in
theorem mJ6_bitCount_0f7a4 {l : Launch} {E : zE} {d : Nat} {F : zFs} {n sl : Nat} (hG : zG F) (v0 : Int) {D : zDa} : ∀ r, fJ6_bitCount_0f7a4 F  v0 D = some r → zMet l E (d + 0) YJ6_bitCount_0f7a4 [zI v0] (F, D, n, sl) (zcI F n sl r) := by
  intro r hr
  refine zMet_of (by decide +kernel) (fun _ h => (nomatch h)) (Nat.le_of_ble_eq_true rfl) ?_
  have hz : zO l E (d + 0) YJ6_bitCount_0f7a4 0 [(0, zI v0)] [] (F, D, n, sl) (zcI F n sl) (fJ6_bitCount_0f7a4 F  v0 D) := by
    unfold fJ6_bitCount_0f7a4
    refine zO_chk (fun h1 => ?_)
    refine zO_iload_n dJ6_bitCount_0f7a4_0 rfl ?_
    refine zO_iload_n dJ6_bitCount_0f7a4_1 rfl ?_
    refine zO_iconst dJ6_bitCount_0f7a4_2 (by decide) ?_
    refine zO_iushr dJ6_bitCount_0f7a4_3 ?_
    refine zO_ldcw (n := 1431655765) dJ6_bitCount_0f7a4_4 wK_J6_265 (by decide) ?_
    refine zO_iand dJ6_bitCount_0f7a4_7 ?_
    refine zO_isub dJ6_bitCount_0f7a4_8 h1 ?_
    refine zO_letI (fun x0_1 ex0_1 => ?_)
    refine zO_istore_n dJ6_bitCount_0f7a4_9 (by decide) ?_
    refine zO_ls (ls' := [(0, zI x0_1)]) rfl ?_
    refine zO_chk (fun h2 => ?_)
    refine zO_iload_n dJ6_bitCount_0f7a4_10 rfl ?_
    refine zO_ldcw (n := 858993459) dJ6_bitCount_0f7a4_11 wK_J6_266 (by decide) ?_
    refine zO_iand dJ6_bitCount_0f7a4_14 ?_
    refine zO_iload_n dJ6_bitCount_0f7a4_15 rfl ?_
    refine zO_iconst dJ6_bitCount_0f7a4_16 (by decide) ?_
    refine zO_iushr dJ6_bitCount_0f7a4_17 ?_
    refine zO_ldcw (n := 858993459) dJ6_bitCount_0f7a4_18 wK_J6_266 (by decide) ?_
    refine zO_iand dJ6_bitCount_0f7a4_21 ?_
    refine zO_iadd dJ6_bitCount_0f7a4_22 h2 ?_
    refine zO_letI (fun x0_2 ex0_2 => ?_)
    refine zO_istore_n dJ6_bitCount_0f7a4_23 (by decide) ?_
    refine zO_ls (ls' := [(0, zI x0_2)]) rfl ?_
    refine zO_chk (fun h3 => ?_)
    refine zO_iload_n dJ6_bitCount_0f7a4_24 rfl ?_
    refine zO_iload_n dJ6_bitCount_0f7a4_25 rfl ?_
    refine zO_iconst dJ6_bitCount_0f7a4_26 (by decide) ?_
    refine zO_iushr dJ6_bitCount_0f7a4_27 ?_
    refine zO_iadd dJ6_bitCount_0f7a4_28 h3 ?_
    refine zO_ldcw (n := 252645135) dJ6_bitCount_0f7a4_29 wK_J6_267 (by decide) ?_
    refine zO_iand dJ6_bitCount_0f7a4_32 ?_
    refine zO_letI (fun x0_3 ex0_3 => ?_)
    refine zO_istore_n dJ6_bitCount_0f7a4_33 (by decide) ?_
    refine zO_ls (ls' := [(0, zI x0_3)]) rfl ?_
    refine zO_chk (fun h4 => ?_)
    refine zO_iload_n dJ6_bitCount_0f7a4_34 rfl ?_
    refine zO_iload_n dJ6_bitCount_0f7a4_35 rfl ?_
    refine zO_bipush dJ6_bitCount_0f7a4_36 (by decide) ?_
    refine zO_iushr dJ6_bitCount_0f7a4_38 ?_
    refine zO_iadd dJ6_bitCount_0f7a4_39 h4 ?_
    refine zO_letI (fun x0_4 ex0_4 => ?_)
    refine zO_istore_n dJ6_bitCount_0f7a4_40 (by decide) ?_
    refine zO_ls (ls' := [(0, zI x0_4)]) rfl ?_
    refine zO_chk (fun h5 => ?_)
    refine zO_iload_n dJ6_bitCount_0f7a4_41 rfl ?_
    refine zO_iload_n dJ6_bitCount_0f7a4_42 rfl ?_
    refine zO_bipush dJ6_bitCount_0f7a4_43 (by decide) ?_
    refine zO_iushr dJ6_bitCount_0f7a4_45 ?_
    refine zO_iadd dJ6_bitCount_0f7a4_46 h5 ?_
    refine zO_letI (fun x0_5 ex0_5 => ?_)
    refine zO_istore_n dJ6_bitCount_0f7a4_47 (by decide) ?_
    refine zO_ls (ls' := [(0, zI x0_5)]) rfl ?_
    refine zO_iload_n dJ6_bitCount_0f7a4_48 rfl ?_
    refine zO_bipush dJ6_bitCount_0f7a4_49 (by decide) ?_
    refine zO_iand dJ6_bitCount_0f7a4_51 ?_
    exact zO_ret (rv := some (zI (zand x0_5 63))) dJ6_bitCount_0f7a4_52 rfl rfl rfl
  exact hz r hr
theorem dX8_lots_0 : decode cX8_lots 0 = .ok (.aload_n 0, 1) := by decide +kernel
theorem dX8_lots_1 : decode cX8_lots 1 = .ok (.aload_n 0, 1) := by decide +kernel
theorem dX8_lots_2 : decode cX8_lots 2 = .ok (.getfield 23, 3) := by decide +kernel
theorem dX8_lots_5 : decode cX8_lots 5 = .ok (.sipush 1103, 3) := by decide +kernel
theorem dX8_lots_8 : decode cX8_lots 8 = .ok (.imul, 1) := by decide +kernel
theorem dX8_lots_9 : decode cX8_lots 9 = .ok (.sipush 12345, 3) := by decide +kernel
theorem dX8_lots_12 : decode cX8_lots 12 = .ok (.iadd, 1) := by decide +kernel
theorem dX8_lots_13 : decode cX8_lots 13 = .ok (.ldc 81, 2) := by decide +kernel
theorem dX8_lots_15 : decode cX8_lots 15 = .ok (.irem, 1) := by decide +kernel
theorem dX8_lots_16 : decode cX8_lots 16 = .ok (.putfield 23, 3) := by decide +kernel
theorem dX8_lots_19 : decode cX8_lots 19 = .ok (.iload_n 1, 1) := by decide +kernel
theorem dX8_lots_20 : decode cX8_lots 20 = .ok (.ifCond .gt 7, 3) := by decide +kernel
theorem dX8_lots_23 : decode cX8_lots 23 = .ok (.iconst 0, 1) := by decide +kernel
theorem dX8_lots_24 : decode cX8_lots 24 = .ok (.goto 9, 3) := by decide +kernel
theorem dX8_lots_27 : decode cX8_lots 27 = .ok (.aload_n 0, 1) := by decide +kernel
theorem dX8_lots_28 : decode cX8_lots 28 = .ok (.getfield 23, 3) := by decide +kernel
theorem dX8_lots_31 : decode cX8_lots 31 = .ok (.iload_n 1, 1) := by decide +kernel
theorem dX8_lots_32 : decode cX8_lots 32 = .ok (.irem, 1) := by decide +kernel
theorem dX8_lots_33 : decode cX8_lots 33 = .ok (.ireturn, 1) := by decide +kernel
abbrev YX8_lots : zY := (yX8_lots, cX8_lots, 2, (Option.some Jvm.ClassFile.FieldType.int), [])
def fX8_lots (F : zFs) (v1 : Int) (D : zDa) : Option (Int × zDa) :=
  if (-2147483648 ≤ (D 89 3) * 1103 ∧ (D 89 3) * 1103 ≤ 2147483647) ∧ (-2147483648 ≤ ((D 89 3) * 1103) + 12345 ∧ ((D 89 3) * 1103) + 12345 ≤ 2147483647) then
    zlet (zwr D 89 3 (Int.tmod (((D 89 3) * 1103) + 12345) 1000003)) (fun D_1 =>
      if 0 < v1 then
        if (v1 ≠ 0) then
          some ((Int.tmod (D_1 89 3) v1), D_1)
        else none
      else
        some (0, D_1))
  else none
set_option maxHeartbeats 20000000 in
theorem mX8_lots {l : Launch} {E : zE} {d : Nat} {F : zFs} {n sl : Nat} (hG : zG F) (v1 : Int) {D : zDa} : ∀ r, fX8_lots F  v1 D = some r → zMet l E (d + 0) YX8_lots [zR 89, zI v1] (F, D, n, sl) (zcI F n sl r) := by
  intro r hr
  refine zMet_of (plainFor_of_name (by decide)) (fun _ h => (nomatch h)) (Nat.le_of_ble_eq_true rfl) ?_
  have hz : zO l E (d + 0) YX8_lots 0 [(0, zR 89), (1, zI v1)] [] (F, D, n, sl) (zcI F n sl) (fX8_lots F  v1 D) := by
    unfold fX8_lots
    refine zO_chk (fun h1 => ?_)
    refine zO_aload_n dX8_lots_0 rfl (zR_P _) ?_
    refine zO_aload_n dX8_lots_1 rfl (zR_P _) ?_
    refine gt8 (k := 3) (v := zI (D 89 3)) dX8_lots_2 wF_X8_23 (by decide) (gk_89 hG) rfl ?_
    refine zO_sipush dX8_lots_5 (by decide) ?_
    refine zO_imul dX8_lots_8 h1.1 ?_
    refine zO_sipush dX8_lots_9 (by decide) ?_
    refine zO_iadd dX8_lots_12 h1.2 ?_
    refine zO_ldc (n := 1000003) dX8_lots_13 wK_X8_81 (by decide) ?_
    refine zO_irem dX8_lots_15 (by decide) ?_
    refine ptI8 (k := 3) (z := (Int.tmod (((D 89 3) * 1103) + 12345) 1000003)) dX8_lots_16 wF_X8_23 (by decide) rfl (gk_89 hG) rfl ?_
    refine zO_letD (fun D_1 eD_1 => ?_)
    refine zO_iload_n dX8_lots_19 rfl ?_
    refine zO_if_gt (tgt := 27) dX8_lots_20 rfl (fun c20 => ?_) (fun c20 => ?_)
    · refine zO_chk (fun h2 => ?_)
      refine zO_aload_n dX8_lots_27 rfl (zR_P _) ?_
      refine gt8 (k := 3) (v := zI (D_1 89 3)) dX8_lots_28 wF_X8_23 (by decide) (gk_89 hG) rfl ?_
      refine zO_iload_n dX8_lots_31 rfl ?_
      refine zO_irem dX8_lots_32 h2 ?_
      exact zO_ret (rv := some (zI (Int.tmod (D_1 89 3) v1))) dX8_lots_33 rfl rfl rfl
    · refine zO_iconst dX8_lots_23 (by decide) ?_
      refine zO_goto (tgt := 33) dX8_lots_24 rfl ?_
      exact zO_ret (rv := some (zI 0)) dX8_lots_33 rfl rfl rfl
  exact hz r hr
