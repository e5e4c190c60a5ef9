section ZFM
variable {α : Type} {l : Launch} {E : zE} {d : Nat} {Y : zY} {pc : Nat} {ls : zLs} {st : List zV} {M : zM} {cv : α → zRes} {x : Option α}
theorem zO_getsFM' (hq : ∀ s, zKn E s → zKF E s) {j : Nat} (hi : decode Y.2.1 pc = .ok (.getstatic j, 3)) (hw : Cond.fieldLink Y.1.cls j "jdk/internal/util/Preconditions" "SIOOBE_FORMATTER" "Ljava/util/function/BiFunction;" ∈ zgood) (k0 : zO l E d Y (pc + 3) ls (zN :: st) M cv x) (k1 : zO l E d Y (pc + 3) ls (zR (1000000 + 4) :: st) M cv x) : zO l E d Y pc ls st M cv x := by
  intro r hr
  obtain ⟨hm, t0⟩ := k0 r hr
  obtain ⟨-, t1⟩ := k1 r hr
  refine ⟨hm, fun hok p e Rm s m args below meth c H locs Q rls n0 s0 hC hR hL hl hn hQ => ?_⟩
  obtain ⟨hx, hb, hml, hown, hnm, hts, hK, hf1, hf2, hT, hh1, hh2⟩ := id hC
  rcases hq s hK with hZ | hZ
  · exact va_gets hx hb (hZ.kept (zS2 hC)) (zS_of hC hR hL hn.1) hown (hts _ hw) (fun _ h => h) hi (t0 (hok.cons (v := zN) trivial) p e Rm s m args below meth c H locs Q rls n0 s0 hC hR hL hl hn hQ)
  · have hkk := t1 (hok.cons (v := zR (1000000 + 4)) trivial) p e Rm s m args below meth c H locs Q rls n0 s0 hC hR hL hl hn hQ
    rw [List.map_cons, show zval E (zR (1000000 + 4)) = Value.ref (E.2.2.2.1 4) from congrArg Value.ref (zad_st E 4)] at hkk
    exact va_gets hx hb (hZ.kept (zS2 hC)) (zS_of hC hR hL hn.1) hown (hts _ hw) (fun _ h => h) hi hkk
theorem zO_getsFM {j : Nat} (hi : decode Y.2.1 pc = .ok (.getstatic j, 3)) (hw : Cond.fieldLink Y.1.cls j "jdk/internal/util/Preconditions" "SIOOBE_FORMATTER" "Ljava/util/function/BiFunction;" ∈ zgood) (k0 : zO l E d Y (pc + 3) ls (zN :: st) M cv x) (k1 : zO l E d Y (pc + 3) ls (zR (1000000 + 4) :: st) M cv x) : zO l E d Y pc ls st M cv x := zO_getsFM' (fun s h => by obtain ⟨_, _, _, hf⟩ := h.2.2.2.2.2.2.2.2; exact hf) hi hw k0 k1
end ZFM
theorem dJ3_checkIndex_8e157_0 : decode cJ3_checkIndex_8e157 0 = .ok (.iload_n 0, 1) := by decide +kernel
theorem dJ3_checkIndex_8e157_1 : decode cJ3_checkIndex_8e157 1 = .ok (.ifCond .lt 8, 3) := by decide +kernel
theorem dJ3_checkIndex_8e157_4 : decode cJ3_checkIndex_8e157 4 = .ok (.iload_n 0, 1) := by decide +kernel
theorem dJ3_checkIndex_8e157_5 : decode cJ3_checkIndex_8e157 5 = .ok (.iload_n 1, 1) := by decide +kernel
theorem dJ3_checkIndex_8e157_6 : decode cJ3_checkIndex_8e157 6 = .ok (.if_icmp .lt 10, 3) := by decide +kernel
theorem dJ3_checkIndex_8e157_9 : decode cJ3_checkIndex_8e157 9 = .ok (.aload_n 2, 1) := by decide +kernel
theorem dJ3_checkIndex_8e157_10 : decode cJ3_checkIndex_8e157 10 = .ok (.iload_n 0, 1) := by decide +kernel
theorem dJ3_checkIndex_8e157_11 : decode cJ3_checkIndex_8e157 11 = .ok (.iload_n 1, 1) := by decide +kernel
theorem dJ3_checkIndex_8e157_12 : decode cJ3_checkIndex_8e157 12 = .ok (.invokestatic 95, 3) := by decide +kernel
theorem dJ3_checkIndex_8e157_15 : decode cJ3_checkIndex_8e157 15 = .ok (.athrow, 1) := by decide +kernel
theorem dJ3_checkIndex_8e157_16 : decode cJ3_checkIndex_8e157 16 = .ok (.iload_n 0, 1) := by decide +kernel
theorem dJ3_checkIndex_8e157_17 : decode cJ3_checkIndex_8e157 17 = .ok (.ireturn, 1) := by decide +kernel
abbrev YJ3_checkIndex_8e157 : zY := (yJ3_checkIndex_8e157, cJ3_checkIndex_8e157, 3, (Option.some Jvm.ClassFile.FieldType.int), [])
def fJ3_checkIndex_8e157 (F : zFs) (v0 v1 : Int) (D : zDa) : Option (Int × zDa) := if 0 ≤ v0 ∧ v0 < v1 then some (v0, D) else none
theorem mJ3_checkIndex_N {l : Launch} {E : zE} {d : Nat} {F : zFs} {n sl : Nat} (v0 v1 : Int) {D : zDa} : ∀ r, fJ3_checkIndex_8e157 F v0 v1 D = some r → zMet l E (d + 0) YJ3_checkIndex_8e157 [zI v0, zI v1, zN] (F, D, n, sl) (zcI F n sl r) := by
  intro r hr
  refine zMet_of (by decide +kernel) (fun _ h => (nomatch h)) (Nat.le_of_ble_eq_true rfl) ?_
  have hz : zO l E (d + 0) YJ3_checkIndex_8e157 0 [(0, zI v0), (1, zI v1), (2, zN)] [] (F, D, n, sl) (zcI F n sl) (fJ3_checkIndex_8e157 F v0 v1 D) := by
    unfold fJ3_checkIndex_8e157
    refine zO_chk (fun h => ?_)
    refine zO_eq (y := if v0 < 0 then none else (if v0 < v1 then some (v0, D) else none)) (by rw [if_neg (by omega), if_pos h.2]) ?_
    refine zO_iload_n dJ3_checkIndex_8e157_0 rfl ?_
    refine zO_if_lt (tgt := 9) dJ3_checkIndex_8e157_1 rfl (fun c => zO_none) (fun c => ?_)
    refine zO_iload_n dJ3_checkIndex_8e157_4 rfl ?_
    refine zO_iload_n dJ3_checkIndex_8e157_5 rfl ?_
    refine zO_icmp_lt (tgt := 16) dJ3_checkIndex_8e157_6 rfl (fun c => ?_) (fun c => zO_none)
    refine zO_iload_n dJ3_checkIndex_8e157_16 rfl ?_
    exact zO_ret (rv := some (zI v0)) dJ3_checkIndex_8e157_17 rfl rfl rfl
  exact hz r hr
theorem mJ3_checkIndex_R {l : Launch} {E : zE} {d : Nat} {F : zFs} {n sl : Nat} (v0 v1 : Int) {D : zDa} : ∀ r, fJ3_checkIndex_8e157 F v0 v1 D = some r → zMet l E (d + 0) YJ3_checkIndex_8e157 [zI v0, zI v1, zR (1000000 + 4)] (F, D, n, sl) (zcI F n sl r) := by
  intro r hr
  refine zMet_of (by decide +kernel) (fun _ h => (nomatch h)) (Nat.le_of_ble_eq_true rfl) ?_
  have hz : zO l E (d + 0) YJ3_checkIndex_8e157 0 [(0, zI v0), (1, zI v1), (2, zR (1000000 + 4))] [] (F, D, n, sl) (zcI F n sl) (fJ3_checkIndex_8e157 F v0 v1 D) := by
    unfold fJ3_checkIndex_8e157
    refine zO_chk (fun h => ?_)
    refine zO_eq (y := if v0 < 0 then none else (if v0 < v1 then some (v0, D) else none)) (by rw [if_neg (by omega), if_pos h.2]) ?_
    refine zO_iload_n dJ3_checkIndex_8e157_0 rfl ?_
    refine zO_if_lt (tgt := 9) dJ3_checkIndex_8e157_1 rfl (fun c => zO_none) (fun c => ?_)
    refine zO_iload_n dJ3_checkIndex_8e157_4 rfl ?_
    refine zO_iload_n dJ3_checkIndex_8e157_5 rfl ?_
    refine zO_icmp_lt (tgt := 16) dJ3_checkIndex_8e157_6 rfl (fun c => ?_) (fun c => zO_none)
    refine zO_iload_n dJ3_checkIndex_8e157_16 rfl ?_
    exact zO_ret (rv := some (zI v0)) dJ3_checkIndex_8e157_17 rfl rfl rfl
  exact hz r hr
theorem dJ0_checkIndex_df160_0 : decode cJ0_checkIndex_df160 0 = .ok (.iload_n 0, 1) := by decide +kernel
theorem dJ0_checkIndex_df160_1 : decode cJ0_checkIndex_df160 1 = .ok (.iload_n 1, 1) := by decide +kernel
theorem dJ0_checkIndex_df160_2 : decode cJ0_checkIndex_df160 2 = .ok (.getstatic 1053, 3) := by decide +kernel
theorem dJ0_checkIndex_df160_5 : decode cJ0_checkIndex_df160 5 = .ok (.invokestatic 1059, 3) := by decide +kernel
theorem dJ0_checkIndex_df160_8 : decode cJ0_checkIndex_df160 8 = .ok (.pop, 1) := by decide +kernel
theorem dJ0_checkIndex_df160_9 : decode cJ0_checkIndex_df160 9 = .ok (.return_, 1) := by decide +kernel
abbrev YJ0_checkIndex_df160 : zY := (yJ0_checkIndex_df160, cJ0_checkIndex_df160, 2, none, [])
theorem mJ0_checkIndex_df160 {l : Launch} {E : zE} {d : Nat} {F : zFs} {n sl : Nat} (v0 v1 : Int) {D : zDa} : ∀ r, (if 0 ≤ v0 ∧ v0 < v1 then some D else none) = some r → zMet l E (d + 1) YJ0_checkIndex_df160 [zI v0, zI v1] (F, D, n, sl) (zcV F n sl r) := by
  intro r hr
  refine zMet_of (by decide +kernel) (fun _ h => (nomatch h)) (Nat.le_of_ble_eq_true rfl) ?_
  have hz : zO l E (d + 1) YJ0_checkIndex_df160 0 [(0, zI v0), (1, zI v1)] [] (F, D, n, sl) (zcV F n sl) (if 0 ≤ v0 ∧ v0 < v1 then some D else none) := by
    refine zO_chk (fun h => ?_)
    refine zO_eq (y := (fJ3_checkIndex_8e157 F v0 v1 D).bind (fun (r, D1) => some D1)) (by unfold fJ3_checkIndex_8e157; rw [if_pos h]; rfl) ?_
    refine zO_iload_n dJ0_checkIndex_df160_0 rfl ?_
    refine zO_iload_n dJ0_checkIndex_df160_1 rfl ?_
    refine zO_getsFM dJ0_checkIndex_df160_2 wF_J0_1053 ?_ ?_
    · refine zO_callS (Y' := YJ3_checkIndex_8e157) (cw := zcI F n sl) (as := [zI v0, zI v1, zN]) (rest := []) (na := 3) dJ0_checkIndex_df160_5 wC_J3_checkIndex_8e157 wN_J3 wM_J0_1059 wS_J3_checkIndex_8e157 (by decide) (by decide) rfl rfl (Nat.le_of_ble_eq_true rfl) (fun r hr => zMet_cast (Nat.add_assoc d 0 0) (mJ3_checkIndex_N (d := d + 0) v0 v1 r hr)) ?_
      rintro ⟨r_1, D_2⟩ -
      show zO _ _ _ _ _ _ [zI r_1] (F, D_2, n, sl) _ _
      refine zO_pop dJ0_checkIndex_df160_8 rfl ?_
      exact zO_ret (rv := none) dJ0_checkIndex_df160_9 rfl trivial rfl
    · refine zO_callS (Y' := YJ3_checkIndex_8e157) (cw := zcI F n sl) (as := [zI v0, zI v1, zR (1000000 + 4)]) (rest := []) (na := 3) dJ0_checkIndex_df160_5 wC_J3_checkIndex_8e157 wN_J3 wM_J0_1059 wS_J3_checkIndex_8e157 (by decide) (by decide) rfl rfl (Nat.le_of_ble_eq_true rfl) (fun r hr => zMet_cast (Nat.add_assoc d 0 0) (mJ3_checkIndex_R (d := d + 0) v0 v1 r hr)) ?_
      rintro ⟨r_1, D_2⟩ -
      show zO _ _ _ _ _ _ [zI r_1] (F, D_2, n, sl) _ _
      refine zO_pop dJ0_checkIndex_df160_8 rfl ?_
      exact zO_ret (rv := none) dJ0_checkIndex_df160_9 rfl trivial rfl
  exact hz r hr
theorem dJ1_charAt_3b067_0 : decode cJ1_charAt_3b067 0 = .ok (.iload_n 1, 1) := by decide +kernel
theorem dJ1_charAt_3b067_1 : decode cJ1_charAt_3b067 1 = .ok (.aload_n 0, 1) := by decide +kernel
theorem dJ1_charAt_3b067_2 : decode cJ1_charAt_3b067 2 = .ok (.arraylength, 1) := by decide +kernel
theorem dJ1_charAt_3b067_3 : decode cJ1_charAt_3b067 3 = .ok (.invokestatic 9, 3) := by decide +kernel
theorem dJ1_charAt_3b067_6 : decode cJ1_charAt_3b067 6 = .ok (.aload_n 0, 1) := by decide +kernel
theorem dJ1_charAt_3b067_7 : decode cJ1_charAt_3b067 7 = .ok (.iload_n 1, 1) := by decide +kernel
theorem dJ1_charAt_3b067_8 : decode cJ1_charAt_3b067 8 = .ok (.baload, 1) := by decide +kernel
theorem dJ1_charAt_3b067_9 : decode cJ1_charAt_3b067 9 = .ok (.sipush 255, 3) := by decide +kernel
theorem dJ1_charAt_3b067_12 : decode cJ1_charAt_3b067 12 = .ok (.iand, 1) := by decide +kernel
theorem dJ1_charAt_3b067_13 : decode cJ1_charAt_3b067 13 = .ok (.i2c, 1) := by decide +kernel
theorem dJ1_charAt_3b067_14 : decode cJ1_charAt_3b067 14 = .ok (.ireturn, 1) := by decide +kernel
abbrev YJ1_charAt_3b067 : zY := (yJ1_charAt_3b067, cJ1_charAt_3b067, 2, (Option.some Jvm.ClassFile.FieldType.char), [])
def fJ1_charAt_3b067 (F : zFs) (j0 : Nat) (v1 : Int) (D : zDa) : Option (Int × zDa) :=
  if (j0 < 3) ∧ (0 ≤ v1 ∧ v1 < (zsl j0 : Int)) ∧ (0 ≤ zi2c (zand (zsg j0 v1.toNat) 255) ∧ zi2c (zand (zsg j0 v1.toNat) 255) ≤ 65535) then some (zi2c (zand (zsg j0 v1.toNat) 255), D) else none
theorem mJ1_charAt_3b067 {l : Launch} {E : zE} {d : Nat} {F : zFs} {n sl : Nat} (hG : zG F) (j0 : Nat) (v1 : Int) {D : zDa} : ∀ r, fJ1_charAt_3b067 F j0 v1 D = some r → zMet l E (d + 2) YJ1_charAt_3b067 [zR (1000000 + (20 + j0)), zI v1] (F, D, n, sl) (zcI F n sl r) := by
  intro r hr
  refine zMet_of (by decide +kernel) (fun _ h => (nomatch h)) (Nat.le_of_ble_eq_true rfl) ?_
  have hz : zO l E (d + 2) YJ1_charAt_3b067 0 [(0, zR (1000000 + (20 + j0))), (1, zI v1)] [] (F, D, n, sl) (zcI F n sl) (fJ1_charAt_3b067 F j0 v1 D) := by
    unfold fJ1_charAt_3b067
    refine zO_chk (fun h => ?_)
    refine zO_eq (y := (if 0 ≤ v1 ∧ v1 < (zsl j0 : Int) then some D else none).bind (fun D1 => some (zi2c (zand (zsg j0 v1.toNat) 255), D1))) (by rw [if_pos h.2.1]; rfl) ?_
    refine zO_iload_n dJ1_charAt_3b067_0 rfl ?_
    refine zO_aload_n dJ1_charAt_3b067_1 rfl (zR_P _) ?_
    refine zO_sblen (j0 := j0) dJ1_charAt_3b067_2 h.1 ?_
    refine zO_callS (Y' := YJ0_checkIndex_df160) (cw := zcV F n sl) (as := [zI v1, zI (zsl j0 : Int)]) (rest := []) (na := 2) dJ1_charAt_3b067_3 wC_J0_checkIndex_df160 wN_J0 wM_J1_9 wS_J0_checkIndex_df160 (by decide) (by decide) rfl rfl (Nat.le_of_ble_eq_true rfl) (fun r hr => zMet_cast (Nat.add_assoc d 0 1) (mJ0_checkIndex_df160 (d := d + 0) v1 (zsl j0 : Int) r hr)) ?_
    intro D_2 _
    show zO _ _ _ _ _ _ [] (F, D_2, n, sl) _ _
    refine zO_aload_n dJ1_charAt_3b067_6 rfl (zR_P _) ?_
    refine zO_iload_n dJ1_charAt_3b067_7 rfl ?_
    refine zO_sbald (j0 := j0) dJ1_charAt_3b067_8 h.1 h.2.1 ?_
    refine zO_sipush dJ1_charAt_3b067_9 (by decide) ?_
    refine zO_iand dJ1_charAt_3b067_12 ?_
    refine zO_i2c dJ1_charAt_3b067_13 ?_
    exact zO_ret (rv := some (zI (zi2c (zand (zsg j0 v1.toNat) 255)))) dJ1_charAt_3b067_14 rfl (zretok_c h.2.2) rfl
  exact hz r hr
