/-! ===== the constructors: ExamSlips (printed by wip/gen/ctor.py) ===== -/
def cF0 : zFs := fun _ => (0, 0, fun _ => 0)
def cD0 : zDa := fun _ _ => 0
def cF1 : zFs := znew cF0 0 (12, 0, zdf 11)
def cD1 : zDa := zrow cD0 0 (zdf 11)
def cF2 : zFs := znew cF1 1 (10, 0, zdf 9)
def cD2 : zDa := zrow cD1 1 (zdf 9)
def cF3 : zFs := znew cF2 2 (20, 20, fun _ => 0)
def cD3 : zDa := zrow cD2 2 (fun _ => 0)
def cF4 : zFs := zfin cF3 1 0 ((2 : Nat) : Int)
def cF5 : zFs := znew cF4 3 (20, 20, fun _ => 0)
def cD4 : zDa := zrow cD3 3 (fun _ => 0)
def cF6 : zFs := zfin cF5 1 1 ((3 : Nat) : Int)
def cF7 : zFs := znew cF6 4 (20, 20, fun _ => 0)
def cD5 : zDa := zrow cD4 4 (fun _ => 0)
def cF8 : zFs := zfin cF7 1 2 ((4 : Nat) : Int)
def cF9 : zFs := znew cF8 5 (20, 20, fun _ => 0)
def cD6 : zDa := zrow cD5 5 (fun _ => 0)
def cF10 : zFs := zfin cF9 1 3 ((5 : Nat) : Int)
def cF11 : zFs := znew cF10 6 (20, 20, fun _ => 0)
def cD7 : zDa := zrow cD6 6 (fun _ => 0)
def cF12 : zFs := zfin cF11 1 4 ((6 : Nat) : Int)
def cF13 : zFs := znew cF12 7 (20, 7, fun _ => 0)
def cD8 : zDa := zrow cD7 7 zTFf
def cF14 : zFs := zfin cF13 1 6 ((7 : Nat) : Int)
def cF15 : zFs := znew cF14 8 (25, 6, fun _ => 0)
def cD9 : zDa := zrow cD8 8 (fun _ => -1)
def cF16 : zFs := zfin cF15 1 7 ((8 : Nat) : Int)
def cD10 : zDa := zwr cD9 1 9 (-1)
def cF17 : zFs := znew cF16 9 (20, 120, fun _ => 0)
def cD11 : zDa := zrow cD10 9 (fun _ => 0)
def cF18 : zFs := zfin cF17 1 10 ((9 : Nat) : Int)
def cF19 : zFs := znew cF18 10 (20, 120, fun _ => 0)
def cD12 : zDa := zrow cD11 10 (fun _ => 0)
def cF20 : zFs := zfin cF19 1 11 ((10 : Nat) : Int)
def cF21 : zFs := znew cF20 11 (20, 3, fun _ => 0)
def cD13 : zDa := zrow cD12 11 (fun _ => 0)
def cF22 : zFs := zfin cF21 1 13 ((11 : Nat) : Int)
def cF23 : zFs := znew cF22 12 (20, 40, fun _ => 0)
def cD14 : zDa := zrow cD13 12 (fun _ => 0)
def cF24 : zFs := zfin cF23 1 14 ((12 : Nat) : Int)
theorem cn_X9_init_1 {l : Launch} {E : zE} {d : Nat} : zMet l E (d) YX9_init [zR 1] (cF2, cD2, 2, 37) (zmV (cF24, cD14, 13, 433)) := by
  refine zMet_of (plainFor_of_name (by decide)) (fun _ h => (nomatch h)) (Nat.le_of_ble_eq_true rfl) ?_
  have hz : zO l E (d) YX9_init 0 [(0, zR 1)] [] (cF2, cD2, 2, 37) zmV (some (cF24, cD14, 13, 433)) := by
    refine zO_aload_n dX9_init_0 rfl (zR_P _) ?_
    refine zO_objI dX9_init_1 wM_X9_3 (Nat.le_of_ble_eq_true rfl) ?_
    refine zO_aload_n dX9_init_4 rfl (zR_P _) ?_
    refine zO_bipush dX9_init_5 (by decide) ?_
    refine zO_newi (kd := 20) (z := 20) dX9_init_7 (by decide) (by decide) (by decide) ?_
    change zO l E (d) YX9_init 9 [(0, zR 1)] [zR 2, zR 1] (cF3, cD3, 3, 57) zmV (some (cF24, cD14, 13, 433))
    refine zO_putF (c := 9) (k := 0) (C := RX9) (z := ((2 : Nat) : Int)) dX9_init_9 wF_X9_9 rfl inX9 tyX9_ok nmX9 (by decide) (by decide) rfl rfl rfl (show (cF3 1).1 = 10 from by decide +kernel) (zq_nat 2).symm trivial ?_
    change zO l E (d) YX9_init 12 [(0, zR 1)] [] (cF4, cD3, 3, 57) zmV (some (cF24, cD14, 13, 433))
    refine zO_aload_n dX9_init_12 rfl (zR_P _) ?_
    refine zO_bipush dX9_init_13 (by decide) ?_
    refine zO_newi (kd := 20) (z := 20) dX9_init_15 (by decide) (by decide) (by decide) ?_
    change zO l E (d) YX9_init 17 [(0, zR 1)] [zR 3, zR 1] (cF5, cD4, 4, 77) zmV (some (cF24, cD14, 13, 433))
    refine zO_putF (c := 9) (k := 1) (C := RX9) (z := ((3 : Nat) : Int)) dX9_init_17 wF_X9_15 rfl inX9 tyX9_ok nmX9 (by decide) (by decide) rfl rfl rfl (show (cF5 1).1 = 10 from by decide +kernel) (zq_nat 3).symm trivial ?_
    change zO l E (d) YX9_init 20 [(0, zR 1)] [] (cF6, cD4, 4, 77) zmV (some (cF24, cD14, 13, 433))
    refine zO_aload_n dX9_init_20 rfl (zR_P _) ?_
    refine zO_bipush dX9_init_21 (by decide) ?_
    refine zO_newi (kd := 20) (z := 20) dX9_init_23 (by decide) (by decide) (by decide) ?_
    change zO l E (d) YX9_init 25 [(0, zR 1)] [zR 4, zR 1] (cF7, cD5, 5, 97) zmV (some (cF24, cD14, 13, 433))
    refine zO_putF (c := 9) (k := 2) (C := RX9) (z := ((4 : Nat) : Int)) dX9_init_25 wF_X9_18 rfl inX9 tyX9_ok nmX9 (by decide) (by decide) rfl rfl rfl (show (cF7 1).1 = 10 from by decide +kernel) (zq_nat 4).symm trivial ?_
    change zO l E (d) YX9_init 28 [(0, zR 1)] [] (cF8, cD5, 5, 97) zmV (some (cF24, cD14, 13, 433))
    refine zO_aload_n dX9_init_28 rfl (zR_P _) ?_
    refine zO_bipush dX9_init_29 (by decide) ?_
    refine zO_newi (kd := 20) (z := 20) dX9_init_31 (by decide) (by decide) (by decide) ?_
    change zO l E (d) YX9_init 33 [(0, zR 1)] [zR 5, zR 1] (cF9, cD6, 6, 117) zmV (some (cF24, cD14, 13, 433))
    refine zO_putF (c := 9) (k := 3) (C := RX9) (z := ((5 : Nat) : Int)) dX9_init_33 wF_X9_21 rfl inX9 tyX9_ok nmX9 (by decide) (by decide) rfl rfl rfl (show (cF9 1).1 = 10 from by decide +kernel) (zq_nat 5).symm trivial ?_
    change zO l E (d) YX9_init 36 [(0, zR 1)] [] (cF10, cD6, 6, 117) zmV (some (cF24, cD14, 13, 433))
    refine zO_aload_n dX9_init_36 rfl (zR_P _) ?_
    refine zO_bipush dX9_init_37 (by decide) ?_
    refine zO_newi (kd := 20) (z := 20) dX9_init_39 (by decide) (by decide) (by decide) ?_
    change zO l E (d) YX9_init 41 [(0, zR 1)] [zR 6, zR 1] (cF11, cD7, 7, 137) zmV (some (cF24, cD14, 13, 433))
    refine zO_putF (c := 9) (k := 4) (C := RX9) (z := ((6 : Nat) : Int)) dX9_init_41 wF_X9_24 rfl inX9 tyX9_ok nmX9 (by decide) (by decide) rfl rfl rfl (show (cF11 1).1 = 10 from by decide +kernel) (zq_nat 6).symm trivial ?_
    change zO l E (d) YX9_init 44 [(0, zR 1)] [] (cF12, cD7, 7, 137) zmV (some (cF24, cD14, 13, 433))
    refine zO_aload_n dX9_init_44 rfl (zR_P _) ?_
    refine zO_getsTF dX9_init_45 rfl ?_
    refine zO_cloneG dX9_init_48 wM_X9_30 (by decide) (Nat.le_of_ble_eq_true rfl) ?_
    change zO l E (d) YX9_init 51 [(0, zR 1)] [zR 7, zR 1] (cF13, cD8, 8, 144) zmV (some (cF24, cD14, 13, 433))
    refine zO_castI dX9_init_51 wL_X9_31 (show (cF13 7).1 = 20 from by decide +kernel) ?_
    refine zO_putF (c := 9) (k := 6) (C := RX9) (z := ((7 : Nat) : Int)) dX9_init_54 wF_X9_35 rfl inX9 tyX9_ok nmX9 (by decide) (by decide) rfl rfl rfl (show (cF13 1).1 = 10 from by decide +kernel) (zq_nat 7).symm trivial ?_
    change zO l E (d) YX9_init 57 [(0, zR 1)] [] (cF14, cD8, 8, 144) zmV (some (cF24, cD14, 13, 433))
    refine zO_aload_n dX9_init_57 rfl (zR_P _) ?_
    refine zO_bipush dX9_init_58 (by decide) ?_
    refine zO_newq (kd := 25) (z := 6) (C := "ExamSlips$Paper") dX9_init_60 wL_X9_38 (by decide) (by decide) (by decide) ?_
    change zO l E (d) YX9_init 63 [(0, zR 1)] [zR 8, zR 1] (cF15, cD9, 9, 150) zmV (some (cF24, cD14, 13, 433))
    refine zO_putF (c := 9) (k := 7) (C := RX9) (z := ((8 : Nat) : Int)) dX9_init_63 wF_X9_40 rfl inX9 tyX9_ok nmX9 (by decide) (by decide) rfl rfl rfl (show (cF15 1).1 = 10 from by decide +kernel) (zq_nat 8).symm trivial ?_
    change zO l E (d) YX9_init 66 [(0, zR 1)] [] (cF16, cD9, 9, 150) zmV (some (cF24, cD14, 13, 433))
    refine zO_aload_n dX9_init_66 rfl (zR_P _) ?_
    refine zO_iconst dX9_init_67 (by decide) ?_
    refine ptI9 (k := 9) (z := (-1)) dX9_init_68 wF_X9_44 (by decide) rfl (show (cF16 1).1 = 10 from by decide +kernel) rfl ?_
    change zO l E (d) YX9_init 71 [(0, zR 1)] [] (cF16, cD10, 9, 150) zmV (some (cF24, cD14, 13, 433))
    refine zO_aload_n dX9_init_71 rfl (zR_P _) ?_
    refine zO_bipush dX9_init_72 (by decide) ?_
    refine zO_newi (kd := 20) (z := 120) dX9_init_74 (by decide) (by decide) (by decide) ?_
    change zO l E (d) YX9_init 76 [(0, zR 1)] [zR 9, zR 1] (cF17, cD11, 10, 270) zmV (some (cF24, cD14, 13, 433))
    refine zO_putF (c := 9) (k := 10) (C := RX9) (z := ((9 : Nat) : Int)) dX9_init_76 wF_X9_48 rfl inX9 tyX9_ok nmX9 (by decide) (by decide) rfl rfl rfl (show (cF17 1).1 = 10 from by decide +kernel) (zq_nat 9).symm trivial ?_
    change zO l E (d) YX9_init 79 [(0, zR 1)] [] (cF18, cD11, 10, 270) zmV (some (cF24, cD14, 13, 433))
    refine zO_aload_n dX9_init_79 rfl (zR_P _) ?_
    refine zO_bipush dX9_init_80 (by decide) ?_
    refine zO_newi (kd := 20) (z := 120) dX9_init_82 (by decide) (by decide) (by decide) ?_
    change zO l E (d) YX9_init 84 [(0, zR 1)] [zR 10, zR 1] (cF19, cD12, 11, 390) zmV (some (cF24, cD14, 13, 433))
    refine zO_putF (c := 9) (k := 11) (C := RX9) (z := ((10 : Nat) : Int)) dX9_init_84 wF_X9_51 rfl inX9 tyX9_ok nmX9 (by decide) (by decide) rfl rfl rfl (show (cF19 1).1 = 10 from by decide +kernel) (zq_nat 10).symm trivial ?_
    change zO l E (d) YX9_init 87 [(0, zR 1)] [] (cF20, cD12, 11, 390) zmV (some (cF24, cD14, 13, 433))
    refine zO_aload_n dX9_init_87 rfl (zR_P _) ?_
    refine zO_iconst dX9_init_88 (by decide) ?_
    refine zO_newi (kd := 20) (z := 3) dX9_init_89 (by decide) (by decide) (by decide) ?_
    change zO l E (d) YX9_init 91 [(0, zR 1)] [zR 11, zR 1] (cF21, cD13, 12, 393) zmV (some (cF24, cD14, 13, 433))
    refine zO_putF (c := 9) (k := 13) (C := RX9) (z := ((11 : Nat) : Int)) dX9_init_91 wF_X9_54 rfl inX9 tyX9_ok nmX9 (by decide) (by decide) rfl rfl rfl (show (cF21 1).1 = 10 from by decide +kernel) (zq_nat 11).symm trivial ?_
    change zO l E (d) YX9_init 94 [(0, zR 1)] [] (cF22, cD13, 12, 393) zmV (some (cF24, cD14, 13, 433))
    refine zO_aload_n dX9_init_94 rfl (zR_P _) ?_
    refine zO_bipush dX9_init_95 (by decide) ?_
    refine zO_newi (kd := 20) (z := 40) dX9_init_97 (by decide) (by decide) (by decide) ?_
    change zO l E (d) YX9_init 99 [(0, zR 1)] [zR 12, zR 1] (cF23, cD14, 13, 433) zmV (some (cF24, cD14, 13, 433))
    refine zO_putF (c := 9) (k := 14) (C := RX9) (z := ((12 : Nat) : Int)) dX9_init_99 wF_X9_57 rfl inX9 tyX9_ok nmX9 (by decide) (by decide) rfl rfl rfl (show (cF23 1).1 = 10 from by decide +kernel) (zq_nat 12).symm trivial ?_
    change zO l E (d) YX9_init 102 [(0, zR 1)] [] (cF24, cD14, 13, 433) zmV (some (cF24, cD14, 13, 433))
    exact zO_ret (rv := none) dX9_init_102 rfl trivial rfl
  exact hz _ rfl
def cF25 : zFs := zfin cF24 0 0 ((1 : Nat) : Int)
def cF26 : zFs := znew cF25 13 (24, 2, fun _ => 0)
def cD15 : zDa := zrow cD14 13 (fun _ => -1)
def cF27 : zFs := znew cF26 14 (10, 0, zdf 9)
def cD16 : zDa := zrow cD15 14 (zdf 9)
def cF28 : zFs := znew cF27 15 (20, 20, fun _ => 0)
def cD17 : zDa := zrow cD16 15 (fun _ => 0)
def cF29 : zFs := zfin cF28 14 0 ((15 : Nat) : Int)
def cF30 : zFs := znew cF29 16 (20, 20, fun _ => 0)
def cD18 : zDa := zrow cD17 16 (fun _ => 0)
def cF31 : zFs := zfin cF30 14 1 ((16 : Nat) : Int)
def cF32 : zFs := znew cF31 17 (20, 20, fun _ => 0)
def cD19 : zDa := zrow cD18 17 (fun _ => 0)
def cF33 : zFs := zfin cF32 14 2 ((17 : Nat) : Int)
def cF34 : zFs := znew cF33 18 (20, 20, fun _ => 0)
def cD20 : zDa := zrow cD19 18 (fun _ => 0)
def cF35 : zFs := zfin cF34 14 3 ((18 : Nat) : Int)
def cF36 : zFs := znew cF35 19 (20, 20, fun _ => 0)
def cD21 : zDa := zrow cD20 19 (fun _ => 0)
def cF37 : zFs := zfin cF36 14 4 ((19 : Nat) : Int)
def cF38 : zFs := znew cF37 20 (20, 7, fun _ => 0)
def cD22 : zDa := zrow cD21 20 zTFf
def cF39 : zFs := zfin cF38 14 6 ((20 : Nat) : Int)
def cF40 : zFs := znew cF39 21 (25, 6, fun _ => 0)
def cD23 : zDa := zrow cD22 21 (fun _ => -1)
def cF41 : zFs := zfin cF40 14 7 ((21 : Nat) : Int)
def cD24 : zDa := zwr cD23 14 9 (-1)
def cF42 : zFs := znew cF41 22 (20, 120, fun _ => 0)
def cD25 : zDa := zrow cD24 22 (fun _ => 0)
def cF43 : zFs := zfin cF42 14 10 ((22 : Nat) : Int)
def cF44 : zFs := znew cF43 23 (20, 120, fun _ => 0)
def cD26 : zDa := zrow cD25 23 (fun _ => 0)
def cF45 : zFs := zfin cF44 14 11 ((23 : Nat) : Int)
def cF46 : zFs := znew cF45 24 (20, 3, fun _ => 0)
def cD27 : zDa := zrow cD26 24 (fun _ => 0)
def cF47 : zFs := zfin cF46 14 13 ((24 : Nat) : Int)
def cF48 : zFs := znew cF47 25 (20, 40, fun _ => 0)
def cD28 : zDa := zrow cD27 25 (fun _ => 0)
def cF49 : zFs := zfin cF48 14 14 ((25 : Nat) : Int)
theorem cn_X9_init_14 {l : Launch} {E : zE} {d : Nat} : zMet l E (d) YX9_init [zR 14] (cF27, cD16, 15, 453) (zmV (cF49, cD28, 26, 849)) := by
  refine zMet_of (plainFor_of_name (by decide)) (fun _ h => (nomatch h)) (Nat.le_of_ble_eq_true rfl) ?_
  have hz : zO l E (d) YX9_init 0 [(0, zR 14)] [] (cF27, cD16, 15, 453) zmV (some (cF49, cD28, 26, 849)) := by
    refine zO_aload_n dX9_init_0 rfl (zR_P _) ?_
    refine zO_objI dX9_init_1 wM_X9_3 (Nat.le_of_ble_eq_true rfl) ?_
    refine zO_aload_n dX9_init_4 rfl (zR_P _) ?_
    refine zO_bipush dX9_init_5 (by decide) ?_
    refine zO_newi (kd := 20) (z := 20) dX9_init_7 (by decide) (by decide) (by decide) ?_
    change zO l E (d) YX9_init 9 [(0, zR 14)] [zR 15, zR 14] (cF28, cD17, 16, 473) zmV (some (cF49, cD28, 26, 849))
    refine zO_putF (c := 9) (k := 0) (C := RX9) (z := ((15 : Nat) : Int)) dX9_init_9 wF_X9_9 rfl inX9 tyX9_ok nmX9 (by decide) (by decide) rfl rfl rfl (show (cF28 14).1 = 10 from by decide +kernel) (zq_nat 15).symm trivial ?_
    change zO l E (d) YX9_init 12 [(0, zR 14)] [] (cF29, cD17, 16, 473) zmV (some (cF49, cD28, 26, 849))
    refine zO_aload_n dX9_init_12 rfl (zR_P _) ?_
    refine zO_bipush dX9_init_13 (by decide) ?_
    refine zO_newi (kd := 20) (z := 20) dX9_init_15 (by decide) (by decide) (by decide) ?_
    change zO l E (d) YX9_init 17 [(0, zR 14)] [zR 16, zR 14] (cF30, cD18, 17, 493) zmV (some (cF49, cD28, 26, 849))
    refine zO_putF (c := 9) (k := 1) (C := RX9) (z := ((16 : Nat) : Int)) dX9_init_17 wF_X9_15 rfl inX9 tyX9_ok nmX9 (by decide) (by decide) rfl rfl rfl (show (cF30 14).1 = 10 from by decide +kernel) (zq_nat 16).symm trivial ?_
    change zO l E (d) YX9_init 20 [(0, zR 14)] [] (cF31, cD18, 17, 493) zmV (some (cF49, cD28, 26, 849))
    refine zO_aload_n dX9_init_20 rfl (zR_P _) ?_
    refine zO_bipush dX9_init_21 (by decide) ?_
    refine zO_newi (kd := 20) (z := 20) dX9_init_23 (by decide) (by decide) (by decide) ?_
    change zO l E (d) YX9_init 25 [(0, zR 14)] [zR 17, zR 14] (cF32, cD19, 18, 513) zmV (some (cF49, cD28, 26, 849))
    refine zO_putF (c := 9) (k := 2) (C := RX9) (z := ((17 : Nat) : Int)) dX9_init_25 wF_X9_18 rfl inX9 tyX9_ok nmX9 (by decide) (by decide) rfl rfl rfl (show (cF32 14).1 = 10 from by decide +kernel) (zq_nat 17).symm trivial ?_
    change zO l E (d) YX9_init 28 [(0, zR 14)] [] (cF33, cD19, 18, 513) zmV (some (cF49, cD28, 26, 849))
    refine zO_aload_n dX9_init_28 rfl (zR_P _) ?_
    refine zO_bipush dX9_init_29 (by decide) ?_
    refine zO_newi (kd := 20) (z := 20) dX9_init_31 (by decide) (by decide) (by decide) ?_
    change zO l E (d) YX9_init 33 [(0, zR 14)] [zR 18, zR 14] (cF34, cD20, 19, 533) zmV (some (cF49, cD28, 26, 849))
    refine zO_putF (c := 9) (k := 3) (C := RX9) (z := ((18 : Nat) : Int)) dX9_init_33 wF_X9_21 rfl inX9 tyX9_ok nmX9 (by decide) (by decide) rfl rfl rfl (show (cF34 14).1 = 10 from by decide +kernel) (zq_nat 18).symm trivial ?_
    change zO l E (d) YX9_init 36 [(0, zR 14)] [] (cF35, cD20, 19, 533) zmV (some (cF49, cD28, 26, 849))
    refine zO_aload_n dX9_init_36 rfl (zR_P _) ?_
    refine zO_bipush dX9_init_37 (by decide) ?_
    refine zO_newi (kd := 20) (z := 20) dX9_init_39 (by decide) (by decide) (by decide) ?_
    change zO l E (d) YX9_init 41 [(0, zR 14)] [zR 19, zR 14] (cF36, cD21, 20, 553) zmV (some (cF49, cD28, 26, 849))
    refine zO_putF (c := 9) (k := 4) (C := RX9) (z := ((19 : Nat) : Int)) dX9_init_41 wF_X9_24 rfl inX9 tyX9_ok nmX9 (by decide) (by decide) rfl rfl rfl (show (cF36 14).1 = 10 from by decide +kernel) (zq_nat 19).symm trivial ?_
    change zO l E (d) YX9_init 44 [(0, zR 14)] [] (cF37, cD21, 20, 553) zmV (some (cF49, cD28, 26, 849))
    refine zO_aload_n dX9_init_44 rfl (zR_P _) ?_
    refine zO_getsTF dX9_init_45 rfl ?_
    refine zO_cloneG dX9_init_48 wM_X9_30 (by decide) (Nat.le_of_ble_eq_true rfl) ?_
    change zO l E (d) YX9_init 51 [(0, zR 14)] [zR 20, zR 14] (cF38, cD22, 21, 560) zmV (some (cF49, cD28, 26, 849))
    refine zO_castI dX9_init_51 wL_X9_31 (show (cF38 20).1 = 20 from by decide +kernel) ?_
    refine zO_putF (c := 9) (k := 6) (C := RX9) (z := ((20 : Nat) : Int)) dX9_init_54 wF_X9_35 rfl inX9 tyX9_ok nmX9 (by decide) (by decide) rfl rfl rfl (show (cF38 14).1 = 10 from by decide +kernel) (zq_nat 20).symm trivial ?_
    change zO l E (d) YX9_init 57 [(0, zR 14)] [] (cF39, cD22, 21, 560) zmV (some (cF49, cD28, 26, 849))
    refine zO_aload_n dX9_init_57 rfl (zR_P _) ?_
    refine zO_bipush dX9_init_58 (by decide) ?_
    refine zO_newq (kd := 25) (z := 6) (C := "ExamSlips$Paper") dX9_init_60 wL_X9_38 (by decide) (by decide) (by decide) ?_
    change zO l E (d) YX9_init 63 [(0, zR 14)] [zR 21, zR 14] (cF40, cD23, 22, 566) zmV (some (cF49, cD28, 26, 849))
    refine zO_putF (c := 9) (k := 7) (C := RX9) (z := ((21 : Nat) : Int)) dX9_init_63 wF_X9_40 rfl inX9 tyX9_ok nmX9 (by decide) (by decide) rfl rfl rfl (show (cF40 14).1 = 10 from by decide +kernel) (zq_nat 21).symm trivial ?_
    change zO l E (d) YX9_init 66 [(0, zR 14)] [] (cF41, cD23, 22, 566) zmV (some (cF49, cD28, 26, 849))
    refine zO_aload_n dX9_init_66 rfl (zR_P _) ?_
    refine zO_iconst dX9_init_67 (by decide) ?_
    refine ptI9 (k := 9) (z := (-1)) dX9_init_68 wF_X9_44 (by decide) rfl (show (cF41 14).1 = 10 from by decide +kernel) rfl ?_
    change zO l E (d) YX9_init 71 [(0, zR 14)] [] (cF41, cD24, 22, 566) zmV (some (cF49, cD28, 26, 849))
    refine zO_aload_n dX9_init_71 rfl (zR_P _) ?_
    refine zO_bipush dX9_init_72 (by decide) ?_
    refine zO_newi (kd := 20) (z := 120) dX9_init_74 (by decide) (by decide) (by decide) ?_
    change zO l E (d) YX9_init 76 [(0, zR 14)] [zR 22, zR 14] (cF42, cD25, 23, 686) zmV (some (cF49, cD28, 26, 849))
    refine zO_putF (c := 9) (k := 10) (C := RX9) (z := ((22 : Nat) : Int)) dX9_init_76 wF_X9_48 rfl inX9 tyX9_ok nmX9 (by decide) (by decide) rfl rfl rfl (show (cF42 14).1 = 10 from by decide +kernel) (zq_nat 22).symm trivial ?_
    change zO l E (d) YX9_init 79 [(0, zR 14)] [] (cF43, cD25, 23, 686) zmV (some (cF49, cD28, 26, 849))
    refine zO_aload_n dX9_init_79 rfl (zR_P _) ?_
    refine zO_bipush dX9_init_80 (by decide) ?_
    refine zO_newi (kd := 20) (z := 120) dX9_init_82 (by decide) (by decide) (by decide) ?_
    change zO l E (d) YX9_init 84 [(0, zR 14)] [zR 23, zR 14] (cF44, cD26, 24, 806) zmV (some (cF49, cD28, 26, 849))
    refine zO_putF (c := 9) (k := 11) (C := RX9) (z := ((23 : Nat) : Int)) dX9_init_84 wF_X9_51 rfl inX9 tyX9_ok nmX9 (by decide) (by decide) rfl rfl rfl (show (cF44 14).1 = 10 from by decide +kernel) (zq_nat 23).symm trivial ?_
    change zO l E (d) YX9_init 87 [(0, zR 14)] [] (cF45, cD26, 24, 806) zmV (some (cF49, cD28, 26, 849))
    refine zO_aload_n dX9_init_87 rfl (zR_P _) ?_
    refine zO_iconst dX9_init_88 (by decide) ?_
    refine zO_newi (kd := 20) (z := 3) dX9_init_89 (by decide) (by decide) (by decide) ?_
    change zO l E (d) YX9_init 91 [(0, zR 14)] [zR 24, zR 14] (cF46, cD27, 25, 809) zmV (some (cF49, cD28, 26, 849))
    refine zO_putF (c := 9) (k := 13) (C := RX9) (z := ((24 : Nat) : Int)) dX9_init_91 wF_X9_54 rfl inX9 tyX9_ok nmX9 (by decide) (by decide) rfl rfl rfl (show (cF46 14).1 = 10 from by decide +kernel) (zq_nat 24).symm trivial ?_
    change zO l E (d) YX9_init 94 [(0, zR 14)] [] (cF47, cD27, 25, 809) zmV (some (cF49, cD28, 26, 849))
    refine zO_aload_n dX9_init_94 rfl (zR_P _) ?_
    refine zO_bipush dX9_init_95 (by decide) ?_
    refine zO_newi (kd := 20) (z := 40) dX9_init_97 (by decide) (by decide) (by decide) ?_
    change zO l E (d) YX9_init 99 [(0, zR 14)] [zR 25, zR 14] (cF48, cD28, 26, 849) zmV (some (cF49, cD28, 26, 849))
    refine zO_putF (c := 9) (k := 14) (C := RX9) (z := ((25 : Nat) : Int)) dX9_init_99 wF_X9_57 rfl inX9 tyX9_ok nmX9 (by decide) (by decide) rfl rfl rfl (show (cF48 14).1 = 10 from by decide +kernel) (zq_nat 25).symm trivial ?_
    change zO l E (d) YX9_init 102 [(0, zR 14)] [] (cF49, cD28, 26, 849) zmV (some (cF49, cD28, 26, 849))
    exact zO_ret (rv := none) dX9_init_102 rfl trivial rfl
  exact hz _ rfl
def cD29 : zDa := zwr cD28 13 0 ((14 : Nat) : Int)
def cF50 : zFs := znew cF49 26 (10, 0, zdf 9)
def cD30 : zDa := zrow cD29 26 (zdf 9)
def cF51 : zFs := znew cF50 27 (20, 20, fun _ => 0)
def cD31 : zDa := zrow cD30 27 (fun _ => 0)
def cF52 : zFs := zfin cF51 26 0 ((27 : Nat) : Int)
def cF53 : zFs := znew cF52 28 (20, 20, fun _ => 0)
def cD32 : zDa := zrow cD31 28 (fun _ => 0)
def cF54 : zFs := zfin cF53 26 1 ((28 : Nat) : Int)
def cF55 : zFs := znew cF54 29 (20, 20, fun _ => 0)
def cD33 : zDa := zrow cD32 29 (fun _ => 0)
def cF56 : zFs := zfin cF55 26 2 ((29 : Nat) : Int)
def cF57 : zFs := znew cF56 30 (20, 20, fun _ => 0)
def cD34 : zDa := zrow cD33 30 (fun _ => 0)
def cF58 : zFs := zfin cF57 26 3 ((30 : Nat) : Int)
def cF59 : zFs := znew cF58 31 (20, 20, fun _ => 0)
def cD35 : zDa := zrow cD34 31 (fun _ => 0)
def cF60 : zFs := zfin cF59 26 4 ((31 : Nat) : Int)
def cF61 : zFs := znew cF60 32 (20, 7, fun _ => 0)
def cD36 : zDa := zrow cD35 32 zTFf
def cF62 : zFs := zfin cF61 26 6 ((32 : Nat) : Int)
def cF63 : zFs := znew cF62 33 (25, 6, fun _ => 0)
def cD37 : zDa := zrow cD36 33 (fun _ => -1)
def cF64 : zFs := zfin cF63 26 7 ((33 : Nat) : Int)
def cD38 : zDa := zwr cD37 26 9 (-1)
def cF65 : zFs := znew cF64 34 (20, 120, fun _ => 0)
def cD39 : zDa := zrow cD38 34 (fun _ => 0)
def cF66 : zFs := zfin cF65 26 10 ((34 : Nat) : Int)
def cF67 : zFs := znew cF66 35 (20, 120, fun _ => 0)
def cD40 : zDa := zrow cD39 35 (fun _ => 0)
def cF68 : zFs := zfin cF67 26 11 ((35 : Nat) : Int)
def cF69 : zFs := znew cF68 36 (20, 3, fun _ => 0)
def cD41 : zDa := zrow cD40 36 (fun _ => 0)
def cF70 : zFs := zfin cF69 26 13 ((36 : Nat) : Int)
def cF71 : zFs := znew cF70 37 (20, 40, fun _ => 0)
def cD42 : zDa := zrow cD41 37 (fun _ => 0)
def cF72 : zFs := zfin cF71 26 14 ((37 : Nat) : Int)
theorem cn_X9_init_26 {l : Launch} {E : zE} {d : Nat} : zMet l E (d) YX9_init [zR 26] (cF50, cD30, 27, 867) (zmV (cF72, cD42, 38, 1263)) := by
  refine zMet_of (plainFor_of_name (by decide)) (fun _ h => (nomatch h)) (Nat.le_of_ble_eq_true rfl) ?_
  have hz : zO l E (d) YX9_init 0 [(0, zR 26)] [] (cF50, cD30, 27, 867) zmV (some (cF72, cD42, 38, 1263)) := by
    refine zO_aload_n dX9_init_0 rfl (zR_P _) ?_
    refine zO_objI dX9_init_1 wM_X9_3 (Nat.le_of_ble_eq_true rfl) ?_
    refine zO_aload_n dX9_init_4 rfl (zR_P _) ?_
    refine zO_bipush dX9_init_5 (by decide) ?_
    refine zO_newi (kd := 20) (z := 20) dX9_init_7 (by decide) (by decide) (by decide) ?_
    change zO l E (d) YX9_init 9 [(0, zR 26)] [zR 27, zR 26] (cF51, cD31, 28, 887) zmV (some (cF72, cD42, 38, 1263))
    refine zO_putF (c := 9) (k := 0) (C := RX9) (z := ((27 : Nat) : Int)) dX9_init_9 wF_X9_9 rfl inX9 tyX9_ok nmX9 (by decide) (by decide) rfl rfl rfl (show (cF51 26).1 = 10 from by decide +kernel) (zq_nat 27).symm trivial ?_
    change zO l E (d) YX9_init 12 [(0, zR 26)] [] (cF52, cD31, 28, 887) zmV (some (cF72, cD42, 38, 1263))
    refine zO_aload_n dX9_init_12 rfl (zR_P _) ?_
    refine zO_bipush dX9_init_13 (by decide) ?_
    refine zO_newi (kd := 20) (z := 20) dX9_init_15 (by decide) (by decide) (by decide) ?_
    change zO l E (d) YX9_init 17 [(0, zR 26)] [zR 28, zR 26] (cF53, cD32, 29, 907) zmV (some (cF72, cD42, 38, 1263))
    refine zO_putF (c := 9) (k := 1) (C := RX9) (z := ((28 : Nat) : Int)) dX9_init_17 wF_X9_15 rfl inX9 tyX9_ok nmX9 (by decide) (by decide) rfl rfl rfl (show (cF53 26).1 = 10 from by decide +kernel) (zq_nat 28).symm trivial ?_
    change zO l E (d) YX9_init 20 [(0, zR 26)] [] (cF54, cD32, 29, 907) zmV (some (cF72, cD42, 38, 1263))
    refine zO_aload_n dX9_init_20 rfl (zR_P _) ?_
    refine zO_bipush dX9_init_21 (by decide) ?_
    refine zO_newi (kd := 20) (z := 20) dX9_init_23 (by decide) (by decide) (by decide) ?_
    change zO l E (d) YX9_init 25 [(0, zR 26)] [zR 29, zR 26] (cF55, cD33, 30, 927) zmV (some (cF72, cD42, 38, 1263))
    refine zO_putF (c := 9) (k := 2) (C := RX9) (z := ((29 : Nat) : Int)) dX9_init_25 wF_X9_18 rfl inX9 tyX9_ok nmX9 (by decide) (by decide) rfl rfl rfl (show (cF55 26).1 = 10 from by decide +kernel) (zq_nat 29).symm trivial ?_
    change zO l E (d) YX9_init 28 [(0, zR 26)] [] (cF56, cD33, 30, 927) zmV (some (cF72, cD42, 38, 1263))
    refine zO_aload_n dX9_init_28 rfl (zR_P _) ?_
    refine zO_bipush dX9_init_29 (by decide) ?_
    refine zO_newi (kd := 20) (z := 20) dX9_init_31 (by decide) (by decide) (by decide) ?_
    change zO l E (d) YX9_init 33 [(0, zR 26)] [zR 30, zR 26] (cF57, cD34, 31, 947) zmV (some (cF72, cD42, 38, 1263))
    refine zO_putF (c := 9) (k := 3) (C := RX9) (z := ((30 : Nat) : Int)) dX9_init_33 wF_X9_21 rfl inX9 tyX9_ok nmX9 (by decide) (by decide) rfl rfl rfl (show (cF57 26).1 = 10 from by decide +kernel) (zq_nat 30).symm trivial ?_
    change zO l E (d) YX9_init 36 [(0, zR 26)] [] (cF58, cD34, 31, 947) zmV (some (cF72, cD42, 38, 1263))
    refine zO_aload_n dX9_init_36 rfl (zR_P _) ?_
    refine zO_bipush dX9_init_37 (by decide) ?_
    refine zO_newi (kd := 20) (z := 20) dX9_init_39 (by decide) (by decide) (by decide) ?_
    change zO l E (d) YX9_init 41 [(0, zR 26)] [zR 31, zR 26] (cF59, cD35, 32, 967) zmV (some (cF72, cD42, 38, 1263))
    refine zO_putF (c := 9) (k := 4) (C := RX9) (z := ((31 : Nat) : Int)) dX9_init_41 wF_X9_24 rfl inX9 tyX9_ok nmX9 (by decide) (by decide) rfl rfl rfl (show (cF59 26).1 = 10 from by decide +kernel) (zq_nat 31).symm trivial ?_
    change zO l E (d) YX9_init 44 [(0, zR 26)] [] (cF60, cD35, 32, 967) zmV (some (cF72, cD42, 38, 1263))
    refine zO_aload_n dX9_init_44 rfl (zR_P _) ?_
    refine zO_getsTF dX9_init_45 rfl ?_
    refine zO_cloneG dX9_init_48 wM_X9_30 (by decide) (Nat.le_of_ble_eq_true rfl) ?_
    change zO l E (d) YX9_init 51 [(0, zR 26)] [zR 32, zR 26] (cF61, cD36, 33, 974) zmV (some (cF72, cD42, 38, 1263))
    refine zO_castI dX9_init_51 wL_X9_31 (show (cF61 32).1 = 20 from by decide +kernel) ?_
    refine zO_putF (c := 9) (k := 6) (C := RX9) (z := ((32 : Nat) : Int)) dX9_init_54 wF_X9_35 rfl inX9 tyX9_ok nmX9 (by decide) (by decide) rfl rfl rfl (show (cF61 26).1 = 10 from by decide +kernel) (zq_nat 32).symm trivial ?_
    change zO l E (d) YX9_init 57 [(0, zR 26)] [] (cF62, cD36, 33, 974) zmV (some (cF72, cD42, 38, 1263))
    refine zO_aload_n dX9_init_57 rfl (zR_P _) ?_
    refine zO_bipush dX9_init_58 (by decide) ?_
    refine zO_newq (kd := 25) (z := 6) (C := "ExamSlips$Paper") dX9_init_60 wL_X9_38 (by decide) (by decide) (by decide) ?_
    change zO l E (d) YX9_init 63 [(0, zR 26)] [zR 33, zR 26] (cF63, cD37, 34, 980) zmV (some (cF72, cD42, 38, 1263))
    refine zO_putF (c := 9) (k := 7) (C := RX9) (z := ((33 : Nat) : Int)) dX9_init_63 wF_X9_40 rfl inX9 tyX9_ok nmX9 (by decide) (by decide) rfl rfl rfl (show (cF63 26).1 = 10 from by decide +kernel) (zq_nat 33).symm trivial ?_
    change zO l E (d) YX9_init 66 [(0, zR 26)] [] (cF64, cD37, 34, 980) zmV (some (cF72, cD42, 38, 1263))
    refine zO_aload_n dX9_init_66 rfl (zR_P _) ?_
    refine zO_iconst dX9_init_67 (by decide) ?_
    refine ptI9 (k := 9) (z := (-1)) dX9_init_68 wF_X9_44 (by decide) rfl (show (cF64 26).1 = 10 from by decide +kernel) rfl ?_
    change zO l E (d) YX9_init 71 [(0, zR 26)] [] (cF64, cD38, 34, 980) zmV (some (cF72, cD42, 38, 1263))
    refine zO_aload_n dX9_init_71 rfl (zR_P _) ?_
    refine zO_bipush dX9_init_72 (by decide) ?_
    refine zO_newi (kd := 20) (z := 120) dX9_init_74 (by decide) (by decide) (by decide) ?_
    change zO l E (d) YX9_init 76 [(0, zR 26)] [zR 34, zR 26] (cF65, cD39, 35, 1100) zmV (some (cF72, cD42, 38, 1263))
    refine zO_putF (c := 9) (k := 10) (C := RX9) (z := ((34 : Nat) : Int)) dX9_init_76 wF_X9_48 rfl inX9 tyX9_ok nmX9 (by decide) (by decide) rfl rfl rfl (show (cF65 26).1 = 10 from by decide +kernel) (zq_nat 34).symm trivial ?_
    change zO l E (d) YX9_init 79 [(0, zR 26)] [] (cF66, cD39, 35, 1100) zmV (some (cF72, cD42, 38, 1263))
    refine zO_aload_n dX9_init_79 rfl (zR_P _) ?_
    refine zO_bipush dX9_init_80 (by decide) ?_
    refine zO_newi (kd := 20) (z := 120) dX9_init_82 (by decide) (by decide) (by decide) ?_
    change zO l E (d) YX9_init 84 [(0, zR 26)] [zR 35, zR 26] (cF67, cD40, 36, 1220) zmV (some (cF72, cD42, 38, 1263))
    refine zO_putF (c := 9) (k := 11) (C := RX9) (z := ((35 : Nat) : Int)) dX9_init_84 wF_X9_51 rfl inX9 tyX9_ok nmX9 (by decide) (by decide) rfl rfl rfl (show (cF67 26).1 = 10 from by decide +kernel) (zq_nat 35).symm trivial ?_
    change zO l E (d) YX9_init 87 [(0, zR 26)] [] (cF68, cD40, 36, 1220) zmV (some (cF72, cD42, 38, 1263))
    refine zO_aload_n dX9_init_87 rfl (zR_P _) ?_
    refine zO_iconst dX9_init_88 (by decide) ?_
    refine zO_newi (kd := 20) (z := 3) dX9_init_89 (by decide) (by decide) (by decide) ?_
    change zO l E (d) YX9_init 91 [(0, zR 26)] [zR 36, zR 26] (cF69, cD41, 37, 1223) zmV (some (cF72, cD42, 38, 1263))
    refine zO_putF (c := 9) (k := 13) (C := RX9) (z := ((36 : Nat) : Int)) dX9_init_91 wF_X9_54 rfl inX9 tyX9_ok nmX9 (by decide) (by decide) rfl rfl rfl (show (cF69 26).1 = 10 from by decide +kernel) (zq_nat 36).symm trivial ?_
    change zO l E (d) YX9_init 94 [(0, zR 26)] [] (cF70, cD41, 37, 1223) zmV (some (cF72, cD42, 38, 1263))
    refine zO_aload_n dX9_init_94 rfl (zR_P _) ?_
    refine zO_bipush dX9_init_95 (by decide) ?_
    refine zO_newi (kd := 20) (z := 40) dX9_init_97 (by decide) (by decide) (by decide) ?_
    change zO l E (d) YX9_init 99 [(0, zR 26)] [zR 37, zR 26] (cF71, cD42, 38, 1263) zmV (some (cF72, cD42, 38, 1263))
    refine zO_putF (c := 9) (k := 14) (C := RX9) (z := ((37 : Nat) : Int)) dX9_init_99 wF_X9_57 rfl inX9 tyX9_ok nmX9 (by decide) (by decide) rfl rfl rfl (show (cF71 26).1 = 10 from by decide +kernel) (zq_nat 37).symm trivial ?_
    change zO l E (d) YX9_init 102 [(0, zR 26)] [] (cF72, cD42, 38, 1263) zmV (some (cF72, cD42, 38, 1263))
    exact zO_ret (rv := none) dX9_init_102 rfl trivial rfl
  exact hz _ rfl
def cD43 : zDa := zwr cD42 13 1 ((26 : Nat) : Int)
def cF73 : zFs := zfin cF72 0 1 ((13 : Nat) : Int)
def cF74 : zFs := znew cF73 38 (23, 2, fun _ => 0)
def cD44 : zDa := zrow cD43 38 (fun _ => 0)
def cF75 : zFs := zfin cF74 0 2 ((38 : Nat) : Int)
def cF76 : zFs := znew cF75 39 (20, 400, fun _ => 0)
def cD45 : zDa := zrow cD44 39 (fun _ => 0)
def cF77 : zFs := zfin cF76 0 3 ((39 : Nat) : Int)
def cD46 : zDa := zwr cD45 0 5 (-1)
def cF78 : zFs := znew cF77 40 (20, 3, fun _ => 0)
def cD47 : zDa := zrow cD46 40 (fun _ => 0)
def cD48 : zDa := zwr cD47 40 0 (-1)
def cD49 : zDa := zwr cD48 40 1 (-1)
def cD50 : zDa := zwr cD49 40 2 (-1)
def cF79 : zFs := zfin cF78 0 7 ((40 : Nat) : Int)
def cF80 : zFs := znew cF79 41 (20, 7, fun _ => 0)
def cD51 : zDa := zrow cD50 41 (fun _ => 0)
def cF81 : zFs := zfin cF80 0 8 ((41 : Nat) : Int)
def cD52 : zDa := zwr cD51 0 9 0
def cF82 : zFs := znew cF81 42 (7, 0, zdf 6)
def cD53 : zDa := zrow cD52 42 (zdf 6)
def cF83 : zFs := znew cF82 43 (20, 401, fun _ => 0)
def cD54 : zDa := zrow cD53 43 (fun _ => 0)
def cF84 : zFs := zfin cF83 42 0 ((43 : Nat) : Int)
def cF85 : zFs := znew cF84 44 (20, 401, fun _ => 0)
def cD55 : zDa := zrow cD54 44 (fun _ => 0)
def cF86 : zFs := zfin cF85 42 1 ((44 : Nat) : Int)
def cF87 : zFs := znew cF86 45 (20, 401, fun _ => 0)
def cD56 : zDa := zrow cD55 45 (fun _ => 0)
def cF88 : zFs := zfin cF87 42 2 ((45 : Nat) : Int)
def cF89 : zFs := znew cF88 46 (20, 12, fun _ => 0)
def cD57 : zDa := zrow cD56 46 (fun _ => 0)
def cF90 : zFs := zfin cF89 42 6 ((46 : Nat) : Int)
def cF91 : zFs := znew cF90 47 (20, 13, fun _ => 0)
def cD58 : zDa := zrow cD57 47 (fun _ => 0)
def cF92 : zFs := zfin cF91 42 7 ((47 : Nat) : Int)
def cF93 : zFs := znew cF92 48 (20, 412, fun _ => 0)
def cD59 : zDa := zrow cD58 48 (fun _ => 0)
def cF94 : zFs := zfin cF93 42 8 ((48 : Nat) : Int)
def cD60 : zDa := zwr cD59 42 10 (-1)
theorem cn_X6_init_42 {l : Launch} {E : zE} {d : Nat} : zMet l E (d) YX6_init [zR 42] (cF82, cD53, 43, 1686) (zmV (cF94, cD60, 49, 3326)) := by
  refine zMet_of (plainFor_of_name (by decide)) (fun _ h => (nomatch h)) (Nat.le_of_ble_eq_true rfl) ?_
  have hz : zO l E (d) YX6_init 0 [(0, zR 42)] [] (cF82, cD53, 43, 1686) zmV (some (cF94, cD60, 49, 3326)) := by
    refine zO_aload_n dX6_init_0 rfl (zR_P _) ?_
    refine zO_objI dX6_init_1 wM_X6_3 (Nat.le_of_ble_eq_true rfl) ?_
    refine zO_aload_n dX6_init_4 rfl (zR_P _) ?_
    refine zO_sipush dX6_init_5 (by decide) ?_
    refine zO_newi (kd := 20) (z := 401) dX6_init_8 (by decide) (by decide) (by decide) ?_
    change zO l E (d) YX6_init 10 [(0, zR 42)] [zR 43, zR 42] (cF83, cD54, 44, 2087) zmV (some (cF94, cD60, 49, 3326))
    refine zO_putF (c := 6) (k := 0) (C := RX6) (z := ((43 : Nat) : Int)) dX6_init_10 wF_X6_9 rfl inX6 tyX6_ok nmX6 (by decide) (by decide) rfl rfl rfl (show (cF83 42).1 = 7 from by decide +kernel) (zq_nat 43).symm trivial ?_
    change zO l E (d) YX6_init 13 [(0, zR 42)] [] (cF84, cD54, 44, 2087) zmV (some (cF94, cD60, 49, 3326))
    refine zO_aload_n dX6_init_13 rfl (zR_P _) ?_
    refine zO_sipush dX6_init_14 (by decide) ?_
    refine zO_newi (kd := 20) (z := 401) dX6_init_17 (by decide) (by decide) (by decide) ?_
    change zO l E (d) YX6_init 19 [(0, zR 42)] [zR 44, zR 42] (cF85, cD55, 45, 2488) zmV (some (cF94, cD60, 49, 3326))
    refine zO_putF (c := 6) (k := 1) (C := RX6) (z := ((44 : Nat) : Int)) dX6_init_19 wF_X6_15 rfl inX6 tyX6_ok nmX6 (by decide) (by decide) rfl rfl rfl (show (cF85 42).1 = 7 from by decide +kernel) (zq_nat 44).symm trivial ?_
    change zO l E (d) YX6_init 22 [(0, zR 42)] [] (cF86, cD55, 45, 2488) zmV (some (cF94, cD60, 49, 3326))
    refine zO_aload_n dX6_init_22 rfl (zR_P _) ?_
    refine zO_sipush dX6_init_23 (by decide) ?_
    refine zO_newi (kd := 20) (z := 401) dX6_init_26 (by decide) (by decide) (by decide) ?_
    change zO l E (d) YX6_init 28 [(0, zR 42)] [zR 45, zR 42] (cF87, cD56, 46, 2889) zmV (some (cF94, cD60, 49, 3326))
    refine zO_putF (c := 6) (k := 2) (C := RX6) (z := ((45 : Nat) : Int)) dX6_init_28 wF_X6_18 rfl inX6 tyX6_ok nmX6 (by decide) (by decide) rfl rfl rfl (show (cF87 42).1 = 7 from by decide +kernel) (zq_nat 45).symm trivial ?_
    change zO l E (d) YX6_init 31 [(0, zR 42)] [] (cF88, cD56, 46, 2889) zmV (some (cF94, cD60, 49, 3326))
    refine zO_aload_n dX6_init_31 rfl (zR_P _) ?_
    refine zO_bipush dX6_init_32 (by decide) ?_
    refine zO_newi (kd := 20) (z := 12) dX6_init_34 (by decide) (by decide) (by decide) ?_
    change zO l E (d) YX6_init 36 [(0, zR 42)] [zR 46, zR 42] (cF89, cD57, 47, 2901) zmV (some (cF94, cD60, 49, 3326))
    refine zO_putF (c := 6) (k := 6) (C := RX6) (z := ((46 : Nat) : Int)) dX6_init_36 wF_X6_23 rfl inX6 tyX6_ok nmX6 (by decide) (by decide) rfl rfl rfl (show (cF89 42).1 = 7 from by decide +kernel) (zq_nat 46).symm trivial ?_
    change zO l E (d) YX6_init 39 [(0, zR 42)] [] (cF90, cD57, 47, 2901) zmV (some (cF94, cD60, 49, 3326))
    refine zO_aload_n dX6_init_39 rfl (zR_P _) ?_
    refine zO_bipush dX6_init_40 (by decide) ?_
    refine zO_newi (kd := 20) (z := 13) dX6_init_42 (by decide) (by decide) (by decide) ?_
    change zO l E (d) YX6_init 44 [(0, zR 42)] [zR 47, zR 42] (cF91, cD58, 48, 2914) zmV (some (cF94, cD60, 49, 3326))
    refine zO_putF (c := 6) (k := 7) (C := RX6) (z := ((47 : Nat) : Int)) dX6_init_44 wF_X6_26 rfl inX6 tyX6_ok nmX6 (by decide) (by decide) rfl rfl rfl (show (cF91 42).1 = 7 from by decide +kernel) (zq_nat 47).symm trivial ?_
    change zO l E (d) YX6_init 47 [(0, zR 42)] [] (cF92, cD58, 48, 2914) zmV (some (cF94, cD60, 49, 3326))
    refine zO_aload_n dX6_init_47 rfl (zR_P _) ?_
    refine zO_sipush dX6_init_48 (by decide) ?_
    refine zO_newi (kd := 20) (z := 412) dX6_init_51 (by decide) (by decide) (by decide) ?_
    change zO l E (d) YX6_init 53 [(0, zR 42)] [zR 48, zR 42] (cF93, cD59, 49, 3326) zmV (some (cF94, cD60, 49, 3326))
    refine zO_putF (c := 6) (k := 8) (C := RX6) (z := ((48 : Nat) : Int)) dX6_init_53 wF_X6_29 rfl inX6 tyX6_ok nmX6 (by decide) (by decide) rfl rfl rfl (show (cF93 42).1 = 7 from by decide +kernel) (zq_nat 48).symm trivial ?_
    change zO l E (d) YX6_init 56 [(0, zR 42)] [] (cF94, cD59, 49, 3326) zmV (some (cF94, cD60, 49, 3326))
    refine zO_aload_n dX6_init_56 rfl (zR_P _) ?_
    refine zO_iconst dX6_init_57 (by decide) ?_
    refine ptI6 (k := 10) (z := (-1)) dX6_init_58 wF_X6_32 (by decide) rfl (show (cF94 42).1 = 7 from by decide +kernel) rfl ?_
    change zO l E (d) YX6_init 61 [(0, zR 42)] [] (cF94, cD60, 49, 3326) zmV (some (cF94, cD60, 49, 3326))
    exact zO_ret (rv := none) dX6_init_61 rfl trivial rfl
  exact hz _ rfl
def cF95 : zFs := zfin cF94 0 10 ((42 : Nat) : Int)
def cF96 : zFs := znew cF95 49 (11, 0, zdf 10)
def cD61 : zDa := zrow cD60 49 (zdf 10)
def cF97 : zFs := znew cF96 50 (20, 7, fun _ => 0)
def cD62 : zDa := zrow cD61 50 (fun _ => 0)
def cF98 : zFs := zfin cF97 49 1 ((50 : Nat) : Int)
def cF99 : zFs := znew cF98 51 (21, 52, fun _ => 0)
def cD63 : zDa := zrow cD62 51 (fun _ => 0)
def cF100 : zFs := zfin cF99 49 2 ((51 : Nat) : Int)
def cF101 : zFs := zfin cF100 49 0 ((1 : Nat) : Int)
theorem cn_X10_init_49 {l : Launch} {E : zE} {d : Nat} : zMet l E (d) YX10_init [zR 49, zR 1] (cF96, cD61, 50, 3330) (zmV (cF101, cD63, 52, 3389)) := by
  refine zMet_of (plainFor_of_name (by decide)) (fun _ h => (nomatch h)) (Nat.le_of_ble_eq_true rfl) ?_
  have hz : zO l E (d) YX10_init 0 [(0, zR 49), (1, zR 1)] [] (cF96, cD61, 50, 3330) zmV (some (cF101, cD63, 52, 3389)) := by
    refine zO_aload_n dX10_init_0 rfl (zR_P _) ?_
    refine zO_objI dX10_init_1 wM_X10_3 (Nat.le_of_ble_eq_true rfl) ?_
    refine zO_aload_n dX10_init_4 rfl (zR_P _) ?_
    refine zO_bipush dX10_init_5 (by decide) ?_
    refine zO_newi (kd := 20) (z := 7) dX10_init_7 (by decide) (by decide) (by decide) ?_
    change zO l E (d) YX10_init 9 [(0, zR 49), (1, zR 1)] [zR 50, zR 49] (cF97, cD62, 51, 3337) zmV (some (cF101, cD63, 52, 3389))
    refine zO_putF (c := 10) (k := 1) (C := RX10) (z := ((50 : Nat) : Int)) dX10_init_9 wF_X10_11 rfl inX10 tyX10_ok nmX10 (by decide) (by decide) rfl rfl rfl (show (cF97 49).1 = 11 from by decide +kernel) (zq_nat 50).symm trivial ?_
    change zO l E (d) YX10_init 12 [(0, zR 49), (1, zR 1)] [] (cF98, cD62, 51, 3337) zmV (some (cF101, cD63, 52, 3389))
    refine zO_aload_n dX10_init_12 rfl (zR_P _) ?_
    refine zO_bipush dX10_init_13 (by decide) ?_
    refine zO_newi (kd := 21) (z := 52) dX10_init_15 (by decide) (by decide) (by decide) ?_
    change zO l E (d) YX10_init 17 [(0, zR 49), (1, zR 1)] [zR 51, zR 49] (cF99, cD63, 52, 3389) zmV (some (cF101, cD63, 52, 3389))
    refine zO_putF (c := 10) (k := 2) (C := RX10) (z := ((51 : Nat) : Int)) dX10_init_17 wF_X10_17 rfl inX10 tyX10_ok nmX10 (by decide) (by decide) rfl rfl rfl (show (cF99 49).1 = 11 from by decide +kernel) (zq_nat 51).symm trivial ?_
    change zO l E (d) YX10_init 20 [(0, zR 49), (1, zR 1)] [] (cF100, cD63, 52, 3389) zmV (some (cF101, cD63, 52, 3389))
    refine zO_aload_n dX10_init_20 rfl (zR_P _) ?_
    refine zO_aload_n dX10_init_21 rfl (zR_P _) ?_
    refine zO_putF (c := 10) (k := 0) (C := RX10) (z := ((1 : Nat) : Int)) dX10_init_22 wF_X10_21 rfl inX10 tyX10_ok nmX10 (by decide) (by decide) rfl rfl rfl (show (cF100 49).1 = 11 from by decide +kernel) (zq_nat 1).symm trivial ?_
    change zO l E (d) YX10_init 25 [(0, zR 49), (1, zR 1)] [] (cF101, cD63, 52, 3389) zmV (some (cF101, cD63, 52, 3389))
    exact zO_ret (rv := none) dX10_init_25 rfl trivial rfl
  exact hz _ rfl
def cF102 : zFs := zfin cF101 0 11 ((49 : Nat) : Int)
def cF103 : zFs := znew cF102 52 (3, 0, zdf 2)
def cD64 : zDa := zrow cD63 52 (zdf 2)
def cF104 : zFs := znew cF103 53 (20, 441, fun _ => 0)
def cD65 : zDa := zrow cD64 53 (fun _ => 0)
def cF105 : zFs := zfin cF104 52 0 ((53 : Nat) : Int)
def cF106 : zFs := znew cF105 54 (20, 3, fun _ => 0)
def cD66 : zDa := zrow cD65 54 (fun _ => 0)
def cF107 : zFs := zfin cF106 52 1 ((54 : Nat) : Int)
def cF108 : zFs := znew cF107 55 (20, 3, fun _ => 0)
def cD67 : zDa := zrow cD66 55 (fun _ => 0)
def cF109 : zFs := zfin cF108 52 2 ((55 : Nat) : Int)
def cF110 : zFs := znew cF109 56 (20, 3, fun _ => 0)
def cD68 : zDa := zrow cD67 56 (fun _ => 0)
def cF111 : zFs := zfin cF110 52 3 ((56 : Nat) : Int)
def cF112 : zFs := znew cF111 57 (20, 3, fun _ => 0)
def cD69 : zDa := zrow cD68 57 (fun _ => 0)
def cF113 : zFs := zfin cF112 52 4 ((57 : Nat) : Int)
def cF114 : zFs := znew cF113 58 (21, 4, fun _ => 0)
def cD70 : zDa := zrow cD69 58 (fun _ => 0)
def cF115 : zFs := zfin cF114 52 5 ((58 : Nat) : Int)
def cF116 : zFs := znew cF115 59 (21, 4, fun _ => 0)
def cD71 : zDa := zrow cD70 59 (fun _ => 0)
def cF117 : zFs := zfin cF116 52 6 ((59 : Nat) : Int)
def cD72 : zDa := zwr cD71 52 7 1
def cD73 : zDa := zrow cD72 53 cLotT
theorem cn_X2_init_52 {l : Launch} {E : zE} {d : Nat} : zMet l E (d) YX2_init [zR 52] (cF103, cD64, 53, 3397) (zmV (cF117, cD73, 60, 3858)) := by
  refine zMet_of (plainFor_of_name (by decide)) (fun _ h => (nomatch h)) (Nat.le_of_ble_eq_true rfl) ?_
  have hz : zO l E (d) YX2_init 0 [(0, zR 52)] [] (cF103, cD64, 53, 3397) zmV (some (cF117, cD73, 60, 3858)) := by
    refine zO_aload_n dX2_init_0 rfl (zR_P _) ?_
    refine zO_objI dX2_init_1 wM_X2_3 (Nat.le_of_ble_eq_true rfl) ?_
    refine zO_aload_n dX2_init_4 rfl (zR_P _) ?_
    refine zO_sipush dX2_init_5 (by decide) ?_
    refine zO_newi (kd := 20) (z := 441) dX2_init_8 (by decide) (by decide) (by decide) ?_
    change zO l E (d) YX2_init 10 [(0, zR 52)] [zR 53, zR 52] (cF104, cD65, 54, 3838) zmV (some (cF117, cD73, 60, 3858))
    refine zO_putF (c := 2) (k := 0) (C := RX2) (z := ((53 : Nat) : Int)) dX2_init_10 wF_X2_11 rfl inX2 tyX2_ok nmX2 (by decide) (by decide) rfl rfl rfl (show (cF104 52).1 = 3 from by decide +kernel) (zq_nat 53).symm trivial ?_
    change zO l E (d) YX2_init 13 [(0, zR 52)] [] (cF105, cD65, 54, 3838) zmV (some (cF117, cD73, 60, 3858))
    refine zO_aload_n dX2_init_13 rfl (zR_P _) ?_
    refine zO_iconst dX2_init_14 (by decide) ?_
    refine zO_newi (kd := 20) (z := 3) dX2_init_15 (by decide) (by decide) (by decide) ?_
    change zO l E (d) YX2_init 17 [(0, zR 52)] [zR 54, zR 52] (cF106, cD66, 55, 3841) zmV (some (cF117, cD73, 60, 3858))
    refine zO_putF (c := 2) (k := 1) (C := RX2) (z := ((54 : Nat) : Int)) dX2_init_17 wF_X2_15 rfl inX2 tyX2_ok nmX2 (by decide) (by decide) rfl rfl rfl (show (cF106 52).1 = 3 from by decide +kernel) (zq_nat 54).symm trivial ?_
    change zO l E (d) YX2_init 20 [(0, zR 52)] [] (cF107, cD66, 55, 3841) zmV (some (cF117, cD73, 60, 3858))
    refine zO_aload_n dX2_init_20 rfl (zR_P _) ?_
    refine zO_iconst dX2_init_21 (by decide) ?_
    refine zO_newi (kd := 20) (z := 3) dX2_init_22 (by decide) (by decide) (by decide) ?_
    change zO l E (d) YX2_init 24 [(0, zR 52)] [zR 55, zR 52] (cF108, cD67, 56, 3844) zmV (some (cF117, cD73, 60, 3858))
    refine zO_putF (c := 2) (k := 2) (C := RX2) (z := ((55 : Nat) : Int)) dX2_init_24 wF_X2_18 rfl inX2 tyX2_ok nmX2 (by decide) (by decide) rfl rfl rfl (show (cF108 52).1 = 3 from by decide +kernel) (zq_nat 55).symm trivial ?_
    change zO l E (d) YX2_init 27 [(0, zR 52)] [] (cF109, cD67, 56, 3844) zmV (some (cF117, cD73, 60, 3858))
    refine zO_aload_n dX2_init_27 rfl (zR_P _) ?_
    refine zO_iconst dX2_init_28 (by decide) ?_
    refine zO_newi (kd := 20) (z := 3) dX2_init_29 (by decide) (by decide) (by decide) ?_
    change zO l E (d) YX2_init 31 [(0, zR 52)] [zR 56, zR 52] (cF110, cD68, 57, 3847) zmV (some (cF117, cD73, 60, 3858))
    refine zO_putF (c := 2) (k := 3) (C := RX2) (z := ((56 : Nat) : Int)) dX2_init_31 wF_X2_21 rfl inX2 tyX2_ok nmX2 (by decide) (by decide) rfl rfl rfl (show (cF110 52).1 = 3 from by decide +kernel) (zq_nat 56).symm trivial ?_
    change zO l E (d) YX2_init 34 [(0, zR 52)] [] (cF111, cD68, 57, 3847) zmV (some (cF117, cD73, 60, 3858))
    refine zO_aload_n dX2_init_34 rfl (zR_P _) ?_
    refine zO_iconst dX2_init_35 (by decide) ?_
    refine zO_newi (kd := 20) (z := 3) dX2_init_36 (by decide) (by decide) (by decide) ?_
    change zO l E (d) YX2_init 38 [(0, zR 52)] [zR 57, zR 52] (cF112, cD69, 58, 3850) zmV (some (cF117, cD73, 60, 3858))
    refine zO_putF (c := 2) (k := 4) (C := RX2) (z := ((57 : Nat) : Int)) dX2_init_38 wF_X2_24 rfl inX2 tyX2_ok nmX2 (by decide) (by decide) rfl rfl rfl (show (cF112 52).1 = 3 from by decide +kernel) (zq_nat 57).symm trivial ?_
    change zO l E (d) YX2_init 41 [(0, zR 52)] [] (cF113, cD69, 58, 3850) zmV (some (cF117, cD73, 60, 3858))
    refine zO_aload_n dX2_init_41 rfl (zR_P _) ?_
    refine zO_iconst dX2_init_42 (by decide) ?_
    refine zO_newi (kd := 21) (z := 4) dX2_init_43 (by decide) (by decide) (by decide) ?_
    change zO l E (d) YX2_init 45 [(0, zR 52)] [zR 58, zR 52] (cF114, cD70, 59, 3854) zmV (some (cF117, cD73, 60, 3858))
    refine zO_putF (c := 2) (k := 5) (C := RX2) (z := ((58 : Nat) : Int)) dX2_init_45 wF_X2_27 rfl inX2 tyX2_ok nmX2 (by decide) (by decide) rfl rfl rfl (show (cF114 52).1 = 3 from by decide +kernel) (zq_nat 58).symm trivial ?_
    change zO l E (d) YX2_init 48 [(0, zR 52)] [] (cF115, cD70, 59, 3854) zmV (some (cF117, cD73, 60, 3858))
    refine zO_aload_n dX2_init_48 rfl (zR_P _) ?_
    refine zO_iconst dX2_init_49 (by decide) ?_
    refine zO_newi (kd := 21) (z := 4) dX2_init_50 (by decide) (by decide) (by decide) ?_
    change zO l E (d) YX2_init 52 [(0, zR 52)] [zR 59, zR 52] (cF116, cD71, 60, 3858) zmV (some (cF117, cD73, 60, 3858))
    refine zO_putF (c := 2) (k := 6) (C := RX2) (z := ((59 : Nat) : Int)) dX2_init_52 wF_X2_31 rfl inX2 tyX2_ok nmX2 (by decide) (by decide) rfl rfl rfl (show (cF116 52).1 = 3 from by decide +kernel) (zq_nat 59).symm trivial ?_
    change zO l E (d) YX2_init 55 [(0, zR 52)] [] (cF117, cD71, 60, 3858) zmV (some (cF117, cD73, 60, 3858))
    refine zO_aload_n dX2_init_55 rfl (zR_P _) ?_
    refine zO_lconst dX2_init_56 ?_
    change zO l E (d) YX2_init 57 [(0, zR 52)] [zL 1, zR 52] (cF117, cD71, 60, 3858) zmV (some (cF117, cD73, 60, 3858))
    refine ptJ2 (k := 7) (z := 1) dX2_init_57 wF_X2_34 (by decide) rfl (show (cF117 52).1 = 3 from by decide +kernel) rfl ?_
    change zO l E (d) YX2_init 60 [(0, zR 52)] [] (cF117, cD72, 60, 3858) zmV (some (cF117, cD73, 60, 3858))
    refine zO_iconst dX2_init_60 (by decide) ?_
    refine cnLot (l := l) (E := E) (a := 52) (b := 53) (F := cF117) (D := cD72) (by decide +kernel) (by decide +kernel) (by decide +kernel) (by decide +kernel) rfl ?_
    intro v1 v2
    change zO l E (d) YX2_init 137 _ [] (cF117, cD73, 60, 3858) zmV (some (cF117, cD73, 60, 3858))
    exact zO_ret (rv := none) dX2_init_137 rfl trivial rfl
  exact hz _ rfl
def cF118 : zFs := zfin cF117 0 12 ((52 : Nat) : Int)
def cF119 : zFs := znew cF118 60 (5, 0, zdf 4)
def cD74 : zDa := zrow cD73 60 (zdf 4)
def cD75 : zDa := zwr cD74 60 3 (-1)
def cD76 : zDa := zwr cD75 60 4 (-1)
def cF120 : zFs := znew cF119 61 (20, 20, fun _ => 0)
def cD77 : zDa := zrow cD76 61 (fun _ => 0)
def cF121 : zFs := zfin cF120 60 6 ((61 : Nat) : Int)
def cF122 : zFs := znew cF121 62 (20, 120, fun _ => 0)
def cD78 : zDa := zrow cD77 62 (fun _ => 0)
def cF123 : zFs := zfin cF122 60 7 ((62 : Nat) : Int)
def cF124 : zFs := znew cF123 63 (20, 20, fun _ => 0)
def cD79 : zDa := zrow cD78 63 (fun _ => 0)
def cF125 : zFs := zfin cF124 60 8 ((63 : Nat) : Int)
def cF126 : zFs := znew cF125 64 (20, 21, fun _ => 0)
def cD80 : zDa := zrow cD79 64 (fun _ => 0)
def cF127 : zFs := zfin cF126 60 9 ((64 : Nat) : Int)
def cF128 : zFs := znew cF127 65 (20, 21, fun _ => 0)
def cD81 : zDa := zrow cD80 65 (fun _ => 0)
def cF129 : zFs := zfin cF128 60 10 ((65 : Nat) : Int)
def cF130 : zFs := znew cF129 66 (20, 231, fun _ => 0)
def cD82 : zDa := zrow cD81 66 (fun _ => 0)
def cD83 : zDa := zwr cD82 60 11 ((66 : Nat) : Int)
def cF131 : zFs := znew cF130 67 (21, 231, fun _ => 0)
def cD84 : zDa := zrow cD83 67 (fun _ => 0)
def cF132 : zFs := zfin cF131 60 12 ((67 : Nat) : Int)
def cF133 : zFs := znew cF132 68 (21, 121, fun _ => 0)
def cD85 : zDa := zrow cD84 68 (fun _ => 0)
def cF134 : zFs := zfin cF133 60 13 ((68 : Nat) : Int)
def cD86 : zDa := zwr cD85 60 14 (-1)
def cF135 : zFs := znew cF134 69 (20, 20, fun _ => 0)
def cD87 : zDa := zrow cD86 69 (fun _ => 0)
def cF136 : zFs := zfin cF135 60 15 ((69 : Nat) : Int)
def cF137 : zFs := znew cF136 70 (20, 20, fun _ => 0)
def cD88 : zDa := zrow cD87 70 (fun _ => 0)
def cF138 : zFs := zfin cF137 60 16 ((70 : Nat) : Int)
def cD89 : zDa := zwr cD88 60 17 1
def cF139 : zFs := zfin cF138 60 0 ((1 : Nat) : Int)
def cF140 : zFs := zfin cF139 60 1 ((49 : Nat) : Int)
def cF141 : zFs := zfin cF140 60 2 ((52 : Nat) : Int)
theorem cn_X4_init_60 {l : Launch} {E : zE} {d : Nat} : zMet l E (d) YX4_init [zR 60, zR 1, zR 49, zR 52] (cF119, cD74, 61, 3878) (zmV (cF141, cD89, 71, 4703)) := by
  refine zMet_of (plainFor_of_name (by decide)) (fun _ h => (nomatch h)) (Nat.le_of_ble_eq_true rfl) ?_
  have hz : zO l E (d) YX4_init 0 [(0, zR 60), (1, zR 1), (2, zR 49), (3, zR 52)] [] (cF119, cD74, 61, 3878) zmV (some (cF141, cD89, 71, 4703)) := by
    refine zO_aload_n dX4_init_0 rfl (zR_P _) ?_
    refine zO_objI dX4_init_1 wM_X4_3 (Nat.le_of_ble_eq_true rfl) ?_
    refine zO_aload_n dX4_init_4 rfl (zR_P _) ?_
    refine zO_iconst dX4_init_5 (by decide) ?_
    refine ptI4 (k := 3) (z := (-1)) dX4_init_6 wF_X4_9 (by decide) rfl (show (cF119 60).1 = 5 from by decide +kernel) rfl ?_
    change zO l E (d) YX4_init 9 [(0, zR 60), (1, zR 1), (2, zR 49), (3, zR 52)] [] (cF119, cD75, 61, 3878) zmV (some (cF141, cD89, 71, 4703))
    refine zO_aload_n dX4_init_9 rfl (zR_P _) ?_
    refine zO_iconst dX4_init_10 (by decide) ?_
    refine ptI4 (k := 4) (z := (-1)) dX4_init_11 wF_X4_15 (by decide) rfl (show (cF119 60).1 = 5 from by decide +kernel) rfl ?_
    change zO l E (d) YX4_init 14 [(0, zR 60), (1, zR 1), (2, zR 49), (3, zR 52)] [] (cF119, cD76, 61, 3878) zmV (some (cF141, cD89, 71, 4703))
    refine zO_aload_n dX4_init_14 rfl (zR_P _) ?_
    refine zO_bipush dX4_init_15 (by decide) ?_
    refine zO_newi (kd := 20) (z := 20) dX4_init_17 (by decide) (by decide) (by decide) ?_
    change zO l E (d) YX4_init 19 [(0, zR 60), (1, zR 1), (2, zR 49), (3, zR 52)] [zR 61, zR 60] (cF120, cD77, 62, 3898) zmV (some (cF141, cD89, 71, 4703))
    refine zO_putF (c := 4) (k := 6) (C := RX4) (z := ((61 : Nat) : Int)) dX4_init_19 wF_X4_18 rfl inX4 tyX4_ok nmX4 (by decide) (by decide) rfl rfl rfl (show (cF120 60).1 = 5 from by decide +kernel) (zq_nat 61).symm trivial ?_
    change zO l E (d) YX4_init 22 [(0, zR 60), (1, zR 1), (2, zR 49), (3, zR 52)] [] (cF121, cD77, 62, 3898) zmV (some (cF141, cD89, 71, 4703))
    refine zO_aload_n dX4_init_22 rfl (zR_P _) ?_
    refine zO_bipush dX4_init_23 (by decide) ?_
    refine zO_newi (kd := 20) (z := 120) dX4_init_25 (by decide) (by decide) (by decide) ?_
    change zO l E (d) YX4_init 27 [(0, zR 60), (1, zR 1), (2, zR 49), (3, zR 52)] [zR 62, zR 60] (cF122, cD78, 63, 4018) zmV (some (cF141, cD89, 71, 4703))
    refine zO_putF (c := 4) (k := 7) (C := RX4) (z := ((62 : Nat) : Int)) dX4_init_27 wF_X4_22 rfl inX4 tyX4_ok nmX4 (by decide) (by decide) rfl rfl rfl (show (cF122 60).1 = 5 from by decide +kernel) (zq_nat 62).symm trivial ?_
    change zO l E (d) YX4_init 30 [(0, zR 60), (1, zR 1), (2, zR 49), (3, zR 52)] [] (cF123, cD78, 63, 4018) zmV (some (cF141, cD89, 71, 4703))
    refine zO_aload_n dX4_init_30 rfl (zR_P _) ?_
    refine zO_bipush dX4_init_31 (by decide) ?_
    refine zO_newi (kd := 20) (z := 20) dX4_init_33 (by decide) (by decide) (by decide) ?_
    change zO l E (d) YX4_init 35 [(0, zR 60), (1, zR 1), (2, zR 49), (3, zR 52)] [zR 63, zR 60] (cF124, cD79, 64, 4038) zmV (some (cF141, cD89, 71, 4703))
    refine zO_putF (c := 4) (k := 8) (C := RX4) (z := ((63 : Nat) : Int)) dX4_init_35 wF_X4_25 rfl inX4 tyX4_ok nmX4 (by decide) (by decide) rfl rfl rfl (show (cF124 60).1 = 5 from by decide +kernel) (zq_nat 63).symm trivial ?_
    change zO l E (d) YX4_init 38 [(0, zR 60), (1, zR 1), (2, zR 49), (3, zR 52)] [] (cF125, cD79, 64, 4038) zmV (some (cF141, cD89, 71, 4703))
    refine zO_aload_n dX4_init_38 rfl (zR_P _) ?_
    refine zO_bipush dX4_init_39 (by decide) ?_
    refine zO_newi (kd := 20) (z := 21) dX4_init_41 (by decide) (by decide) (by decide) ?_
    change zO l E (d) YX4_init 43 [(0, zR 60), (1, zR 1), (2, zR 49), (3, zR 52)] [zR 64, zR 60] (cF126, cD80, 65, 4059) zmV (some (cF141, cD89, 71, 4703))
    refine zO_putF (c := 4) (k := 9) (C := RX4) (z := ((64 : Nat) : Int)) dX4_init_43 wF_X4_28 rfl inX4 tyX4_ok nmX4 (by decide) (by decide) rfl rfl rfl (show (cF126 60).1 = 5 from by decide +kernel) (zq_nat 64).symm trivial ?_
    change zO l E (d) YX4_init 46 [(0, zR 60), (1, zR 1), (2, zR 49), (3, zR 52)] [] (cF127, cD80, 65, 4059) zmV (some (cF141, cD89, 71, 4703))
    refine zO_aload_n dX4_init_46 rfl (zR_P _) ?_
    refine zO_bipush dX4_init_47 (by decide) ?_
    refine zO_newi (kd := 20) (z := 21) dX4_init_49 (by decide) (by decide) (by decide) ?_
    change zO l E (d) YX4_init 51 [(0, zR 60), (1, zR 1), (2, zR 49), (3, zR 52)] [zR 65, zR 60] (cF128, cD81, 66, 4080) zmV (some (cF141, cD89, 71, 4703))
    refine zO_putF (c := 4) (k := 10) (C := RX4) (z := ((65 : Nat) : Int)) dX4_init_51 wF_X4_31 rfl inX4 tyX4_ok nmX4 (by decide) (by decide) rfl rfl rfl (show (cF128 60).1 = 5 from by decide +kernel) (zq_nat 65).symm trivial ?_
    change zO l E (d) YX4_init 54 [(0, zR 60), (1, zR 1), (2, zR 49), (3, zR 52)] [] (cF129, cD81, 66, 4080) zmV (some (cF141, cD89, 71, 4703))
    refine zO_aload_n dX4_init_54 rfl (zR_P _) ?_
    refine zO_sipush dX4_init_55 (by decide) ?_
    refine zO_newi (kd := 20) (z := 231) dX4_init_58 (by decide) (by decide) (by decide) ?_
    change zO l E (d) YX4_init 60 [(0, zR 60), (1, zR 1), (2, zR 49), (3, zR 52)] [zR 66, zR 60] (cF130, cD82, 67, 4311) zmV (some (cF141, cD89, 71, 4703))
    refine pt4 (k := 11) (z := ((66 : Nat) : Int)) dX4_init_60 wF_X4_34 (by decide) rfl (show (cF130 60).1 = 5 from by decide +kernel) (zq_nat 66).symm trivial ?_
    change zO l E (d) YX4_init 63 [(0, zR 60), (1, zR 1), (2, zR 49), (3, zR 52)] [] (cF130, cD83, 67, 4311) zmV (some (cF141, cD89, 71, 4703))
    refine zO_aload_n dX4_init_63 rfl (zR_P _) ?_
    refine zO_sipush dX4_init_64 (by decide) ?_
    refine zO_newi (kd := 21) (z := 231) dX4_init_67 (by decide) (by decide) (by decide) ?_
    change zO l E (d) YX4_init 69 [(0, zR 60), (1, zR 1), (2, zR 49), (3, zR 52)] [zR 67, zR 60] (cF131, cD84, 68, 4542) zmV (some (cF141, cD89, 71, 4703))
    refine zO_putF (c := 4) (k := 12) (C := RX4) (z := ((67 : Nat) : Int)) dX4_init_69 wF_X4_37 rfl inX4 tyX4_ok nmX4 (by decide) (by decide) rfl rfl rfl (show (cF131 60).1 = 5 from by decide +kernel) (zq_nat 67).symm trivial ?_
    change zO l E (d) YX4_init 72 [(0, zR 60), (1, zR 1), (2, zR 49), (3, zR 52)] [] (cF132, cD84, 68, 4542) zmV (some (cF141, cD89, 71, 4703))
    refine zO_aload_n dX4_init_72 rfl (zR_P _) ?_
    refine zO_bipush dX4_init_73 (by decide) ?_
    refine zO_newi (kd := 21) (z := 121) dX4_init_75 (by decide) (by decide) (by decide) ?_
    change zO l E (d) YX4_init 77 [(0, zR 60), (1, zR 1), (2, zR 49), (3, zR 52)] [zR 68, zR 60] (cF133, cD85, 69, 4663) zmV (some (cF141, cD89, 71, 4703))
    refine zO_putF (c := 4) (k := 13) (C := RX4) (z := ((68 : Nat) : Int)) dX4_init_77 wF_X4_41 rfl inX4 tyX4_ok nmX4 (by decide) (by decide) rfl rfl rfl (show (cF133 60).1 = 5 from by decide +kernel) (zq_nat 68).symm trivial ?_
    change zO l E (d) YX4_init 80 [(0, zR 60), (1, zR 1), (2, zR 49), (3, zR 52)] [] (cF134, cD85, 69, 4663) zmV (some (cF141, cD89, 71, 4703))
    refine zO_aload_n dX4_init_80 rfl (zR_P _) ?_
    refine zO_iconst dX4_init_81 (by decide) ?_
    refine ptI4 (k := 14) (z := (-1)) dX4_init_82 wF_X4_44 (by decide) rfl (show (cF134 60).1 = 5 from by decide +kernel) rfl ?_
    change zO l E (d) YX4_init 85 [(0, zR 60), (1, zR 1), (2, zR 49), (3, zR 52)] [] (cF134, cD86, 69, 4663) zmV (some (cF141, cD89, 71, 4703))
    refine zO_aload_n dX4_init_85 rfl (zR_P _) ?_
    refine zO_bipush dX4_init_86 (by decide) ?_
    refine zO_newi (kd := 20) (z := 20) dX4_init_88 (by decide) (by decide) (by decide) ?_
    change zO l E (d) YX4_init 90 [(0, zR 60), (1, zR 1), (2, zR 49), (3, zR 52)] [zR 69, zR 60] (cF135, cD87, 70, 4683) zmV (some (cF141, cD89, 71, 4703))
    refine zO_putF (c := 4) (k := 15) (C := RX4) (z := ((69 : Nat) : Int)) dX4_init_90 wF_X4_47 rfl inX4 tyX4_ok nmX4 (by decide) (by decide) rfl rfl rfl (show (cF135 60).1 = 5 from by decide +kernel) (zq_nat 69).symm trivial ?_
    change zO l E (d) YX4_init 93 [(0, zR 60), (1, zR 1), (2, zR 49), (3, zR 52)] [] (cF136, cD87, 70, 4683) zmV (some (cF141, cD89, 71, 4703))
    refine zO_aload_n dX4_init_93 rfl (zR_P _) ?_
    refine zO_bipush dX4_init_94 (by decide) ?_
    refine zO_newi (kd := 20) (z := 20) dX4_init_96 (by decide) (by decide) (by decide) ?_
    change zO l E (d) YX4_init 98 [(0, zR 60), (1, zR 1), (2, zR 49), (3, zR 52)] [zR 70, zR 60] (cF137, cD88, 71, 4703) zmV (some (cF141, cD89, 71, 4703))
    refine zO_putF (c := 4) (k := 16) (C := RX4) (z := ((70 : Nat) : Int)) dX4_init_98 wF_X4_50 rfl inX4 tyX4_ok nmX4 (by decide) (by decide) rfl rfl rfl (show (cF137 60).1 = 5 from by decide +kernel) (zq_nat 70).symm trivial ?_
    change zO l E (d) YX4_init 101 [(0, zR 60), (1, zR 1), (2, zR 49), (3, zR 52)] [] (cF138, cD88, 71, 4703) zmV (some (cF141, cD89, 71, 4703))
    refine zO_aload_n dX4_init_101 rfl (zR_P _) ?_
    refine zO_lconst dX4_init_102 ?_
    change zO l E (d) YX4_init 103 [(0, zR 60), (1, zR 1), (2, zR 49), (3, zR 52)] [zL 1, zR 60] (cF138, cD88, 71, 4703) zmV (some (cF141, cD89, 71, 4703))
    refine ptJ4 (k := 17) (z := 1) dX4_init_103 wF_X4_53 (by decide) rfl (show (cF138 60).1 = 5 from by decide +kernel) rfl ?_
    change zO l E (d) YX4_init 106 [(0, zR 60), (1, zR 1), (2, zR 49), (3, zR 52)] [] (cF138, cD89, 71, 4703) zmV (some (cF141, cD89, 71, 4703))
    refine zO_aload_n dX4_init_106 rfl (zR_P _) ?_
    refine zO_aload_n dX4_init_107 rfl (zR_P _) ?_
    refine zO_putF (c := 4) (k := 0) (C := RX4) (z := ((1 : Nat) : Int)) dX4_init_108 wF_X4_57 rfl inX4 tyX4_ok nmX4 (by decide) (by decide) rfl rfl rfl (show (cF138 60).1 = 5 from by decide +kernel) (zq_nat 1).symm trivial ?_
    change zO l E (d) YX4_init 111 [(0, zR 60), (1, zR 1), (2, zR 49), (3, zR 52)] [] (cF139, cD89, 71, 4703) zmV (some (cF141, cD89, 71, 4703))
    refine zO_aload_n dX4_init_111 rfl (zR_P _) ?_
    refine zO_aload_n dX4_init_112 rfl (zR_P _) ?_
    refine zO_putF (c := 4) (k := 1) (C := RX4) (z := ((49 : Nat) : Int)) dX4_init_113 wF_X4_61 rfl inX4 tyX4_ok nmX4 (by decide) (by decide) rfl rfl rfl (show (cF139 60).1 = 5 from by decide +kernel) (zq_nat 49).symm trivial ?_
    change zO l E (d) YX4_init 116 [(0, zR 60), (1, zR 1), (2, zR 49), (3, zR 52)] [] (cF140, cD89, 71, 4703) zmV (some (cF141, cD89, 71, 4703))
    refine zO_aload_n dX4_init_116 rfl (zR_P _) ?_
    refine zO_aload_n dX4_init_117 rfl (zR_P _) ?_
    refine zO_putF (c := 4) (k := 2) (C := RX4) (z := ((52 : Nat) : Int)) dX4_init_118 wF_X4_65 rfl inX4 tyX4_ok nmX4 (by decide) (by decide) rfl rfl rfl (show (cF140 60).1 = 5 from by decide +kernel) (zq_nat 52).symm trivial ?_
    change zO l E (d) YX4_init 121 [(0, zR 60), (1, zR 1), (2, zR 49), (3, zR 52)] [] (cF141, cD89, 71, 4703) zmV (some (cF141, cD89, 71, 4703))
    exact zO_ret (rv := none) dX4_init_121 rfl trivial rfl
  exact hz _ rfl
def cF142 : zFs := zfin cF141 0 13 ((60 : Nat) : Int)
def cF143 : zFs := znew cF142 71 (1, 0, zdf 0)
def cD90 : zDa := zrow cD89 71 (zdf 0)
def cF144 : zFs := znew cF143 72 (20, 60, fun _ => 0)
def cD91 : zDa := zrow cD90 72 (fun _ => 0)
def cF145 : zFs := zfin cF144 71 1 ((72 : Nat) : Int)
def cD92 : zDa := zwr cD91 71 6 (-1)
def cF146 : zFs := zfin cF145 71 0 ((60 : Nat) : Int)
theorem cn_X0_init_71 {l : Launch} {E : zE} {d : Nat} : zMet l E (d) YX0_init [zR 71, zR 60] (cF143, cD90, 72, 4710) (zmV (cF146, cD92, 73, 4770)) := by
  refine zMet_of (plainFor_of_name (by decide)) (fun _ h => (nomatch h)) (Nat.le_of_ble_eq_true rfl) ?_
  have hz : zO l E (d) YX0_init 0 [(0, zR 71), (1, zR 60)] [] (cF143, cD90, 72, 4710) zmV (some (cF146, cD92, 73, 4770)) := by
    refine zO_aload_n dX0_init_0 rfl (zR_P _) ?_
    refine zO_objI dX0_init_1 wM_X0_3 (Nat.le_of_ble_eq_true rfl) ?_
    refine zO_aload_n dX0_init_4 rfl (zR_P _) ?_
    refine zO_bipush dX0_init_5 (by decide) ?_
    refine zO_newi (kd := 20) (z := 60) dX0_init_7 (by decide) (by decide) (by decide) ?_
    change zO l E (d) YX0_init 9 [(0, zR 71), (1, zR 60)] [zR 72, zR 71] (cF144, cD91, 73, 4770) zmV (some (cF146, cD92, 73, 4770))
    refine zO_putF (c := 0) (k := 1) (C := RX0) (z := ((72 : Nat) : Int)) dX0_init_9 wF_X0_9 rfl inX0 tyX0_ok nmX0 (by decide) (by decide) rfl rfl rfl (show (cF144 71).1 = 1 from by decide +kernel) (zq_nat 72).symm trivial ?_
    change zO l E (d) YX0_init 12 [(0, zR 71), (1, zR 60)] [] (cF145, cD91, 73, 4770) zmV (some (cF146, cD92, 73, 4770))
    refine zO_aload_n dX0_init_12 rfl (zR_P _) ?_
    refine zO_iconst dX0_init_13 (by decide) ?_
    refine ptI0 (k := 6) (z := (-1)) dX0_init_14 wF_X0_15 (by decide) rfl (show (cF145 71).1 = 1 from by decide +kernel) rfl ?_
    change zO l E (d) YX0_init 17 [(0, zR 71), (1, zR 60)] [] (cF145, cD92, 73, 4770) zmV (some (cF146, cD92, 73, 4770))
    refine zO_aload_n dX0_init_17 rfl (zR_P _) ?_
    refine zO_aload_n dX0_init_18 rfl (zR_P _) ?_
    refine zO_putF (c := 0) (k := 0) (C := RX0) (z := ((60 : Nat) : Int)) dX0_init_19 wF_X0_19 rfl inX0 tyX0_ok nmX0 (by decide) (by decide) rfl rfl rfl (show (cF145 71).1 = 1 from by decide +kernel) (zq_nat 60).symm trivial ?_
    change zO l E (d) YX0_init 22 [(0, zR 71), (1, zR 60)] [] (cF146, cD92, 73, 4770) zmV (some (cF146, cD92, 73, 4770))
    exact zO_ret (rv := none) dX0_init_22 rfl trivial rfl
  exact hz _ rfl
def cF147 : zFs := zfin cF146 0 14 ((71 : Nat) : Int)
def cF148 : zFs := znew cF147 73 (2, 0, zdf 1)
def cD93 : zDa := zrow cD92 73 (zdf 1)
def cD94 : zDa := zwr cD93 73 2 (-1)
def cF149 : zFs := znew cF148 74 (20, 20, fun _ => 0)
def cD95 : zDa := zrow cD94 74 (fun _ => 0)
def cF150 : zFs := zfin cF149 73 3 ((74 : Nat) : Int)
def cF151 : zFs := znew cF150 75 (20, 20, fun _ => 0)
def cD96 : zDa := zrow cD95 75 (fun _ => 0)
def cF152 : zFs := zfin cF151 73 4 ((75 : Nat) : Int)
def cF153 : zFs := znew cF152 76 (20, 400, fun _ => 0)
def cD97 : zDa := zrow cD96 76 (fun _ => 0)
def cF154 : zFs := zfin cF153 73 5 ((76 : Nat) : Int)
def cF155 : zFs := znew cF154 77 (20, 20, fun _ => 0)
def cD98 : zDa := zrow cD97 77 (fun _ => 0)
def cF156 : zFs := zfin cF155 73 6 ((77 : Nat) : Int)
def cD99 : zDa := zwr cD98 73 8 (-1)
def cF157 : zFs := zfin cF156 73 0 ((1 : Nat) : Int)
def cF158 : zFs := zfin cF157 73 1 ((49 : Nat) : Int)
theorem cn_X1_init_73 {l : Launch} {E : zE} {d : Nat} : zMet l E (d) YX1_init [zR 73, zR 1, zR 49] (cF148, cD93, 74, 4780) (zmV (cF158, cD99, 78, 5240)) := by
  refine zMet_of (plainFor_of_name (by decide)) (fun _ h => (nomatch h)) (Nat.le_of_ble_eq_true rfl) ?_
  have hz : zO l E (d) YX1_init 0 [(0, zR 73), (1, zR 1), (2, zR 49)] [] (cF148, cD93, 74, 4780) zmV (some (cF158, cD99, 78, 5240)) := by
    refine zO_aload_n dX1_init_0 rfl (zR_P _) ?_
    refine zO_objI dX1_init_1 wM_X1_3 (Nat.le_of_ble_eq_true rfl) ?_
    refine zO_aload_n dX1_init_4 rfl (zR_P _) ?_
    refine zO_iconst dX1_init_5 (by decide) ?_
    refine ptI1 (k := 2) (z := (-1)) dX1_init_6 wF_X1_9 (by decide) rfl (show (cF148 73).1 = 2 from by decide +kernel) rfl ?_
    change zO l E (d) YX1_init 9 [(0, zR 73), (1, zR 1), (2, zR 49)] [] (cF148, cD94, 74, 4780) zmV (some (cF158, cD99, 78, 5240))
    refine zO_aload_n dX1_init_9 rfl (zR_P _) ?_
    refine zO_bipush dX1_init_10 (by decide) ?_
    refine zO_newi (kd := 20) (z := 20) dX1_init_12 (by decide) (by decide) (by decide) ?_
    change zO l E (d) YX1_init 14 [(0, zR 73), (1, zR 1), (2, zR 49)] [zR 74, zR 73] (cF149, cD95, 75, 4800) zmV (some (cF158, cD99, 78, 5240))
    refine zO_putF (c := 1) (k := 3) (C := RX1) (z := ((74 : Nat) : Int)) dX1_init_14 wF_X1_15 rfl inX1 tyX1_ok nmX1 (by decide) (by decide) rfl rfl rfl (show (cF149 73).1 = 2 from by decide +kernel) (zq_nat 74).symm trivial ?_
    change zO l E (d) YX1_init 17 [(0, zR 73), (1, zR 1), (2, zR 49)] [] (cF150, cD95, 75, 4800) zmV (some (cF158, cD99, 78, 5240))
    refine zO_aload_n dX1_init_17 rfl (zR_P _) ?_
    refine zO_bipush dX1_init_18 (by decide) ?_
    refine zO_newi (kd := 20) (z := 20) dX1_init_20 (by decide) (by decide) (by decide) ?_
    change zO l E (d) YX1_init 22 [(0, zR 73), (1, zR 1), (2, zR 49)] [zR 75, zR 73] (cF151, cD96, 76, 4820) zmV (some (cF158, cD99, 78, 5240))
    refine zO_putF (c := 1) (k := 4) (C := RX1) (z := ((75 : Nat) : Int)) dX1_init_22 wF_X1_19 rfl inX1 tyX1_ok nmX1 (by decide) (by decide) rfl rfl rfl (show (cF151 73).1 = 2 from by decide +kernel) (zq_nat 75).symm trivial ?_
    change zO l E (d) YX1_init 25 [(0, zR 73), (1, zR 1), (2, zR 49)] [] (cF152, cD96, 76, 4820) zmV (some (cF158, cD99, 78, 5240))
    refine zO_aload_n dX1_init_25 rfl (zR_P _) ?_
    refine zO_sipush dX1_init_26 (by decide) ?_
    refine zO_newi (kd := 20) (z := 400) dX1_init_29 (by decide) (by decide) (by decide) ?_
    change zO l E (d) YX1_init 31 [(0, zR 73), (1, zR 1), (2, zR 49)] [zR 76, zR 73] (cF153, cD97, 77, 5220) zmV (some (cF158, cD99, 78, 5240))
    refine zO_putF (c := 1) (k := 5) (C := RX1) (z := ((76 : Nat) : Int)) dX1_init_31 wF_X1_22 rfl inX1 tyX1_ok nmX1 (by decide) (by decide) rfl rfl rfl (show (cF153 73).1 = 2 from by decide +kernel) (zq_nat 76).symm trivial ?_
    change zO l E (d) YX1_init 34 [(0, zR 73), (1, zR 1), (2, zR 49)] [] (cF154, cD97, 77, 5220) zmV (some (cF158, cD99, 78, 5240))
    refine zO_aload_n dX1_init_34 rfl (zR_P _) ?_
    refine zO_bipush dX1_init_35 (by decide) ?_
    refine zO_newi (kd := 20) (z := 20) dX1_init_37 (by decide) (by decide) (by decide) ?_
    change zO l E (d) YX1_init 39 [(0, zR 73), (1, zR 1), (2, zR 49)] [zR 77, zR 73] (cF155, cD98, 78, 5240) zmV (some (cF158, cD99, 78, 5240))
    refine zO_putF (c := 1) (k := 6) (C := RX1) (z := ((77 : Nat) : Int)) dX1_init_39 wF_X1_25 rfl inX1 tyX1_ok nmX1 (by decide) (by decide) rfl rfl rfl (show (cF155 73).1 = 2 from by decide +kernel) (zq_nat 77).symm trivial ?_
    change zO l E (d) YX1_init 42 [(0, zR 73), (1, zR 1), (2, zR 49)] [] (cF156, cD98, 78, 5240) zmV (some (cF158, cD99, 78, 5240))
    refine zO_aload_n dX1_init_42 rfl (zR_P _) ?_
    refine zO_iconst dX1_init_43 (by decide) ?_
    refine ptI1 (k := 8) (z := (-1)) dX1_init_44 wF_X1_28 (by decide) rfl (show (cF156 73).1 = 2 from by decide +kernel) rfl ?_
    change zO l E (d) YX1_init 47 [(0, zR 73), (1, zR 1), (2, zR 49)] [] (cF156, cD99, 78, 5240) zmV (some (cF158, cD99, 78, 5240))
    refine zO_aload_n dX1_init_47 rfl (zR_P _) ?_
    refine zO_aload_n dX1_init_48 rfl (zR_P _) ?_
    refine zO_putF (c := 1) (k := 0) (C := RX1) (z := ((1 : Nat) : Int)) dX1_init_49 wF_X1_31 rfl inX1 tyX1_ok nmX1 (by decide) (by decide) rfl rfl rfl (show (cF156 73).1 = 2 from by decide +kernel) (zq_nat 1).symm trivial ?_
    change zO l E (d) YX1_init 52 [(0, zR 73), (1, zR 1), (2, zR 49)] [] (cF157, cD99, 78, 5240) zmV (some (cF158, cD99, 78, 5240))
    refine zO_aload_n dX1_init_52 rfl (zR_P _) ?_
    refine zO_aload_n dX1_init_53 rfl (zR_P _) ?_
    refine zO_putF (c := 1) (k := 1) (C := RX1) (z := ((49 : Nat) : Int)) dX1_init_54 wF_X1_35 rfl inX1 tyX1_ok nmX1 (by decide) (by decide) rfl rfl rfl (show (cF157 73).1 = 2 from by decide +kernel) (zq_nat 49).symm trivial ?_
    change zO l E (d) YX1_init 57 [(0, zR 73), (1, zR 1), (2, zR 49)] [] (cF158, cD99, 78, 5240) zmV (some (cF158, cD99, 78, 5240))
    exact zO_ret (rv := none) dX1_init_57 rfl trivial rfl
  exact hz _ rfl
def cF159 : zFs := zfin cF158 0 15 ((73 : Nat) : Int)
def cF160 : zFs := znew cF159 78 (8, 0, zdf 7)
def cD100 : zDa := zrow cD99 78 (zdf 7)
def cD101 : zDa := zwr cD100 78 2 (-1)
def cF161 : zFs := znew cF160 79 (20, 3, fun _ => 0)
def cD102 : zDa := zrow cD101 79 (fun _ => 0)
def cF162 : zFs := zfin cF161 78 3 ((79 : Nat) : Int)
def cF163 : zFs := znew cF162 80 (20, 12, fun _ => 0)
def cD103 : zDa := zrow cD102 80 (fun _ => 0)
def cF164 : zFs := zfin cF163 78 5 ((80 : Nat) : Int)
def cF165 : zFs := znew cF164 81 (20, 12, fun _ => 0)
def cD104 : zDa := zrow cD103 81 (fun _ => 0)
def cF166 : zFs := zfin cF165 78 6 ((81 : Nat) : Int)
def cF167 : zFs := znew cF166 82 (20, 3, fun _ => 0)
def cD105 : zDa := zrow cD104 82 (fun _ => 0)
def cF168 : zFs := zfin cF167 78 7 ((82 : Nat) : Int)
def cF169 : zFs := znew cF168 83 (20, 12, fun _ => 0)
def cD106 : zDa := zrow cD105 83 (fun _ => 0)
def cF170 : zFs := zfin cF169 78 8 ((83 : Nat) : Int)
def cF171 : zFs := znew cF170 84 (20, 1, fun _ => 0)
def cD107 : zDa := zrow cD106 84 (fun _ => 0)
def cD108 : zDa := zwr cD107 78 9 ((84 : Nat) : Int)
def cF172 : zFs := znew cF171 85 (20, 12, fun _ => 0)
def cD109 : zDa := zrow cD108 85 (fun _ => 0)
def cF173 : zFs := zfin cF172 78 10 ((85 : Nat) : Int)
def cF174 : zFs := zfin cF173 78 0 ((1 : Nat) : Int)
def cF175 : zFs := zfin cF174 78 1 ((49 : Nat) : Int)
theorem cn_X7_init_78 {l : Launch} {E : zE} {d : Nat} : zMet l E (d) YX7_init [zR 78, zR 1, zR 49] (cF160, cD100, 79, 5252) (zmV (cF175, cD109, 86, 5307)) := by
  refine zMet_of (plainFor_of_name (by decide)) (fun _ h => (nomatch h)) (Nat.le_of_ble_eq_true rfl) ?_
  have hz : zO l E (d) YX7_init 0 [(0, zR 78), (1, zR 1), (2, zR 49)] [] (cF160, cD100, 79, 5252) zmV (some (cF175, cD109, 86, 5307)) := by
    refine zO_aload_n dX7_init_0 rfl (zR_P _) ?_
    refine zO_objI dX7_init_1 wM_X7_3 (Nat.le_of_ble_eq_true rfl) ?_
    refine zO_aload_n dX7_init_4 rfl (zR_P _) ?_
    refine zO_iconst dX7_init_5 (by decide) ?_
    refine ptI7 (k := 2) (z := (-1)) dX7_init_6 wF_X7_9 (by decide) rfl (show (cF160 78).1 = 8 from by decide +kernel) rfl ?_
    change zO l E (d) YX7_init 9 [(0, zR 78), (1, zR 1), (2, zR 49)] [] (cF160, cD101, 79, 5252) zmV (some (cF175, cD109, 86, 5307))
    refine zO_aload_n dX7_init_9 rfl (zR_P _) ?_
    refine zO_iconst dX7_init_10 (by decide) ?_
    refine zO_newi (kd := 20) (z := 3) dX7_init_11 (by decide) (by decide) (by decide) ?_
    change zO l E (d) YX7_init 13 [(0, zR 78), (1, zR 1), (2, zR 49)] [zR 79, zR 78] (cF161, cD102, 80, 5255) zmV (some (cF175, cD109, 86, 5307))
    refine zO_putF (c := 7) (k := 3) (C := RX7) (z := ((79 : Nat) : Int)) dX7_init_13 wF_X7_15 rfl inX7 tyX7_ok nmX7 (by decide) (by decide) rfl rfl rfl (show (cF161 78).1 = 8 from by decide +kernel) (zq_nat 79).symm trivial ?_
    change zO l E (d) YX7_init 16 [(0, zR 78), (1, zR 1), (2, zR 49)] [] (cF162, cD102, 80, 5255) zmV (some (cF175, cD109, 86, 5307))
    refine zO_aload_n dX7_init_16 rfl (zR_P _) ?_
    refine zO_bipush dX7_init_17 (by decide) ?_
    refine zO_newi (kd := 20) (z := 12) dX7_init_19 (by decide) (by decide) (by decide) ?_
    change zO l E (d) YX7_init 21 [(0, zR 78), (1, zR 1), (2, zR 49)] [zR 80, zR 78] (cF163, cD103, 81, 5267) zmV (some (cF175, cD109, 86, 5307))
    refine zO_putF (c := 7) (k := 5) (C := RX7) (z := ((80 : Nat) : Int)) dX7_init_21 wF_X7_19 rfl inX7 tyX7_ok nmX7 (by decide) (by decide) rfl rfl rfl (show (cF163 78).1 = 8 from by decide +kernel) (zq_nat 80).symm trivial ?_
    change zO l E (d) YX7_init 24 [(0, zR 78), (1, zR 1), (2, zR 49)] [] (cF164, cD103, 81, 5267) zmV (some (cF175, cD109, 86, 5307))
    refine zO_aload_n dX7_init_24 rfl (zR_P _) ?_
    refine zO_bipush dX7_init_25 (by decide) ?_
    refine zO_newi (kd := 20) (z := 12) dX7_init_27 (by decide) (by decide) (by decide) ?_
    change zO l E (d) YX7_init 29 [(0, zR 78), (1, zR 1), (2, zR 49)] [zR 81, zR 78] (cF165, cD104, 82, 5279) zmV (some (cF175, cD109, 86, 5307))
    refine zO_putF (c := 7) (k := 6) (C := RX7) (z := ((81 : Nat) : Int)) dX7_init_29 wF_X7_22 rfl inX7 tyX7_ok nmX7 (by decide) (by decide) rfl rfl rfl (show (cF165 78).1 = 8 from by decide +kernel) (zq_nat 81).symm trivial ?_
    change zO l E (d) YX7_init 32 [(0, zR 78), (1, zR 1), (2, zR 49)] [] (cF166, cD104, 82, 5279) zmV (some (cF175, cD109, 86, 5307))
    refine zO_aload_n dX7_init_32 rfl (zR_P _) ?_
    refine zO_iconst dX7_init_33 (by decide) ?_
    refine zO_newi (kd := 20) (z := 3) dX7_init_34 (by decide) (by decide) (by decide) ?_
    change zO l E (d) YX7_init 36 [(0, zR 78), (1, zR 1), (2, zR 49)] [zR 82, zR 78] (cF167, cD105, 83, 5282) zmV (some (cF175, cD109, 86, 5307))
    refine zO_putF (c := 7) (k := 7) (C := RX7) (z := ((82 : Nat) : Int)) dX7_init_36 wF_X7_25 rfl inX7 tyX7_ok nmX7 (by decide) (by decide) rfl rfl rfl (show (cF167 78).1 = 8 from by decide +kernel) (zq_nat 82).symm trivial ?_
    change zO l E (d) YX7_init 39 [(0, zR 78), (1, zR 1), (2, zR 49)] [] (cF168, cD105, 83, 5282) zmV (some (cF175, cD109, 86, 5307))
    refine zO_aload_n dX7_init_39 rfl (zR_P _) ?_
    refine zO_bipush dX7_init_40 (by decide) ?_
    refine zO_newi (kd := 20) (z := 12) dX7_init_42 (by decide) (by decide) (by decide) ?_
    change zO l E (d) YX7_init 44 [(0, zR 78), (1, zR 1), (2, zR 49)] [zR 83, zR 78] (cF169, cD106, 84, 5294) zmV (some (cF175, cD109, 86, 5307))
    refine zO_putF (c := 7) (k := 8) (C := RX7) (z := ((83 : Nat) : Int)) dX7_init_44 wF_X7_28 rfl inX7 tyX7_ok nmX7 (by decide) (by decide) rfl rfl rfl (show (cF169 78).1 = 8 from by decide +kernel) (zq_nat 83).symm trivial ?_
    change zO l E (d) YX7_init 47 [(0, zR 78), (1, zR 1), (2, zR 49)] [] (cF170, cD106, 84, 5294) zmV (some (cF175, cD109, 86, 5307))
    refine zO_aload_n dX7_init_47 rfl (zR_P _) ?_
    refine zO_iconst dX7_init_48 (by decide) ?_
    refine zO_newi (kd := 20) (z := 1) dX7_init_49 (by decide) (by decide) (by decide) ?_
    change zO l E (d) YX7_init 51 [(0, zR 78), (1, zR 1), (2, zR 49)] [zR 84, zR 78] (cF171, cD107, 85, 5295) zmV (some (cF175, cD109, 86, 5307))
    refine pt7 (k := 9) (z := ((84 : Nat) : Int)) dX7_init_51 wF_X7_31 (by decide) rfl (show (cF171 78).1 = 8 from by decide +kernel) (zq_nat 84).symm trivial ?_
    change zO l E (d) YX7_init 54 [(0, zR 78), (1, zR 1), (2, zR 49)] [] (cF171, cD108, 85, 5295) zmV (some (cF175, cD109, 86, 5307))
    refine zO_aload_n dX7_init_54 rfl (zR_P _) ?_
    refine zO_bipush dX7_init_55 (by decide) ?_
    refine zO_newi (kd := 20) (z := 12) dX7_init_57 (by decide) (by decide) (by decide) ?_
    change zO l E (d) YX7_init 59 [(0, zR 78), (1, zR 1), (2, zR 49)] [zR 85, zR 78] (cF172, cD109, 86, 5307) zmV (some (cF175, cD109, 86, 5307))
    refine zO_putF (c := 7) (k := 10) (C := RX7) (z := ((85 : Nat) : Int)) dX7_init_59 wF_X7_34 rfl inX7 tyX7_ok nmX7 (by decide) (by decide) rfl rfl rfl (show (cF172 78).1 = 8 from by decide +kernel) (zq_nat 85).symm trivial ?_
    change zO l E (d) YX7_init 62 [(0, zR 78), (1, zR 1), (2, zR 49)] [] (cF173, cD109, 86, 5307) zmV (some (cF175, cD109, 86, 5307))
    refine zO_aload_n dX7_init_62 rfl (zR_P _) ?_
    refine zO_aload_n dX7_init_63 rfl (zR_P _) ?_
    refine zO_putF (c := 7) (k := 0) (C := RX7) (z := ((1 : Nat) : Int)) dX7_init_64 wF_X7_37 rfl inX7 tyX7_ok nmX7 (by decide) (by decide) rfl rfl rfl (show (cF173 78).1 = 8 from by decide +kernel) (zq_nat 1).symm trivial ?_
    change zO l E (d) YX7_init 67 [(0, zR 78), (1, zR 1), (2, zR 49)] [] (cF174, cD109, 86, 5307) zmV (some (cF175, cD109, 86, 5307))
    refine zO_aload_n dX7_init_67 rfl (zR_P _) ?_
    refine zO_aload_n dX7_init_68 rfl (zR_P _) ?_
    refine zO_putF (c := 7) (k := 1) (C := RX7) (z := ((49 : Nat) : Int)) dX7_init_69 wF_X7_41 rfl inX7 tyX7_ok nmX7 (by decide) (by decide) rfl rfl rfl (show (cF174 78).1 = 8 from by decide +kernel) (zq_nat 49).symm trivial ?_
    change zO l E (d) YX7_init 72 [(0, zR 78), (1, zR 1), (2, zR 49)] [] (cF175, cD109, 86, 5307) zmV (some (cF175, cD109, 86, 5307))
    exact zO_ret (rv := none) dX7_init_72 rfl trivial rfl
  exact hz _ rfl
def cF176 : zFs := zfin cF175 0 16 ((78 : Nat) : Int)
def cF177 : zFs := znew cF176 86 (6, 0, zdf 5)
def cD110 : zDa := zrow cD109 86 (zdf 5)
def cF178 : zFs := znew cF177 87 (21, 9, fun _ => 0)
def cD111 : zDa := zrow cD110 87 (fun _ => 0)
def cF179 : zFs := zfin cF178 86 0 ((87 : Nat) : Int)
def cF180 : zFs := znew cF179 88 (21, 9, fun _ => 0)
def cD112 : zDa := zrow cD111 88 (fun _ => 0)
def cF181 : zFs := zfin cF180 86 1 ((88 : Nat) : Int)
theorem cn_X5_init_86 {l : Launch} {E : zE} {d : Nat} : zMet l E (d) YX5_init [zR 86] (cF177, cD110, 87, 5309) (zmV (cF181, cD112, 89, 5327)) := by
  refine zMet_of (plainFor_of_name (by decide)) (fun _ h => (nomatch h)) (Nat.le_of_ble_eq_true rfl) ?_
  have hz : zO l E (d) YX5_init 0 [(0, zR 86)] [] (cF177, cD110, 87, 5309) zmV (some (cF181, cD112, 89, 5327)) := by
    refine zO_aload_n dX5_init_0 rfl (zR_P _) ?_
    refine zO_objI dX5_init_1 wM_X5_5 (Nat.le_of_ble_eq_true rfl) ?_
    refine zO_aload_n dX5_init_4 rfl (zR_P _) ?_
    refine zO_bipush dX5_init_5 (by decide) ?_
    refine zO_newi (kd := 21) (z := 9) dX5_init_7 (by decide) (by decide) (by decide) ?_
    change zO l E (d) YX5_init 9 [(0, zR 86)] [zR 87, zR 86] (cF178, cD111, 88, 5318) zmV (some (cF181, cD112, 89, 5327))
    refine zO_putF (c := 5) (k := 0) (C := RX5) (z := ((87 : Nat) : Int)) dX5_init_9 wF_X5_11 rfl inX5 tyX5_ok nmX5 (by decide) (by decide) rfl rfl rfl (show (cF178 86).1 = 6 from by decide +kernel) (zq_nat 87).symm trivial ?_
    change zO l E (d) YX5_init 12 [(0, zR 86)] [] (cF179, cD111, 88, 5318) zmV (some (cF181, cD112, 89, 5327))
    refine zO_aload_n dX5_init_12 rfl (zR_P _) ?_
    refine zO_bipush dX5_init_13 (by decide) ?_
    refine zO_newi (kd := 21) (z := 9) dX5_init_15 (by decide) (by decide) (by decide) ?_
    change zO l E (d) YX5_init 17 [(0, zR 86)] [zR 88, zR 86] (cF180, cD112, 89, 5327) zmV (some (cF181, cD112, 89, 5327))
    refine zO_putF (c := 5) (k := 1) (C := RX5) (z := ((88 : Nat) : Int)) dX5_init_17 wF_X5_15 rfl inX5 tyX5_ok nmX5 (by decide) (by decide) rfl rfl rfl (show (cF180 86).1 = 6 from by decide +kernel) (zq_nat 88).symm trivial ?_
    change zO l E (d) YX5_init 20 [(0, zR 86)] [] (cF181, cD112, 89, 5327) zmV (some (cF181, cD112, 89, 5327))
    exact zO_ret (rv := none) dX5_init_20 rfl trivial rfl
  exact hz _ rfl
def cF182 : zFs := zfin cF181 0 17 ((86 : Nat) : Int)
def cF183 : zFs := znew cF182 89 (9, 0, zdf 8)
def cD113 : zDa := zrow cD112 89 (zdf 8)
def cF184 : zFs := znew cF183 90 (20, 3, fun _ => 0)
def cD114 : zDa := zrow cD113 90 (fun _ => 0)
def cF185 : zFs := zfin cF184 89 2 ((90 : Nat) : Int)
def cF186 : zFs := zfin cF185 89 0 ((1 : Nat) : Int)
def cF187 : zFs := zfin cF186 89 1 ((49 : Nat) : Int)
theorem cn_X8_init_89 {l : Launch} {E : zE} {d : Nat} : zMet l E (d) YX8_init [zR 89, zR 1, zR 49] (cF183, cD113, 90, 5336) (zmV (cF187, cD114, 91, 5339)) := by
  refine zMet_of (plainFor_of_name (by decide)) (fun _ h => (nomatch h)) (Nat.le_of_ble_eq_true rfl) ?_
  have hz : zO l E (d) YX8_init 0 [(0, zR 89), (1, zR 1), (2, zR 49)] [] (cF183, cD113, 90, 5336) zmV (some (cF187, cD114, 91, 5339)) := by
    refine zO_aload_n dX8_init_0 rfl (zR_P _) ?_
    refine zO_objI dX8_init_1 wM_X8_3 (Nat.le_of_ble_eq_true rfl) ?_
    refine zO_aload_n dX8_init_4 rfl (zR_P _) ?_
    refine zO_iconst dX8_init_5 (by decide) ?_
    refine zO_newi (kd := 20) (z := 3) dX8_init_6 (by decide) (by decide) (by decide) ?_
    change zO l E (d) YX8_init 8 [(0, zR 89), (1, zR 1), (2, zR 49)] [zR 90, zR 89] (cF184, cD114, 91, 5339) zmV (some (cF187, cD114, 91, 5339))
    refine zO_putF (c := 8) (k := 2) (C := RX8) (z := ((90 : Nat) : Int)) dX8_init_8 wF_X8_9 rfl inX8 tyX8_ok nmX8 (by decide) (by decide) rfl rfl rfl (show (cF184 89).1 = 9 from by decide +kernel) (zq_nat 90).symm trivial ?_
    change zO l E (d) YX8_init 11 [(0, zR 89), (1, zR 1), (2, zR 49)] [] (cF185, cD114, 91, 5339) zmV (some (cF187, cD114, 91, 5339))
    refine zO_aload_n dX8_init_11 rfl (zR_P _) ?_
    refine zO_aload_n dX8_init_12 rfl (zR_P _) ?_
    refine zO_putF (c := 8) (k := 0) (C := RX8) (z := ((1 : Nat) : Int)) dX8_init_13 wF_X8_15 rfl inX8 tyX8_ok nmX8 (by decide) (by decide) rfl rfl rfl (show (cF185 89).1 = 9 from by decide +kernel) (zq_nat 1).symm trivial ?_
    change zO l E (d) YX8_init 16 [(0, zR 89), (1, zR 1), (2, zR 49)] [] (cF186, cD114, 91, 5339) zmV (some (cF187, cD114, 91, 5339))
    refine zO_aload_n dX8_init_16 rfl (zR_P _) ?_
    refine zO_aload_n dX8_init_17 rfl (zR_P _) ?_
    refine zO_putF (c := 8) (k := 1) (C := RX8) (z := ((49 : Nat) : Int)) dX8_init_18 wF_X8_19 rfl inX8 tyX8_ok nmX8 (by decide) (by decide) rfl rfl rfl (show (cF186 89).1 = 9 from by decide +kernel) (zq_nat 49).symm trivial ?_
    change zO l E (d) YX8_init 21 [(0, zR 89), (1, zR 1), (2, zR 49)] [] (cF187, cD114, 91, 5339) zmV (some (cF187, cD114, 91, 5339))
    exact zO_ret (rv := none) dX8_init_21 rfl trivial rfl
  exact hz _ rfl
def cF188 : zFs := zfin cF187 0 18 ((89 : Nat) : Int)
theorem cn_X11_init_0 {l : Launch} {E : zE} {d : Nat} : zMet l E (d + 1) YX11_init [zR 0] (cF1, cD1, 1, 19) (zmV (cF188, cD114, 91, 5339)) := by
  refine zMet_of (plainFor_of_name (by decide)) (fun _ h => (nomatch h)) (Nat.le_of_ble_eq_true rfl) ?_
  have hz : zO l E (d + 1) YX11_init 0 [(0, zR 0)] [] (cF1, cD1, 1, 19) zmV (some (cF188, cD114, 91, 5339)) := by
    refine zO_aload_n dX11_init_0 rfl (zR_P _) ?_
    refine zO_objI dX11_init_1 wM_X11_1 (Nat.le_of_ble_eq_true rfl) ?_
    refine zO_aload_n dX11_init_4 rfl (zR_P _) ?_
    refine cnw9 dX11_init_5 wL_X11_7 (by decide) ?_
    change zO l E (d + 1) YX11_init 8 [(0, zR 0)] [zR 1, zR 0] (cF2, cD2, 2, 37) zmV (some (cF188, cD114, 91, 5339))
    refine zO_dup dX11_init_8 rfl ?_
    refine zO_callIN (Y' := YX9_init) (cw := zmV) (y := some (cF24, cD14, 13, 433)) (g := fun _ => some (cF188, cD114, 91, 5339)) (as := []) (a := 1) (rest := [zR 1, zR 0]) (na := 0) dX11_init_9 wC_X9_init wN_X9 (by simp [znest]) wI_X9_init rfl rfl (by decide) (by decide) rfl rfl (Nat.le_of_ble_eq_true rfl) (fun r hr => Option.some.inj hr ▸ cn_X9_init_1) (fun r hr => Option.some.inj hr ▸ ?_)
    change zO l E (d + 1) YX11_init 12 [(0, zR 0)] [zR 1, zR 0] (cF24, cD14, 13, 433) zmV (some (cF188, cD114, 91, 5339))
    refine zO_putF (c := 11) (k := 0) (C := RX11) (z := ((1 : Nat) : Int)) dX11_init_12 wF_X11_10 rfl inX11 tyX11_ok nmX11 (by decide) (by decide) rfl rfl rfl (show (cF24 0).1 = 12 from by decide +kernel) (zq_nat 1).symm trivial ?_
    change zO l E (d + 1) YX11_init 15 [(0, zR 0)] [] (cF25, cD14, 13, 433) zmV (some (cF188, cD114, 91, 5339))
    refine zO_aload_n dX11_init_15 rfl (zR_P _) ?_
    refine zO_iconst dX11_init_16 (by decide) ?_
    refine zO_newq (kd := 24) (z := 2) (C := "ExamSlips$State") dX11_init_17 wL_X11_7 (by decide) (by decide) (by decide) ?_
    change zO l E (d + 1) YX11_init 20 [(0, zR 0)] [zR 13, zR 0] (cF26, cD15, 14, 435) zmV (some (cF188, cD114, 91, 5339))
    refine zO_dup dX11_init_20 rfl ?_
    refine zO_iconst dX11_init_21 (by decide) ?_
    refine cnw9 dX11_init_22 wL_X11_7 (by decide) ?_
    change zO l E (d + 1) YX11_init 25 [(0, zR 0)] [zR 14, zI 0, zR 13, zR 13, zR 0] (cF27, cD16, 15, 453) zmV (some (cF188, cD114, 91, 5339))
    refine zO_dup dX11_init_25 rfl ?_
    refine zO_callIN (Y' := YX9_init) (cw := zmV) (y := some (cF49, cD28, 26, 849)) (g := fun _ => some (cF188, cD114, 91, 5339)) (as := []) (a := 14) (rest := [zR 14, zI 0, zR 13, zR 13, zR 0]) (na := 0) dX11_init_26 wC_X9_init wN_X9 (by simp [znest]) wI_X9_init rfl rfl (by decide) (by decide) rfl rfl (Nat.le_of_ble_eq_true rfl) (fun r hr => Option.some.inj hr ▸ cn_X9_init_14) (fun r hr => Option.some.inj hr ▸ ?_)
    change zO l E (d + 1) YX11_init 29 [(0, zR 0)] [zR 14, zI 0, zR 13, zR 13, zR 0] (cF49, cD28, 26, 849) zmV (some (cF188, cD114, 91, 5339))
    refine zO_st (st' := zq ((14 : Nat) : Int) :: zI 0 :: zR 13 :: [zR 13, zR 0]) (congrArg (fun v => v :: zI 0 :: zR 13 :: [zR 13, zR 0]) (zq_nat 14).symm) ?_
    refine zO_aast (kd := 24) (c := 9) dX11_init_29 (show (cF49 13).1 = 24 from by decide +kernel) (by decide) (Or.inr (show (cF49 14).1 = 10 from by decide +kernel)) (show (0 : Int) ≤ 0 ∧ (0 : Int) < (cF49 13).2.1 from by decide +kernel) ?_
    change zO l E (d + 1) YX11_init 30 [(0, zR 0)] [zR 13, zR 0] (cF49, cD29, 26, 849) zmV (some (cF188, cD114, 91, 5339))
    refine zO_dup dX11_init_30 rfl ?_
    refine zO_iconst dX11_init_31 (by decide) ?_
    refine cnw9 dX11_init_32 wL_X11_7 (by decide) ?_
    change zO l E (d + 1) YX11_init 35 [(0, zR 0)] [zR 26, zI 1, zR 13, zR 13, zR 0] (cF50, cD30, 27, 867) zmV (some (cF188, cD114, 91, 5339))
    refine zO_dup dX11_init_35 rfl ?_
    refine zO_callIN (Y' := YX9_init) (cw := zmV) (y := some (cF72, cD42, 38, 1263)) (g := fun _ => some (cF188, cD114, 91, 5339)) (as := []) (a := 26) (rest := [zR 26, zI 1, zR 13, zR 13, zR 0]) (na := 0) dX11_init_36 wC_X9_init wN_X9 (by simp [znest]) wI_X9_init rfl rfl (by decide) (by decide) rfl rfl (Nat.le_of_ble_eq_true rfl) (fun r hr => Option.some.inj hr ▸ cn_X9_init_26) (fun r hr => Option.some.inj hr ▸ ?_)
    change zO l E (d + 1) YX11_init 39 [(0, zR 0)] [zR 26, zI 1, zR 13, zR 13, zR 0] (cF72, cD42, 38, 1263) zmV (some (cF188, cD114, 91, 5339))
    refine zO_st (st' := zq ((26 : Nat) : Int) :: zI 1 :: zR 13 :: [zR 13, zR 0]) (congrArg (fun v => v :: zI 1 :: zR 13 :: [zR 13, zR 0]) (zq_nat 26).symm) ?_
    refine zO_aast (kd := 24) (c := 9) dX11_init_39 (show (cF72 13).1 = 24 from by decide +kernel) (by decide) (Or.inr (show (cF72 26).1 = 10 from by decide +kernel)) (show (0 : Int) ≤ 1 ∧ (1 : Int) < (cF72 13).2.1 from by decide +kernel) ?_
    change zO l E (d + 1) YX11_init 40 [(0, zR 0)] [zR 13, zR 0] (cF72, cD43, 38, 1263) zmV (some (cF188, cD114, 91, 5339))
    refine zO_putF (c := 11) (k := 1) (C := RX11) (z := ((13 : Nat) : Int)) dX11_init_40 wF_X11_16 rfl inX11 tyX11_ok nmX11 (by decide) (by decide) rfl rfl rfl (show (cF72 0).1 = 12 from by decide +kernel) (zq_nat 13).symm trivial ?_
    change zO l E (d + 1) YX11_init 43 [(0, zR 0)] [] (cF73, cD43, 38, 1263) zmV (some (cF188, cD114, 91, 5339))
    refine zO_aload_n dX11_init_43 rfl (zR_P _) ?_
    refine zO_iconst dX11_init_44 (by decide) ?_
    refine zO_newi (kd := 23) (z := 2) dX11_init_45 (by decide) (by decide) (by decide) ?_
    change zO l E (d + 1) YX11_init 47 [(0, zR 0)] [zR 38, zR 0] (cF74, cD44, 39, 1265) zmV (some (cF188, cD114, 91, 5339))
    refine zO_putF (c := 11) (k := 2) (C := RX11) (z := ((38 : Nat) : Int)) dX11_init_47 wF_X11_20 rfl inX11 tyX11_ok nmX11 (by decide) (by decide) rfl rfl rfl (show (cF74 0).1 = 12 from by decide +kernel) (zq_nat 38).symm trivial ?_
    change zO l E (d + 1) YX11_init 50 [(0, zR 0)] [] (cF75, cD44, 39, 1265) zmV (some (cF188, cD114, 91, 5339))
    refine zO_aload_n dX11_init_50 rfl (zR_P _) ?_
    refine zO_sipush dX11_init_51 (by decide) ?_
    refine zO_newi (kd := 20) (z := 400) dX11_init_54 (by decide) (by decide) (by decide) ?_
    change zO l E (d + 1) YX11_init 56 [(0, zR 0)] [zR 39, zR 0] (cF76, cD45, 40, 1665) zmV (some (cF188, cD114, 91, 5339))
    refine zO_putF (c := 11) (k := 3) (C := RX11) (z := ((39 : Nat) : Int)) dX11_init_56 wF_X11_24 rfl inX11 tyX11_ok nmX11 (by decide) (by decide) rfl rfl rfl (show (cF76 0).1 = 12 from by decide +kernel) (zq_nat 39).symm trivial ?_
    change zO l E (d + 1) YX11_init 59 [(0, zR 0)] [] (cF77, cD45, 40, 1665) zmV (some (cF188, cD114, 91, 5339))
    refine zO_aload_n dX11_init_59 rfl (zR_P _) ?_
    refine zO_iconst dX11_init_60 (by decide) ?_
    refine ptI11 (k := 5) (z := (-1)) dX11_init_61 wF_X11_28 (by decide) rfl (show (cF77 0).1 = 12 from by decide +kernel) rfl ?_
    change zO l E (d + 1) YX11_init 64 [(0, zR 0)] [] (cF77, cD46, 40, 1665) zmV (some (cF188, cD114, 91, 5339))
    refine zO_aload_n dX11_init_64 rfl (zR_P _) ?_
    refine zO_iconst dX11_init_65 (by decide) ?_
    refine zO_newi (kd := 20) (z := 3) dX11_init_66 (by decide) (by decide) (by decide) ?_
    change zO l E (d + 1) YX11_init 68 [(0, zR 0)] [zR 40, zR 0] (cF78, cD47, 41, 1668) zmV (some (cF188, cD114, 91, 5339))
    refine zO_dup dX11_init_68 rfl ?_
    refine zO_iconst dX11_init_69 (by decide) ?_
    refine zO_iconst dX11_init_70 (by decide) ?_
    refine zO_iast (z := (-1)) (j := 0) dX11_init_71 (show (cF78 40).1 = 20 from by decide +kernel) (show (0 : Int) ≤ 0 ∧ (0 : Int) < (cF78 40).2.1 from by decide +kernel) ?_
    change zO l E (d + 1) YX11_init 72 [(0, zR 0)] [zR 40, zR 0] (cF78, cD48, 41, 1668) zmV (some (cF188, cD114, 91, 5339))
    refine zO_dup dX11_init_72 rfl ?_
    refine zO_iconst dX11_init_73 (by decide) ?_
    refine zO_iconst dX11_init_74 (by decide) ?_
    refine zO_iast (z := (-1)) (j := 1) dX11_init_75 (show (cF78 40).1 = 20 from by decide +kernel) (show (0 : Int) ≤ 1 ∧ (1 : Int) < (cF78 40).2.1 from by decide +kernel) ?_
    change zO l E (d + 1) YX11_init 76 [(0, zR 0)] [zR 40, zR 0] (cF78, cD49, 41, 1668) zmV (some (cF188, cD114, 91, 5339))
    refine zO_dup dX11_init_76 rfl ?_
    refine zO_iconst dX11_init_77 (by decide) ?_
    refine zO_iconst dX11_init_78 (by decide) ?_
    refine zO_iast (z := (-1)) (j := 2) dX11_init_79 (show (cF78 40).1 = 20 from by decide +kernel) (show (0 : Int) ≤ 2 ∧ (2 : Int) < (cF78 40).2.1 from by decide +kernel) ?_
    change zO l E (d + 1) YX11_init 80 [(0, zR 0)] [zR 40, zR 0] (cF78, cD50, 41, 1668) zmV (some (cF188, cD114, 91, 5339))
    refine zO_putF (c := 11) (k := 7) (C := RX11) (z := ((40 : Nat) : Int)) dX11_init_80 wF_X11_32 rfl inX11 tyX11_ok nmX11 (by decide) (by decide) rfl rfl rfl (show (cF78 0).1 = 12 from by decide +kernel) (zq_nat 40).symm trivial ?_
    change zO l E (d + 1) YX11_init 83 [(0, zR 0)] [] (cF79, cD50, 41, 1668) zmV (some (cF188, cD114, 91, 5339))
    refine zO_aload_n dX11_init_83 rfl (zR_P _) ?_
    refine zO_bipush dX11_init_84 (by decide) ?_
    refine zO_newi (kd := 20) (z := 7) dX11_init_86 (by decide) (by decide) (by decide) ?_
    change zO l E (d + 1) YX11_init 88 [(0, zR 0)] [zR 41, zR 0] (cF80, cD51, 42, 1675) zmV (some (cF188, cD114, 91, 5339))
    refine zO_putF (c := 11) (k := 8) (C := RX11) (z := ((41 : Nat) : Int)) dX11_init_88 wF_X11_35 rfl inX11 tyX11_ok nmX11 (by decide) (by decide) rfl rfl rfl (show (cF80 0).1 = 12 from by decide +kernel) (zq_nat 41).symm trivial ?_
    change zO l E (d + 1) YX11_init 91 [(0, zR 0)] [] (cF81, cD51, 42, 1675) zmV (some (cF188, cD114, 91, 5339))
    refine zO_aload_n dX11_init_91 rfl (zR_P _) ?_
    refine zO_iconst dX11_init_92 (by decide) ?_
    refine ptI11 (k := 9) (z := 0) dX11_init_93 wF_X11_38 (by decide) rfl (show (cF81 0).1 = 12 from by decide +kernel) rfl ?_
    change zO l E (d + 1) YX11_init 96 [(0, zR 0)] [] (cF81, cD52, 42, 1675) zmV (some (cF188, cD114, 91, 5339))
    refine zO_aload_n dX11_init_96 rfl (zR_P _) ?_
    refine cnw6 dX11_init_97 wL_X11_41 (by decide) ?_
    change zO l E (d + 1) YX11_init 100 [(0, zR 0)] [zR 42, zR 0] (cF82, cD53, 43, 1686) zmV (some (cF188, cD114, 91, 5339))
    refine zO_dup dX11_init_100 rfl ?_
    refine zO_callIN (Y' := YX6_init) (cw := zmV) (y := some (cF94, cD60, 49, 3326)) (g := fun _ => some (cF188, cD114, 91, 5339)) (as := []) (a := 42) (rest := [zR 42, zR 0]) (na := 0) dX11_init_101 wC_X6_init wN_X6 (by simp [znest]) wI_X6_init rfl rfl (by decide) (by decide) rfl rfl (Nat.le_of_ble_eq_true rfl) (fun r hr => Option.some.inj hr ▸ cn_X6_init_42) (fun r hr => Option.some.inj hr ▸ ?_)
    change zO l E (d + 1) YX11_init 104 [(0, zR 0)] [zR 42, zR 0] (cF94, cD60, 49, 3326) zmV (some (cF188, cD114, 91, 5339))
    refine zO_putF (c := 11) (k := 10) (C := RX11) (z := ((42 : Nat) : Int)) dX11_init_104 wF_X11_44 rfl inX11 tyX11_ok nmX11 (by decide) (by decide) rfl rfl rfl (show (cF94 0).1 = 12 from by decide +kernel) (zq_nat 42).symm trivial ?_
    change zO l E (d + 1) YX11_init 107 [(0, zR 0)] [] (cF95, cD60, 49, 3326) zmV (some (cF188, cD114, 91, 5339))
    refine zO_aload_n dX11_init_107 rfl (zR_P _) ?_
    refine cnw10 dX11_init_108 wL_X11_48 (by decide) ?_
    change zO l E (d + 1) YX11_init 111 [(0, zR 0)] [zR 49, zR 0] (cF96, cD61, 50, 3330) zmV (some (cF188, cD114, 91, 5339))
    refine zO_dup dX11_init_111 rfl ?_
    refine zO_aload_n dX11_init_112 rfl (zR_P _) ?_
    refine gt11 (k := 0) (v := zR 1) dX11_init_113 wF_X11_10 (by decide) (show (cF96 0).1 = 12 from by decide +kernel) (by rw [show zfv cF96 cD61 0 11 0 = ((1 : Nat) : Int) from by decide +kernel]; exact zq_nat 1) ?_
    refine zO_callI (Y' := YX10_init) (cw := zmV) (y := some (cF101, cD63, 52, 3389)) (g := fun _ => some (cF188, cD114, 91, 5339)) (as := [zR 1]) (a := 49) (rest := [zR 49, zR 0]) (na := 1) dX11_init_116 wC_X10_init wN_X10 wM_X11_50 wI_X10_init rfl rfl (by decide) (by decide) rfl rfl (Nat.le_of_ble_eq_true rfl) (fun r hr => Option.some.inj hr ▸ cn_X10_init_49) (fun r hr => Option.some.inj hr ▸ ?_)
    change zO l E (d + 1) YX11_init 119 [(0, zR 0)] [zR 49, zR 0] (cF101, cD63, 52, 3389) zmV (some (cF188, cD114, 91, 5339))
    refine zO_putF (c := 11) (k := 11) (C := RX11) (z := ((49 : Nat) : Int)) dX11_init_119 wF_X11_53 rfl inX11 tyX11_ok nmX11 (by decide) (by decide) rfl rfl rfl (show (cF101 0).1 = 12 from by decide +kernel) (zq_nat 49).symm trivial ?_
    change zO l E (d + 1) YX11_init 122 [(0, zR 0)] [] (cF102, cD63, 52, 3389) zmV (some (cF188, cD114, 91, 5339))
    refine zO_aload_n dX11_init_122 rfl (zR_P _) ?_
    refine cnw2 dX11_init_123 wL_X11_57 (by decide) ?_
    change zO l E (d + 1) YX11_init 126 [(0, zR 0)] [zR 52, zR 0] (cF103, cD64, 53, 3397) zmV (some (cF188, cD114, 91, 5339))
    refine zO_dup dX11_init_126 rfl ?_
    refine zO_callI (Y' := YX2_init) (cw := zmV) (y := some (cF117, cD73, 60, 3858)) (g := fun _ => some (cF188, cD114, 91, 5339)) (as := []) (a := 52) (rest := [zR 52, zR 0]) (na := 0) dX11_init_127 wC_X2_init wN_X2 wM_X11_59 wI_X2_init rfl rfl (by decide) (by decide) rfl rfl (Nat.le_of_ble_eq_true rfl) (fun r hr => Option.some.inj hr ▸ cn_X2_init_52) (fun r hr => Option.some.inj hr ▸ ?_)
    change zO l E (d + 1) YX11_init 130 [(0, zR 0)] [zR 52, zR 0] (cF117, cD73, 60, 3858) zmV (some (cF188, cD114, 91, 5339))
    refine zO_putF (c := 11) (k := 12) (C := RX11) (z := ((52 : Nat) : Int)) dX11_init_130 wF_X11_60 rfl inX11 tyX11_ok nmX11 (by decide) (by decide) rfl rfl rfl (show (cF117 0).1 = 12 from by decide +kernel) (zq_nat 52).symm trivial ?_
    change zO l E (d + 1) YX11_init 133 [(0, zR 0)] [] (cF118, cD73, 60, 3858) zmV (some (cF188, cD114, 91, 5339))
    refine zO_aload_n dX11_init_133 rfl (zR_P _) ?_
    refine cnw4 dX11_init_134 wL_X11_64 (by decide) ?_
    change zO l E (d + 1) YX11_init 137 [(0, zR 0)] [zR 60, zR 0] (cF119, cD74, 61, 3878) zmV (some (cF188, cD114, 91, 5339))
    refine zO_dup dX11_init_137 rfl ?_
    refine zO_aload_n dX11_init_138 rfl (zR_P _) ?_
    refine gt11 (k := 0) (v := zR 1) dX11_init_139 wF_X11_10 (by decide) (show (cF119 0).1 = 12 from by decide +kernel) (by rw [show zfv cF119 cD74 0 11 0 = ((1 : Nat) : Int) from by decide +kernel]; exact zq_nat 1) ?_
    refine zO_aload_n dX11_init_142 rfl (zR_P _) ?_
    refine gt11 (k := 11) (v := zR 49) dX11_init_143 wF_X11_53 (by decide) (show (cF119 0).1 = 12 from by decide +kernel) (by rw [show zfv cF119 cD74 0 11 11 = ((49 : Nat) : Int) from by decide +kernel]; exact zq_nat 49) ?_
    refine zO_aload_n dX11_init_146 rfl (zR_P _) ?_
    refine gt11 (k := 12) (v := zR 52) dX11_init_147 wF_X11_60 (by decide) (show (cF119 0).1 = 12 from by decide +kernel) (by rw [show zfv cF119 cD74 0 11 12 = ((52 : Nat) : Int) from by decide +kernel]; exact zq_nat 52) ?_
    refine zO_callI (Y' := YX4_init) (cw := zmV) (y := some (cF141, cD89, 71, 4703)) (g := fun _ => some (cF188, cD114, 91, 5339)) (as := [zR 1, zR 49, zR 52]) (a := 60) (rest := [zR 60, zR 0]) (na := 3) dX11_init_150 wC_X4_init wN_X4 wM_X11_66 wI_X4_init rfl rfl (by decide) (by decide) rfl rfl (Nat.le_of_ble_eq_true rfl) (fun r hr => Option.some.inj hr ▸ cn_X4_init_60) (fun r hr => Option.some.inj hr ▸ ?_)
    change zO l E (d + 1) YX11_init 153 [(0, zR 0)] [zR 60, zR 0] (cF141, cD89, 71, 4703) zmV (some (cF188, cD114, 91, 5339))
    refine zO_putF (c := 11) (k := 13) (C := RX11) (z := ((60 : Nat) : Int)) dX11_init_153 wF_X11_69 rfl inX11 tyX11_ok nmX11 (by decide) (by decide) rfl rfl rfl (show (cF141 0).1 = 12 from by decide +kernel) (zq_nat 60).symm trivial ?_
    change zO l E (d + 1) YX11_init 156 [(0, zR 0)] [] (cF142, cD89, 71, 4703) zmV (some (cF188, cD114, 91, 5339))
    refine zO_aload_n dX11_init_156 rfl (zR_P _) ?_
    refine cnw0 dX11_init_157 wL_X11_73 (by decide) ?_
    change zO l E (d + 1) YX11_init 160 [(0, zR 0)] [zR 71, zR 0] (cF143, cD90, 72, 4710) zmV (some (cF188, cD114, 91, 5339))
    refine zO_dup dX11_init_160 rfl ?_
    refine zO_aload_n dX11_init_161 rfl (zR_P _) ?_
    refine gt11 (k := 13) (v := zR 60) dX11_init_162 wF_X11_69 (by decide) (show (cF143 0).1 = 12 from by decide +kernel) (by rw [show zfv cF143 cD90 0 11 13 = ((60 : Nat) : Int) from by decide +kernel]; exact zq_nat 60) ?_
    refine zO_callI (Y' := YX0_init) (cw := zmV) (y := some (cF146, cD92, 73, 4770)) (g := fun _ => some (cF188, cD114, 91, 5339)) (as := [zR 60]) (a := 71) (rest := [zR 71, zR 0]) (na := 1) dX11_init_165 wC_X0_init wN_X0 wM_X11_75 wI_X0_init rfl rfl (by decide) (by decide) rfl rfl (Nat.le_of_ble_eq_true rfl) (fun r hr => Option.some.inj hr ▸ cn_X0_init_71) (fun r hr => Option.some.inj hr ▸ ?_)
    change zO l E (d + 1) YX11_init 168 [(0, zR 0)] [zR 71, zR 0] (cF146, cD92, 73, 4770) zmV (some (cF188, cD114, 91, 5339))
    refine zO_putF (c := 11) (k := 14) (C := RX11) (z := ((71 : Nat) : Int)) dX11_init_168 wF_X11_78 rfl inX11 tyX11_ok nmX11 (by decide) (by decide) rfl rfl rfl (show (cF146 0).1 = 12 from by decide +kernel) (zq_nat 71).symm trivial ?_
    change zO l E (d + 1) YX11_init 171 [(0, zR 0)] [] (cF147, cD92, 73, 4770) zmV (some (cF188, cD114, 91, 5339))
    refine zO_aload_n dX11_init_171 rfl (zR_P _) ?_
    refine cnw1 dX11_init_172 wL_X11_82 (by decide) ?_
    change zO l E (d + 1) YX11_init 175 [(0, zR 0)] [zR 73, zR 0] (cF148, cD93, 74, 4780) zmV (some (cF188, cD114, 91, 5339))
    refine zO_dup dX11_init_175 rfl ?_
    refine zO_aload_n dX11_init_176 rfl (zR_P _) ?_
    refine gt11 (k := 0) (v := zR 1) dX11_init_177 wF_X11_10 (by decide) (show (cF148 0).1 = 12 from by decide +kernel) (by rw [show zfv cF148 cD93 0 11 0 = ((1 : Nat) : Int) from by decide +kernel]; exact zq_nat 1) ?_
    refine zO_aload_n dX11_init_180 rfl (zR_P _) ?_
    refine gt11 (k := 11) (v := zR 49) dX11_init_181 wF_X11_53 (by decide) (show (cF148 0).1 = 12 from by decide +kernel) (by rw [show zfv cF148 cD93 0 11 11 = ((49 : Nat) : Int) from by decide +kernel]; exact zq_nat 49) ?_
    refine zO_callI (Y' := YX1_init) (cw := zmV) (y := some (cF158, cD99, 78, 5240)) (g := fun _ => some (cF188, cD114, 91, 5339)) (as := [zR 1, zR 49]) (a := 73) (rest := [zR 73, zR 0]) (na := 2) dX11_init_184 wC_X1_init wN_X1 wM_X11_84 wI_X1_init rfl rfl (by decide) (by decide) rfl rfl (Nat.le_of_ble_eq_true rfl) (fun r hr => Option.some.inj hr ▸ cn_X1_init_73) (fun r hr => Option.some.inj hr ▸ ?_)
    change zO l E (d + 1) YX11_init 187 [(0, zR 0)] [zR 73, zR 0] (cF158, cD99, 78, 5240) zmV (some (cF188, cD114, 91, 5339))
    refine zO_putF (c := 11) (k := 15) (C := RX11) (z := ((73 : Nat) : Int)) dX11_init_187 wF_X11_87 rfl inX11 tyX11_ok nmX11 (by decide) (by decide) rfl rfl rfl (show (cF158 0).1 = 12 from by decide +kernel) (zq_nat 73).symm trivial ?_
    change zO l E (d + 1) YX11_init 190 [(0, zR 0)] [] (cF159, cD99, 78, 5240) zmV (some (cF188, cD114, 91, 5339))
    refine zO_aload_n dX11_init_190 rfl (zR_P _) ?_
    refine cnw7 dX11_init_191 wL_X11_91 (by decide) ?_
    change zO l E (d + 1) YX11_init 194 [(0, zR 0)] [zR 78, zR 0] (cF160, cD100, 79, 5252) zmV (some (cF188, cD114, 91, 5339))
    refine zO_dup dX11_init_194 rfl ?_
    refine zO_aload_n dX11_init_195 rfl (zR_P _) ?_
    refine gt11 (k := 0) (v := zR 1) dX11_init_196 wF_X11_10 (by decide) (show (cF160 0).1 = 12 from by decide +kernel) (by rw [show zfv cF160 cD100 0 11 0 = ((1 : Nat) : Int) from by decide +kernel]; exact zq_nat 1) ?_
    refine zO_aload_n dX11_init_199 rfl (zR_P _) ?_
    refine gt11 (k := 11) (v := zR 49) dX11_init_200 wF_X11_53 (by decide) (show (cF160 0).1 = 12 from by decide +kernel) (by rw [show zfv cF160 cD100 0 11 11 = ((49 : Nat) : Int) from by decide +kernel]; exact zq_nat 49) ?_
    refine zO_callI (Y' := YX7_init) (cw := zmV) (y := some (cF175, cD109, 86, 5307)) (g := fun _ => some (cF188, cD114, 91, 5339)) (as := [zR 1, zR 49]) (a := 78) (rest := [zR 78, zR 0]) (na := 2) dX11_init_203 wC_X7_init wN_X7 wM_X11_93 wI_X7_init rfl rfl (by decide) (by decide) rfl rfl (Nat.le_of_ble_eq_true rfl) (fun r hr => Option.some.inj hr ▸ cn_X7_init_78) (fun r hr => Option.some.inj hr ▸ ?_)
    change zO l E (d + 1) YX11_init 206 [(0, zR 0)] [zR 78, zR 0] (cF175, cD109, 86, 5307) zmV (some (cF188, cD114, 91, 5339))
    refine zO_putF (c := 11) (k := 16) (C := RX11) (z := ((78 : Nat) : Int)) dX11_init_206 wF_X11_94 rfl inX11 tyX11_ok nmX11 (by decide) (by decide) rfl rfl rfl (show (cF175 0).1 = 12 from by decide +kernel) (zq_nat 78).symm trivial ?_
    change zO l E (d + 1) YX11_init 209 [(0, zR 0)] [] (cF176, cD109, 86, 5307) zmV (some (cF188, cD114, 91, 5339))
    refine zO_aload_n dX11_init_209 rfl (zR_P _) ?_
    refine cnw5 dX11_init_210 wL_X11_98 (by decide) ?_
    change zO l E (d + 1) YX11_init 213 [(0, zR 0)] [zR 86, zR 0] (cF177, cD110, 87, 5309) zmV (some (cF188, cD114, 91, 5339))
    refine zO_dup dX11_init_213 rfl ?_
    refine zO_callIN (Y' := YX5_init) (cw := zmV) (y := some (cF181, cD112, 89, 5327)) (g := fun _ => some (cF188, cD114, 91, 5339)) (as := []) (a := 86) (rest := [zR 86, zR 0]) (na := 0) dX11_init_214 wC_X5_init wN_X5 (by simp [znest]) wI_X5_init rfl rfl (by decide) (by decide) rfl rfl (Nat.le_of_ble_eq_true rfl) (fun r hr => Option.some.inj hr ▸ cn_X5_init_86) (fun r hr => Option.some.inj hr ▸ ?_)
    change zO l E (d + 1) YX11_init 217 [(0, zR 0)] [zR 86, zR 0] (cF181, cD112, 89, 5327) zmV (some (cF188, cD114, 91, 5339))
    refine zO_putF (c := 11) (k := 17) (C := RX11) (z := ((86 : Nat) : Int)) dX11_init_217 wF_X11_101 rfl inX11 tyX11_ok nmX11 (by decide) (by decide) rfl rfl rfl (show (cF181 0).1 = 12 from by decide +kernel) (zq_nat 86).symm trivial ?_
    change zO l E (d + 1) YX11_init 220 [(0, zR 0)] [] (cF182, cD112, 89, 5327) zmV (some (cF188, cD114, 91, 5339))
    refine zO_aload_n dX11_init_220 rfl (zR_P _) ?_
    refine cnw8 dX11_init_221 wL_X11_105 (by decide) ?_
    change zO l E (d + 1) YX11_init 224 [(0, zR 0)] [zR 89, zR 0] (cF183, cD113, 90, 5336) zmV (some (cF188, cD114, 91, 5339))
    refine zO_dup dX11_init_224 rfl ?_
    refine zO_aload_n dX11_init_225 rfl (zR_P _) ?_
    refine gt11 (k := 0) (v := zR 1) dX11_init_226 wF_X11_10 (by decide) (show (cF183 0).1 = 12 from by decide +kernel) (by rw [show zfv cF183 cD113 0 11 0 = ((1 : Nat) : Int) from by decide +kernel]; exact zq_nat 1) ?_
    refine zO_aload_n dX11_init_229 rfl (zR_P _) ?_
    refine gt11 (k := 11) (v := zR 49) dX11_init_230 wF_X11_53 (by decide) (show (cF183 0).1 = 12 from by decide +kernel) (by rw [show zfv cF183 cD113 0 11 11 = ((49 : Nat) : Int) from by decide +kernel]; exact zq_nat 49) ?_
    refine zO_callI (Y' := YX8_init) (cw := zmV) (y := some (cF187, cD114, 91, 5339)) (g := fun _ => some (cF188, cD114, 91, 5339)) (as := [zR 1, zR 49]) (a := 89) (rest := [zR 89, zR 0]) (na := 2) dX11_init_233 wC_X8_init wN_X8 wM_X11_107 wI_X8_init rfl rfl (by decide) (by decide) rfl rfl (Nat.le_of_ble_eq_true rfl) (fun r hr => Option.some.inj hr ▸ cn_X8_init_89) (fun r hr => Option.some.inj hr ▸ ?_)
    change zO l E (d + 1) YX11_init 236 [(0, zR 0)] [zR 89, zR 0] (cF187, cD114, 91, 5339) zmV (some (cF188, cD114, 91, 5339))
    refine zO_putF (c := 11) (k := 18) (C := RX11) (z := ((89 : Nat) : Int)) dX11_init_236 wF_X11_108 rfl inX11 tyX11_ok nmX11 (by decide) (by decide) rfl rfl rfl (show (cF187 0).1 = 12 from by decide +kernel) (zq_nat 89).symm trivial ?_
    change zO l E (d + 1) YX11_init 239 [(0, zR 0)] [] (cF188, cD114, 91, 5339) zmV (some (cF188, cD114, 91, 5339))
    exact zO_ret (rv := none) dX11_init_239 rfl trivial rfl
  exact hz _ rfl
