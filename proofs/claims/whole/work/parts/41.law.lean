def fL_law_1337 (E : zE) (k_18 : Int → zFs → zDa → Nat → Nat → Option (Int × zM)) (v3 : Int) (F : zFs) (D : zDa) (n sl : Nat) : Option (Int × zM) :=
  if (-2147483648 ≤ v3 + 6 ∧ v3 + 6 ≤ 2147483647) then
    k_18 (v3 + 6) F D n sl
  else none
def fL_law_18 (E : zE)   (k_18 : Int → zFs → zDa → Nat → Nat → Option (Int × zM)) (v3 : Int) (F : zFs) (D : zDa) (n sl : Nat) : Option (Int × zM) :=
  if (-2147483648 ≤ ((zgl E 0 : Int)) - 6 ∧ ((zgl E 0 : Int)) - 6 ≤ 2147483647) then
    if (((zgl E 0 : Int)) - 6) < v3 then
      some (1, (F, D, n, sl))
    else
      if (0 ≤ v3 ∧ v3 < (zgl E 0 : Int)) then
        if (zand (zga E 0 v3.toNat) 63) = 0 then
          if (-2147483648 ≤ v3 + 1 ∧ v3 + 1 ≤ 2147483647) ∧ (0 ≤ (v3 + 1) ∧ (v3 + 1) < (zgl E 0 : Int)) ∧ (-2147483648 ≤ v3 + 2 ∧ v3 + 2 ≤ 2147483647) ∧ (0 ≤ (v3 + 2) ∧ (v3 + 2) < (zgl E 0 : Int)) then
            (fX11_question F (zga E 0 (v3 + 1).toNat) (zga E 0 (v3 + 2).toNat) D).bind (fun (r_1, D_2) =>
              (fX12_question F (zga E 0 (v3 + 1).toNat) (zga E 0 (v3 + 2).toNat) D_2).bind (fun (r_3, D_4) =>
                if r_1 = r_3 then
                  fL_law_1337 E k_18 v3 F D_4 n sl
                else
                  some (0, (F, D_4, n, sl))))
          else none
        else
          if (zand (zga E 0 v3.toNat) 63) = 1 then
            if (-2147483648 ≤ v3 + 1 ∧ v3 + 1 ≤ 2147483647) ∧ (0 ≤ (v3 + 1) ∧ (v3 + 1) < (zgl E 0 : Int)) ∧ (-2147483648 ≤ v3 + 2 ∧ v3 + 2 ≤ 2147483647) ∧ (0 ≤ (v3 + 2) ∧ (v3 + 2) < (zgl E 0 : Int)) ∧ (-2147483648 ≤ v3 + 3 ∧ v3 + 3 ≤ 2147483647) ∧ (0 ≤ (v3 + 3) ∧ (v3 + 3) < (zgl E 0 : Int)) then
              (fX11_know F (zga E 0 (v3 + 1).toNat) (zga E 0 (v3 + 2).toNat) (zga E 0 (v3 + 3).toNat) D).bind (fun (r_5, D_6) =>
                (fX12_know F (zga E 0 (v3 + 1).toNat) (zga E 0 (v3 + 2).toNat) (zga E 0 (v3 + 3).toNat) D_6).bind (fun (r_7, D_8) =>
                  if r_5 = r_7 then
                    fL_law_1337 E k_18 v3 F D_8 n sl
                  else
                    some (0, (F, D_8, n, sl))))
            else none
          else
            if (zand (zga E 0 v3.toNat) 63) = 2 then
              if (-2147483648 ≤ v3 + 1 ∧ v3 + 1 ≤ 2147483647) ∧ (0 ≤ (v3 + 1) ∧ (v3 + 1) < (zgl E 0 : Int)) ∧ (-2147483648 ≤ v3 + 2 ∧ v3 + 2 ≤ 2147483647) ∧ (0 ≤ (v3 + 2) ∧ (v3 + 2) < (zgl E 0 : Int)) then
                (fX11_of F (zga E 0 (v3 + 1).toNat) (zga E 0 (v3 + 2).toNat) D).bind (fun (r_9, D_10) =>
                  (fX12_of F (zga E 0 (v3 + 1).toNat) (zga E 0 (v3 + 2).toNat) D_10).bind (fun (r_11, D_12) =>
                    if r_9 = r_11 then
                      fL_law_1337 E k_18 v3 F D_12 n sl
                    else
                      some (0, (F, D_12, n, sl))))
              else none
            else
              if (zand (zga E 0 v3.toNat) 63) = 3 then
                if (-2147483648 ≤ v3 + 1 ∧ v3 + 1 ≤ 2147483647) ∧ (0 ≤ (v3 + 1) ∧ (v3 + 1) < (zgl E 0 : Int)) ∧ (-2147483648 ≤ v3 + 2 ∧ v3 + 2 ≤ 2147483647) ∧ (0 ≤ (v3 + 2) ∧ (v3 + 2) < (zgl E 0 : Int)) then
                  (fX11_terms F (zga E 0 (v3 + 1).toNat) (zga E 0 (v3 + 2).toNat) D).bind (fun (r_13, D_14) =>
                    (fX12_terms F (zga E 0 (v3 + 1).toNat) (zga E 0 (v3 + 2).toNat) D_14).bind (fun (r_15, D_16) =>
                      if r_13 = r_15 then
                        fL_law_1337 E k_18 v3 F D_16 n sl
                      else
                        some (0, (F, D_16, n, sl))))
                else none
              else
                if (zand (zga E 0 v3.toNat) 63) = 4 then
                  if (-2147483648 ≤ v3 + 1 ∧ v3 + 1 ≤ 2147483647) ∧ (0 ≤ (v3 + 1) ∧ (v3 + 1) < (zgl E 0 : Int)) ∧ (-2147483648 ≤ v3 + 2 ∧ v3 + 2 ≤ 2147483647) ∧ (0 ≤ (v3 + 2) ∧ (v3 + 2) < (zgl E 0 : Int)) ∧ (-2147483648 ≤ v3 + 3 ∧ v3 + 3 ≤ 2147483647) ∧ (0 ≤ (v3 + 3) ∧ (v3 + 3) < (zgl E 0 : Int)) ∧ (-2147483648 ≤ v3 + 4 ∧ v3 + 4 ≤ 2147483647) ∧ (0 ≤ (v3 + 4) ∧ (v3 + 4) < (zgl E 0 : Int)) ∧ (-2147483648 ≤ v3 + 5 ∧ v3 + 5 ≤ 2147483647) ∧ (0 ≤ (v3 + 5) ∧ (v3 + 5) < (zgl E 0 : Int)) then
                    (fX11_feed F (zga E 0 (v3 + 1).toNat) (zga E 0 (v3 + 2).toNat) (zga E 0 (v3 + 3).toNat) (zga E 0 (v3 + 4).toNat) (zga E 0 (v3 + 5).toNat) D).bind (fun (r_17, D_18) =>
                      (fX12_feed F (zga E 0 (v3 + 1).toNat) (zga E 0 (v3 + 2).toNat) (zga E 0 (v3 + 3).toNat) (zga E 0 (v3 + 4).toNat) (zga E 0 (v3 + 5).toNat) D_18).bind (fun (r_19, D_20) =>
                        if r_17 = r_19 then
                          fL_law_1337 E k_18 v3 F D_20 n sl
                        else
                          some (0, (F, D_20, n, sl))))
                  else none
                else
                  if (zand (zga E 0 v3.toNat) 63) = 5 then
                    if (-2147483648 ≤ v3 + 1 ∧ v3 + 1 ≤ 2147483647) ∧ (0 ≤ (v3 + 1) ∧ (v3 + 1) < (zgl E 0 : Int)) then
                      (fX11_end F (zga E 0 (v3 + 1).toNat) D).bind (fun (r_21, D_22) =>
                        (fX12_end F (zga E 0 (v3 + 1).toNat) D_22).bind (fun (r_23, D_24) =>
                          if r_21 = r_23 then
                            fL_law_1337 E k_18 v3 F D_24 n sl
                          else
                            some (0, (F, D_24, n, sl))))
                    else none
                  else
                    if (zand (zga E 0 v3.toNat) 63) = 6 then
                      (fX11_paper F D n sl).bind (fun (r_25, (F_26, D_27, n_28, sl_29)) =>
                        if zG F_26 ∧ 126 ≤ n_28 then
                          (fX12_paper F_26 D_27).bind (fun (r_30, D_31) =>
                            if r_25 = r_30 then
                              fL_law_1337 E k_18 v3 F_26 D_31 n_28 sl_29
                            else
                              some (0, (F_26, D_31, n_28, sl_29)))
                        else none)
                    else
                      if (zand (zga E 0 v3.toNat) 63) = 7 then
                        (fX11_fault F D).bind (fun (r_32, D_33) =>
                          (fX12_fault F D_33).bind (fun (r_34, D_35) =>
                            if r_32 = r_34 then
                              fL_law_1337 E k_18 v3 F D_35 n sl
                            else
                              some (0, (F, D_35, n, sl))))
                      else
                        if (zand (zga E 0 v3.toNat) 63) = 8 then
                          if (-2147483648 ≤ v3 + 1 ∧ v3 + 1 ≤ 2147483647) ∧ (0 ≤ (v3 + 1) ∧ (v3 + 1) < (zgl E 0 : Int)) then
                            (fX11_use F (zga E 0 (v3 + 1).toNat) D).bind (fun (r_36, D_37) =>
                              (fX12_use F (zga E 0 (v3 + 1).toNat) D_37).bind (fun (r_38, D_39) =>
                                if r_36 = r_38 then
                                  fL_law_1337 E k_18 v3 F D_39 n sl
                                else
                                  some (0, (F, D_39, n, sl))))
                          else none
                        else
                          if (zand (zga E 0 v3.toNat) 63) = 9 then
                            if (-2147483648 ≤ v3 + 1 ∧ v3 + 1 ≤ 2147483647) ∧ (0 ≤ (v3 + 1) ∧ (v3 + 1) < (zgl E 0 : Int)) ∧ (-2147483648 ≤ v3 + 2 ∧ v3 + 2 ≤ 2147483647) ∧ (0 ≤ (v3 + 2) ∧ (v3 + 2) < (zgl E 0 : Int)) ∧ (-2147483648 ≤ v3 + 3 ∧ v3 + 3 ≤ 2147483647) ∧ (0 ≤ (v3 + 3) ∧ (v3 + 3) < (zgl E 0 : Int)) then
                              (fX11_takes F (zga E 0 (v3 + 1).toNat) (zga E 0 (v3 + 2).toNat) (zga E 0 (v3 + 3).toNat) D).bind (fun (r_40, D_41) =>
                                (fX12_takes F (zga E 0 (v3 + 1).toNat) (zga E 0 (v3 + 2).toNat) (zga E 0 (v3 + 3).toNat) D_41).bind (fun (r_42, D_43) =>
                                  if r_40 = r_42 then
                                    fL_law_1337 E k_18 v3 F D_43 n sl
                                  else
                                    some (0, (F, D_43, n, sl))))
                            else none
                          else
                            if (zand (zga E 0 v3.toNat) 63) = 10 then
                              if (-2147483648 ≤ v3 + 1 ∧ v3 + 1 ≤ 2147483647) ∧ (0 ≤ (v3 + 1) ∧ (v3 + 1) < (zgl E 0 : Int)) ∧ (-2147483648 ≤ v3 + 2 ∧ v3 + 2 ≤ 2147483647) ∧ (0 ≤ (v3 + 2) ∧ (v3 + 2) < (zgl E 0 : Int)) then
                                (fX11_keeps F (zga E 0 (v3 + 1).toNat) (zga E 0 (v3 + 2).toNat) D).bind (fun (r_44, D_45) =>
                                  (fX12_keeps F (zga E 0 (v3 + 1).toNat) (zga E 0 (v3 + 2).toNat) D_45).bind (fun (r_46, D_47) =>
                                    if r_44 = r_46 then
                                      fL_law_1337 E k_18 v3 F D_47 n sl
                                    else
                                      some (0, (F, D_47, n, sl))))
                              else none
                            else
                              if (zand (zga E 0 v3.toNat) 63) = 11 then
                                if (-2147483648 ≤ v3 + 1 ∧ v3 + 1 ≤ 2147483647) ∧ (0 ≤ (v3 + 1) ∧ (v3 + 1) < (zgl E 0 : Int)) then
                                  (fX11_chance F (zga E 0 (v3 + 1).toNat) D).bind (fun (r_48, D_49) =>
                                    (fX12_chance F (zga E 0 (v3 + 1).toNat) D_49).bind (fun (r_50, D_51) =>
                                      if r_48 = r_50 then
                                        fL_law_1337 E k_18 v3 F D_51 n sl
                                      else
                                        some (0, (F, D_51, n, sl))))
                                else none
                              else
                                if (zand (zga E 0 v3.toNat) 63) = 12 then
                                  if (-2147483648 ≤ v3 + 1 ∧ v3 + 1 ≤ 2147483647) ∧ (0 ≤ (v3 + 1) ∧ (v3 + 1) < (zgl E 0 : Int)) then
                                    (fX11_pass F (zga E 0 (v3 + 1).toNat) D).bind (fun (r_52, D_53) =>
                                      (fX12_pass F (zga E 0 (v3 + 1).toNat) D_53).bind (fun (r_54, D_55) =>
                                        if r_52 = r_54 then
                                          fL_law_1337 E k_18 v3 F D_55 n sl
                                        else
                                          some (0, (F, D_55, n, sl))))
                                  else none
                                else
                                  if (zand (zga E 0 v3.toNat) 63) = 13 then
                                    if (-2147483648 ≤ v3 + 1 ∧ v3 + 1 ≤ 2147483647) ∧ (0 ≤ (v3 + 1) ∧ (v3 + 1) < (zgl E 0 : Int)) ∧ (-2147483648 ≤ v3 + 2 ∧ v3 + 2 ≤ 2147483647) ∧ (0 ≤ (v3 + 2) ∧ (v3 + 2) < (zgl E 0 : Int)) then
                                      (fX11_right F (zga E 0 (v3 + 1).toNat) (zga E 0 (v3 + 2).toNat) D).bind (fun (r_56, D_57) =>
                                        (fX12_right F (zga E 0 (v3 + 1).toNat) (zga E 0 (v3 + 2).toNat) D_57).bind (fun (r_58, D_59) =>
                                          if r_56 = r_58 then
                                            fL_law_1337 E k_18 v3 F D_59 n sl
                                          else
                                            some (0, (F, D_59, n, sl))))
                                    else none
                                  else
                                    if (zand (zga E 0 v3.toNat) 63) = 14 then
                                      if (-2147483648 ≤ v3 + 1 ∧ v3 + 1 ≤ 2147483647) ∧ (0 ≤ (v3 + 1) ∧ (v3 + 1) < (zgl E 0 : Int)) then
                                        (fX11_mean F (zga E 0 (v3 + 1).toNat) D).bind (fun (r_60, D_61) =>
                                          (fX12_mean F (zga E 0 (v3 + 1).toNat) D_61).bind (fun (r_62, D_63) =>
                                            if r_60 = r_62 then
                                              fL_law_1337 E k_18 v3 F D_63 n sl
                                            else
                                              some (0, (F, D_63, n, sl))))
                                      else none
                                    else
                                      if (zand (zga E 0 v3.toNat) 63) = 15 then
                                        if (-2147483648 ≤ v3 + 1 ∧ v3 + 1 ≤ 2147483647) ∧ (0 ≤ (v3 + 1) ∧ (v3 + 1) < (zgl E 0 : Int)) ∧ (-2147483648 ≤ v3 + 2 ∧ v3 + 2 ≤ 2147483647) ∧ (0 ≤ (v3 + 2) ∧ (v3 + 2) < (zgl E 0 : Int)) then
                                          (fX11_sure F (zga E 0 (v3 + 1).toNat) (zga E 0 (v3 + 2).toNat) D).bind (fun (r_64, D_65) =>
                                            (fX12_sure F (zga E 0 (v3 + 1).toNat) (zga E 0 (v3 + 2).toNat) D_65).bind (fun (r_66, D_67) =>
                                              if r_64 = r_66 then
                                                fL_law_1337 E k_18 v3 F D_67 n sl
                                              else
                                                some (0, (F, D_67, n, sl))))
                                        else none
                                      else
                                        if (zand (zga E 0 v3.toNat) 63) = 16 then
                                          (fX11_safe F D).bind (fun (r_68, D_69) =>
                                            (fX12_safe F D_69).bind (fun (r_70, D_71) =>
                                              if r_68 = r_70 then
                                                fL_law_1337 E k_18 v3 F D_71 n sl
                                              else
                                                some (0, (F, D_71, n, sl))))
                                        else
                                          if (zand (zga E 0 v3.toNat) 63) = 17 then
                                            if (-2147483648 ≤ v3 + 1 ∧ v3 + 1 ≤ 2147483647) ∧ (0 ≤ (v3 + 1) ∧ (v3 + 1) < (zgl E 0 : Int)) then
                                              (fX11_worth F (zga E 0 (v3 + 1).toNat) D).bind (fun (r_72, D_73) =>
                                                (fX12_worth F (zga E 0 (v3 + 1).toNat) D_73).bind (fun (r_74, D_75) =>
                                                  if r_72 = r_74 then
                                                    fL_law_1337 E k_18 v3 F D_75 n sl
                                                  else
                                                    some (0, (F, D_75, n, sl))))
                                            else none
                                          else
                                            if (zand (zga E 0 v3.toNat) 63) = 18 then
                                              if (-2147483648 ≤ v3 + 1 ∧ v3 + 1 ≤ 2147483647) ∧ (0 ≤ (v3 + 1) ∧ (v3 + 1) < (zgl E 0 : Int)) ∧ (-2147483648 ≤ v3 + 2 ∧ v3 + 2 ≤ 2147483647) ∧ (0 ≤ (v3 + 2) ∧ (v3 + 2) < (zgl E 0 : Int)) then
                                                (fX11_best (zga E 0 (v3 + 1).toNat) (zga E 0 (v3 + 2).toNat) F D n sl).bind (fun (r_76, (F_77, D_78, n_79, sl_80)) =>
                                                  if zG F_77 ∧ 126 ≤ n_79 then
                                                    (fX12_best F_77 (zga E 0 (v3 + 1).toNat) (zga E 0 (v3 + 2).toNat) D_78).bind (fun (r_81, D_82) =>
                                                      if r_76 = r_81 then
                                                        fL_law_1337 E k_18 v3 F_77 D_82 n_79 sl_80
                                                      else
                                                        some (0, (F_77, D_82, n_79, sl_80)))
                                                  else none)
                                              else none
                                            else
                                              if (zand (zga E 0 v3.toNat) 63) = 19 then
                                                if (-2147483648 ≤ v3 + 1 ∧ v3 + 1 ≤ 2147483647) ∧ (0 ≤ (v3 + 1) ∧ (v3 + 1) < (zgl E 0 : Int)) ∧ (-2147483648 ≤ v3 + 2 ∧ v3 + 2 ≤ 2147483647) ∧ (0 ≤ (v3 + 2) ∧ (v3 + 2) < (zgl E 0 : Int)) then
                                                  (fX11_level (zga E 0 (v3 + 1).toNat) (zga E 0 (v3 + 2).toNat) F D n sl).bind (fun (r_83, (F_84, D_85, n_86, sl_87)) =>
                                                    if zG F_84 ∧ 126 ≤ n_86 then
                                                      (fX12_level F_84 (zga E 0 (v3 + 1).toNat) (zga E 0 (v3 + 2).toNat) D_85).bind (fun (r_88, D_89) =>
                                                        if r_83 = r_88 then
                                                          fL_law_1337 E k_18 v3 F_84 D_89 n_86 sl_87
                                                        else
                                                          some (0, (F_84, D_89, n_86, sl_87)))
                                                    else none)
                                                else none
                                              else
                                                if (zand (zga E 0 v3.toNat) 63) = 20 then
                                                  if (-2147483648 ≤ v3 + 1 ∧ v3 + 1 ≤ 2147483647) ∧ (0 ≤ (v3 + 1) ∧ (v3 + 1) < (zgl E 0 : Int)) then
                                                    (fX11_enough (zga E 0 (v3 + 1).toNat) F D n sl).bind (fun (r_90, (F_91, D_92, n_93, sl_94)) =>
                                                      if zG F_91 ∧ 126 ≤ n_93 then
                                                        (fX12_enough F_91 (zga E 0 (v3 + 1).toNat) D_92).bind (fun (r_95, D_96) =>
                                                          if r_90 = r_95 then
                                                            fL_law_1337 E k_18 v3 F_91 D_96 n_93 sl_94
                                                          else
                                                            some (0, (F_91, D_96, n_93, sl_94)))
                                                      else none)
                                                  else none
                                                else
                                                  if (zand (zga E 0 v3.toNat) 63) = 21 then
                                                    if (-2147483648 ≤ v3 + 1 ∧ v3 + 1 ≤ 2147483647) ∧ (0 ≤ (v3 + 1) ∧ (v3 + 1) < (zgl E 0 : Int)) ∧ (-2147483648 ≤ v3 + 2 ∧ v3 + 2 ≤ 2147483647) ∧ (0 ≤ (v3 + 2) ∧ (v3 + 2) < (zgl E 0 : Int)) then
                                                      (fX11_lesson F (zga E 0 (v3 + 1).toNat) (zga E 0 (v3 + 2).toNat) D).bind (fun (r_97, D_98) =>
                                                        (fX12_lesson F (zga E 0 (v3 + 1).toNat) (zga E 0 (v3 + 2).toNat) D_98).bind (fun (r_99, D_100) =>
                                                          if r_97 = r_99 then
                                                            fL_law_1337 E k_18 v3 F D_100 n sl
                                                          else
                                                            some (0, (F, D_100, n, sl))))
                                                    else none
                                                  else
                                                    if (zand (zga E 0 v3.toNat) 63) = 22 then
                                                      (fX11_clear F D).bind (fun (r_101, D_102) =>
                                                        (fX12_clear F D_102).bind (fun (r_103, D_104) =>
                                                          if r_101 = r_103 then
                                                            fL_law_1337 E k_18 v3 F D_104 n sl
                                                          else
                                                            some (0, (F, D_104, n, sl))))
                                                    else
                                                      if (zand (zga E 0 v3.toNat) 63) = 23 then
                                                        if (-2147483648 ≤ v3 + 1 ∧ v3 + 1 ≤ 2147483647) ∧ (0 ≤ (v3 + 1) ∧ (v3 + 1) < (zgl E 0 : Int)) ∧ (-2147483648 ≤ v3 + 2 ∧ v3 + 2 ≤ 2147483647) ∧ (0 ≤ (v3 + 2) ∧ (v3 + 2) < (zgl E 0 : Int)) then
                                                          (fX11_behind F (zga E 0 (v3 + 1).toNat) (zga E 0 (v3 + 2).toNat) D).bind (fun (r_105, D_106) =>
                                                            (fX12_behind F (zga E 0 (v3 + 1).toNat) (zga E 0 (v3 + 2).toNat) D_106).bind (fun (r_107, D_108) =>
                                                              if r_105 = r_107 then
                                                                fL_law_1337 E k_18 v3 F D_108 n sl
                                                              else
                                                                some (0, (F, D_108, n, sl))))
                                                        else none
                                                      else
                                                        if (zand (zga E 0 v3.toNat) 63) = 24 then
                                                          if (-2147483648 ≤ v3 + 1 ∧ v3 + 1 ≤ 2147483647) ∧ (0 ≤ (v3 + 1) ∧ (v3 + 1) < (zgl E 0 : Int)) then
                                                            (fX11_judge F (zga E 0 (v3 + 1).toNat) D).bind (fun (r_109, D_110) =>
                                                              (fX12_judge F (zga E 0 (v3 + 1).toNat) D_110).bind (fun (r_111, D_112) =>
                                                                if r_109 = r_111 then
                                                                  fL_law_1337 E k_18 v3 F D_112 n sl
                                                                else
                                                                  some (0, (F, D_112, n, sl))))
                                                          else none
                                                        else
                                                          if (zand (zga E 0 v3.toNat) 63) = 25 then
                                                            (fX11_learn F D).bind (fun (r_113, D_114) =>
                                                              (fX12_learn F D_114).bind (fun (r_115, D_116) =>
                                                                if r_113 = r_115 then
                                                                  fL_law_1337 E k_18 v3 F D_116 n sl
                                                                else
                                                                  some (0, (F, D_116, n, sl))))
                                                          else
                                                            if (zand (zga E 0 v3.toNat) 63) = 26 then
                                                              if (-2147483648 ≤ v3 + 1 ∧ v3 + 1 ≤ 2147483647) ∧ (0 ≤ (v3 + 1) ∧ (v3 + 1) < (zgl E 0 : Int)) ∧ (-2147483648 ≤ v3 + 2 ∧ v3 + 2 ≤ 2147483647) ∧ (0 ≤ (v3 + 2) ∧ (v3 + 2) < (zgl E 0 : Int)) then
                                                                (fX11_backward (zga E 0 (v3 + 1).toNat) (zga E 0 (v3 + 2).toNat) F D n sl).bind (fun (r_117, (F_118, D_119, n_120, sl_121)) =>
                                                                  if zG F_118 ∧ 126 ≤ n_120 then
                                                                    (fX12_backward F_118 (zga E 0 (v3 + 1).toNat) (zga E 0 (v3 + 2).toNat) D_119).bind (fun (r_122, D_123) =>
                                                                      if r_117 = r_122 then
                                                                        fL_law_1337 E k_18 v3 F_118 D_123 n_120 sl_121
                                                                      else
                                                                        some (0, (F_118, D_123, n_120, sl_121)))
                                                                  else none)
                                                              else none
                                                            else
                                                              if (zand (zga E 0 v3.toNat) 63) = 27 then
                                                                if (-2147483648 ≤ v3 + 1 ∧ v3 + 1 ≤ 2147483647) ∧ (0 ≤ (v3 + 1) ∧ (v3 + 1) < (zgl E 0 : Int)) ∧ (-2147483648 ≤ v3 + 2 ∧ v3 + 2 ≤ 2147483647) ∧ (0 ≤ (v3 + 2) ∧ (v3 + 2) < (zgl E 0 : Int)) then
                                                                  (fX11_friend F (zga E 0 (v3 + 1).toNat) (zga E 0 (v3 + 2).toNat) D).bind (fun (r_124, D_125) =>
                                                                    (fX12_friend F (zga E 0 (v3 + 1).toNat) (zga E 0 (v3 + 2).toNat) D_125).bind (fun (r_126, D_127) =>
                                                                      if r_124 = r_126 then
                                                                        fL_law_1337 E k_18 v3 F D_127 n sl
                                                                      else
                                                                        some (0, (F, D_127, n, sl))))
                                                                else none
                                                              else
                                                                if (zand (zga E 0 v3.toNat) 63) = 28 then
                                                                  if (-2147483648 ≤ v3 + 1 ∧ v3 + 1 ≤ 2147483647) ∧ (0 ≤ (v3 + 1) ∧ (v3 + 1) < (zgl E 0 : Int)) then
                                                                    (fX11_share (zga E 0 (v3 + 1).toNat) F D n sl).bind (fun (r_128, (F_129, D_130, n_131, sl_132)) =>
                                                                      if zG F_129 ∧ 126 ≤ n_131 then
                                                                        (fX12_share F_129 (zga E 0 (v3 + 1).toNat) D_130).bind (fun (r_133, D_134) =>
                                                                          if r_128 = r_133 then
                                                                            fL_law_1337 E k_18 v3 F_129 D_134 n_131 sl_132
                                                                          else
                                                                            some (0, (F_129, D_134, n_131, sl_132)))
                                                                      else none)
                                                                  else none
                                                                else
                                                                  if (zand (zga E 0 v3.toNat) 63) = 29 then
                                                                    if (-2147483648 ≤ v3 + 1 ∧ v3 + 1 ≤ 2147483647) ∧ (0 ≤ (v3 + 1) ∧ (v3 + 1) < (zgl E 0 : Int)) ∧ (-2147483648 ≤ v3 + 2 ∧ v3 + 2 ≤ 2147483647) ∧ (0 ≤ (v3 + 2) ∧ (v3 + 2) < (zgl E 0 : Int)) then
                                                                      (fX11_ill (zga E 0 (v3 + 1).toNat) (zga E 0 (v3 + 2).toNat) F D n sl).bind (fun (r_135, (F_136, D_137, n_138, sl_139)) =>
                                                                        if zG F_136 ∧ 126 ≤ n_138 then
                                                                          (fX12_ill F_136 (zga E 0 (v3 + 1).toNat) (zga E 0 (v3 + 2).toNat) D_137).bind (fun (r_140, D_141) =>
                                                                            if r_135 = r_140 then
                                                                              fL_law_1337 E k_18 v3 F_136 D_141 n_138 sl_139
                                                                            else
                                                                              some (0, (F_136, D_141, n_138, sl_139)))
                                                                        else none)
                                                                    else none
                                                                  else
                                                                    if (zand (zga E 0 v3.toNat) 63) = 30 then
                                                                      if (-2147483648 ≤ v3 + 1 ∧ v3 + 1 ≤ 2147483647) ∧ (0 ≤ (v3 + 1) ∧ (v3 + 1) < (zgl E 0 : Int)) then
                                                                        (fX11_year F (zga E 0 (v3 + 1).toNat) D).bind (fun (r_142, D_143) =>
                                                                          (fX12_year F (zga E 0 (v3 + 1).toNat) D_143).bind (fun (r_144, D_145) =>
                                                                            if r_142 = r_144 then
                                                                              fL_law_1337 E k_18 v3 F D_145 n sl
                                                                            else
                                                                              some (0, (F, D_145, n, sl))))
                                                                      else none
                                                                    else
                                                                      if (zand (zga E 0 v3.toNat) 63) = 31 then
                                                                        (fX11_row F D).bind (fun (r_146, D_147) =>
                                                                          (fX12_row F D_147).bind (fun (r_148, D_149) =>
                                                                            if r_146 = r_148 then
                                                                              fL_law_1337 E k_18 v3 F D_149 n sl
                                                                            else
                                                                              some (0, (F, D_149, n, sl))))
                                                                      else
                                                                        if (zand (zga E 0 v3.toNat) 63) = 32 then
                                                                          (fX11_lost F D).bind (fun (r_150, D_151) =>
                                                                            (fX12_lost F D_151).bind (fun (r_152, D_153) =>
                                                                              if r_150 = r_152 then
                                                                                fL_law_1337 E k_18 v3 F D_153 n sl
                                                                              else
                                                                                some (0, (F, D_153, n, sl))))
                                                                        else
                                                                          if (zand (zga E 0 v3.toNat) 63) = 33 then
                                                                            if (-2147483648 ≤ v3 + 1 ∧ v3 + 1 ≤ 2147483647) ∧ (0 ≤ (v3 + 1) ∧ (v3 + 1) < (zgl E 0 : Int)) ∧ (-2147483648 ≤ v3 + 2 ∧ v3 + 2 ≤ 2147483647) ∧ (0 ≤ (v3 + 2) ∧ (v3 + 2) < (zgl E 0 : Int)) then
                                                                              (fX11_drawn F (zga E 0 (v3 + 1).toNat) (zga E 0 (v3 + 2).toNat) D).bind (fun (r_154, D_155) =>
                                                                                (fX12_drawn F (zga E 0 (v3 + 1).toNat) (zga E 0 (v3 + 2).toNat) D_155).bind (fun (r_156, D_157) =>
                                                                                  if r_154 = r_156 then
                                                                                    fL_law_1337 E k_18 v3 F D_157 n sl
                                                                                  else
                                                                                    some (0, (F, D_157, n, sl))))
                                                                            else none
                                                                          else
                                                                            if (zand (zga E 0 v3.toNat) 63) = 34 then
                                                                              if (-2147483648 ≤ v3 + 1 ∧ v3 + 1 ≤ 2147483647) ∧ (0 ≤ (v3 + 1) ∧ (v3 + 1) < (zgl E 0 : Int)) then
                                                                                (fX11_seldom F (zga E 0 (v3 + 1).toNat) D).bind (fun (r_158, D_159) =>
                                                                                  (fX12_seldom F (zga E 0 (v3 + 1).toNat) D_159).bind (fun (r_160, D_161) =>
                                                                                    if r_158 = r_160 then
                                                                                      fL_law_1337 E k_18 v3 F D_161 n sl
                                                                                    else
                                                                                      some (0, (F, D_161, n, sl))))
                                                                              else none
                                                                            else
                                                                              if (zand (zga E 0 v3.toNat) 63) = 35 then
                                                                                if (-2147483648 ≤ v3 + 1 ∧ v3 + 1 ≤ 2147483647) ∧ (0 ≤ (v3 + 1) ∧ (v3 + 1) < (zgl E 0 : Int)) then
                                                                                  (fX11_exam F (zga E 0 (v3 + 1).toNat) D).bind (fun (r_162, D_163) =>
                                                                                    (fX12_exam F (zga E 0 (v3 + 1).toNat) D_163).bind (fun (r_164, D_165) =>
                                                                                      if r_162 = r_164 then
                                                                                        fL_law_1337 E k_18 v3 F D_165 n sl
                                                                                      else
                                                                                        some (0, (F, D_165, n, sl))))
                                                                                else none
                                                                              else
                                                                                if (zand (zga E 0 v3.toNat) 63) = 36 then
                                                                                  if (-2147483648 ≤ v3 + 1 ∧ v3 + 1 ≤ 2147483647) ∧ (0 ≤ (v3 + 1) ∧ (v3 + 1) < (zgl E 0 : Int)) then
                                                                                    (fX11_table F (zga E 0 (v3 + 1).toNat) D).bind (fun (r_166, D_167) =>
                                                                                      (fX12_table F (zga E 0 (v3 + 1).toNat) D_167).bind (fun (r_168, D_169) =>
                                                                                        if r_166 = r_168 then
                                                                                          fL_law_1337 E k_18 v3 F D_169 n sl
                                                                                        else
                                                                                          some (0, (F, D_169, n, sl))))
                                                                                  else none
                                                                                else
                                                                                  if (zand (zga E 0 v3.toNat) 63) = 37 then
                                                                                    if (-2147483648 ≤ v3 + 1 ∧ v3 + 1 ≤ 2147483647) ∧ (0 ≤ (v3 + 1) ∧ (v3 + 1) < (zgl E 0 : Int)) ∧ (-2147483648 ≤ v3 + 2 ∧ v3 + 2 ≤ 2147483647) ∧ (0 ≤ (v3 + 2) ∧ (v3 + 2) < (zgl E 0 : Int)) then
                                                                                      (fX11_exams F (zga E 0 (v3 + 1).toNat) (zga E 0 (v3 + 2).toNat) D).bind (fun (r_170, D_171) =>
                                                                                        (fX12_exams F (zga E 0 (v3 + 1).toNat) (zga E 0 (v3 + 2).toNat) D_171).bind (fun (r_172, D_173) =>
                                                                                          if r_170 = r_172 then
                                                                                            fL_law_1337 E k_18 v3 F D_173 n sl
                                                                                          else
                                                                                            some (0, (F, D_173, n, sl))))
                                                                                    else none
                                                                                  else
                                                                                    if (zand (zga E 0 v3.toNat) 63) = 38 then
                                                                                      if (-2147483648 ≤ v3 + 1 ∧ v3 + 1 ≤ 2147483647) ∧ (0 ≤ (v3 + 1) ∧ (v3 + 1) < (zgl E 0 : Int)) then
                                                                                        (fX11_image F (zga E 0 (v3 + 1).toNat) D).bind (fun (r_174, D_175) =>
                                                                                          (fX12_image F (zga E 0 (v3 + 1).toNat) D_175).bind (fun (r_176, D_177) =>
                                                                                            if r_174 = r_176 then
                                                                                              fL_law_1337 E k_18 v3 F D_177 n sl
                                                                                            else
                                                                                              some (0, (F, D_177, n, sl))))
                                                                                      else none
                                                                                    else
                                                                                      if (zand (zga E 0 v3.toNat) 63) = 39 then
                                                                                        if (-2147483648 ≤ v3 + 1 ∧ v3 + 1 ≤ 2147483647) ∧ (0 ≤ (v3 + 1) ∧ (v3 + 1) < (zgl E 0 : Int)) then
                                                                                          (fX11_back F (zga E 0 (v3 + 1).toNat) D).bind (fun (r_178, D_179) =>
                                                                                            (fX12_back F (zga E 0 (v3 + 1).toNat) D_179).bind (fun (r_180, D_181) =>
                                                                                              if r_178 = r_180 then
                                                                                                fL_law_1337 E k_18 v3 F D_181 n sl
                                                                                              else
                                                                                                some (0, (F, D_181, n, sl))))
                                                                                        else none
                                                                                      else
                                                                                        if (zand (zga E 0 v3.toNat) 63) = 40 then
                                                                                          if (-2147483648 ≤ v3 + 1 ∧ v3 + 1 ≤ 2147483647) ∧ (0 ≤ (v3 + 1) ∧ (v3 + 1) < (zgl E 0 : Int)) then
                                                                                            (fX11_count F (zga E 0 (v3 + 1).toNat) D).bind (fun (r_182, D_183) =>
                                                                                              (fX12_count F (zga E 0 (v3 + 1).toNat) D_183).bind (fun (r_184, D_185) =>
                                                                                                if r_182 = r_184 then
                                                                                                  fL_law_1337 E k_18 v3 F D_185 n sl
                                                                                                else
                                                                                                  some (0, (F, D_185, n, sl))))
                                                                                          else none
                                                                                        else
                                                                                          if (zand (zga E 0 v3.toNat) 63) = 41 then
                                                                                            (fX11_status F D).bind (fun (r_186, D_187) =>
                                                                                              (fX12_status F D_187).bind (fun (r_188, D_189) =>
                                                                                                if r_186 = r_188 then
                                                                                                  fL_law_1337 E k_18 v3 F D_189 n sl
                                                                                                else
                                                                                                  some (0, (F, D_189, n, sl))))
                                                                                          else
                                                                                            fL_law_1337 E k_18 v3 F D n sl
      else none
  else none
set_option maxHeartbeats 20000000 in
theorem sL_law_1337 {l : Launch} {E : zE} {d : Nat}  (v3 : Int) (k_18 : Int → zFs → zDa → Nat → Nat → Option (Int × zM)) (hk_18 : ∀ (u3 : Int) (F : zFs) (D : zDa) (n sl : Nat), zG F → 126 ≤ n → zO l E (d + 94) YL_law 18 [(0, zR (1000000 + 0)), (1, zR 0), (2, zR 91), (3, zI u3)] [] (F, D, n, sl) zmI (k_18 u3 F D n sl)) (F : zFs) (D : zDa) (n sl : Nat) (hG : zG F) (hN : 126 ≤ n) : zO l E (d + 94) YL_law 1337 [(0, zR (1000000 + 0)), (1, zR 0), (2, zR 91), (3, zI v3)] [] (F, D, n, sl) (zmI) (fL_law_1337 E k_18 v3 F D n sl) := by
  unfold fL_law_1337
  refine zO_chk (fun h4 => ?_)
  refine zO_iinc dL_law_1337 rfl h4 (by decide) ?_
  refine zO_ls (ls' := [(0, zR (1000000 + 0)), (1, zR 0), (2, zR 91), (3, zI (v3 + 6))]) rfl ?_
  refine zO_goto (tgt := 18) dL_law_1340 rfl ?_
  refine zO_live [0, 1, 2, 3] ?_
  exact hk_18 (v3 + 6) F D n sl hG hN
set_option maxHeartbeats 20000000 in
theorem sL_law_18 {l : Launch} {E : zE} {d : Nat}     : ∀ (N : Nat) (v3 : Int) (F : zFs) (D : zDa) (n sl : Nat), zG F → 126 ≤ n → zO l E (d + 94) YL_law 18 [(0, zR (1000000 + 0)), (1, zR 0), (2, zR 91), (3, zI v3)] [] (F, D, n, sl) (zmI) (zfix (fun _ _ _ _ _ => none) (fL_law_18 E) N v3 F D n sl) := by
  intro N
  induction N with
  | zero => intro v3 F D n sl hG hN; exact zO_none
  | succ N hk_18 =>
    intro v3 F D n sl hG hN
    show zO _ _ _ _ _ _ _ _ _ ((fL_law_18 E) (zfix (fun _ _ _ _ _ => none) (fL_law_18 E) N) v3 F D n sl)
    unfold fL_law_18
    refine zO_chk (fun h1 => ?_)
    refine zO_iload_n dL_law_18 rfl ?_
    refine zO_aload_n dL_law_19 rfl (zR_P _) ?_
    refine zO_slen (j0 := 0) dL_law_20 (by decide) ?_
    refine zO_bipush dL_law_21 (by decide) ?_
    refine zO_isub dL_law_23 h1 ?_
    refine zO_icmp_gt (tgt := 1343) dL_law_24 rfl (fun c24 => ?_) (fun c24 => ?_)
    · refine zO_iconst dL_law_1343 (by decide) ?_
      exact zO_ret (rv := some (zI 1)) dL_law_1344 rfl rfl rfl
    · refine zO_chk (fun h2 => ?_)
      refine zO_aload_n dL_law_27 rfl (zR_P _) ?_
      refine zO_iload_n dL_law_28 rfl ?_
      refine zO_sld (j0 := 0) dL_law_29 (by decide) h2 ?_
      refine zO_bipush dL_law_30 (by decide) ?_
      refine zO_iand dL_law_32 ?_
      refine zO_ite (fun c33_0 => ?_) (fun c33_0 => ?_)
      · refine zO_tableIn (tgt := 216) dL_law_33 ⟨0, c33_0, by decide, by decide, rfl⟩ rfl ?_
        refine zO_chk (fun h3 => ?_)
        refine zO_aload_n dL_law_216 rfl (zR_P _) ?_
        refine zO_aload_n dL_law_217 rfl (zR_P _) ?_
        refine zO_iload_n dL_law_218 rfl ?_
        refine zO_iconst dL_law_219 (by decide) ?_
        refine zO_iadd dL_law_220 h3.1 ?_
        refine zO_sld (j0 := 0) dL_law_221 (by decide) h3.2.1 ?_
        refine zO_aload_n dL_law_222 rfl (zR_P _) ?_
        refine zO_iload_n dL_law_223 rfl ?_
        refine zO_iconst dL_law_224 (by decide) ?_
        refine zO_iadd dL_law_225 h3.2.2.1 ?_
        refine zO_sld (j0 := 0) dL_law_226 (by decide) h3.2.2.2 ?_
        refine zO_callV (Y' := YX11_question) (cw := zcI F n sl) (as := [zI (zga E 0 (v3 + 1).toNat), zI (zga E 0 (v3 + 2).toNat)]) (rest := []) (na := 2) (ci := 11) rfl dL_law_227 wC_X11_question wN_X11 wM_L_13 wI_X11_question wV_X11_question (by decide) (by decide) rfl rfl (Nat.le_of_ble_eq_true rfl) rfl (by decide) (gk_0 hG) (fun r hr => zMet_cast (Nat.add_assoc d 91 2) (mX11_question (d := d + 91) hG (zga E 0 (v3 + 1).toNat) (zga E 0 (v3 + 2).toNat) r hr)) ?_
        rintro ⟨r_1, D_2⟩ -
        show zO _ _ _ _ _ _ [zI r_1] (F, D_2, n, sl) _ _
        refine zO_aload_n dL_law_230 rfl (zR_P _) ?_
        refine zO_aload_n dL_law_231 rfl (zR_P _) ?_
        refine zO_iload_n dL_law_232 rfl ?_
        refine zO_iconst dL_law_233 (by decide) ?_
        refine zO_iadd dL_law_234 h3.1 ?_
        refine zO_sld (j0 := 0) dL_law_235 (by decide) h3.2.1 ?_
        refine zO_aload_n dL_law_236 rfl (zR_P _) ?_
        refine zO_iload_n dL_law_237 rfl ?_
        refine zO_iconst dL_law_238 (by decide) ?_
        refine zO_iadd dL_law_239 h3.2.2.1 ?_
        refine zO_sld (j0 := 0) dL_law_240 (by decide) h3.2.2.2 ?_
        refine zO_callV (Y' := YX12_question) (cw := zcI F n sl) (as := [zI (zga E 0 (v3 + 1).toNat), zI (zga E 0 (v3 + 2).toNat)]) (rest := [zI r_1]) (na := 2) (ci := 12) rfl dL_law_241 wC_X12_question wN_X12 wM_L_17 wI_X12_question wV_X12_question (by decide) (by decide) rfl rfl (Nat.le_of_ble_eq_true rfl) rfl (by decide) (gk_91 hG) (fun r hr => zMet_cast (Nat.add_assoc d 92 1) (mX12_question (d := d + 92) hG (zga E 0 (v3 + 1).toNat) (zga E 0 (v3 + 2).toNat) r hr)) ?_
        rintro ⟨r_3, D_4⟩ -
        show zO _ _ _ _ _ _ [zI r_3, zI r_1] (F, D_4, n, sl) _ _
        refine zO_icmp_eq (tgt := 1337) dL_law_244 rfl (fun c244 => ?_) (fun c244 => ?_)
        · refine zO_live [0, 1, 2, 3] ?_
          exact sL_law_1337 v3 _ hk_18 F D_4 n sl hG hN
        · refine zO_iconst dL_law_247 (by decide) ?_
          exact zO_ret (rv := some (zI 0)) dL_law_248 rfl rfl rfl
      · refine zO_ite (fun c33_1 => ?_) (fun c33_1 => ?_)
        · refine zO_tableIn (tgt := 249) dL_law_33 ⟨1, c33_1, by decide, by decide, rfl⟩ rfl ?_
          refine zO_chk (fun h5 => ?_)
          refine zO_aload_n dL_law_249 rfl (zR_P _) ?_
          refine zO_aload_n dL_law_250 rfl (zR_P _) ?_
          refine zO_iload_n dL_law_251 rfl ?_
          refine zO_iconst dL_law_252 (by decide) ?_
          refine zO_iadd dL_law_253 h5.1 ?_
          refine zO_sld (j0 := 0) dL_law_254 (by decide) h5.2.1 ?_
          refine zO_aload_n dL_law_255 rfl (zR_P _) ?_
          refine zO_iload_n dL_law_256 rfl ?_
          refine zO_iconst dL_law_257 (by decide) ?_
          refine zO_iadd dL_law_258 h5.2.2.1 ?_
          refine zO_sld (j0 := 0) dL_law_259 (by decide) h5.2.2.2.1 ?_
          refine zO_aload_n dL_law_260 rfl (zR_P _) ?_
          refine zO_iload_n dL_law_261 rfl ?_
          refine zO_iconst dL_law_262 (by decide) ?_
          refine zO_iadd dL_law_263 h5.2.2.2.2.1 ?_
          refine zO_sld (j0 := 0) dL_law_264 (by decide) h5.2.2.2.2.2 ?_
          refine zO_callV (Y' := YX11_know) (cw := zcI F n sl) (as := [zI (zga E 0 (v3 + 1).toNat), zI (zga E 0 (v3 + 2).toNat), zI (zga E 0 (v3 + 3).toNat)]) (rest := []) (na := 3) (ci := 11) rfl dL_law_265 wC_X11_know wN_X11 wM_L_18 wI_X11_know wV_X11_know (by decide) (by decide) rfl rfl (Nat.le_of_ble_eq_true rfl) rfl (by decide) (gk_0 hG) (fun r hr => zMet_cast (Nat.add_assoc d 92 1) (mX11_know (d := d + 92) hG (zga E 0 (v3 + 1).toNat) (zga E 0 (v3 + 2).toNat) (zga E 0 (v3 + 3).toNat) r hr)) ?_
          rintro ⟨r_5, D_6⟩ -
          show zO _ _ _ _ _ _ [zI r_5] (F, D_6, n, sl) _ _
          refine zO_aload_n dL_law_268 rfl (zR_P _) ?_
          refine zO_aload_n dL_law_269 rfl (zR_P _) ?_
          refine zO_iload_n dL_law_270 rfl ?_
          refine zO_iconst dL_law_271 (by decide) ?_
          refine zO_iadd dL_law_272 h5.1 ?_
          refine zO_sld (j0 := 0) dL_law_273 (by decide) h5.2.1 ?_
          refine zO_aload_n dL_law_274 rfl (zR_P _) ?_
          refine zO_iload_n dL_law_275 rfl ?_
          refine zO_iconst dL_law_276 (by decide) ?_
          refine zO_iadd dL_law_277 h5.2.2.1 ?_
          refine zO_sld (j0 := 0) dL_law_278 (by decide) h5.2.2.2.1 ?_
          refine zO_aload_n dL_law_279 rfl (zR_P _) ?_
          refine zO_iload_n dL_law_280 rfl ?_
          refine zO_iconst dL_law_281 (by decide) ?_
          refine zO_iadd dL_law_282 h5.2.2.2.2.1 ?_
          refine zO_sld (j0 := 0) dL_law_283 (by decide) h5.2.2.2.2.2 ?_
          refine zO_callV (Y' := YX12_know) (cw := zcI F n sl) (as := [zI (zga E 0 (v3 + 1).toNat), zI (zga E 0 (v3 + 2).toNat), zI (zga E 0 (v3 + 3).toNat)]) (rest := [zI r_5]) (na := 3) (ci := 12) rfl dL_law_284 wC_X12_know wN_X12 wM_L_22 wI_X12_know wV_X12_know (by decide) (by decide) rfl rfl (Nat.le_of_ble_eq_true rfl) rfl (by decide) (gk_91 hG) (fun r hr => zMet_cast (Nat.add_assoc d 91 2) (mX12_know (d := d + 91) hG (zga E 0 (v3 + 1).toNat) (zga E 0 (v3 + 2).toNat) (zga E 0 (v3 + 3).toNat) r hr)) ?_
          rintro ⟨r_7, D_8⟩ -
          show zO _ _ _ _ _ _ [zI r_7, zI r_5] (F, D_8, n, sl) _ _
          refine zO_icmp_eq (tgt := 1337) dL_law_287 rfl (fun c287 => ?_) (fun c287 => ?_)
          · refine zO_live [0, 1, 2, 3] ?_
            exact sL_law_1337 v3 _ hk_18 F D_8 n sl hG hN
          · refine zO_iconst dL_law_290 (by decide) ?_
            exact zO_ret (rv := some (zI 0)) dL_law_291 rfl rfl rfl
        · refine zO_ite (fun c33_2 => ?_) (fun c33_2 => ?_)
          · refine zO_tableIn (tgt := 292) dL_law_33 ⟨2, c33_2, by decide, by decide, rfl⟩ rfl ?_
            refine zO_chk (fun h6 => ?_)
            refine zO_aload_n dL_law_292 rfl (zR_P _) ?_
            refine zO_aload_n dL_law_293 rfl (zR_P _) ?_
            refine zO_iload_n dL_law_294 rfl ?_
            refine zO_iconst dL_law_295 (by decide) ?_
            refine zO_iadd dL_law_296 h6.1 ?_
            refine zO_sld (j0 := 0) dL_law_297 (by decide) h6.2.1 ?_
            refine zO_aload_n dL_law_298 rfl (zR_P _) ?_
            refine zO_iload_n dL_law_299 rfl ?_
            refine zO_iconst dL_law_300 (by decide) ?_
            refine zO_iadd dL_law_301 h6.2.2.1 ?_
            refine zO_sld (j0 := 0) dL_law_302 (by decide) h6.2.2.2 ?_
            refine zO_callV (Y' := YX11_of) (cw := zcI F n sl) (as := [zI (zga E 0 (v3 + 1).toNat), zI (zga E 0 (v3 + 2).toNat)]) (rest := []) (na := 2) (ci := 11) rfl dL_law_303 wC_X11_of wN_X11 wM_L_23 wI_X11_of wV_X11_of (by decide) (by decide) rfl rfl (Nat.le_of_ble_eq_true rfl) rfl (by decide) (gk_0 hG) (fun r hr => zMet_cast (Nat.add_assoc d 92 1) (mX11_of (d := d + 92) hG (zga E 0 (v3 + 1).toNat) (zga E 0 (v3 + 2).toNat) r hr)) ?_
            rintro ⟨r_9, D_10⟩ -
            show zO _ _ _ _ _ _ [zI r_9] (F, D_10, n, sl) _ _
            refine zO_aload_n dL_law_306 rfl (zR_P _) ?_
            refine zO_aload_n dL_law_307 rfl (zR_P _) ?_
            refine zO_iload_n dL_law_308 rfl ?_
            refine zO_iconst dL_law_309 (by decide) ?_
            refine zO_iadd dL_law_310 h6.1 ?_
            refine zO_sld (j0 := 0) dL_law_311 (by decide) h6.2.1 ?_
            refine zO_aload_n dL_law_312 rfl (zR_P _) ?_
            refine zO_iload_n dL_law_313 rfl ?_
            refine zO_iconst dL_law_314 (by decide) ?_
            refine zO_iadd dL_law_315 h6.2.2.1 ?_
            refine zO_sld (j0 := 0) dL_law_316 (by decide) h6.2.2.2 ?_
            refine zO_callV (Y' := YX12_of) (cw := zcI F n sl) (as := [zI (zga E 0 (v3 + 1).toNat), zI (zga E 0 (v3 + 2).toNat)]) (rest := [zI r_9]) (na := 2) (ci := 12) rfl dL_law_317 wC_X12_of wN_X12 wM_L_26 wI_X12_of wV_X12_of (by decide) (by decide) rfl rfl (Nat.le_of_ble_eq_true rfl) rfl (by decide) (gk_91 hG) (fun r hr => zMet_cast (Nat.add_assoc d 91 2) (mX12_of (d := d + 91) hG (zga E 0 (v3 + 1).toNat) (zga E 0 (v3 + 2).toNat) r hr)) ?_
            rintro ⟨r_11, D_12⟩ -
            show zO _ _ _ _ _ _ [zI r_11, zI r_9] (F, D_12, n, sl) _ _
            refine zO_icmp_eq (tgt := 1337) dL_law_320 rfl (fun c320 => ?_) (fun c320 => ?_)
            · refine zO_live [0, 1, 2, 3] ?_
              exact sL_law_1337 v3 _ hk_18 F D_12 n sl hG hN
            · refine zO_iconst dL_law_323 (by decide) ?_
              exact zO_ret (rv := some (zI 0)) dL_law_324 rfl rfl rfl
          · refine zO_ite (fun c33_3 => ?_) (fun c33_3 => ?_)
            · refine zO_tableIn (tgt := 325) dL_law_33 ⟨3, c33_3, by decide, by decide, rfl⟩ rfl ?_
              refine zO_chk (fun h7 => ?_)
              refine zO_aload_n dL_law_325 rfl (zR_P _) ?_
              refine zO_aload_n dL_law_326 rfl (zR_P _) ?_
              refine zO_iload_n dL_law_327 rfl ?_
              refine zO_iconst dL_law_328 (by decide) ?_
              refine zO_iadd dL_law_329 h7.1 ?_
              refine zO_sld (j0 := 0) dL_law_330 (by decide) h7.2.1 ?_
              refine zO_aload_n dL_law_331 rfl (zR_P _) ?_
              refine zO_iload_n dL_law_332 rfl ?_
              refine zO_iconst dL_law_333 (by decide) ?_
              refine zO_iadd dL_law_334 h7.2.2.1 ?_
              refine zO_sld (j0 := 0) dL_law_335 (by decide) h7.2.2.2 ?_
              refine zO_callV (Y' := YX11_terms) (cw := zcI F n sl) (as := [zI (zga E 0 (v3 + 1).toNat), zI (zga E 0 (v3 + 2).toNat)]) (rest := []) (na := 2) (ci := 11) rfl dL_law_336 wC_X11_terms wN_X11 wM_L_27 wI_X11_terms wV_X11_terms (by decide) (by decide) rfl rfl (Nat.le_of_ble_eq_true rfl) rfl (by decide) (gk_0 hG) (fun r hr => zMet_cast (Nat.add_assoc d 92 1) (mX11_terms (d := d + 92) hG (zga E 0 (v3 + 1).toNat) (zga E 0 (v3 + 2).toNat) r hr)) ?_
              rintro ⟨r_13, D_14⟩ -
              show zO _ _ _ _ _ _ [zI r_13] (F, D_14, n, sl) _ _
              refine zO_aload_n dL_law_339 rfl (zR_P _) ?_
              refine zO_aload_n dL_law_340 rfl (zR_P _) ?_
              refine zO_iload_n dL_law_341 rfl ?_
              refine zO_iconst dL_law_342 (by decide) ?_
              refine zO_iadd dL_law_343 h7.1 ?_
              refine zO_sld (j0 := 0) dL_law_344 (by decide) h7.2.1 ?_
              refine zO_aload_n dL_law_345 rfl (zR_P _) ?_
              refine zO_iload_n dL_law_346 rfl ?_
              refine zO_iconst dL_law_347 (by decide) ?_
              refine zO_iadd dL_law_348 h7.2.2.1 ?_
              refine zO_sld (j0 := 0) dL_law_349 (by decide) h7.2.2.2 ?_
              refine zO_callV (Y' := YX12_terms) (cw := zcI F n sl) (as := [zI (zga E 0 (v3 + 1).toNat), zI (zga E 0 (v3 + 2).toNat)]) (rest := [zI r_13]) (na := 2) (ci := 12) rfl dL_law_350 wC_X12_terms wN_X12 wM_L_30 wI_X12_terms wV_X12_terms (by decide) (by decide) rfl rfl (Nat.le_of_ble_eq_true rfl) rfl (by decide) (gk_91 hG) (fun r hr => zMet_cast (Nat.add_assoc d 91 2) (mX12_terms (d := d + 91) hG (zga E 0 (v3 + 1).toNat) (zga E 0 (v3 + 2).toNat) r hr)) ?_
              rintro ⟨r_15, D_16⟩ -
              show zO _ _ _ _ _ _ [zI r_15, zI r_13] (F, D_16, n, sl) _ _
              refine zO_icmp_eq (tgt := 1337) dL_law_353 rfl (fun c353 => ?_) (fun c353 => ?_)
              · refine zO_live [0, 1, 2, 3] ?_
                exact sL_law_1337 v3 _ hk_18 F D_16 n sl hG hN
              · refine zO_iconst dL_law_356 (by decide) ?_
                exact zO_ret (rv := some (zI 0)) dL_law_357 rfl rfl rfl
            · refine zO_ite (fun c33_4 => ?_) (fun c33_4 => ?_)
              · refine zO_tableIn (tgt := 358) dL_law_33 ⟨4, c33_4, by decide, by decide, rfl⟩ rfl ?_
                refine zO_chk (fun h8 => ?_)
                refine zO_aload_n dL_law_358 rfl (zR_P _) ?_
                refine zO_aload_n dL_law_359 rfl (zR_P _) ?_
                refine zO_iload_n dL_law_360 rfl ?_
                refine zO_iconst dL_law_361 (by decide) ?_
                refine zO_iadd dL_law_362 h8.1 ?_
                refine zO_sld (j0 := 0) dL_law_363 (by decide) h8.2.1 ?_
                refine zO_aload_n dL_law_364 rfl (zR_P _) ?_
                refine zO_iload_n dL_law_365 rfl ?_
                refine zO_iconst dL_law_366 (by decide) ?_
                refine zO_iadd dL_law_367 h8.2.2.1 ?_
                refine zO_sld (j0 := 0) dL_law_368 (by decide) h8.2.2.2.1 ?_
                refine zO_aload_n dL_law_369 rfl (zR_P _) ?_
                refine zO_iload_n dL_law_370 rfl ?_
                refine zO_iconst dL_law_371 (by decide) ?_
                refine zO_iadd dL_law_372 h8.2.2.2.2.1 ?_
                refine zO_sld (j0 := 0) dL_law_373 (by decide) h8.2.2.2.2.2.1 ?_
                refine zO_aload_n dL_law_374 rfl (zR_P _) ?_
                refine zO_iload_n dL_law_375 rfl ?_
                refine zO_iconst dL_law_376 (by decide) ?_
                refine zO_iadd dL_law_377 h8.2.2.2.2.2.2.1 ?_
                refine zO_sld (j0 := 0) dL_law_378 (by decide) h8.2.2.2.2.2.2.2.1 ?_
                refine zO_aload_n dL_law_379 rfl (zR_P _) ?_
                refine zO_iload_n dL_law_380 rfl ?_
                refine zO_iconst dL_law_381 (by decide) ?_
                refine zO_iadd dL_law_382 h8.2.2.2.2.2.2.2.2.1 ?_
                refine zO_sld (j0 := 0) dL_law_383 (by decide) h8.2.2.2.2.2.2.2.2.2 ?_
                refine zO_callV (Y' := YX11_feed) (cw := zcI F n sl) (as := [zI (zga E 0 (v3 + 1).toNat), zI (zga E 0 (v3 + 2).toNat), zI (zga E 0 (v3 + 3).toNat), zI (zga E 0 (v3 + 4).toNat), zI (zga E 0 (v3 + 5).toNat)]) (rest := []) (na := 5) (ci := 11) rfl dL_law_384 wC_X11_feed wN_X11 wM_L_31 wI_X11_feed wV_X11_feed (by decide) (by decide) rfl rfl (Nat.le_of_ble_eq_true rfl) rfl (by decide) (gk_0 hG) (fun r hr => zMet_cast (Nat.add_assoc d 92 1) (mX11_feed (d := d + 92) hG (zga E 0 (v3 + 1).toNat) (zga E 0 (v3 + 2).toNat) (zga E 0 (v3 + 3).toNat) (zga E 0 (v3 + 4).toNat) (zga E 0 (v3 + 5).toNat) r hr)) ?_
                rintro ⟨r_17, D_18⟩ -
                show zO _ _ _ _ _ _ [zI r_17] (F, D_18, n, sl) _ _
                refine zO_aload_n dL_law_387 rfl (zR_P _) ?_
                refine zO_aload_n dL_law_388 rfl (zR_P _) ?_
                refine zO_iload_n dL_law_389 rfl ?_
                refine zO_iconst dL_law_390 (by decide) ?_
                refine zO_iadd dL_law_391 h8.1 ?_
                refine zO_sld (j0 := 0) dL_law_392 (by decide) h8.2.1 ?_
                refine zO_aload_n dL_law_393 rfl (zR_P _) ?_
                refine zO_iload_n dL_law_394 rfl ?_
                refine zO_iconst dL_law_395 (by decide) ?_
                refine zO_iadd dL_law_396 h8.2.2.1 ?_
                refine zO_sld (j0 := 0) dL_law_397 (by decide) h8.2.2.2.1 ?_
                refine zO_aload_n dL_law_398 rfl (zR_P _) ?_
                refine zO_iload_n dL_law_399 rfl ?_
                refine zO_iconst dL_law_400 (by decide) ?_
                refine zO_iadd dL_law_401 h8.2.2.2.2.1 ?_
                refine zO_sld (j0 := 0) dL_law_402 (by decide) h8.2.2.2.2.2.1 ?_
                refine zO_aload_n dL_law_403 rfl (zR_P _) ?_
                refine zO_iload_n dL_law_404 rfl ?_
                refine zO_iconst dL_law_405 (by decide) ?_
                refine zO_iadd dL_law_406 h8.2.2.2.2.2.2.1 ?_
                refine zO_sld (j0 := 0) dL_law_407 (by decide) h8.2.2.2.2.2.2.2.1 ?_
                refine zO_aload_n dL_law_408 rfl (zR_P _) ?_
                refine zO_iload_n dL_law_409 rfl ?_
                refine zO_iconst dL_law_410 (by decide) ?_
                refine zO_iadd dL_law_411 h8.2.2.2.2.2.2.2.2.1 ?_
                refine zO_sld (j0 := 0) dL_law_412 (by decide) h8.2.2.2.2.2.2.2.2.2 ?_
                refine zO_callV (Y' := YX12_feed) (cw := zcI F n sl) (as := [zI (zga E 0 (v3 + 1).toNat), zI (zga E 0 (v3 + 2).toNat), zI (zga E 0 (v3 + 3).toNat), zI (zga E 0 (v3 + 4).toNat), zI (zga E 0 (v3 + 5).toNat)]) (rest := [zI r_17]) (na := 5) (ci := 12) rfl dL_law_413 wC_X12_feed wN_X12 wM_L_35 wI_X12_feed wV_X12_feed (by decide) (by decide) rfl rfl (Nat.le_of_ble_eq_true rfl) rfl (by decide) (gk_91 hG) (fun r hr => zMet_cast (Nat.add_assoc d 93 0) (mX12_feed (d := d + 93) hG (zga E 0 (v3 + 1).toNat) (zga E 0 (v3 + 2).toNat) (zga E 0 (v3 + 3).toNat) (zga E 0 (v3 + 4).toNat) (zga E 0 (v3 + 5).toNat) r hr)) ?_
                rintro ⟨r_19, D_20⟩ -
                show zO _ _ _ _ _ _ [zI r_19, zI r_17] (F, D_20, n, sl) _ _
                refine zO_icmp_eq (tgt := 1337) dL_law_416 rfl (fun c416 => ?_) (fun c416 => ?_)
                · refine zO_live [0, 1, 2, 3] ?_
                  exact sL_law_1337 v3 _ hk_18 F D_20 n sl hG hN
                · refine zO_iconst dL_law_419 (by decide) ?_
                  exact zO_ret (rv := some (zI 0)) dL_law_420 rfl rfl rfl
              · refine zO_ite (fun c33_5 => ?_) (fun c33_5 => ?_)
                · refine zO_tableIn (tgt := 421) dL_law_33 ⟨5, c33_5, by decide, by decide, rfl⟩ rfl ?_
                  refine zO_chk (fun h9 => ?_)
                  refine zO_aload_n dL_law_421 rfl (zR_P _) ?_
                  refine zO_aload_n dL_law_422 rfl (zR_P _) ?_
                  refine zO_iload_n dL_law_423 rfl ?_
                  refine zO_iconst dL_law_424 (by decide) ?_
                  refine zO_iadd dL_law_425 h9.1 ?_
                  refine zO_sld (j0 := 0) dL_law_426 (by decide) h9.2 ?_
                  refine zO_callV (Y' := YX11_end) (cw := zcI F n sl) (as := [zI (zga E 0 (v3 + 1).toNat)]) (rest := []) (na := 1) (ci := 11) rfl dL_law_427 wC_X11_end wN_X11 wM_L_36 wI_X11_end wV_X11_end (by decide) (by decide) rfl rfl (Nat.le_of_ble_eq_true rfl) rfl (by decide) (gk_0 hG) (fun r hr => zMet_cast (Nat.add_assoc d 93 0) (mX11_end (d := d + 93) hG (zga E 0 (v3 + 1).toNat) r hr)) ?_
                  rintro ⟨r_21, D_22⟩ -
                  show zO _ _ _ _ _ _ [zI r_21] (F, D_22, n, sl) _ _
                  refine zO_aload_n dL_law_430 rfl (zR_P _) ?_
                  refine zO_aload_n dL_law_431 rfl (zR_P _) ?_
                  refine zO_iload_n dL_law_432 rfl ?_
                  refine zO_iconst dL_law_433 (by decide) ?_
                  refine zO_iadd dL_law_434 h9.1 ?_
                  refine zO_sld (j0 := 0) dL_law_435 (by decide) h9.2 ?_
                  refine zO_callV (Y' := YX12_end) (cw := zcI F n sl) (as := [zI (zga E 0 (v3 + 1).toNat)]) (rest := [zI r_21]) (na := 1) (ci := 12) rfl dL_law_436 wC_X12_end wN_X12 wM_L_40 wI_X12_end wV_X12_end (by decide) (by decide) rfl rfl (Nat.le_of_ble_eq_true rfl) rfl (by decide) (gk_91 hG) (fun r hr => zMet_cast (Nat.add_assoc d 92 1) (mX12_end (d := d + 92) hG (zga E 0 (v3 + 1).toNat) r hr)) ?_
                  rintro ⟨r_23, D_24⟩ -
                  show zO _ _ _ _ _ _ [zI r_23, zI r_21] (F, D_24, n, sl) _ _
                  refine zO_icmp_eq (tgt := 1337) dL_law_439 rfl (fun c439 => ?_) (fun c439 => ?_)
                  · refine zO_live [0, 1, 2, 3] ?_
                    exact sL_law_1337 v3 _ hk_18 F D_24 n sl hG hN
                  · refine zO_iconst dL_law_442 (by decide) ?_
                    exact zO_ret (rv := some (zI 0)) dL_law_443 rfl rfl rfl
                · refine zO_ite (fun c33_6 => ?_) (fun c33_6 => ?_)
                  · refine zO_tableIn (tgt := 444) dL_law_33 ⟨6, c33_6, by decide, by decide, rfl⟩ rfl ?_
                    refine zO_aload_n dL_law_444 rfl (zR_P _) ?_
                    refine zO_callV (Y' := YX11_paper) (cw := zmI) (as := []) (rest := []) (na := 0) (ci := 11) rfl dL_law_445 wC_X11_paper wN_X11 wM_L_41 wI_X11_paper wV_X11_paper (by decide) (by decide) rfl rfl (Nat.le_of_ble_eq_true rfl) rfl (by decide) (gk_0 hG) (fun r hr => zMet_cast (Nat.add_assoc d 6 87) (mX11_paper (d := d + 6)  hG hN r hr)) ?_
                    rintro ⟨r_25, F_26, D_27, n_28, sl_29⟩ -
                    show zO _ _ _ _ _ _ [zI r_25] (F_26, D_27, n_28, sl_29) _ _
                    refine zO_chk (fun g29 => ?_)
                    refine zO_aload_n dL_law_448 rfl (zR_P _) ?_
                    refine zO_callV (Y' := YX12_paper) (cw := zcI F_26 n_28 sl_29) (as := []) (rest := [zI r_25]) (na := 0) (ci := 12) rfl dL_law_449 wC_X12_paper wN_X12 wM_L_45 wI_X12_paper wV_X12_paper (by decide) (by decide) rfl rfl (Nat.le_of_ble_eq_true rfl) rfl (by decide) (gk_91 g29.1) (fun r hr => zMet_cast (Nat.add_assoc d 4 89) (mX12_paper (d := d + 4) g29.1  r hr)) ?_
                    rintro ⟨r_30, D_31⟩ -
                    show zO _ _ _ _ _ _ [zI r_30, zI r_25] (F_26, D_31, n_28, sl_29) _ _
                    refine zO_icmp_eq (tgt := 1337) dL_law_452 rfl (fun c452 => ?_) (fun c452 => ?_)
                    · refine zO_live [0, 1, 2, 3] ?_
                      exact sL_law_1337 v3 _ hk_18 F_26 D_31 n_28 sl_29 g29.1 g29.2
                    · refine zO_iconst dL_law_455 (by decide) ?_
                      exact zO_ret (rv := some (zI 0)) dL_law_456 rfl rfl rfl
                  · refine zO_ite (fun c33_7 => ?_) (fun c33_7 => ?_)
                    · refine zO_tableIn (tgt := 457) dL_law_33 ⟨7, c33_7, by decide, by decide, rfl⟩ rfl ?_
                      refine zO_aload_n dL_law_457 rfl (zR_P _) ?_
                      refine zO_callV (Y' := YX11_fault) (cw := zcI F n sl) (as := []) (rest := []) (na := 0) (ci := 11) rfl dL_law_458 wC_X11_fault wN_X11 wM_L_46 wI_X11_fault wV_X11_fault (by decide) (by decide) rfl rfl (Nat.le_of_ble_eq_true rfl) rfl (by decide) (gk_0 hG) (fun r hr => zMet_cast (Nat.add_assoc d 93 0) (mX11_fault (d := d + 93) hG  r hr)) ?_
                      rintro ⟨r_32, D_33⟩ -
                      show zO _ _ _ _ _ _ [zI r_32] (F, D_33, n, sl) _ _
                      refine zO_aload_n dL_law_461 rfl (zR_P _) ?_
                      refine zO_callV (Y' := YX12_fault) (cw := zcI F n sl) (as := []) (rest := [zI r_32]) (na := 0) (ci := 12) rfl dL_law_462 wC_X12_fault wN_X12 wM_L_49 wI_X12_fault wV_X12_fault (by decide) (by decide) rfl rfl (Nat.le_of_ble_eq_true rfl) rfl (by decide) (gk_91 hG) (fun r hr => zMet_cast (Nat.add_assoc d 93 0) (mX12_fault (d := d + 93) hG  r hr)) ?_
                      rintro ⟨r_34, D_35⟩ -
                      show zO _ _ _ _ _ _ [zI r_34, zI r_32] (F, D_35, n, sl) _ _
                      refine zO_icmp_eq (tgt := 1337) dL_law_465 rfl (fun c465 => ?_) (fun c465 => ?_)
                      · refine zO_live [0, 1, 2, 3] ?_
                        exact sL_law_1337 v3 _ hk_18 F D_35 n sl hG hN
                      · refine zO_iconst dL_law_468 (by decide) ?_
                        exact zO_ret (rv := some (zI 0)) dL_law_469 rfl rfl rfl
                    · refine zO_ite (fun c33_8 => ?_) (fun c33_8 => ?_)
                      · refine zO_tableIn (tgt := 470) dL_law_33 ⟨8, c33_8, by decide, by decide, rfl⟩ rfl ?_
                        refine zO_chk (fun h10 => ?_)
                        refine zO_aload_n dL_law_470 rfl (zR_P _) ?_
                        refine zO_aload_n dL_law_471 rfl (zR_P _) ?_
                        refine zO_iload_n dL_law_472 rfl ?_
                        refine zO_iconst dL_law_473 (by decide) ?_
                        refine zO_iadd dL_law_474 h10.1 ?_
                        refine zO_sld (j0 := 0) dL_law_475 (by decide) h10.2 ?_
                        refine zO_callV (Y' := YX11_use) (cw := zcI F n sl) (as := [zI (zga E 0 (v3 + 1).toNat)]) (rest := []) (na := 1) (ci := 11) rfl dL_law_476 wC_X11_use wN_X11 wM_L_50 wI_X11_use wV_X11_use (by decide) (by decide) rfl rfl (Nat.le_of_ble_eq_true rfl) rfl (by decide) (gk_0 hG) (fun r hr => zMet_cast (Nat.add_assoc d 92 1) (mX11_use (d := d + 92) hG (zga E 0 (v3 + 1).toNat) r hr)) ?_
                        rintro ⟨r_36, D_37⟩ -
                        show zO _ _ _ _ _ _ [zI r_36] (F, D_37, n, sl) _ _
                        refine zO_aload_n dL_law_479 rfl (zR_P _) ?_
                        refine zO_aload_n dL_law_480 rfl (zR_P _) ?_
                        refine zO_iload_n dL_law_481 rfl ?_
                        refine zO_iconst dL_law_482 (by decide) ?_
                        refine zO_iadd dL_law_483 h10.1 ?_
                        refine zO_sld (j0 := 0) dL_law_484 (by decide) h10.2 ?_
                        refine zO_callV (Y' := YX12_use) (cw := zcI F n sl) (as := [zI (zga E 0 (v3 + 1).toNat)]) (rest := [zI r_36]) (na := 1) (ci := 12) rfl dL_law_485 wC_X12_use wN_X12 wM_L_53 wI_X12_use wV_X12_use (by decide) (by decide) rfl rfl (Nat.le_of_ble_eq_true rfl) rfl (by decide) (gk_91 hG) (fun r hr => zMet_cast (Nat.add_assoc d 91 2) (mX12_use (d := d + 91) hG (zga E 0 (v3 + 1).toNat) r hr)) ?_
                        rintro ⟨r_38, D_39⟩ -
                        show zO _ _ _ _ _ _ [zI r_38, zI r_36] (F, D_39, n, sl) _ _
                        refine zO_icmp_eq (tgt := 1337) dL_law_488 rfl (fun c488 => ?_) (fun c488 => ?_)
                        · refine zO_live [0, 1, 2, 3] ?_
                          exact sL_law_1337 v3 _ hk_18 F D_39 n sl hG hN
                        · refine zO_iconst dL_law_491 (by decide) ?_
                          exact zO_ret (rv := some (zI 0)) dL_law_492 rfl rfl rfl
                      · refine zO_ite (fun c33_9 => ?_) (fun c33_9 => ?_)
                        · refine zO_tableIn (tgt := 493) dL_law_33 ⟨9, c33_9, by decide, by decide, rfl⟩ rfl ?_
                          refine zO_chk (fun h11 => ?_)
                          refine zO_aload_n dL_law_493 rfl (zR_P _) ?_
                          refine zO_aload_n dL_law_494 rfl (zR_P _) ?_
                          refine zO_iload_n dL_law_495 rfl ?_
                          refine zO_iconst dL_law_496 (by decide) ?_
                          refine zO_iadd dL_law_497 h11.1 ?_
                          refine zO_sld (j0 := 0) dL_law_498 (by decide) h11.2.1 ?_
                          refine zO_aload_n dL_law_499 rfl (zR_P _) ?_
                          refine zO_iload_n dL_law_500 rfl ?_
                          refine zO_iconst dL_law_501 (by decide) ?_
                          refine zO_iadd dL_law_502 h11.2.2.1 ?_
                          refine zO_sld (j0 := 0) dL_law_503 (by decide) h11.2.2.2.1 ?_
                          refine zO_aload_n dL_law_504 rfl (zR_P _) ?_
                          refine zO_iload_n dL_law_505 rfl ?_
                          refine zO_iconst dL_law_506 (by decide) ?_
                          refine zO_iadd dL_law_507 h11.2.2.2.2.1 ?_
                          refine zO_sld (j0 := 0) dL_law_508 (by decide) h11.2.2.2.2.2 ?_
                          refine zO_callV (Y' := YX11_takes) (cw := zcI F n sl) (as := [zI (zga E 0 (v3 + 1).toNat), zI (zga E 0 (v3 + 2).toNat), zI (zga E 0 (v3 + 3).toNat)]) (rest := []) (na := 3) (ci := 11) rfl dL_law_509 wC_X11_takes wN_X11 wM_L_54 wI_X11_takes wV_X11_takes (by decide) (by decide) rfl rfl (Nat.le_of_ble_eq_true rfl) rfl (by decide) (gk_0 hG) (fun r hr => zMet_cast (Nat.add_assoc d 89 4) (mX11_takes (d := d + 89) hG (zga E 0 (v3 + 1).toNat) (zga E 0 (v3 + 2).toNat) (zga E 0 (v3 + 3).toNat) r hr)) ?_
                          rintro ⟨r_40, D_41⟩ -
                          show zO _ _ _ _ _ _ [zI r_40] (F, D_41, n, sl) _ _
                          refine zO_aload_n dL_law_512 rfl (zR_P _) ?_
                          refine zO_aload_n dL_law_513 rfl (zR_P _) ?_
                          refine zO_iload_n dL_law_514 rfl ?_
                          refine zO_iconst dL_law_515 (by decide) ?_
                          refine zO_iadd dL_law_516 h11.1 ?_
                          refine zO_sld (j0 := 0) dL_law_517 (by decide) h11.2.1 ?_
                          refine zO_aload_n dL_law_518 rfl (zR_P _) ?_
                          refine zO_iload_n dL_law_519 rfl ?_
                          refine zO_iconst dL_law_520 (by decide) ?_
                          refine zO_iadd dL_law_521 h11.2.2.1 ?_
                          refine zO_sld (j0 := 0) dL_law_522 (by decide) h11.2.2.2.1 ?_
                          refine zO_aload_n dL_law_523 rfl (zR_P _) ?_
                          refine zO_iload_n dL_law_524 rfl ?_
                          refine zO_iconst dL_law_525 (by decide) ?_
                          refine zO_iadd dL_law_526 h11.2.2.2.2.1 ?_
                          refine zO_sld (j0 := 0) dL_law_527 (by decide) h11.2.2.2.2.2 ?_
                          refine zO_callV (Y' := YX12_takes) (cw := zcI F n sl) (as := [zI (zga E 0 (v3 + 1).toNat), zI (zga E 0 (v3 + 2).toNat), zI (zga E 0 (v3 + 3).toNat)]) (rest := [zI r_40]) (na := 3) (ci := 12) rfl dL_law_528 wC_X12_takes wN_X12 wM_L_57 wI_X12_takes wV_X12_takes (by decide) (by decide) rfl rfl (Nat.le_of_ble_eq_true rfl) rfl (by decide) (gk_91 hG) (fun r hr => zMet_cast (Nat.add_assoc d 5 88) (mX12_takes (d := d + 5) hG (zga E 0 (v3 + 1).toNat) (zga E 0 (v3 + 2).toNat) (zga E 0 (v3 + 3).toNat) r hr)) ?_
                          rintro ⟨r_42, D_43⟩ -
                          show zO _ _ _ _ _ _ [zI r_42, zI r_40] (F, D_43, n, sl) _ _
                          refine zO_icmp_eq (tgt := 1337) dL_law_531 rfl (fun c531 => ?_) (fun c531 => ?_)
                          · refine zO_live [0, 1, 2, 3] ?_
                            exact sL_law_1337 v3 _ hk_18 F D_43 n sl hG hN
                          · refine zO_iconst dL_law_534 (by decide) ?_
                            exact zO_ret (rv := some (zI 0)) dL_law_535 rfl rfl rfl
                        · refine zO_ite (fun c33_10 => ?_) (fun c33_10 => ?_)
                          · refine zO_tableIn (tgt := 536) dL_law_33 ⟨10, c33_10, by decide, by decide, rfl⟩ rfl ?_
                            refine zO_chk (fun h12 => ?_)
                            refine zO_aload_n dL_law_536 rfl (zR_P _) ?_
                            refine zO_aload_n dL_law_537 rfl (zR_P _) ?_
                            refine zO_iload_n dL_law_538 rfl ?_
                            refine zO_iconst dL_law_539 (by decide) ?_
                            refine zO_iadd dL_law_540 h12.1 ?_
                            refine zO_sld (j0 := 0) dL_law_541 (by decide) h12.2.1 ?_
                            refine zO_aload_n dL_law_542 rfl (zR_P _) ?_
                            refine zO_iload_n dL_law_543 rfl ?_
                            refine zO_iconst dL_law_544 (by decide) ?_
                            refine zO_iadd dL_law_545 h12.2.2.1 ?_
                            refine zO_sld (j0 := 0) dL_law_546 (by decide) h12.2.2.2 ?_
                            refine zO_callV (Y' := YX11_keeps) (cw := zcI F n sl) (as := [zI (zga E 0 (v3 + 1).toNat), zI (zga E 0 (v3 + 2).toNat)]) (rest := []) (na := 2) (ci := 11) rfl dL_law_547 wC_X11_keeps wN_X11 wM_L_58 wI_X11_keeps wV_X11_keeps (by decide) (by decide) rfl rfl (Nat.le_of_ble_eq_true rfl) rfl (by decide) (gk_0 hG) (fun r hr => zMet_cast (Nat.add_assoc d 89 4) (mX11_keeps (d := d + 89) hG (zga E 0 (v3 + 1).toNat) (zga E 0 (v3 + 2).toNat) r hr)) ?_
                            rintro ⟨r_44, D_45⟩ -
                            show zO _ _ _ _ _ _ [zI r_44] (F, D_45, n, sl) _ _
                            refine zO_aload_n dL_law_550 rfl (zR_P _) ?_
                            refine zO_aload_n dL_law_551 rfl (zR_P _) ?_
                            refine zO_iload_n dL_law_552 rfl ?_
                            refine zO_iconst dL_law_553 (by decide) ?_
                            refine zO_iadd dL_law_554 h12.1 ?_
                            refine zO_sld (j0 := 0) dL_law_555 (by decide) h12.2.1 ?_
                            refine zO_aload_n dL_law_556 rfl (zR_P _) ?_
                            refine zO_iload_n dL_law_557 rfl ?_
                            refine zO_iconst dL_law_558 (by decide) ?_
                            refine zO_iadd dL_law_559 h12.2.2.1 ?_
                            refine zO_sld (j0 := 0) dL_law_560 (by decide) h12.2.2.2 ?_
                            refine zO_callV (Y' := YX12_keeps) (cw := zcI F n sl) (as := [zI (zga E 0 (v3 + 1).toNat), zI (zga E 0 (v3 + 2).toNat)]) (rest := [zI r_44]) (na := 2) (ci := 12) rfl dL_law_561 wC_X12_keeps wN_X12 wM_L_61 wI_X12_keeps wV_X12_keeps (by decide) (by decide) rfl rfl (Nat.le_of_ble_eq_true rfl) rfl (by decide) (gk_91 hG) (fun r hr => zMet_cast (Nat.add_assoc d 5 88) (mX12_keeps (d := d + 5) hG (zga E 0 (v3 + 1).toNat) (zga E 0 (v3 + 2).toNat) r hr)) ?_
                            rintro ⟨r_46, D_47⟩ -
                            show zO _ _ _ _ _ _ [zI r_46, zI r_44] (F, D_47, n, sl) _ _
                            refine zO_icmp_eq (tgt := 1337) dL_law_564 rfl (fun c564 => ?_) (fun c564 => ?_)
                            · refine zO_live [0, 1, 2, 3] ?_
                              exact sL_law_1337 v3 _ hk_18 F D_47 n sl hG hN
                            · refine zO_iconst dL_law_567 (by decide) ?_
                              exact zO_ret (rv := some (zI 0)) dL_law_568 rfl rfl rfl
                          · refine zO_ite (fun c33_11 => ?_) (fun c33_11 => ?_)
                            · refine zO_tableIn (tgt := 569) dL_law_33 ⟨11, c33_11, by decide, by decide, rfl⟩ rfl ?_
                              refine zO_chk (fun h13 => ?_)
                              refine zO_aload_n dL_law_569 rfl (zR_P _) ?_
                              refine zO_aload_n dL_law_570 rfl (zR_P _) ?_
                              refine zO_iload_n dL_law_571 rfl ?_
                              refine zO_iconst dL_law_572 (by decide) ?_
                              refine zO_iadd dL_law_573 h13.1 ?_
                              refine zO_sld (j0 := 0) dL_law_574 (by decide) h13.2 ?_
                              refine zO_callV (Y' := YX11_chance) (cw := zcI F n sl) (as := [zI (zga E 0 (v3 + 1).toNat)]) (rest := []) (na := 1) (ci := 11) rfl dL_law_575 wC_X11_chance wN_X11 wM_L_62 wI_X11_chance wV_X11_chance (by decide) (by decide) rfl rfl (Nat.le_of_ble_eq_true rfl) rfl (by decide) (gk_0 hG) (fun r hr => zMet_cast (Nat.add_assoc d 89 4) (mX11_chance (d := d + 89) hG (zga E 0 (v3 + 1).toNat) r hr)) ?_
                              rintro ⟨r_48, D_49⟩ -
                              show zO _ _ _ _ _ _ [zI r_48] (F, D_49, n, sl) _ _
                              refine zO_aload_n dL_law_578 rfl (zR_P _) ?_
                              refine zO_aload_n dL_law_579 rfl (zR_P _) ?_
                              refine zO_iload_n dL_law_580 rfl ?_
                              refine zO_iconst dL_law_581 (by decide) ?_
                              refine zO_iadd dL_law_582 h13.1 ?_
                              refine zO_sld (j0 := 0) dL_law_583 (by decide) h13.2 ?_
                              refine zO_callV (Y' := YX12_chance) (cw := zcI F n sl) (as := [zI (zga E 0 (v3 + 1).toNat)]) (rest := [zI r_48]) (na := 1) (ci := 12) rfl dL_law_584 wC_X12_chance wN_X12 wM_L_65 wI_X12_chance wV_X12_chance (by decide) (by decide) rfl rfl (Nat.le_of_ble_eq_true rfl) rfl (by decide) (gk_91 hG) (fun r hr => zMet_cast (Nat.add_assoc d 5 88) (mX12_chance (d := d + 5) hG (zga E 0 (v3 + 1).toNat) r hr)) ?_
                              rintro ⟨r_50, D_51⟩ -
                              show zO _ _ _ _ _ _ [zI r_50, zI r_48] (F, D_51, n, sl) _ _
                              refine zO_icmp_eq (tgt := 1337) dL_law_587 rfl (fun c587 => ?_) (fun c587 => ?_)
                              · refine zO_live [0, 1, 2, 3] ?_
                                exact sL_law_1337 v3 _ hk_18 F D_51 n sl hG hN
                              · refine zO_iconst dL_law_590 (by decide) ?_
                                exact zO_ret (rv := some (zI 0)) dL_law_591 rfl rfl rfl
                            · refine zO_ite (fun c33_12 => ?_) (fun c33_12 => ?_)
                              · refine zO_tableIn (tgt := 592) dL_law_33 ⟨12, c33_12, by decide, by decide, rfl⟩ rfl ?_
                                refine zO_chk (fun h14 => ?_)
                                refine zO_aload_n dL_law_592 rfl (zR_P _) ?_
                                refine zO_aload_n dL_law_593 rfl (zR_P _) ?_
                                refine zO_iload_n dL_law_594 rfl ?_
                                refine zO_iconst dL_law_595 (by decide) ?_
                                refine zO_iadd dL_law_596 h14.1 ?_
                                refine zO_sld (j0 := 0) dL_law_597 (by decide) h14.2 ?_
                                refine zO_callV (Y' := YX11_pass) (cw := zcJ F n sl) (as := [zI (zga E 0 (v3 + 1).toNat)]) (rest := []) (na := 1) (ci := 11) rfl dL_law_598 wC_X11_pass wN_X11 wM_L_66 wI_X11_pass wV_X11_pass (by decide) (by decide) rfl rfl (Nat.le_of_ble_eq_true rfl) rfl (by decide) (gk_0 hG) (fun r hr => zMet_cast (Nat.add_assoc d 87 6) (mX11_pass (d := d + 87) hG (zga E 0 (v3 + 1).toNat) r hr)) ?_
                                rintro ⟨r_52, D_53⟩ -
                                show zO _ _ _ _ _ _ [zL r_52] (F, D_53, n, sl) _ _
                                refine zO_aload_n dL_law_601 rfl (zR_P _) ?_
                                refine zO_aload_n dL_law_602 rfl (zR_P _) ?_
                                refine zO_iload_n dL_law_603 rfl ?_
                                refine zO_iconst dL_law_604 (by decide) ?_
                                refine zO_iadd dL_law_605 h14.1 ?_
                                refine zO_sld (j0 := 0) dL_law_606 (by decide) h14.2 ?_
                                refine zO_callV (Y' := YX12_pass) (cw := zcJ F n sl) (as := [zI (zga E 0 (v3 + 1).toNat)]) (rest := [zL r_52]) (na := 1) (ci := 12) rfl dL_law_607 wC_X12_pass wN_X12 wM_L_70 wI_X12_pass wV_X12_pass (by decide) (by decide) rfl rfl (Nat.le_of_ble_eq_true rfl) rfl (by decide) (gk_91 hG) (fun r hr => zMet_cast (Nat.add_assoc d 3 90) (mX12_pass (d := d + 3) hG (zga E 0 (v3 + 1).toNat) r hr)) ?_
                                rintro ⟨r_54, D_55⟩ -
                                show zO _ _ _ _ _ _ [zL r_54, zL r_52] (F, D_55, n, sl) _ _
                                refine zO_lif_eq (tgt := 1337) dL_law_610 dL_law_611 rfl (fun c610 => ?_) (fun c610 => ?_)
                                · refine zO_live [0, 1, 2, 3] ?_
                                  exact sL_law_1337 v3 _ hk_18 F D_55 n sl hG hN
                                · refine zO_iconst dL_law_614 (by decide) ?_
                                  exact zO_ret (rv := some (zI 0)) dL_law_615 rfl rfl rfl
                              · refine zO_ite (fun c33_13 => ?_) (fun c33_13 => ?_)
                                · refine zO_tableIn (tgt := 616) dL_law_33 ⟨13, c33_13, by decide, by decide, rfl⟩ rfl ?_
                                  refine zO_chk (fun h15 => ?_)
                                  refine zO_aload_n dL_law_616 rfl (zR_P _) ?_
                                  refine zO_aload_n dL_law_617 rfl (zR_P _) ?_
                                  refine zO_iload_n dL_law_618 rfl ?_
                                  refine zO_iconst dL_law_619 (by decide) ?_
                                  refine zO_iadd dL_law_620 h15.1 ?_
                                  refine zO_sld (j0 := 0) dL_law_621 (by decide) h15.2.1 ?_
                                  refine zO_aload_n dL_law_622 rfl (zR_P _) ?_
                                  refine zO_iload_n dL_law_623 rfl ?_
                                  refine zO_iconst dL_law_624 (by decide) ?_
                                  refine zO_iadd dL_law_625 h15.2.2.1 ?_
                                  refine zO_sld (j0 := 0) dL_law_626 (by decide) h15.2.2.2 ?_
                                  refine zO_callV (Y' := YX11_right) (cw := zcJ F n sl) (as := [zI (zga E 0 (v3 + 1).toNat), zI (zga E 0 (v3 + 2).toNat)]) (rest := []) (na := 2) (ci := 11) rfl dL_law_627 wC_X11_right wN_X11 wM_L_71 wI_X11_right wV_X11_right (by decide) (by decide) rfl rfl (Nat.le_of_ble_eq_true rfl) rfl (by decide) (gk_0 hG) (fun r hr => zMet_cast (Nat.add_assoc d 87 6) (mX11_right (d := d + 87) hG (zga E 0 (v3 + 1).toNat) (zga E 0 (v3 + 2).toNat) r hr)) ?_
                                  rintro ⟨r_56, D_57⟩ -
                                  show zO _ _ _ _ _ _ [zL r_56] (F, D_57, n, sl) _ _
                                  refine zO_aload_n dL_law_630 rfl (zR_P _) ?_
                                  refine zO_aload_n dL_law_631 rfl (zR_P _) ?_
                                  refine zO_iload_n dL_law_632 rfl ?_
                                  refine zO_iconst dL_law_633 (by decide) ?_
                                  refine zO_iadd dL_law_634 h15.1 ?_
                                  refine zO_sld (j0 := 0) dL_law_635 (by decide) h15.2.1 ?_
                                  refine zO_aload_n dL_law_636 rfl (zR_P _) ?_
                                  refine zO_iload_n dL_law_637 rfl ?_
                                  refine zO_iconst dL_law_638 (by decide) ?_
                                  refine zO_iadd dL_law_639 h15.2.2.1 ?_
                                  refine zO_sld (j0 := 0) dL_law_640 (by decide) h15.2.2.2 ?_
                                  refine zO_callV (Y' := YX12_right) (cw := zcJ F n sl) (as := [zI (zga E 0 (v3 + 1).toNat), zI (zga E 0 (v3 + 2).toNat)]) (rest := [zL r_56]) (na := 2) (ci := 12) rfl dL_law_641 wC_X12_right wN_X12 wM_L_75 wI_X12_right wV_X12_right (by decide) (by decide) rfl rfl (Nat.le_of_ble_eq_true rfl) rfl (by decide) (gk_91 hG) (fun r hr => zMet_cast (Nat.add_assoc d 3 90) (mX12_right (d := d + 3) hG (zga E 0 (v3 + 1).toNat) (zga E 0 (v3 + 2).toNat) r hr)) ?_
                                  rintro ⟨r_58, D_59⟩ -
                                  show zO _ _ _ _ _ _ [zL r_58, zL r_56] (F, D_59, n, sl) _ _
                                  refine zO_lif_eq (tgt := 1337) dL_law_644 dL_law_645 rfl (fun c644 => ?_) (fun c644 => ?_)
                                  · refine zO_live [0, 1, 2, 3] ?_
                                    exact sL_law_1337 v3 _ hk_18 F D_59 n sl hG hN
                                  · refine zO_iconst dL_law_648 (by decide) ?_
                                    exact zO_ret (rv := some (zI 0)) dL_law_649 rfl rfl rfl
                                · refine zO_ite (fun c33_14 => ?_) (fun c33_14 => ?_)
                                  · refine zO_tableIn (tgt := 650) dL_law_33 ⟨14, c33_14, by decide, by decide, rfl⟩ rfl ?_
                                    refine zO_chk (fun h16 => ?_)
                                    refine zO_aload_n dL_law_650 rfl (zR_P _) ?_
                                    refine zO_aload_n dL_law_651 rfl (zR_P _) ?_
                                    refine zO_iload_n dL_law_652 rfl ?_
                                    refine zO_iconst dL_law_653 (by decide) ?_
                                    refine zO_iadd dL_law_654 h16.1 ?_
                                    refine zO_sld (j0 := 0) dL_law_655 (by decide) h16.2 ?_
                                    refine zO_callV (Y' := YX11_mean) (cw := zcJ F n sl) (as := [zI (zga E 0 (v3 + 1).toNat)]) (rest := []) (na := 1) (ci := 11) rfl dL_law_656 wC_X11_mean wN_X11 wM_L_76 wI_X11_mean wV_X11_mean (by decide) (by decide) rfl rfl (Nat.le_of_ble_eq_true rfl) rfl (by decide) (gk_0 hG) (fun r hr => zMet_cast (Nat.add_assoc d 87 6) (mX11_mean (d := d + 87) hG (zga E 0 (v3 + 1).toNat) r hr)) ?_
                                    rintro ⟨r_60, D_61⟩ -
                                    show zO _ _ _ _ _ _ [zL r_60] (F, D_61, n, sl) _ _
                                    refine zO_aload_n dL_law_659 rfl (zR_P _) ?_
                                    refine zO_aload_n dL_law_660 rfl (zR_P _) ?_
                                    refine zO_iload_n dL_law_661 rfl ?_
                                    refine zO_iconst dL_law_662 (by decide) ?_
                                    refine zO_iadd dL_law_663 h16.1 ?_
                                    refine zO_sld (j0 := 0) dL_law_664 (by decide) h16.2 ?_
                                    refine zO_callV (Y' := YX12_mean) (cw := zcJ F n sl) (as := [zI (zga E 0 (v3 + 1).toNat)]) (rest := [zL r_60]) (na := 1) (ci := 12) rfl dL_law_665 wC_X12_mean wN_X12 wM_L_79 wI_X12_mean wV_X12_mean (by decide) (by decide) rfl rfl (Nat.le_of_ble_eq_true rfl) rfl (by decide) (gk_91 hG) (fun r hr => zMet_cast (Nat.add_assoc d 3 90) (mX12_mean (d := d + 3) hG (zga E 0 (v3 + 1).toNat) r hr)) ?_
                                    rintro ⟨r_62, D_63⟩ -
                                    show zO _ _ _ _ _ _ [zL r_62, zL r_60] (F, D_63, n, sl) _ _
                                    refine zO_lif_eq (tgt := 1337) dL_law_668 dL_law_669 rfl (fun c668 => ?_) (fun c668 => ?_)
                                    · refine zO_live [0, 1, 2, 3] ?_
                                      exact sL_law_1337 v3 _ hk_18 F D_63 n sl hG hN
                                    · refine zO_iconst dL_law_672 (by decide) ?_
                                      exact zO_ret (rv := some (zI 0)) dL_law_673 rfl rfl rfl
                                  · refine zO_ite (fun c33_15 => ?_) (fun c33_15 => ?_)
                                    · refine zO_tableIn (tgt := 674) dL_law_33 ⟨15, c33_15, by decide, by decide, rfl⟩ rfl ?_
                                      refine zO_chk (fun h17 => ?_)
                                      refine zO_aload_n dL_law_674 rfl (zR_P _) ?_
                                      refine zO_aload_n dL_law_675 rfl (zR_P _) ?_
                                      refine zO_iload_n dL_law_676 rfl ?_
                                      refine zO_iconst dL_law_677 (by decide) ?_
                                      refine zO_iadd dL_law_678 h17.1 ?_
                                      refine zO_sld (j0 := 0) dL_law_679 (by decide) h17.2.1 ?_
                                      refine zO_aload_n dL_law_680 rfl (zR_P _) ?_
                                      refine zO_iload_n dL_law_681 rfl ?_
                                      refine zO_iconst dL_law_682 (by decide) ?_
                                      refine zO_iadd dL_law_683 h17.2.2.1 ?_
                                      refine zO_sld (j0 := 0) dL_law_684 (by decide) h17.2.2.2 ?_
                                      refine zO_callV (Y' := YX11_sure) (cw := zcJ F n sl) (as := [zI (zga E 0 (v3 + 1).toNat), zI (zga E 0 (v3 + 2).toNat)]) (rest := []) (na := 2) (ci := 11) rfl dL_law_685 wC_X11_sure wN_X11 wM_L_80 wI_X11_sure wV_X11_sure (by decide) (by decide) rfl rfl (Nat.le_of_ble_eq_true rfl) rfl (by decide) (gk_0 hG) (fun r hr => zMet_cast (Nat.add_assoc d 88 5) (mX11_sure (d := d + 88) hG (zga E 0 (v3 + 1).toNat) (zga E 0 (v3 + 2).toNat) r hr)) ?_
                                      rintro ⟨r_64, D_65⟩ -
                                      show zO _ _ _ _ _ _ [zL r_64] (F, D_65, n, sl) _ _
                                      refine zO_aload_n dL_law_688 rfl (zR_P _) ?_
                                      refine zO_aload_n dL_law_689 rfl (zR_P _) ?_
                                      refine zO_iload_n dL_law_690 rfl ?_
                                      refine zO_iconst dL_law_691 (by decide) ?_
                                      refine zO_iadd dL_law_692 h17.1 ?_
                                      refine zO_sld (j0 := 0) dL_law_693 (by decide) h17.2.1 ?_
                                      refine zO_aload_n dL_law_694 rfl (zR_P _) ?_
                                      refine zO_iload_n dL_law_695 rfl ?_
                                      refine zO_iconst dL_law_696 (by decide) ?_
                                      refine zO_iadd dL_law_697 h17.2.2.1 ?_
                                      refine zO_sld (j0 := 0) dL_law_698 (by decide) h17.2.2.2 ?_
                                      refine zO_callV (Y' := YX12_sure) (cw := zcJ F n sl) (as := [zI (zga E 0 (v3 + 1).toNat), zI (zga E 0 (v3 + 2).toNat)]) (rest := [zL r_64]) (na := 2) (ci := 12) rfl dL_law_699 wC_X12_sure wN_X12 wM_L_83 wI_X12_sure wV_X12_sure (by decide) (by decide) rfl rfl (Nat.le_of_ble_eq_true rfl) rfl (by decide) (gk_91 hG) (fun r hr => zMet_cast (Nat.add_assoc d 4 89) (mX12_sure (d := d + 4) hG (zga E 0 (v3 + 1).toNat) (zga E 0 (v3 + 2).toNat) r hr)) ?_
                                      rintro ⟨r_66, D_67⟩ -
                                      show zO _ _ _ _ _ _ [zL r_66, zL r_64] (F, D_67, n, sl) _ _
                                      refine zO_lif_eq (tgt := 1337) dL_law_702 dL_law_703 rfl (fun c702 => ?_) (fun c702 => ?_)
                                      · refine zO_live [0, 1, 2, 3] ?_
                                        exact sL_law_1337 v3 _ hk_18 F D_67 n sl hG hN
                                      · refine zO_iconst dL_law_706 (by decide) ?_
                                        exact zO_ret (rv := some (zI 0)) dL_law_707 rfl rfl rfl
                                    · refine zO_ite (fun c33_16 => ?_) (fun c33_16 => ?_)
                                      · refine zO_tableIn (tgt := 708) dL_law_33 ⟨16, c33_16, by decide, by decide, rfl⟩ rfl ?_
                                        refine zO_aload_n dL_law_708 rfl (zR_P _) ?_
                                        refine zO_callV (Y' := YX11_safe) (cw := zcI F n sl) (as := []) (rest := []) (na := 0) (ci := 11) rfl dL_law_709 wC_X11_safe wN_X11 wM_L_84 wI_X11_safe wV_X11_safe (by decide) (by decide) rfl rfl (Nat.le_of_ble_eq_true rfl) rfl (by decide) (gk_0 hG) (fun r hr => zMet_cast (Nat.add_assoc d 88 5) (mX11_safe (d := d + 88) hG  r hr)) ?_
                                        rintro ⟨r_68, D_69⟩ -
                                        show zO _ _ _ _ _ _ [zI r_68] (F, D_69, n, sl) _ _
                                        refine zO_aload_n dL_law_712 rfl (zR_P _) ?_
                                        refine zO_callV (Y' := YX12_safe) (cw := zcI F n sl) (as := []) (rest := [zI r_68]) (na := 0) (ci := 12) rfl dL_law_713 wC_X12_safe wN_X12 wM_L_87 wI_X12_safe wV_X12_safe (by decide) (by decide) rfl rfl (Nat.le_of_ble_eq_true rfl) rfl (by decide) (gk_91 hG) (fun r hr => zMet_cast (Nat.add_assoc d 4 89) (mX12_safe (d := d + 4) hG  r hr)) ?_
                                        rintro ⟨r_70, D_71⟩ -
                                        show zO _ _ _ _ _ _ [zI r_70, zI r_68] (F, D_71, n, sl) _ _
                                        refine zO_icmp_eq (tgt := 1337) dL_law_716 rfl (fun c716 => ?_) (fun c716 => ?_)
                                        · refine zO_live [0, 1, 2, 3] ?_
                                          exact sL_law_1337 v3 _ hk_18 F D_71 n sl hG hN
                                        · refine zO_iconst dL_law_719 (by decide) ?_
                                          exact zO_ret (rv := some (zI 0)) dL_law_720 rfl rfl rfl
                                      · refine zO_ite (fun c33_17 => ?_) (fun c33_17 => ?_)
                                        · refine zO_tableIn (tgt := 721) dL_law_33 ⟨17, c33_17, by decide, by decide, rfl⟩ rfl ?_
                                          refine zO_chk (fun h18 => ?_)
                                          refine zO_aload_n dL_law_721 rfl (zR_P _) ?_
                                          refine zO_aload_n dL_law_722 rfl (zR_P _) ?_
                                          refine zO_iload_n dL_law_723 rfl ?_
                                          refine zO_iconst dL_law_724 (by decide) ?_
                                          refine zO_iadd dL_law_725 h18.1 ?_
                                          refine zO_sld (j0 := 0) dL_law_726 (by decide) h18.2 ?_
                                          refine zO_callV (Y' := YX11_worth) (cw := zcI F n sl) (as := [zI (zga E 0 (v3 + 1).toNat)]) (rest := []) (na := 1) (ci := 11) rfl dL_law_727 wC_X11_worth wN_X11 wM_L_88 wI_X11_worth wV_X11_worth (by decide) (by decide) rfl rfl (Nat.le_of_ble_eq_true rfl) rfl (by decide) (gk_0 hG) (fun r hr => zMet_cast (Nat.add_assoc d 87 6) (mX11_worth (d := d + 87) hG (zga E 0 (v3 + 1).toNat) r hr)) ?_
                                          rintro ⟨r_72, D_73⟩ -
                                          show zO _ _ _ _ _ _ [zI r_72] (F, D_73, n, sl) _ _
                                          refine zO_aload_n dL_law_730 rfl (zR_P _) ?_
                                          refine zO_aload_n dL_law_731 rfl (zR_P _) ?_
                                          refine zO_iload_n dL_law_732 rfl ?_
                                          refine zO_iconst dL_law_733 (by decide) ?_
                                          refine zO_iadd dL_law_734 h18.1 ?_
                                          refine zO_sld (j0 := 0) dL_law_735 (by decide) h18.2 ?_
                                          refine zO_callV (Y' := YX12_worth) (cw := zcI F n sl) (as := [zI (zga E 0 (v3 + 1).toNat)]) (rest := [zI r_72]) (na := 1) (ci := 12) rfl dL_law_736 wC_X12_worth wN_X12 wM_L_91 wI_X12_worth wV_X12_worth (by decide) (by decide) rfl rfl (Nat.le_of_ble_eq_true rfl) rfl (by decide) (gk_91 hG) (fun r hr => zMet_cast (Nat.add_assoc d 3 90) (mX12_worth (d := d + 3) hG (zga E 0 (v3 + 1).toNat) r hr)) ?_
                                          rintro ⟨r_74, D_75⟩ -
                                          show zO _ _ _ _ _ _ [zI r_74, zI r_72] (F, D_75, n, sl) _ _
                                          refine zO_icmp_eq (tgt := 1337) dL_law_739 rfl (fun c739 => ?_) (fun c739 => ?_)
                                          · refine zO_live [0, 1, 2, 3] ?_
                                            exact sL_law_1337 v3 _ hk_18 F D_75 n sl hG hN
                                          · refine zO_iconst dL_law_742 (by decide) ?_
                                            exact zO_ret (rv := some (zI 0)) dL_law_743 rfl rfl rfl
                                        · refine zO_ite (fun c33_18 => ?_) (fun c33_18 => ?_)
                                          · refine zO_tableIn (tgt := 744) dL_law_33 ⟨18, c33_18, by decide, by decide, rfl⟩ rfl ?_
                                            refine zO_chk (fun h19 => ?_)
                                            refine zO_aload_n dL_law_744 rfl (zR_P _) ?_
                                            refine zO_aload_n dL_law_745 rfl (zR_P _) ?_
                                            refine zO_iload_n dL_law_746 rfl ?_
                                            refine zO_iconst dL_law_747 (by decide) ?_
                                            refine zO_iadd dL_law_748 h19.1 ?_
                                            refine zO_sld (j0 := 0) dL_law_749 (by decide) h19.2.1 ?_
                                            refine zO_aload_n dL_law_750 rfl (zR_P _) ?_
                                            refine zO_iload_n dL_law_751 rfl ?_
                                            refine zO_iconst dL_law_752 (by decide) ?_
                                            refine zO_iadd dL_law_753 h19.2.2.1 ?_
                                            refine zO_sld (j0 := 0) dL_law_754 (by decide) h19.2.2.2 ?_
                                            refine zO_callV (Y' := YX11_best) (cw := zmJ) (as := [zI (zga E 0 (v3 + 1).toNat), zI (zga E 0 (v3 + 2).toNat)]) (rest := []) (na := 2) (ci := 11) rfl dL_law_755 wC_X11_best wN_X11 wM_L_92 wI_X11_best wV_X11_best (by decide) (by decide) rfl rfl (Nat.le_of_ble_eq_true rfl) rfl (by decide) (gk_0 hG) (fun r hr => zMet_cast (Nat.add_assoc d 86 7) (mX11_best (d := d + 86) (zga E 0 (v3 + 1).toNat) (zga E 0 (v3 + 2).toNat) hG hN r hr)) ?_
                                            rintro ⟨r_76, F_77, D_78, n_79, sl_80⟩ -
                                            show zO _ _ _ _ _ _ [zL r_76] (F_77, D_78, n_79, sl_80) _ _
                                            refine zO_chk (fun g80 => ?_)
                                            refine zO_aload_n dL_law_758 rfl (zR_P _) ?_
                                            refine zO_aload_n dL_law_759 rfl (zR_P _) ?_
                                            refine zO_iload_n dL_law_760 rfl ?_
                                            refine zO_iconst dL_law_761 (by decide) ?_
                                            refine zO_iadd dL_law_762 h19.1 ?_
                                            refine zO_sld (j0 := 0) dL_law_763 (by decide) h19.2.1 ?_
                                            refine zO_aload_n dL_law_764 rfl (zR_P _) ?_
                                            refine zO_iload_n dL_law_765 rfl ?_
                                            refine zO_iconst dL_law_766 (by decide) ?_
                                            refine zO_iadd dL_law_767 h19.2.2.1 ?_
                                            refine zO_sld (j0 := 0) dL_law_768 (by decide) h19.2.2.2 ?_
                                            refine zO_callV (Y' := YX12_best) (cw := zcJ F_77 n_79 sl_80) (as := [zI (zga E 0 (v3 + 1).toNat), zI (zga E 0 (v3 + 2).toNat)]) (rest := [zL r_76]) (na := 2) (ci := 12) rfl dL_law_769 wC_X12_best wN_X12 wM_L_95 wI_X12_best wV_X12_best (by decide) (by decide) rfl rfl (Nat.le_of_ble_eq_true rfl) rfl (by decide) (gk_91 g80.1) (fun r hr => zMet_cast (Nat.add_assoc d 2 91) (mX12_best (d := d + 2) g80.1 (zga E 0 (v3 + 1).toNat) (zga E 0 (v3 + 2).toNat) r hr)) ?_
                                            rintro ⟨r_81, D_82⟩ -
                                            show zO _ _ _ _ _ _ [zL r_81, zL r_76] (F_77, D_82, n_79, sl_80) _ _
                                            refine zO_lif_eq (tgt := 1337) dL_law_772 dL_law_773 rfl (fun c772 => ?_) (fun c772 => ?_)
                                            · refine zO_live [0, 1, 2, 3] ?_
                                              exact sL_law_1337 v3 _ hk_18 F_77 D_82 n_79 sl_80 g80.1 g80.2
                                            · refine zO_iconst dL_law_776 (by decide) ?_
                                              exact zO_ret (rv := some (zI 0)) dL_law_777 rfl rfl rfl
                                          · refine zO_ite (fun c33_19 => ?_) (fun c33_19 => ?_)
                                            · refine zO_tableIn (tgt := 778) dL_law_33 ⟨19, c33_19, by decide, by decide, rfl⟩ rfl ?_
                                              refine zO_chk (fun h20 => ?_)
                                              refine zO_aload_n dL_law_778 rfl (zR_P _) ?_
                                              refine zO_aload_n dL_law_779 rfl (zR_P _) ?_
                                              refine zO_iload_n dL_law_780 rfl ?_
                                              refine zO_iconst dL_law_781 (by decide) ?_
                                              refine zO_iadd dL_law_782 h20.1 ?_
                                              refine zO_sld (j0 := 0) dL_law_783 (by decide) h20.2.1 ?_
                                              refine zO_aload_n dL_law_784 rfl (zR_P _) ?_
                                              refine zO_iload_n dL_law_785 rfl ?_
                                              refine zO_iconst dL_law_786 (by decide) ?_
                                              refine zO_iadd dL_law_787 h20.2.2.1 ?_
                                              refine zO_sld (j0 := 0) dL_law_788 (by decide) h20.2.2.2 ?_
                                              refine zO_callV (Y' := YX11_level) (cw := zmI) (as := [zI (zga E 0 (v3 + 1).toNat), zI (zga E 0 (v3 + 2).toNat)]) (rest := []) (na := 2) (ci := 11) rfl dL_law_789 wC_X11_level wN_X11 wM_L_96 wI_X11_level wV_X11_level (by decide) (by decide) rfl rfl (Nat.le_of_ble_eq_true rfl) rfl (by decide) (gk_0 hG) (fun r hr => zMet_cast (Nat.add_assoc d 86 7) (mX11_level (d := d + 86) (zga E 0 (v3 + 1).toNat) (zga E 0 (v3 + 2).toNat) hG hN r hr)) ?_
                                              rintro ⟨r_83, F_84, D_85, n_86, sl_87⟩ -
                                              show zO _ _ _ _ _ _ [zI r_83] (F_84, D_85, n_86, sl_87) _ _
                                              refine zO_chk (fun g87 => ?_)
                                              refine zO_aload_n dL_law_792 rfl (zR_P _) ?_
                                              refine zO_aload_n dL_law_793 rfl (zR_P _) ?_
                                              refine zO_iload_n dL_law_794 rfl ?_
                                              refine zO_iconst dL_law_795 (by decide) ?_
                                              refine zO_iadd dL_law_796 h20.1 ?_
                                              refine zO_sld (j0 := 0) dL_law_797 (by decide) h20.2.1 ?_
                                              refine zO_aload_n dL_law_798 rfl (zR_P _) ?_
                                              refine zO_iload_n dL_law_799 rfl ?_
                                              refine zO_iconst dL_law_800 (by decide) ?_
                                              refine zO_iadd dL_law_801 h20.2.2.1 ?_
                                              refine zO_sld (j0 := 0) dL_law_802 (by decide) h20.2.2.2 ?_
                                              refine zO_callV (Y' := YX12_level) (cw := zcI F_84 n_86 sl_87) (as := [zI (zga E 0 (v3 + 1).toNat), zI (zga E 0 (v3 + 2).toNat)]) (rest := [zI r_83]) (na := 2) (ci := 12) rfl dL_law_803 wC_X12_level wN_X12 wM_L_99 wI_X12_level wV_X12_level (by decide) (by decide) rfl rfl (Nat.le_of_ble_eq_true rfl) rfl (by decide) (gk_91 g87.1) (fun r hr => zMet_cast (Nat.add_assoc d 1 92) (mX12_level (d := d + 1) g87.1 (zga E 0 (v3 + 1).toNat) (zga E 0 (v3 + 2).toNat) r hr)) ?_
                                              rintro ⟨r_88, D_89⟩ -
                                              show zO _ _ _ _ _ _ [zI r_88, zI r_83] (F_84, D_89, n_86, sl_87) _ _
                                              refine zO_icmp_eq (tgt := 1337) dL_law_806 rfl (fun c806 => ?_) (fun c806 => ?_)
                                              · refine zO_live [0, 1, 2, 3] ?_
                                                exact sL_law_1337 v3 _ hk_18 F_84 D_89 n_86 sl_87 g87.1 g87.2
                                              · refine zO_iconst dL_law_809 (by decide) ?_
                                                exact zO_ret (rv := some (zI 0)) dL_law_810 rfl rfl rfl
                                            · refine zO_ite (fun c33_20 => ?_) (fun c33_20 => ?_)
                                              · refine zO_tableIn (tgt := 811) dL_law_33 ⟨20, c33_20, by decide, by decide, rfl⟩ rfl ?_
                                                refine zO_chk (fun h21 => ?_)
                                                refine zO_aload_n dL_law_811 rfl (zR_P _) ?_
                                                refine zO_aload_n dL_law_812 rfl (zR_P _) ?_
                                                refine zO_iload_n dL_law_813 rfl ?_
                                                refine zO_iconst dL_law_814 (by decide) ?_
                                                refine zO_iadd dL_law_815 h21.1 ?_
                                                refine zO_sld (j0 := 0) dL_law_816 (by decide) h21.2 ?_
                                                refine zO_callV (Y' := YX11_enough) (cw := zmI) (as := [zI (zga E 0 (v3 + 1).toNat)]) (rest := []) (na := 1) (ci := 11) rfl dL_law_817 wC_X11_enough wN_X11 wM_L_100 wI_X11_enough wV_X11_enough (by decide) (by decide) rfl rfl (Nat.le_of_ble_eq_true rfl) rfl (by decide) (gk_0 hG) (fun r hr => zMet_cast (Nat.add_assoc d 86 7) (mX11_enough (d := d + 86) (zga E 0 (v3 + 1).toNat) hG hN r hr)) ?_
                                                rintro ⟨r_90, F_91, D_92, n_93, sl_94⟩ -
                                                show zO _ _ _ _ _ _ [zI r_90] (F_91, D_92, n_93, sl_94) _ _
                                                refine zO_chk (fun g94 => ?_)
                                                refine zO_aload_n dL_law_820 rfl (zR_P _) ?_
                                                refine zO_aload_n dL_law_821 rfl (zR_P _) ?_
                                                refine zO_iload_n dL_law_822 rfl ?_
                                                refine zO_iconst dL_law_823 (by decide) ?_
                                                refine zO_iadd dL_law_824 h21.1 ?_
                                                refine zO_sld (j0 := 0) dL_law_825 (by decide) h21.2 ?_
                                                refine zO_callV (Y' := YX12_enough) (cw := zcI F_91 n_93 sl_94) (as := [zI (zga E 0 (v3 + 1).toNat)]) (rest := [zI r_90]) (na := 1) (ci := 12) rfl dL_law_826 wC_X12_enough wN_X12 wM_L_103 wI_X12_enough wV_X12_enough (by decide) (by decide) rfl rfl (Nat.le_of_ble_eq_true rfl) rfl (by decide) (gk_91 g94.1) (fun r hr => zMet_cast (Nat.add_assoc d 3 90) (mX12_enough (d := d + 3) g94.1 (zga E 0 (v3 + 1).toNat) r hr)) ?_
                                                rintro ⟨r_95, D_96⟩ -
                                                show zO _ _ _ _ _ _ [zI r_95, zI r_90] (F_91, D_96, n_93, sl_94) _ _
                                                refine zO_icmp_eq (tgt := 1337) dL_law_829 rfl (fun c829 => ?_) (fun c829 => ?_)
                                                · refine zO_live [0, 1, 2, 3] ?_
                                                  exact sL_law_1337 v3 _ hk_18 F_91 D_96 n_93 sl_94 g94.1 g94.2
                                                · refine zO_iconst dL_law_832 (by decide) ?_
                                                  exact zO_ret (rv := some (zI 0)) dL_law_833 rfl rfl rfl
                                              · refine zO_ite (fun c33_21 => ?_) (fun c33_21 => ?_)
                                                · refine zO_tableIn (tgt := 834) dL_law_33 ⟨21, c33_21, by decide, by decide, rfl⟩ rfl ?_
                                                  refine zO_chk (fun h22 => ?_)
                                                  refine zO_aload_n dL_law_834 rfl (zR_P _) ?_
                                                  refine zO_aload_n dL_law_835 rfl (zR_P _) ?_
                                                  refine zO_iload_n dL_law_836 rfl ?_
                                                  refine zO_iconst dL_law_837 (by decide) ?_
                                                  refine zO_iadd dL_law_838 h22.1 ?_
                                                  refine zO_sld (j0 := 0) dL_law_839 (by decide) h22.2.1 ?_
                                                  refine zO_aload_n dL_law_840 rfl (zR_P _) ?_
                                                  refine zO_iload_n dL_law_841 rfl ?_
                                                  refine zO_iconst dL_law_842 (by decide) ?_
                                                  refine zO_iadd dL_law_843 h22.2.2.1 ?_
                                                  refine zO_sld (j0 := 0) dL_law_844 (by decide) h22.2.2.2 ?_
                                                  refine zO_callV (Y' := YX11_lesson) (cw := zcI F n sl) (as := [zI (zga E 0 (v3 + 1).toNat), zI (zga E 0 (v3 + 2).toNat)]) (rest := []) (na := 2) (ci := 11) rfl dL_law_845 wC_X11_lesson wN_X11 wM_L_104 wI_X11_lesson wV_X11_lesson (by decide) (by decide) rfl rfl (Nat.le_of_ble_eq_true rfl) rfl (by decide) (gk_0 hG) (fun r hr => zMet_cast (Nat.add_assoc d 92 1) (mX11_lesson (d := d + 92) hG (zga E 0 (v3 + 1).toNat) (zga E 0 (v3 + 2).toNat) r hr)) ?_
                                                  rintro ⟨r_97, D_98⟩ -
                                                  show zO _ _ _ _ _ _ [zI r_97] (F, D_98, n, sl) _ _
                                                  refine zO_aload_n dL_law_848 rfl (zR_P _) ?_
                                                  refine zO_aload_n dL_law_849 rfl (zR_P _) ?_
                                                  refine zO_iload_n dL_law_850 rfl ?_
                                                  refine zO_iconst dL_law_851 (by decide) ?_
                                                  refine zO_iadd dL_law_852 h22.1 ?_
                                                  refine zO_sld (j0 := 0) dL_law_853 (by decide) h22.2.1 ?_
                                                  refine zO_aload_n dL_law_854 rfl (zR_P _) ?_
                                                  refine zO_iload_n dL_law_855 rfl ?_
                                                  refine zO_iconst dL_law_856 (by decide) ?_
                                                  refine zO_iadd dL_law_857 h22.2.2.1 ?_
                                                  refine zO_sld (j0 := 0) dL_law_858 (by decide) h22.2.2.2 ?_
                                                  refine zO_callV (Y' := YX12_lesson) (cw := zcI F n sl) (as := [zI (zga E 0 (v3 + 1).toNat), zI (zga E 0 (v3 + 2).toNat)]) (rest := [zI r_97]) (na := 2) (ci := 12) rfl dL_law_859 wC_X12_lesson wN_X12 wM_L_107 wI_X12_lesson wV_X12_lesson (by decide) (by decide) rfl rfl (Nat.le_of_ble_eq_true rfl) rfl (by decide) (gk_91 hG) (fun r hr => zMet_cast (Nat.add_assoc d 91 2) (mX12_lesson (d := d + 91) hG (zga E 0 (v3 + 1).toNat) (zga E 0 (v3 + 2).toNat) r hr)) ?_
                                                  rintro ⟨r_99, D_100⟩ -
                                                  show zO _ _ _ _ _ _ [zI r_99, zI r_97] (F, D_100, n, sl) _ _
                                                  refine zO_icmp_eq (tgt := 1337) dL_law_862 rfl (fun c862 => ?_) (fun c862 => ?_)
                                                  · refine zO_live [0, 1, 2, 3] ?_
                                                    exact sL_law_1337 v3 _ hk_18 F D_100 n sl hG hN
                                                  · refine zO_iconst dL_law_865 (by decide) ?_
                                                    exact zO_ret (rv := some (zI 0)) dL_law_866 rfl rfl rfl
                                                · refine zO_ite (fun c33_22 => ?_) (fun c33_22 => ?_)
                                                  · refine zO_tableIn (tgt := 867) dL_law_33 ⟨22, c33_22, by decide, by decide, rfl⟩ rfl ?_
                                                    refine zO_aload_n dL_law_867 rfl (zR_P _) ?_
                                                    refine zO_callV (Y' := YX11_clear) (cw := zcI F n sl) (as := []) (rest := []) (na := 0) (ci := 11) rfl dL_law_868 wC_X11_clear wN_X11 wM_L_108 wI_X11_clear wV_X11_clear (by decide) (by decide) rfl rfl (Nat.le_of_ble_eq_true rfl) rfl (by decide) (gk_0 hG) (fun r hr => zMet_cast (Nat.add_assoc d 93 0) (mX11_clear (d := d + 93) hG  r hr)) ?_
                                                    rintro ⟨r_101, D_102⟩ -
                                                    show zO _ _ _ _ _ _ [zI r_101] (F, D_102, n, sl) _ _
                                                    refine zO_aload_n dL_law_871 rfl (zR_P _) ?_
                                                    refine zO_callV (Y' := YX12_clear) (cw := zcI F n sl) (as := []) (rest := [zI r_101]) (na := 0) (ci := 12) rfl dL_law_872 wC_X12_clear wN_X12 wM_L_111 wI_X12_clear wV_X12_clear (by decide) (by decide) rfl rfl (Nat.le_of_ble_eq_true rfl) rfl (by decide) (gk_91 hG) (fun r hr => zMet_cast (Nat.add_assoc d 93 0) (mX12_clear (d := d + 93) hG  r hr)) ?_
                                                    rintro ⟨r_103, D_104⟩ -
                                                    show zO _ _ _ _ _ _ [zI r_103, zI r_101] (F, D_104, n, sl) _ _
                                                    refine zO_icmp_eq (tgt := 1337) dL_law_875 rfl (fun c875 => ?_) (fun c875 => ?_)
                                                    · refine zO_live [0, 1, 2, 3] ?_
                                                      exact sL_law_1337 v3 _ hk_18 F D_104 n sl hG hN
                                                    · refine zO_iconst dL_law_878 (by decide) ?_
                                                      exact zO_ret (rv := some (zI 0)) dL_law_879 rfl rfl rfl
                                                  · refine zO_ite (fun c33_23 => ?_) (fun c33_23 => ?_)
                                                    · refine zO_tableIn (tgt := 880) dL_law_33 ⟨23, c33_23, by decide, by decide, rfl⟩ rfl ?_
                                                      refine zO_chk (fun h23 => ?_)
                                                      refine zO_aload_n dL_law_880 rfl (zR_P _) ?_
                                                      refine zO_aload_n dL_law_881 rfl (zR_P _) ?_
                                                      refine zO_iload_n dL_law_882 rfl ?_
                                                      refine zO_iconst dL_law_883 (by decide) ?_
                                                      refine zO_iadd dL_law_884 h23.1 ?_
                                                      refine zO_sld (j0 := 0) dL_law_885 (by decide) h23.2.1 ?_
                                                      refine zO_aload_n dL_law_886 rfl (zR_P _) ?_
                                                      refine zO_iload_n dL_law_887 rfl ?_
                                                      refine zO_iconst dL_law_888 (by decide) ?_
                                                      refine zO_iadd dL_law_889 h23.2.2.1 ?_
                                                      refine zO_sld (j0 := 0) dL_law_890 (by decide) h23.2.2.2 ?_
                                                      refine zO_callV (Y' := YX11_behind) (cw := zcI F n sl) (as := [zI (zga E 0 (v3 + 1).toNat), zI (zga E 0 (v3 + 2).toNat)]) (rest := []) (na := 2) (ci := 11) rfl dL_law_891 wC_X11_behind wN_X11 wM_L_112 wI_X11_behind wV_X11_behind (by decide) (by decide) rfl rfl (Nat.le_of_ble_eq_true rfl) rfl (by decide) (gk_0 hG) (fun r hr => zMet_cast (Nat.add_assoc d 86 7) (mX11_behind (d := d + 86) hG (zga E 0 (v3 + 1).toNat) (zga E 0 (v3 + 2).toNat) r hr)) ?_
                                                      rintro ⟨r_105, D_106⟩ -
                                                      show zO _ _ _ _ _ _ [zI r_105] (F, D_106, n, sl) _ _
                                                      refine zO_aload_n dL_law_894 rfl (zR_P _) ?_
                                                      refine zO_aload_n dL_law_895 rfl (zR_P _) ?_
                                                      refine zO_iload_n dL_law_896 rfl ?_
                                                      refine zO_iconst dL_law_897 (by decide) ?_
                                                      refine zO_iadd dL_law_898 h23.1 ?_
                                                      refine zO_sld (j0 := 0) dL_law_899 (by decide) h23.2.1 ?_
                                                      refine zO_aload_n dL_law_900 rfl (zR_P _) ?_
                                                      refine zO_iload_n dL_law_901 rfl ?_
                                                      refine zO_iconst dL_law_902 (by decide) ?_
                                                      refine zO_iadd dL_law_903 h23.2.2.1 ?_
                                                      refine zO_sld (j0 := 0) dL_law_904 (by decide) h23.2.2.2 ?_
                                                      refine zO_callV (Y' := YX12_behind) (cw := zcI F n sl) (as := [zI (zga E 0 (v3 + 1).toNat), zI (zga E 0 (v3 + 2).toNat)]) (rest := [zI r_105]) (na := 2) (ci := 12) rfl dL_law_905 wC_X12_behind wN_X12 wM_L_115 wI_X12_behind wV_X12_behind (by decide) (by decide) rfl rfl (Nat.le_of_ble_eq_true rfl) rfl (by decide) (gk_91 hG) (fun r hr => zMet_cast (Nat.add_assoc d 3 90) (mX12_behind (d := d + 3) hG (zga E 0 (v3 + 1).toNat) (zga E 0 (v3 + 2).toNat) r hr)) ?_
                                                      rintro ⟨r_107, D_108⟩ -
                                                      show zO _ _ _ _ _ _ [zI r_107, zI r_105] (F, D_108, n, sl) _ _
                                                      refine zO_icmp_eq (tgt := 1337) dL_law_908 rfl (fun c908 => ?_) (fun c908 => ?_)
                                                      · refine zO_live [0, 1, 2, 3] ?_
                                                        exact sL_law_1337 v3 _ hk_18 F D_108 n sl hG hN
                                                      · refine zO_iconst dL_law_911 (by decide) ?_
                                                        exact zO_ret (rv := some (zI 0)) dL_law_912 rfl rfl rfl
                                                    · refine zO_ite (fun c33_24 => ?_) (fun c33_24 => ?_)
                                                      · refine zO_tableIn (tgt := 913) dL_law_33 ⟨24, c33_24, by decide, by decide, rfl⟩ rfl ?_
                                                        refine zO_chk (fun h24 => ?_)
                                                        refine zO_aload_n dL_law_913 rfl (zR_P _) ?_
                                                        refine zO_aload_n dL_law_914 rfl (zR_P _) ?_
                                                        refine zO_iload_n dL_law_915 rfl ?_
                                                        refine zO_iconst dL_law_916 (by decide) ?_
                                                        refine zO_iadd dL_law_917 h24.1 ?_
                                                        refine zO_sld (j0 := 0) dL_law_918 (by decide) h24.2 ?_
                                                        refine zO_callV (Y' := YX11_judge) (cw := zcI F n sl) (as := [zI (zga E 0 (v3 + 1).toNat)]) (rest := []) (na := 1) (ci := 11) rfl dL_law_919 wC_X11_judge wN_X11 wM_L_116 wI_X11_judge wV_X11_judge (by decide) (by decide) rfl rfl (Nat.le_of_ble_eq_true rfl) rfl (by decide) (gk_0 hG) (fun r hr => zMet_cast (Nat.add_assoc d 86 7) (mX11_judge (d := d + 86) hG (zga E 0 (v3 + 1).toNat) r hr)) ?_
                                                        rintro ⟨r_109, D_110⟩ -
                                                        show zO _ _ _ _ _ _ [zI r_109] (F, D_110, n, sl) _ _
                                                        refine zO_aload_n dL_law_922 rfl (zR_P _) ?_
                                                        refine zO_aload_n dL_law_923 rfl (zR_P _) ?_
                                                        refine zO_iload_n dL_law_924 rfl ?_
                                                        refine zO_iconst dL_law_925 (by decide) ?_
                                                        refine zO_iadd dL_law_926 h24.1 ?_
                                                        refine zO_sld (j0 := 0) dL_law_927 (by decide) h24.2 ?_
                                                        refine zO_callV (Y' := YX12_judge) (cw := zcI F n sl) (as := [zI (zga E 0 (v3 + 1).toNat)]) (rest := [zI r_109]) (na := 1) (ci := 12) rfl dL_law_928 wC_X12_judge wN_X12 wM_L_119 wI_X12_judge wV_X12_judge (by decide) (by decide) rfl rfl (Nat.le_of_ble_eq_true rfl) rfl (by decide) (gk_91 hG) (fun r hr => zMet_cast (Nat.add_assoc d 3 90) (mX12_judge (d := d + 3) hG (zga E 0 (v3 + 1).toNat) r hr)) ?_
                                                        rintro ⟨r_111, D_112⟩ -
                                                        show zO _ _ _ _ _ _ [zI r_111, zI r_109] (F, D_112, n, sl) _ _
                                                        refine zO_icmp_eq (tgt := 1337) dL_law_931 rfl (fun c931 => ?_) (fun c931 => ?_)
                                                        · refine zO_live [0, 1, 2, 3] ?_
                                                          exact sL_law_1337 v3 _ hk_18 F D_112 n sl hG hN
                                                        · refine zO_iconst dL_law_934 (by decide) ?_
                                                          exact zO_ret (rv := some (zI 0)) dL_law_935 rfl rfl rfl
                                                      · refine zO_ite (fun c33_25 => ?_) (fun c33_25 => ?_)
                                                        · refine zO_tableIn (tgt := 936) dL_law_33 ⟨25, c33_25, by decide, by decide, rfl⟩ rfl ?_
                                                          refine zO_aload_n dL_law_936 rfl (zR_P _) ?_
                                                          refine zO_callV (Y' := YX11_learn) (cw := zcI F n sl) (as := []) (rest := []) (na := 0) (ci := 11) rfl dL_law_937 wC_X11_learn wN_X11 wM_L_120 wI_X11_learn wV_X11_learn (by decide) (by decide) rfl rfl (Nat.le_of_ble_eq_true rfl) rfl (by decide) (gk_0 hG) (fun r hr => zMet_cast (Nat.add_assoc d 86 7) (mX11_learn (d := d + 86) hG  r hr)) ?_
                                                          rintro ⟨r_113, D_114⟩ -
                                                          show zO _ _ _ _ _ _ [zI r_113] (F, D_114, n, sl) _ _
                                                          refine zO_aload_n dL_law_940 rfl (zR_P _) ?_
                                                          refine zO_callV (Y' := YX12_learn) (cw := zcI F n sl) (as := []) (rest := [zI r_113]) (na := 0) (ci := 12) rfl dL_law_941 wC_X12_learn wN_X12 wM_L_123 wI_X12_learn wV_X12_learn (by decide) (by decide) rfl rfl (Nat.le_of_ble_eq_true rfl) rfl (by decide) (gk_91 hG) (fun r hr => zMet_cast (Nat.add_assoc d 3 90) (mX12_learn (d := d + 3) hG  r hr)) ?_
                                                          rintro ⟨r_115, D_116⟩ -
                                                          show zO _ _ _ _ _ _ [zI r_115, zI r_113] (F, D_116, n, sl) _ _
                                                          refine zO_icmp_eq (tgt := 1337) dL_law_944 rfl (fun c944 => ?_) (fun c944 => ?_)
                                                          · refine zO_live [0, 1, 2, 3] ?_
                                                            exact sL_law_1337 v3 _ hk_18 F D_116 n sl hG hN
                                                          · refine zO_iconst dL_law_947 (by decide) ?_
                                                            exact zO_ret (rv := some (zI 0)) dL_law_948 rfl rfl rfl
                                                        · refine zO_ite (fun c33_26 => ?_) (fun c33_26 => ?_)
                                                          · refine zO_tableIn (tgt := 949) dL_law_33 ⟨26, c33_26, by decide, by decide, rfl⟩ rfl ?_
                                                            refine zO_chk (fun h25 => ?_)
                                                            refine zO_aload_n dL_law_949 rfl (zR_P _) ?_
                                                            refine zO_aload_n dL_law_950 rfl (zR_P _) ?_
                                                            refine zO_iload_n dL_law_951 rfl ?_
                                                            refine zO_iconst dL_law_952 (by decide) ?_
                                                            refine zO_iadd dL_law_953 h25.1 ?_
                                                            refine zO_sld (j0 := 0) dL_law_954 (by decide) h25.2.1 ?_
                                                            refine zO_aload_n dL_law_955 rfl (zR_P _) ?_
                                                            refine zO_iload_n dL_law_956 rfl ?_
                                                            refine zO_iconst dL_law_957 (by decide) ?_
                                                            refine zO_iadd dL_law_958 h25.2.2.1 ?_
                                                            refine zO_sld (j0 := 0) dL_law_959 (by decide) h25.2.2.2 ?_
                                                            refine zO_callV (Y' := YX11_backward) (cw := zmI) (as := [zI (zga E 0 (v3 + 1).toNat), zI (zga E 0 (v3 + 2).toNat)]) (rest := []) (na := 2) (ci := 11) rfl dL_law_960 wC_X11_backward wN_X11 wM_L_124 wI_X11_backward wV_X11_backward (by decide) (by decide) rfl rfl (Nat.le_of_ble_eq_true rfl) rfl (by decide) (gk_0 hG) (fun r hr => zMet_cast (Nat.add_assoc d 86 7) (mX11_backward (d := d + 86) (zga E 0 (v3 + 1).toNat) (zga E 0 (v3 + 2).toNat) hG hN r hr)) ?_
                                                            rintro ⟨r_117, F_118, D_119, n_120, sl_121⟩ -
                                                            show zO _ _ _ _ _ _ [zI r_117] (F_118, D_119, n_120, sl_121) _ _
                                                            refine zO_chk (fun g121 => ?_)
                                                            refine zO_aload_n dL_law_963 rfl (zR_P _) ?_
                                                            refine zO_aload_n dL_law_964 rfl (zR_P _) ?_
                                                            refine zO_iload_n dL_law_965 rfl ?_
                                                            refine zO_iconst dL_law_966 (by decide) ?_
                                                            refine zO_iadd dL_law_967 h25.1 ?_
                                                            refine zO_sld (j0 := 0) dL_law_968 (by decide) h25.2.1 ?_
                                                            refine zO_aload_n dL_law_969 rfl (zR_P _) ?_
                                                            refine zO_iload_n dL_law_970 rfl ?_
                                                            refine zO_iconst dL_law_971 (by decide) ?_
                                                            refine zO_iadd dL_law_972 h25.2.2.1 ?_
                                                            refine zO_sld (j0 := 0) dL_law_973 (by decide) h25.2.2.2 ?_
                                                            refine zO_callV (Y' := YX12_backward) (cw := zcI F_118 n_120 sl_121) (as := [zI (zga E 0 (v3 + 1).toNat), zI (zga E 0 (v3 + 2).toNat)]) (rest := [zI r_117]) (na := 2) (ci := 12) rfl dL_law_974 wC_X12_backward wN_X12 wM_L_127 wI_X12_backward wV_X12_backward (by decide) (by decide) rfl rfl (Nat.le_of_ble_eq_true rfl) rfl (by decide) (gk_91 g121.1) (fun r hr => zMet_cast (Nat.add_assoc d 0 93) (mX12_backward (d := d + 0) g121.1 (zga E 0 (v3 + 1).toNat) (zga E 0 (v3 + 2).toNat) r hr)) ?_
                                                            rintro ⟨r_122, D_123⟩ -
                                                            show zO _ _ _ _ _ _ [zI r_122, zI r_117] (F_118, D_123, n_120, sl_121) _ _
                                                            refine zO_icmp_eq (tgt := 1337) dL_law_977 rfl (fun c977 => ?_) (fun c977 => ?_)
                                                            · refine zO_live [0, 1, 2, 3] ?_
                                                              exact sL_law_1337 v3 _ hk_18 F_118 D_123 n_120 sl_121 g121.1 g121.2
                                                            · refine zO_iconst dL_law_980 (by decide) ?_
                                                              exact zO_ret (rv := some (zI 0)) dL_law_981 rfl rfl rfl
                                                          · refine zO_ite (fun c33_27 => ?_) (fun c33_27 => ?_)
                                                            · refine zO_tableIn (tgt := 982) dL_law_33 ⟨27, c33_27, by decide, by decide, rfl⟩ rfl ?_
                                                              refine zO_chk (fun h26 => ?_)
                                                              refine zO_aload_n dL_law_982 rfl (zR_P _) ?_
                                                              refine zO_aload_n dL_law_983 rfl (zR_P _) ?_
                                                              refine zO_iload_n dL_law_984 rfl ?_
                                                              refine zO_iconst dL_law_985 (by decide) ?_
                                                              refine zO_iadd dL_law_986 h26.1 ?_
                                                              refine zO_sld (j0 := 0) dL_law_987 (by decide) h26.2.1 ?_
                                                              refine zO_aload_n dL_law_988 rfl (zR_P _) ?_
                                                              refine zO_iload_n dL_law_989 rfl ?_
                                                              refine zO_iconst dL_law_990 (by decide) ?_
                                                              refine zO_iadd dL_law_991 h26.2.2.1 ?_
                                                              refine zO_sld (j0 := 0) dL_law_992 (by decide) h26.2.2.2 ?_
                                                              refine zO_callV (Y' := YX11_friend) (cw := zcI F n sl) (as := [zI (zga E 0 (v3 + 1).toNat), zI (zga E 0 (v3 + 2).toNat)]) (rest := []) (na := 2) (ci := 11) rfl dL_law_993 wC_X11_friend wN_X11 wM_L_128 wI_X11_friend wV_X11_friend (by decide) (by decide) rfl rfl (Nat.le_of_ble_eq_true rfl) rfl (by decide) (gk_0 hG) (fun r hr => zMet_cast (Nat.add_assoc d 92 1) (mX11_friend (d := d + 92) hG (zga E 0 (v3 + 1).toNat) (zga E 0 (v3 + 2).toNat) r hr)) ?_
                                                              rintro ⟨r_124, D_125⟩ -
                                                              show zO _ _ _ _ _ _ [zI r_124] (F, D_125, n, sl) _ _
                                                              refine zO_aload_n dL_law_996 rfl (zR_P _) ?_
                                                              refine zO_aload_n dL_law_997 rfl (zR_P _) ?_
                                                              refine zO_iload_n dL_law_998 rfl ?_
                                                              refine zO_iconst dL_law_999 (by decide) ?_
                                                              refine zO_iadd dL_law_1000 h26.1 ?_
                                                              refine zO_sld (j0 := 0) dL_law_1001 (by decide) h26.2.1 ?_
                                                              refine zO_aload_n dL_law_1002 rfl (zR_P _) ?_
                                                              refine zO_iload_n dL_law_1003 rfl ?_
                                                              refine zO_iconst dL_law_1004 (by decide) ?_
                                                              refine zO_iadd dL_law_1005 h26.2.2.1 ?_
                                                              refine zO_sld (j0 := 0) dL_law_1006 (by decide) h26.2.2.2 ?_
                                                              refine zO_callV (Y' := YX12_friend) (cw := zcI F n sl) (as := [zI (zga E 0 (v3 + 1).toNat), zI (zga E 0 (v3 + 2).toNat)]) (rest := [zI r_124]) (na := 2) (ci := 12) rfl dL_law_1007 wC_X12_friend wN_X12 wM_L_131 wI_X12_friend wV_X12_friend (by decide) (by decide) rfl rfl (Nat.le_of_ble_eq_true rfl) rfl (by decide) (gk_91 hG) (fun r hr => zMet_cast (Nat.add_assoc d 91 2) (mX12_friend (d := d + 91) hG (zga E 0 (v3 + 1).toNat) (zga E 0 (v3 + 2).toNat) r hr)) ?_
                                                              rintro ⟨r_126, D_127⟩ -
                                                              show zO _ _ _ _ _ _ [zI r_126, zI r_124] (F, D_127, n, sl) _ _
                                                              refine zO_icmp_eq (tgt := 1337) dL_law_1010 rfl (fun c1010 => ?_) (fun c1010 => ?_)
                                                              · refine zO_live [0, 1, 2, 3] ?_
                                                                exact sL_law_1337 v3 _ hk_18 F D_127 n sl hG hN
                                                              · refine zO_iconst dL_law_1013 (by decide) ?_
                                                                exact zO_ret (rv := some (zI 0)) dL_law_1014 rfl rfl rfl
                                                            · refine zO_ite (fun c33_28 => ?_) (fun c33_28 => ?_)
                                                              · refine zO_tableIn (tgt := 1015) dL_law_33 ⟨28, c33_28, by decide, by decide, rfl⟩ rfl ?_
                                                                refine zO_chk (fun h27 => ?_)
                                                                refine zO_aload_n dL_law_1015 rfl (zR_P _) ?_
                                                                refine zO_aload_n dL_law_1016 rfl (zR_P _) ?_
                                                                refine zO_iload_n dL_law_1017 rfl ?_
                                                                refine zO_iconst dL_law_1018 (by decide) ?_
                                                                refine zO_iadd dL_law_1019 h27.1 ?_
                                                                refine zO_sld (j0 := 0) dL_law_1020 (by decide) h27.2 ?_
                                                                refine zO_callV (Y' := YX11_share) (cw := zmI) (as := [zI (zga E 0 (v3 + 1).toNat)]) (rest := []) (na := 1) (ci := 11) rfl dL_law_1021 wC_X11_share wN_X11 wM_L_132 wI_X11_share wV_X11_share (by decide) (by decide) rfl rfl (Nat.le_of_ble_eq_true rfl) rfl (by decide) (gk_0 hG) (fun r hr => zMet_cast (Nat.add_assoc d 88 5) (mX11_share (d := d + 88) (zga E 0 (v3 + 1).toNat) hG hN r hr)) ?_
                                                                rintro ⟨r_128, F_129, D_130, n_131, sl_132⟩ -
                                                                show zO _ _ _ _ _ _ [zI r_128] (F_129, D_130, n_131, sl_132) _ _
                                                                refine zO_chk (fun g132 => ?_)
                                                                refine zO_aload_n dL_law_1024 rfl (zR_P _) ?_
                                                                refine zO_aload_n dL_law_1025 rfl (zR_P _) ?_
                                                                refine zO_iload_n dL_law_1026 rfl ?_
                                                                refine zO_iconst dL_law_1027 (by decide) ?_
                                                                refine zO_iadd dL_law_1028 h27.1 ?_
                                                                refine zO_sld (j0 := 0) dL_law_1029 (by decide) h27.2 ?_
                                                                refine zO_callV (Y' := YX12_share) (cw := zcI F_129 n_131 sl_132) (as := [zI (zga E 0 (v3 + 1).toNat)]) (rest := [zI r_128]) (na := 1) (ci := 12) rfl dL_law_1030 wC_X12_share wN_X12 wM_L_135 wI_X12_share wV_X12_share (by decide) (by decide) rfl rfl (Nat.le_of_ble_eq_true rfl) rfl (by decide) (gk_91 g132.1) (fun r hr => zMet_cast (Nat.add_assoc d 5 88) (mX12_share (d := d + 5) g132.1 (zga E 0 (v3 + 1).toNat) r hr)) ?_
                                                                rintro ⟨r_133, D_134⟩ -
                                                                show zO _ _ _ _ _ _ [zI r_133, zI r_128] (F_129, D_134, n_131, sl_132) _ _
                                                                refine zO_icmp_eq (tgt := 1337) dL_law_1033 rfl (fun c1033 => ?_) (fun c1033 => ?_)
                                                                · refine zO_live [0, 1, 2, 3] ?_
                                                                  exact sL_law_1337 v3 _ hk_18 F_129 D_134 n_131 sl_132 g132.1 g132.2
                                                                · refine zO_iconst dL_law_1036 (by decide) ?_
                                                                  exact zO_ret (rv := some (zI 0)) dL_law_1037 rfl rfl rfl
                                                              · refine zO_ite (fun c33_29 => ?_) (fun c33_29 => ?_)
                                                                · refine zO_tableIn (tgt := 1038) dL_law_33 ⟨29, c33_29, by decide, by decide, rfl⟩ rfl ?_
                                                                  refine zO_chk (fun h28 => ?_)
                                                                  refine zO_aload_n dL_law_1038 rfl (zR_P _) ?_
                                                                  refine zO_aload_n dL_law_1039 rfl (zR_P _) ?_
                                                                  refine zO_iload_n dL_law_1040 rfl ?_
                                                                  refine zO_iconst dL_law_1041 (by decide) ?_
                                                                  refine zO_iadd dL_law_1042 h28.1 ?_
                                                                  refine zO_sld (j0 := 0) dL_law_1043 (by decide) h28.2.1 ?_
                                                                  refine zO_aload_n dL_law_1044 rfl (zR_P _) ?_
                                                                  refine zO_iload_n dL_law_1045 rfl ?_
                                                                  refine zO_iconst dL_law_1046 (by decide) ?_
                                                                  refine zO_iadd dL_law_1047 h28.2.2.1 ?_
                                                                  refine zO_sld (j0 := 0) dL_law_1048 (by decide) h28.2.2.2 ?_
                                                                  refine zO_callV (Y' := YX11_ill) (cw := zmI) (as := [zI (zga E 0 (v3 + 1).toNat), zI (zga E 0 (v3 + 2).toNat)]) (rest := []) (na := 2) (ci := 11) rfl dL_law_1049 wC_X11_ill wN_X11 wM_L_136 wI_X11_ill wV_X11_ill (by decide) (by decide) rfl rfl (Nat.le_of_ble_eq_true rfl) rfl (by decide) (gk_0 hG) (fun r hr => zMet_cast (Nat.add_assoc d 86 7) (mX11_ill (d := d + 86) (zga E 0 (v3 + 1).toNat) (zga E 0 (v3 + 2).toNat) hG hN r hr)) ?_
                                                                  rintro ⟨r_135, F_136, D_137, n_138, sl_139⟩ -
                                                                  show zO _ _ _ _ _ _ [zI r_135] (F_136, D_137, n_138, sl_139) _ _
                                                                  refine zO_chk (fun g139 => ?_)
                                                                  refine zO_aload_n dL_law_1052 rfl (zR_P _) ?_
                                                                  refine zO_aload_n dL_law_1053 rfl (zR_P _) ?_
                                                                  refine zO_iload_n dL_law_1054 rfl ?_
                                                                  refine zO_iconst dL_law_1055 (by decide) ?_
                                                                  refine zO_iadd dL_law_1056 h28.1 ?_
                                                                  refine zO_sld (j0 := 0) dL_law_1057 (by decide) h28.2.1 ?_
                                                                  refine zO_aload_n dL_law_1058 rfl (zR_P _) ?_
                                                                  refine zO_iload_n dL_law_1059 rfl ?_
                                                                  refine zO_iconst dL_law_1060 (by decide) ?_
                                                                  refine zO_iadd dL_law_1061 h28.2.2.1 ?_
                                                                  refine zO_sld (j0 := 0) dL_law_1062 (by decide) h28.2.2.2 ?_
                                                                  refine zO_callV (Y' := YX12_ill) (cw := zcI F_136 n_138 sl_139) (as := [zI (zga E 0 (v3 + 1).toNat), zI (zga E 0 (v3 + 2).toNat)]) (rest := [zI r_135]) (na := 2) (ci := 12) rfl dL_law_1063 wC_X12_ill wN_X12 wM_L_139 wI_X12_ill wV_X12_ill (by decide) (by decide) rfl rfl (Nat.le_of_ble_eq_true rfl) rfl (by decide) (gk_91 g139.1) (fun r hr => zMet_cast (Nat.add_assoc d 2 91) (mX12_ill (d := d + 2) g139.1 (zga E 0 (v3 + 1).toNat) (zga E 0 (v3 + 2).toNat) r hr)) ?_
                                                                  rintro ⟨r_140, D_141⟩ -
                                                                  show zO _ _ _ _ _ _ [zI r_140, zI r_135] (F_136, D_141, n_138, sl_139) _ _
                                                                  refine zO_icmp_eq (tgt := 1337) dL_law_1066 rfl (fun c1066 => ?_) (fun c1066 => ?_)
                                                                  · refine zO_live [0, 1, 2, 3] ?_
                                                                    exact sL_law_1337 v3 _ hk_18 F_136 D_141 n_138 sl_139 g139.1 g139.2
                                                                  · refine zO_iconst dL_law_1069 (by decide) ?_
                                                                    exact zO_ret (rv := some (zI 0)) dL_law_1070 rfl rfl rfl
                                                                · refine zO_ite (fun c33_30 => ?_) (fun c33_30 => ?_)
                                                                  · refine zO_tableIn (tgt := 1071) dL_law_33 ⟨30, c33_30, by decide, by decide, rfl⟩ rfl ?_
                                                                    refine zO_chk (fun h29 => ?_)
                                                                    refine zO_aload_n dL_law_1071 rfl (zR_P _) ?_
                                                                    refine zO_aload_n dL_law_1072 rfl (zR_P _) ?_
                                                                    refine zO_iload_n dL_law_1073 rfl ?_
                                                                    refine zO_iconst dL_law_1074 (by decide) ?_
                                                                    refine zO_iadd dL_law_1075 h29.1 ?_
                                                                    refine zO_sld (j0 := 0) dL_law_1076 (by decide) h29.2 ?_
                                                                    refine zO_callV (Y' := YX11_year) (cw := zcI F n sl) (as := [zI (zga E 0 (v3 + 1).toNat)]) (rest := []) (na := 1) (ci := 11) rfl dL_law_1077 wC_X11_year wN_X11 wM_L_140 wI_X11_year wV_X11_year (by decide) (by decide) rfl rfl (Nat.le_of_ble_eq_true rfl) rfl (by decide) (gk_0 hG) (fun r hr => zMet_cast (Nat.add_assoc d 92 1) (mX11_year (d := d + 92) hG (zga E 0 (v3 + 1).toNat) r hr)) ?_
                                                                    rintro ⟨r_142, D_143⟩ -
                                                                    show zO _ _ _ _ _ _ [zI r_142] (F, D_143, n, sl) _ _
                                                                    refine zO_aload_n dL_law_1080 rfl (zR_P _) ?_
                                                                    refine zO_aload_n dL_law_1081 rfl (zR_P _) ?_
                                                                    refine zO_iload_n dL_law_1082 rfl ?_
                                                                    refine zO_iconst dL_law_1083 (by decide) ?_
                                                                    refine zO_iadd dL_law_1084 h29.1 ?_
                                                                    refine zO_sld (j0 := 0) dL_law_1085 (by decide) h29.2 ?_
                                                                    refine zO_callV (Y' := YX12_year) (cw := zcI F n sl) (as := [zI (zga E 0 (v3 + 1).toNat)]) (rest := [zI r_142]) (na := 1) (ci := 12) rfl dL_law_1086 wC_X12_year wN_X12 wM_L_143 wI_X12_year wV_X12_year (by decide) (by decide) rfl rfl (Nat.le_of_ble_eq_true rfl) rfl (by decide) (gk_91 hG) (fun r hr => zMet_cast (Nat.add_assoc d 92 1) (mX12_year (d := d + 92) hG (zga E 0 (v3 + 1).toNat) r hr)) ?_
                                                                    rintro ⟨r_144, D_145⟩ -
                                                                    show zO _ _ _ _ _ _ [zI r_144, zI r_142] (F, D_145, n, sl) _ _
                                                                    refine zO_icmp_eq (tgt := 1337) dL_law_1089 rfl (fun c1089 => ?_) (fun c1089 => ?_)
                                                                    · refine zO_live [0, 1, 2, 3] ?_
                                                                      exact sL_law_1337 v3 _ hk_18 F D_145 n sl hG hN
                                                                    · refine zO_iconst dL_law_1092 (by decide) ?_
                                                                      exact zO_ret (rv := some (zI 0)) dL_law_1093 rfl rfl rfl
                                                                  · refine zO_ite (fun c33_31 => ?_) (fun c33_31 => ?_)
                                                                    · refine zO_tableIn (tgt := 1094) dL_law_33 ⟨31, c33_31, by decide, by decide, rfl⟩ rfl ?_
                                                                      refine zO_aload_n dL_law_1094 rfl (zR_P _) ?_
                                                                      refine zO_callV (Y' := YX11_row) (cw := zcI F n sl) (as := []) (rest := []) (na := 0) (ci := 11) rfl dL_law_1095 wC_X11_row wN_X11 wM_L_144 wI_X11_row wV_X11_row (by decide) (by decide) rfl rfl (Nat.le_of_ble_eq_true rfl) rfl (by decide) (gk_0 hG) (fun r hr => zMet_cast (Nat.add_assoc d 92 1) (mX11_row (d := d + 92) hG  r hr)) ?_
                                                                      rintro ⟨r_146, D_147⟩ -
                                                                      show zO _ _ _ _ _ _ [zI r_146] (F, D_147, n, sl) _ _
                                                                      refine zO_aload_n dL_law_1098 rfl (zR_P _) ?_
                                                                      refine zO_callV (Y' := YX12_row) (cw := zcI F n sl) (as := []) (rest := [zI r_146]) (na := 0) (ci := 12) rfl dL_law_1099 wC_X12_row wN_X12 wM_L_147 wI_X12_row wV_X12_row (by decide) (by decide) rfl rfl (Nat.le_of_ble_eq_true rfl) rfl (by decide) (gk_91 hG) (fun r hr => zMet_cast (Nat.add_assoc d 92 1) (mX12_row (d := d + 92) hG  r hr)) ?_
                                                                      rintro ⟨r_148, D_149⟩ -
                                                                      show zO _ _ _ _ _ _ [zI r_148, zI r_146] (F, D_149, n, sl) _ _
                                                                      refine zO_icmp_eq (tgt := 1337) dL_law_1102 rfl (fun c1102 => ?_) (fun c1102 => ?_)
                                                                      · refine zO_live [0, 1, 2, 3] ?_
                                                                        exact sL_law_1337 v3 _ hk_18 F D_149 n sl hG hN
                                                                      · refine zO_iconst dL_law_1105 (by decide) ?_
                                                                        exact zO_ret (rv := some (zI 0)) dL_law_1106 rfl rfl rfl
                                                                    · refine zO_ite (fun c33_32 => ?_) (fun c33_32 => ?_)
                                                                      · refine zO_tableIn (tgt := 1107) dL_law_33 ⟨32, c33_32, by decide, by decide, rfl⟩ rfl ?_
                                                                        refine zO_aload_n dL_law_1107 rfl (zR_P _) ?_
                                                                        refine zO_callV (Y' := YX11_lost) (cw := zcI F n sl) (as := []) (rest := []) (na := 0) (ci := 11) rfl dL_law_1108 wC_X11_lost wN_X11 wM_L_148 wI_X11_lost wV_X11_lost (by decide) (by decide) rfl rfl (Nat.le_of_ble_eq_true rfl) rfl (by decide) (gk_0 hG) (fun r hr => zMet_cast (Nat.add_assoc d 93 0) (mX11_lost (d := d + 93) hG  r hr)) ?_
                                                                        rintro ⟨r_150, D_151⟩ -
                                                                        show zO _ _ _ _ _ _ [zI r_150] (F, D_151, n, sl) _ _
                                                                        refine zO_aload_n dL_law_1111 rfl (zR_P _) ?_
                                                                        refine zO_callV (Y' := YX12_lost) (cw := zcI F n sl) (as := []) (rest := [zI r_150]) (na := 0) (ci := 12) rfl dL_law_1112 wC_X12_lost wN_X12 wM_L_151 wI_X12_lost wV_X12_lost (by decide) (by decide) rfl rfl (Nat.le_of_ble_eq_true rfl) rfl (by decide) (gk_91 hG) (fun r hr => zMet_cast (Nat.add_assoc d 93 0) (mX12_lost (d := d + 93) hG  r hr)) ?_
                                                                        rintro ⟨r_152, D_153⟩ -
                                                                        show zO _ _ _ _ _ _ [zI r_152, zI r_150] (F, D_153, n, sl) _ _
                                                                        refine zO_icmp_eq (tgt := 1337) dL_law_1115 rfl (fun c1115 => ?_) (fun c1115 => ?_)
                                                                        · refine zO_live [0, 1, 2, 3] ?_
                                                                          exact sL_law_1337 v3 _ hk_18 F D_153 n sl hG hN
                                                                        · refine zO_iconst dL_law_1118 (by decide) ?_
                                                                          exact zO_ret (rv := some (zI 0)) dL_law_1119 rfl rfl rfl
                                                                      · refine zO_ite (fun c33_33 => ?_) (fun c33_33 => ?_)
                                                                        · refine zO_tableIn (tgt := 1120) dL_law_33 ⟨33, c33_33, by decide, by decide, rfl⟩ rfl ?_
                                                                          refine zO_chk (fun h30 => ?_)
                                                                          refine zO_aload_n dL_law_1120 rfl (zR_P _) ?_
                                                                          refine zO_aload_n dL_law_1121 rfl (zR_P _) ?_
                                                                          refine zO_iload_n dL_law_1122 rfl ?_
                                                                          refine zO_iconst dL_law_1123 (by decide) ?_
                                                                          refine zO_iadd dL_law_1124 h30.1 ?_
                                                                          refine zO_sld (j0 := 0) dL_law_1125 (by decide) h30.2.1 ?_
                                                                          refine zO_aload_n dL_law_1126 rfl (zR_P _) ?_
                                                                          refine zO_iload_n dL_law_1127 rfl ?_
                                                                          refine zO_iconst dL_law_1128 (by decide) ?_
                                                                          refine zO_iadd dL_law_1129 h30.2.2.1 ?_
                                                                          refine zO_sld (j0 := 0) dL_law_1130 (by decide) h30.2.2.2 ?_
                                                                          refine zO_callV (Y' := YX11_drawn) (cw := zcI F n sl) (as := [zI (zga E 0 (v3 + 1).toNat), zI (zga E 0 (v3 + 2).toNat)]) (rest := []) (na := 2) (ci := 11) rfl dL_law_1131 wC_X11_drawn wN_X11 wM_L_152 wI_X11_drawn wV_X11_drawn (by decide) (by decide) rfl rfl (Nat.le_of_ble_eq_true rfl) rfl (by decide) (gk_0 hG) (fun r hr => zMet_cast (Nat.add_assoc d 92 1) (mX11_drawn (d := d + 92) hG (zga E 0 (v3 + 1).toNat) (zga E 0 (v3 + 2).toNat) r hr)) ?_
                                                                          rintro ⟨r_154, D_155⟩ -
                                                                          show zO _ _ _ _ _ _ [zI r_154] (F, D_155, n, sl) _ _
                                                                          refine zO_aload_n dL_law_1134 rfl (zR_P _) ?_
                                                                          refine zO_aload_n dL_law_1135 rfl (zR_P _) ?_
                                                                          refine zO_iload_n dL_law_1136 rfl ?_
                                                                          refine zO_iconst dL_law_1137 (by decide) ?_
                                                                          refine zO_iadd dL_law_1138 h30.1 ?_
                                                                          refine zO_sld (j0 := 0) dL_law_1139 (by decide) h30.2.1 ?_
                                                                          refine zO_aload_n dL_law_1140 rfl (zR_P _) ?_
                                                                          refine zO_iload_n dL_law_1141 rfl ?_
                                                                          refine zO_iconst dL_law_1142 (by decide) ?_
                                                                          refine zO_iadd dL_law_1143 h30.2.2.1 ?_
                                                                          refine zO_sld (j0 := 0) dL_law_1144 (by decide) h30.2.2.2 ?_
                                                                          refine zO_callV (Y' := YX12_drawn) (cw := zcI F n sl) (as := [zI (zga E 0 (v3 + 1).toNat), zI (zga E 0 (v3 + 2).toNat)]) (rest := [zI r_154]) (na := 2) (ci := 12) rfl dL_law_1145 wC_X12_drawn wN_X12 wM_L_155 wI_X12_drawn wV_X12_drawn (by decide) (by decide) rfl rfl (Nat.le_of_ble_eq_true rfl) rfl (by decide) (gk_91 hG) (fun r hr => zMet_cast (Nat.add_assoc d 91 2) (mX12_drawn (d := d + 91) hG (zga E 0 (v3 + 1).toNat) (zga E 0 (v3 + 2).toNat) r hr)) ?_
                                                                          rintro ⟨r_156, D_157⟩ -
                                                                          show zO _ _ _ _ _ _ [zI r_156, zI r_154] (F, D_157, n, sl) _ _
                                                                          refine zO_icmp_eq (tgt := 1337) dL_law_1148 rfl (fun c1148 => ?_) (fun c1148 => ?_)
                                                                          · refine zO_live [0, 1, 2, 3] ?_
                                                                            exact sL_law_1337 v3 _ hk_18 F D_157 n sl hG hN
                                                                          · refine zO_iconst dL_law_1151 (by decide) ?_
                                                                            exact zO_ret (rv := some (zI 0)) dL_law_1152 rfl rfl rfl
                                                                        · refine zO_ite (fun c33_34 => ?_) (fun c33_34 => ?_)
                                                                          · refine zO_tableIn (tgt := 1153) dL_law_33 ⟨34, c33_34, by decide, by decide, rfl⟩ rfl ?_
                                                                            refine zO_chk (fun h31 => ?_)
                                                                            refine zO_aload_n dL_law_1153 rfl (zR_P _) ?_
                                                                            refine zO_aload_n dL_law_1154 rfl (zR_P _) ?_
                                                                            refine zO_iload_n dL_law_1155 rfl ?_
                                                                            refine zO_iconst dL_law_1156 (by decide) ?_
                                                                            refine zO_iadd dL_law_1157 h31.1 ?_
                                                                            refine zO_sld (j0 := 0) dL_law_1158 (by decide) h31.2 ?_
                                                                            refine zO_callV (Y' := YX11_seldom) (cw := zcI F n sl) (as := [zI (zga E 0 (v3 + 1).toNat)]) (rest := []) (na := 1) (ci := 11) rfl dL_law_1159 wC_X11_seldom wN_X11 wM_L_156 wI_X11_seldom wV_X11_seldom (by decide) (by decide) rfl rfl (Nat.le_of_ble_eq_true rfl) rfl (by decide) (gk_0 hG) (fun r hr => zMet_cast (Nat.add_assoc d 91 2) (mX11_seldom (d := d + 91) hG (zga E 0 (v3 + 1).toNat) r hr)) ?_
                                                                            rintro ⟨r_158, D_159⟩ -
                                                                            show zO _ _ _ _ _ _ [zI r_158] (F, D_159, n, sl) _ _
                                                                            refine zO_aload_n dL_law_1162 rfl (zR_P _) ?_
                                                                            refine zO_aload_n dL_law_1163 rfl (zR_P _) ?_
                                                                            refine zO_iload_n dL_law_1164 rfl ?_
                                                                            refine zO_iconst dL_law_1165 (by decide) ?_
                                                                            refine zO_iadd dL_law_1166 h31.1 ?_
                                                                            refine zO_sld (j0 := 0) dL_law_1167 (by decide) h31.2 ?_
                                                                            refine zO_callV (Y' := YX12_seldom) (cw := zcI F n sl) (as := [zI (zga E 0 (v3 + 1).toNat)]) (rest := [zI r_158]) (na := 1) (ci := 12) rfl dL_law_1168 wC_X12_seldom wN_X12 wM_L_159 wI_X12_seldom wV_X12_seldom (by decide) (by decide) rfl rfl (Nat.le_of_ble_eq_true rfl) rfl (by decide) (gk_91 hG) (fun r hr => zMet_cast (Nat.add_assoc d 91 2) (mX12_seldom (d := d + 91) hG (zga E 0 (v3 + 1).toNat) r hr)) ?_
                                                                            rintro ⟨r_160, D_161⟩ -
                                                                            show zO _ _ _ _ _ _ [zI r_160, zI r_158] (F, D_161, n, sl) _ _
                                                                            refine zO_icmp_eq (tgt := 1337) dL_law_1171 rfl (fun c1171 => ?_) (fun c1171 => ?_)
                                                                            · refine zO_live [0, 1, 2, 3] ?_
                                                                              exact sL_law_1337 v3 _ hk_18 F D_161 n sl hG hN
                                                                            · refine zO_iconst dL_law_1174 (by decide) ?_
                                                                              exact zO_ret (rv := some (zI 0)) dL_law_1175 rfl rfl rfl
                                                                          · refine zO_ite (fun c33_35 => ?_) (fun c33_35 => ?_)
                                                                            · refine zO_tableIn (tgt := 1176) dL_law_33 ⟨35, c33_35, by decide, by decide, rfl⟩ rfl ?_
                                                                              refine zO_chk (fun h32 => ?_)
                                                                              refine zO_aload_n dL_law_1176 rfl (zR_P _) ?_
                                                                              refine zO_aload_n dL_law_1177 rfl (zR_P _) ?_
                                                                              refine zO_iload_n dL_law_1178 rfl ?_
                                                                              refine zO_iconst dL_law_1179 (by decide) ?_
                                                                              refine zO_iadd dL_law_1180 h32.1 ?_
                                                                              refine zO_sld (j0 := 0) dL_law_1181 (by decide) h32.2 ?_
                                                                              refine zO_callV (Y' := YX11_exam) (cw := zcI F n sl) (as := [zI (zga E 0 (v3 + 1).toNat)]) (rest := []) (na := 1) (ci := 11) rfl dL_law_1182 wC_X11_exam wN_X11 wM_L_160 wI_X11_exam wV_X11_exam (by decide) (by decide) rfl rfl (Nat.le_of_ble_eq_true rfl) rfl (by decide) (gk_0 hG) (fun r hr => zMet_cast (Nat.add_assoc d 88 5) (mX11_exam (d := d + 88) hG (zga E 0 (v3 + 1).toNat) r hr)) ?_
                                                                              rintro ⟨r_162, D_163⟩ -
                                                                              show zO _ _ _ _ _ _ [zI r_162] (F, D_163, n, sl) _ _
                                                                              refine zO_aload_n dL_law_1185 rfl (zR_P _) ?_
                                                                              refine zO_aload_n dL_law_1186 rfl (zR_P _) ?_
                                                                              refine zO_iload_n dL_law_1187 rfl ?_
                                                                              refine zO_iconst dL_law_1188 (by decide) ?_
                                                                              refine zO_iadd dL_law_1189 h32.1 ?_
                                                                              refine zO_sld (j0 := 0) dL_law_1190 (by decide) h32.2 ?_
                                                                              refine zO_callV (Y' := YX12_exam) (cw := zcI F n sl) (as := [zI (zga E 0 (v3 + 1).toNat)]) (rest := [zI r_162]) (na := 1) (ci := 12) rfl dL_law_1191 wC_X12_exam wN_X12 wM_L_163 wI_X12_exam wV_X12_exam (by decide) (by decide) rfl rfl (Nat.le_of_ble_eq_true rfl) rfl (by decide) (gk_91 hG) (fun r hr => zMet_cast (Nat.add_assoc d 3 90) (mX12_exam (d := d + 3) hG (zga E 0 (v3 + 1).toNat) r hr)) ?_
                                                                              rintro ⟨r_164, D_165⟩ -
                                                                              show zO _ _ _ _ _ _ [zI r_164, zI r_162] (F, D_165, n, sl) _ _
                                                                              refine zO_icmp_eq (tgt := 1337) dL_law_1194 rfl (fun c1194 => ?_) (fun c1194 => ?_)
                                                                              · refine zO_live [0, 1, 2, 3] ?_
                                                                                exact sL_law_1337 v3 _ hk_18 F D_165 n sl hG hN
                                                                              · refine zO_iconst dL_law_1197 (by decide) ?_
                                                                                exact zO_ret (rv := some (zI 0)) dL_law_1198 rfl rfl rfl
                                                                            · refine zO_ite (fun c33_36 => ?_) (fun c33_36 => ?_)
                                                                              · refine zO_tableIn (tgt := 1199) dL_law_33 ⟨36, c33_36, by decide, by decide, rfl⟩ rfl ?_
                                                                                refine zO_chk (fun h33 => ?_)
                                                                                refine zO_aload_n dL_law_1199 rfl (zR_P _) ?_
                                                                                refine zO_aload_n dL_law_1200 rfl (zR_P _) ?_
                                                                                refine zO_iload_n dL_law_1201 rfl ?_
                                                                                refine zO_iconst dL_law_1202 (by decide) ?_
                                                                                refine zO_iadd dL_law_1203 h33.1 ?_
                                                                                refine zO_sld (j0 := 0) dL_law_1204 (by decide) h33.2 ?_
                                                                                refine zO_callV (Y' := YX11_table) (cw := zcI F n sl) (as := [zI (zga E 0 (v3 + 1).toNat)]) (rest := []) (na := 1) (ci := 11) rfl dL_law_1205 wC_X11_table wN_X11 wM_L_164 wI_X11_table wV_X11_table (by decide) (by decide) rfl rfl (Nat.le_of_ble_eq_true rfl) rfl (by decide) (gk_0 hG) (fun r hr => zMet_cast (Nat.add_assoc d 93 0) (mX11_table (d := d + 93) hG (zga E 0 (v3 + 1).toNat) r hr)) ?_
                                                                                rintro ⟨r_166, D_167⟩ -
                                                                                show zO _ _ _ _ _ _ [zI r_166] (F, D_167, n, sl) _ _
                                                                                refine zO_aload_n dL_law_1208 rfl (zR_P _) ?_
                                                                                refine zO_aload_n dL_law_1209 rfl (zR_P _) ?_
                                                                                refine zO_iload_n dL_law_1210 rfl ?_
                                                                                refine zO_iconst dL_law_1211 (by decide) ?_
                                                                                refine zO_iadd dL_law_1212 h33.1 ?_
                                                                                refine zO_sld (j0 := 0) dL_law_1213 (by decide) h33.2 ?_
                                                                                refine zO_callV (Y' := YX12_table) (cw := zcI F n sl) (as := [zI (zga E 0 (v3 + 1).toNat)]) (rest := [zI r_166]) (na := 1) (ci := 12) rfl dL_law_1214 wC_X12_table wN_X12 wM_L_167 wI_X12_table wV_X12_table (by decide) (by decide) rfl rfl (Nat.le_of_ble_eq_true rfl) rfl (by decide) (gk_91 hG) (fun r hr => zMet_cast (Nat.add_assoc d 92 1) (mX12_table (d := d + 92) hG (zga E 0 (v3 + 1).toNat) r hr)) ?_
                                                                                rintro ⟨r_168, D_169⟩ -
                                                                                show zO _ _ _ _ _ _ [zI r_168, zI r_166] (F, D_169, n, sl) _ _
                                                                                refine zO_icmp_eq (tgt := 1337) dL_law_1217 rfl (fun c1217 => ?_) (fun c1217 => ?_)
                                                                                · refine zO_live [0, 1, 2, 3] ?_
                                                                                  exact sL_law_1337 v3 _ hk_18 F D_169 n sl hG hN
                                                                                · refine zO_iconst dL_law_1220 (by decide) ?_
                                                                                  exact zO_ret (rv := some (zI 0)) dL_law_1221 rfl rfl rfl
                                                                              · refine zO_ite (fun c33_37 => ?_) (fun c33_37 => ?_)
                                                                                · refine zO_tableIn (tgt := 1222) dL_law_33 ⟨37, c33_37, by decide, by decide, rfl⟩ rfl ?_
                                                                                  refine zO_chk (fun h34 => ?_)
                                                                                  refine zO_aload_n dL_law_1222 rfl (zR_P _) ?_
                                                                                  refine zO_aload_n dL_law_1223 rfl (zR_P _) ?_
                                                                                  refine zO_iload_n dL_law_1224 rfl ?_
                                                                                  refine zO_iconst dL_law_1225 (by decide) ?_
                                                                                  refine zO_iadd dL_law_1226 h34.1 ?_
                                                                                  refine zO_sld (j0 := 0) dL_law_1227 (by decide) h34.2.1 ?_
                                                                                  refine zO_aload_n dL_law_1228 rfl (zR_P _) ?_
                                                                                  refine zO_iload_n dL_law_1229 rfl ?_
                                                                                  refine zO_iconst dL_law_1230 (by decide) ?_
                                                                                  refine zO_iadd dL_law_1231 h34.2.2.1 ?_
                                                                                  refine zO_sld (j0 := 0) dL_law_1232 (by decide) h34.2.2.2 ?_
                                                                                  refine zO_callV (Y' := YX11_exams) (cw := zcI F n sl) (as := [zI (zga E 0 (v3 + 1).toNat), zI (zga E 0 (v3 + 2).toNat)]) (rest := []) (na := 2) (ci := 11) rfl dL_law_1233 wC_X11_exams wN_X11 wM_L_168 wI_X11_exams wV_X11_exams (by decide) (by decide) rfl rfl (Nat.le_of_ble_eq_true rfl) rfl (by decide) (gk_0 hG) (fun r hr => zMet_cast (Nat.add_assoc d 88 5) (mX11_exams (d := d + 88) hG (zga E 0 (v3 + 1).toNat) (zga E 0 (v3 + 2).toNat) r hr)) ?_
                                                                                  rintro ⟨r_170, D_171⟩ -
                                                                                  show zO _ _ _ _ _ _ [zI r_170] (F, D_171, n, sl) _ _
                                                                                  refine zO_aload_n dL_law_1236 rfl (zR_P _) ?_
                                                                                  refine zO_aload_n dL_law_1237 rfl (zR_P _) ?_
                                                                                  refine zO_iload_n dL_law_1238 rfl ?_
                                                                                  refine zO_iconst dL_law_1239 (by decide) ?_
                                                                                  refine zO_iadd dL_law_1240 h34.1 ?_
                                                                                  refine zO_sld (j0 := 0) dL_law_1241 (by decide) h34.2.1 ?_
                                                                                  refine zO_aload_n dL_law_1242 rfl (zR_P _) ?_
                                                                                  refine zO_iload_n dL_law_1243 rfl ?_
                                                                                  refine zO_iconst dL_law_1244 (by decide) ?_
                                                                                  refine zO_iadd dL_law_1245 h34.2.2.1 ?_
                                                                                  refine zO_sld (j0 := 0) dL_law_1246 (by decide) h34.2.2.2 ?_
                                                                                  refine zO_callV (Y' := YX12_exams) (cw := zcI F n sl) (as := [zI (zga E 0 (v3 + 1).toNat), zI (zga E 0 (v3 + 2).toNat)]) (rest := [zI r_170]) (na := 2) (ci := 12) rfl dL_law_1247 wC_X12_exams wN_X12 wM_L_171 wI_X12_exams wV_X12_exams (by decide) (by decide) rfl rfl (Nat.le_of_ble_eq_true rfl) rfl (by decide) (gk_91 hG) (fun r hr => zMet_cast (Nat.add_assoc d 3 90) (mX12_exams (d := d + 3) hG (zga E 0 (v3 + 1).toNat) (zga E 0 (v3 + 2).toNat) r hr)) ?_
                                                                                  rintro ⟨r_172, D_173⟩ -
                                                                                  show zO _ _ _ _ _ _ [zI r_172, zI r_170] (F, D_173, n, sl) _ _
                                                                                  refine zO_icmp_eq (tgt := 1337) dL_law_1250 rfl (fun c1250 => ?_) (fun c1250 => ?_)
                                                                                  · refine zO_live [0, 1, 2, 3] ?_
                                                                                    exact sL_law_1337 v3 _ hk_18 F D_173 n sl hG hN
                                                                                  · refine zO_iconst dL_law_1253 (by decide) ?_
                                                                                    exact zO_ret (rv := some (zI 0)) dL_law_1254 rfl rfl rfl
                                                                                · refine zO_ite (fun c33_38 => ?_) (fun c33_38 => ?_)
                                                                                  · refine zO_tableIn (tgt := 1255) dL_law_33 ⟨38, c33_38, by decide, by decide, rfl⟩ rfl ?_
                                                                                    refine zO_chk (fun h35 => ?_)
                                                                                    refine zO_aload_n dL_law_1255 rfl (zR_P _) ?_
                                                                                    refine zO_aload_n dL_law_1256 rfl (zR_P _) ?_
                                                                                    refine zO_iload_n dL_law_1257 rfl ?_
                                                                                    refine zO_iconst dL_law_1258 (by decide) ?_
                                                                                    refine zO_iadd dL_law_1259 h35.1 ?_
                                                                                    refine zO_sld (j0 := 0) dL_law_1260 (by decide) h35.2 ?_
                                                                                    refine zO_callV (Y' := YX11_image) (cw := zcI F n sl) (as := [zI (zga E 0 (v3 + 1).toNat)]) (rest := []) (na := 1) (ci := 11) rfl dL_law_1261 wC_X11_image wN_X11 wM_L_172 wI_X11_image wV_X11_image (by decide) (by decide) rfl rfl (Nat.le_of_ble_eq_true rfl) rfl (by decide) (gk_0 hG) (fun r hr => zMet_cast (Nat.add_assoc d 91 2) (mX11_image (d := d + 91) hG (zga E 0 (v3 + 1).toNat) r hr)) ?_
                                                                                    rintro ⟨r_174, D_175⟩ -
                                                                                    show zO _ _ _ _ _ _ [zI r_174] (F, D_175, n, sl) _ _
                                                                                    refine zO_aload_n dL_law_1264 rfl (zR_P _) ?_
                                                                                    refine zO_aload_n dL_law_1265 rfl (zR_P _) ?_
                                                                                    refine zO_iload_n dL_law_1266 rfl ?_
                                                                                    refine zO_iconst dL_law_1267 (by decide) ?_
                                                                                    refine zO_iadd dL_law_1268 h35.1 ?_
                                                                                    refine zO_sld (j0 := 0) dL_law_1269 (by decide) h35.2 ?_
                                                                                    refine zO_callV (Y' := YX12_image) (cw := zcI F n sl) (as := [zI (zga E 0 (v3 + 1).toNat)]) (rest := [zI r_174]) (na := 1) (ci := 12) rfl dL_law_1270 wC_X12_image wN_X12 wM_L_175 wI_X12_image wV_X12_image (by decide) (by decide) rfl rfl (Nat.le_of_ble_eq_true rfl) rfl (by decide) (gk_91 hG) (fun r hr => zMet_cast (Nat.add_assoc d 92 1) (mX12_image (d := d + 92) hG (zga E 0 (v3 + 1).toNat) r hr)) ?_
                                                                                    rintro ⟨r_176, D_177⟩ -
                                                                                    show zO _ _ _ _ _ _ [zI r_176, zI r_174] (F, D_177, n, sl) _ _
                                                                                    refine zO_icmp_eq (tgt := 1337) dL_law_1273 rfl (fun c1273 => ?_) (fun c1273 => ?_)
                                                                                    · refine zO_live [0, 1, 2, 3] ?_
                                                                                      exact sL_law_1337 v3 _ hk_18 F D_177 n sl hG hN
                                                                                    · refine zO_iconst dL_law_1276 (by decide) ?_
                                                                                      exact zO_ret (rv := some (zI 0)) dL_law_1277 rfl rfl rfl
                                                                                  · refine zO_ite (fun c33_39 => ?_) (fun c33_39 => ?_)
                                                                                    · refine zO_tableIn (tgt := 1278) dL_law_33 ⟨39, c33_39, by decide, by decide, rfl⟩ rfl ?_
                                                                                      refine zO_chk (fun h36 => ?_)
                                                                                      refine zO_aload_n dL_law_1278 rfl (zR_P _) ?_
                                                                                      refine zO_aload_n dL_law_1279 rfl (zR_P _) ?_
                                                                                      refine zO_iload_n dL_law_1280 rfl ?_
                                                                                      refine zO_iconst dL_law_1281 (by decide) ?_
                                                                                      refine zO_iadd dL_law_1282 h36.1 ?_
                                                                                      refine zO_sld (j0 := 0) dL_law_1283 (by decide) h36.2 ?_
                                                                                      refine zO_callV (Y' := YX11_back) (cw := zcI F n sl) (as := [zI (zga E 0 (v3 + 1).toNat)]) (rest := []) (na := 1) (ci := 11) rfl dL_law_1284 wC_X11_back wN_X11 wM_L_176 wI_X11_back wV_X11_back (by decide) (by decide) rfl rfl (Nat.le_of_ble_eq_true rfl) rfl (by decide) (gk_0 hG) (fun r hr => zMet_cast (Nat.add_assoc d 91 2) (mX11_back (d := d + 91) hG (zga E 0 (v3 + 1).toNat) r hr)) ?_
                                                                                      rintro ⟨r_178, D_179⟩ -
                                                                                      show zO _ _ _ _ _ _ [zI r_178] (F, D_179, n, sl) _ _
                                                                                      refine zO_aload_n dL_law_1287 rfl (zR_P _) ?_
                                                                                      refine zO_aload_n dL_law_1288 rfl (zR_P _) ?_
                                                                                      refine zO_iload_n dL_law_1289 rfl ?_
                                                                                      refine zO_iconst dL_law_1290 (by decide) ?_
                                                                                      refine zO_iadd dL_law_1291 h36.1 ?_
                                                                                      refine zO_sld (j0 := 0) dL_law_1292 (by decide) h36.2 ?_
                                                                                      refine zO_callV (Y' := YX12_back) (cw := zcI F n sl) (as := [zI (zga E 0 (v3 + 1).toNat)]) (rest := [zI r_178]) (na := 1) (ci := 12) rfl dL_law_1293 wC_X12_back wN_X12 wM_L_179 wI_X12_back wV_X12_back (by decide) (by decide) rfl rfl (Nat.le_of_ble_eq_true rfl) rfl (by decide) (gk_91 hG) (fun r hr => zMet_cast (Nat.add_assoc d 92 1) (mX12_back (d := d + 92) hG (zga E 0 (v3 + 1).toNat) r hr)) ?_
                                                                                      rintro ⟨r_180, D_181⟩ -
                                                                                      show zO _ _ _ _ _ _ [zI r_180, zI r_178] (F, D_181, n, sl) _ _
                                                                                      refine zO_icmp_eq (tgt := 1337) dL_law_1296 rfl (fun c1296 => ?_) (fun c1296 => ?_)
                                                                                      · refine zO_live [0, 1, 2, 3] ?_
                                                                                        exact sL_law_1337 v3 _ hk_18 F D_181 n sl hG hN
                                                                                      · refine zO_iconst dL_law_1299 (by decide) ?_
                                                                                        exact zO_ret (rv := some (zI 0)) dL_law_1300 rfl rfl rfl
                                                                                    · refine zO_ite (fun c33_40 => ?_) (fun c33_40 => ?_)
                                                                                      · refine zO_tableIn (tgt := 1301) dL_law_33 ⟨40, c33_40, by decide, by decide, rfl⟩ rfl ?_
                                                                                        refine zO_chk (fun h37 => ?_)
                                                                                        refine zO_aload_n dL_law_1301 rfl (zR_P _) ?_
                                                                                        refine zO_aload_n dL_law_1302 rfl (zR_P _) ?_
                                                                                        refine zO_iload_n dL_law_1303 rfl ?_
                                                                                        refine zO_iconst dL_law_1304 (by decide) ?_
                                                                                        refine zO_iadd dL_law_1305 h37.1 ?_
                                                                                        refine zO_sld (j0 := 0) dL_law_1306 (by decide) h37.2 ?_
                                                                                        refine zO_callV (Y' := YX11_count) (cw := zcI F n sl) (as := [zI (zga E 0 (v3 + 1).toNat)]) (rest := []) (na := 1) (ci := 11) rfl dL_law_1307 wC_X11_count wN_X11 wM_L_180 wI_X11_count wV_X11_count (by decide) (by decide) rfl rfl (Nat.le_of_ble_eq_true rfl) rfl (by decide) (gk_0 hG) (fun r hr => zMet_cast (Nat.add_assoc d 92 1) (mX11_count (d := d + 92) hG (zga E 0 (v3 + 1).toNat) r hr)) ?_
                                                                                        rintro ⟨r_182, D_183⟩ -
                                                                                        show zO _ _ _ _ _ _ [zI r_182] (F, D_183, n, sl) _ _
                                                                                        refine zO_aload_n dL_law_1310 rfl (zR_P _) ?_
                                                                                        refine zO_aload_n dL_law_1311 rfl (zR_P _) ?_
                                                                                        refine zO_iload_n dL_law_1312 rfl ?_
                                                                                        refine zO_iconst dL_law_1313 (by decide) ?_
                                                                                        refine zO_iadd dL_law_1314 h37.1 ?_
                                                                                        refine zO_sld (j0 := 0) dL_law_1315 (by decide) h37.2 ?_
                                                                                        refine zO_callV (Y' := YX12_count) (cw := zcI F n sl) (as := [zI (zga E 0 (v3 + 1).toNat)]) (rest := [zI r_182]) (na := 1) (ci := 12) rfl dL_law_1316 wC_X12_count wN_X12 wM_L_183 wI_X12_count wV_X12_count (by decide) (by decide) rfl rfl (Nat.le_of_ble_eq_true rfl) rfl (by decide) (gk_91 hG) (fun r hr => zMet_cast (Nat.add_assoc d 90 3) (mX12_count (d := d + 90) hG (zga E 0 (v3 + 1).toNat) r hr)) ?_
                                                                                        rintro ⟨r_184, D_185⟩ -
                                                                                        show zO _ _ _ _ _ _ [zI r_184, zI r_182] (F, D_185, n, sl) _ _
                                                                                        refine zO_icmp_eq (tgt := 1337) dL_law_1319 rfl (fun c1319 => ?_) (fun c1319 => ?_)
                                                                                        · refine zO_live [0, 1, 2, 3] ?_
                                                                                          exact sL_law_1337 v3 _ hk_18 F D_185 n sl hG hN
                                                                                        · refine zO_iconst dL_law_1322 (by decide) ?_
                                                                                          exact zO_ret (rv := some (zI 0)) dL_law_1323 rfl rfl rfl
                                                                                      · refine zO_ite (fun c33_41 => ?_) (fun c33_41 => ?_)
                                                                                        · refine zO_tableIn (tgt := 1324) dL_law_33 ⟨41, c33_41, by decide, by decide, rfl⟩ rfl ?_
                                                                                          refine zO_aload_n dL_law_1324 rfl (zR_P _) ?_
                                                                                          refine zO_callV (Y' := YX11_status) (cw := zcI F n sl) (as := []) (rest := []) (na := 0) (ci := 11) rfl dL_law_1325 wC_X11_status wN_X11 wM_L_184 wI_X11_status wV_X11_status (by decide) (by decide) rfl rfl (Nat.le_of_ble_eq_true rfl) rfl (by decide) (gk_0 hG) (fun r hr => zMet_cast (Nat.add_assoc d 93 0) (mX11_status (d := d + 93) hG  r hr)) ?_
                                                                                          rintro ⟨r_186, D_187⟩ -
                                                                                          show zO _ _ _ _ _ _ [zI r_186] (F, D_187, n, sl) _ _
                                                                                          refine zO_aload_n dL_law_1328 rfl (zR_P _) ?_
                                                                                          refine zO_callV (Y' := YX12_status) (cw := zcI F n sl) (as := []) (rest := [zI r_186]) (na := 0) (ci := 12) rfl dL_law_1329 wC_X12_status wN_X12 wM_L_187 wI_X12_status wV_X12_status (by decide) (by decide) rfl rfl (Nat.le_of_ble_eq_true rfl) rfl (by decide) (gk_91 hG) (fun r hr => zMet_cast (Nat.add_assoc d 93 0) (mX12_status (d := d + 93) hG  r hr)) ?_
                                                                                          rintro ⟨r_188, D_189⟩ -
                                                                                          show zO _ _ _ _ _ _ [zI r_188, zI r_186] (F, D_189, n, sl) _ _
                                                                                          refine zO_icmp_eq (tgt := 1337) dL_law_1332 rfl (fun c1332 => ?_) (fun c1332 => ?_)
                                                                                          · refine zO_live [0, 1, 2, 3] ?_
                                                                                            exact sL_law_1337 v3 _ hk_18 F D_189 n sl hG hN
                                                                                          · refine zO_iconst dL_law_1335 (by decide) ?_
                                                                                            exact zO_ret (rv := some (zI 0)) dL_law_1336 rfl rfl rfl
                                                                                        · refine zO_tableOut (tgt := 1337) dL_law_33 (by omega) rfl ?_
                                                                                          refine zO_live [0, 1, 2, 3] ?_
                                                                                          exact sL_law_1337 v3 _ hk_18 F D n sl hG hN
