/-! ===== the constructors: ExamSlipsModel (printed by wip/gen/ctor.py) ===== -/
def cF189 : zFs := znew cF188 91 (13, 0, zdf 12)
def cD115 : zDa := zrow cD114 91 (zdf 12)
def cF190 : zFs := znew cF189 92 (20, 7, fun _ => 0)
def cD116 : zDa := zrow cD115 92 (fun _ => 0)
def cF191 : zFs := zfin cF190 91 2 ((92 : Nat) : Int)
def cF192 : zFs := znew cF191 93 (20, 5201, fun _ => 0)
def cD117 : zDa := zrow cD116 93 (fun _ => 0)
def cF193 : zFs := zfin cF192 91 3 ((93 : Nat) : Int)
def cF194 : zFs := znew cF193 94 (20, 10402, fun _ => 0)
def cD118 : zDa := zrow cD117 94 (fun _ => 0)
def cF195 : zFs := zfin cF194 91 4 ((94 : Nat) : Int)
def cF196 : zFs := znew cF195 95 (23, 2, fun _ => 0)
def cD119 : zDa := zrow cD118 95 (fun _ => 0)
def cF197 : zFs := zfin cF196 91 5 ((95 : Nat) : Int)
def cF198 : zFs := znew cF197 96 (22, 76, fun _ => 0)
def cD120 : zDa := zrow cD119 96 (fun _ => 0)
def cD121 : zDa := zwr cD120 96 0 104
def cD122 : zDa := zwr cD121 96 1 111
def cD123 : zDa := zwr cD122 96 2 117
def cD124 : zDa := zwr cD123 96 3 114
def cD125 : zDa := zwr cD124 96 4 115
def cD126 : zDa := zwr cD125 96 5 32
def cD127 : zDa := zwr cD126 96 6 107
def cD128 : zDa := zwr cD127 96 7 101
def cD129 : zDa := zwr cD128 96 8 101
def cD130 : zDa := zwr cD129 96 9 112
def cD131 : zDa := zwr cD130 96 10 115
def cD132 : zDa := zwr cD131 96 11 32
def cD133 : zDa := zwr cD132 96 12 99
def cD134 : zDa := zwr cD133 96 13 104
def cD135 : zDa := zwr cD134 96 14 97
def cD136 : zDa := zwr cD135 96 15 110
def cD137 : zDa := zwr cD136 96 16 99
def cD138 : zDa := zwr cD137 96 17 101
def cD139 : zDa := zwr cD138 96 18 32
def cD140 : zDa := zwr cD139 96 19 105
def cD141 : zDa := zwr cD140 96 20 102
def cD142 : zDa := zwr cD141 96 21 32
def cD143 : zDa := zwr cD142 96 22 111
def cD144 : zDa := zwr cD143 96 23 114
def cD145 : zDa := zwr cD144 96 24 32
def cD146 : zDa := zwr cD145 96 25 97
def cD147 : zDa := zwr cD146 96 26 110
def cD148 : zDa := zwr cD147 96 27 100
def cD149 : zDa := zwr cD148 96 28 32
def cD150 : zDa := zwr cD149 96 29 110
def cD151 : zDa := zwr cD150 96 30 111
def cD152 : zDa := zwr cD151 96 31 116
def cD153 : zDa := zwr cD152 96 32 32
def cD154 : zDa := zwr cD153 96 33 107
def cD155 : zDa := zwr cD154 96 34 105
def cD156 : zDa := zwr cD155 96 35 110
def cD157 : zDa := zwr cD156 96 36 103
def cD158 : zDa := zwr cD157 96 37 32
def cD159 : zDa := zwr cD158 96 38 112
def cD160 : zDa := zwr cD159 96 39 97
def cD161 : zDa := zwr cD160 96 40 103
def cD162 : zDa := zwr cD161 96 41 101
def cD163 : zDa := zwr cD162 96 42 115
def cD164 : zDa := zwr cD163 96 43 32
def cD165 : zDa := zwr cD164 96 44 108
def cD166 : zDa := zwr cD165 96 45 101
def cD167 : zDa := zwr cD166 96 46 118
def cD168 : zDa := zwr cD167 96 47 101
def cD169 : zDa := zwr cD168 96 48 108
def cD170 : zDa := zwr cD169 96 49 32
def cD171 : zDa := zwr cD170 96 50 104
def cD172 : zDa := zwr cD171 96 51 101
def cD173 : zDa := zwr cD172 96 52 108
def cD174 : zDa := zwr cD173 96 53 112
def cD175 : zDa := zwr cD174 96 54 101
def cD176 : zDa := zwr cD175 96 55 100
def cD177 : zDa := zwr cD176 96 56 32
def cD178 : zDa := zwr cD177 96 57 108
def cD179 : zDa := zwr cD178 96 58 105
def cD180 : zDa := zwr cD179 96 59 107
def cD181 : zDa := zwr cD180 96 60 101
def cD182 : zDa := zwr cD181 96 61 100
def cD183 : zDa := zwr cD182 96 62 32
def cD184 : zDa := zwr cD183 96 63 100
def cD185 : zDa := zwr cD184 96 64 97
def cD186 : zDa := zwr cD185 96 65 121
def cD187 : zDa := zwr cD186 96 66 32
def cD188 : zDa := zwr cD187 96 67 113
def cD189 : zDa := zwr cD188 96 68 117
def cD190 : zDa := zwr cD189 96 69 101
def cD191 : zDa := zwr cD190 96 70 115
def cD192 : zDa := zwr cD191 96 71 116
def cD193 : zDa := zwr cD192 96 72 105
def cD194 : zDa := zwr cD193 96 73 111
def cD195 : zDa := zwr cD194 96 74 110
def cD196 : zDa := zwr cD195 96 75 32
def cF199 : zFs := zfin cF198 91 6 ((96 : Nat) : Int)
def cF200 : zFs := znew cF199 97 (22, 400, fun _ => 0)
def cD197 : zDa := zrow cD196 97 (fun _ => 0)
def cF201 : zFs := zfin cF200 91 7 ((97 : Nat) : Int)
def cF202 : zFs := znew cF201 98 (20, 5, fun _ => 0)
def cD198 : zDa := zrow cD197 98 (fun _ => 0)
def cF203 : zFs := zfin cF202 91 8 ((98 : Nat) : Int)
def cD199 : zDa := zwr cD198 91 10 (-1)
def cF204 : zFs := znew cF203 99 (20, 401, fun _ => 0)
def cD200 : zDa := zrow cD199 99 (fun _ => 0)
def cF205 : zFs := zfin cF204 91 11 ((99 : Nat) : Int)
def cF206 : zFs := znew cF205 100 (20, 401, fun _ => 0)
def cD201 : zDa := zrow cD200 100 (fun _ => 0)
def cF207 : zFs := zfin cF206 91 12 ((100 : Nat) : Int)
def cF208 : zFs := znew cF207 101 (20, 401, fun _ => 0)
def cD202 : zDa := zrow cD201 101 (fun _ => 0)
def cF209 : zFs := zfin cF208 91 13 ((101 : Nat) : Int)
def cF210 : zFs := znew cF209 102 (20, 7, fun _ => 0)
def cD203 : zDa := zrow cD202 102 (fun _ => 0)
def cF211 : zFs := zfin cF210 91 21 ((102 : Nat) : Int)
def cF212 : zFs := znew cF211 103 (20, 3, fun _ => 0)
def cD204 : zDa := zrow cD203 103 (fun _ => 0)
def cF213 : zFs := zfin cF212 91 22 ((103 : Nat) : Int)
def cF214 : zFs := znew cF213 104 (20, 3, fun _ => 0)
def cD205 : zDa := zrow cD204 104 (fun _ => 0)
def cF215 : zFs := zfin cF214 91 23 ((104 : Nat) : Int)
def cF216 : zFs := znew cF215 105 (20, 3, fun _ => 0)
def cD206 : zDa := zrow cD205 105 (fun _ => 0)
def cF217 : zFs := zfin cF216 91 24 ((105 : Nat) : Int)
def cF218 : zFs := znew cF217 106 (20, 3, fun _ => 0)
def cD207 : zDa := zrow cD206 106 (fun _ => 0)
def cF219 : zFs := zfin cF218 91 25 ((106 : Nat) : Int)
def cF220 : zFs := znew cF219 107 (21, 4, fun _ => 0)
def cD208 : zDa := zrow cD207 107 (fun _ => 0)
def cF221 : zFs := zfin cF220 91 26 ((107 : Nat) : Int)
def cF222 : zFs := znew cF221 108 (21, 4, fun _ => 0)
def cD209 : zDa := zrow cD208 108 (fun _ => 0)
def cF223 : zFs := zfin cF222 91 27 ((108 : Nat) : Int)
def cF224 : zFs := znew cF223 109 (20, 148176, fun _ => 0)
def cD210 : zDa := zrow cD209 109 (fun _ => 0)
def cF225 : zFs := zfin cF224 91 31 ((109 : Nat) : Int)
def cF226 : zFs := znew cF225 110 (21, 441, fun _ => 0)
def cD211 : zDa := zrow cD210 110 (fun _ => 0)
def cF227 : zFs := zfin cF226 91 32 ((110 : Nat) : Int)
def cF228 : zFs := znew cF227 111 (20, 80, fun _ => 0)
def cD212 : zDa := zrow cD211 111 (fun _ => 0)
def cF229 : zFs := zfin cF228 91 33 ((111 : Nat) : Int)
def cD213 : zDa := zwr cD212 91 35 (-1)
def cF230 : zFs := znew cF229 112 (20, 20, fun _ => 0)
def cD214 : zDa := zrow cD213 112 (fun _ => 0)
def cF231 : zFs := zfin cF230 91 38 ((112 : Nat) : Int)
def cF232 : zFs := znew cF231 113 (20, 400, fun _ => 0)
def cD215 : zDa := zrow cD214 113 (fun _ => 0)
def cF233 : zFs := zfin cF232 91 39 ((113 : Nat) : Int)
def cF234 : zFs := znew cF233 114 (20, 20, fun _ => 0)
def cD216 : zDa := zrow cD215 114 (fun _ => 0)
def cF235 : zFs := zfin cF234 91 40 ((114 : Nat) : Int)
def cF236 : zFs := znew cF235 115 (20, 20, fun _ => 0)
def cD217 : zDa := zrow cD216 115 (fun _ => 0)
def cF237 : zFs := zfin cF236 91 41 ((115 : Nat) : Int)
def cF238 : zFs := znew cF237 116 (20, 20, fun _ => 0)
def cD218 : zDa := zrow cD217 116 (fun _ => 0)
def cF239 : zFs := zfin cF238 91 42 ((116 : Nat) : Int)
def cF240 : zFs := znew cF239 117 (20, 40, fun _ => 0)
def cD219 : zDa := zrow cD218 117 (fun _ => 0)
def cF241 : zFs := zfin cF240 91 46 ((117 : Nat) : Int)
def cF242 : zFs := znew cF241 118 (20, 20, fun _ => 0)
def cD220 : zDa := zrow cD219 118 (fun _ => 0)
def cF243 : zFs := zfin cF242 91 47 ((118 : Nat) : Int)
def cF244 : zFs := znew cF243 119 (20, 3, fun _ => 0)
def cD221 : zDa := zrow cD220 119 (fun _ => 0)
def cF245 : zFs := zfin cF244 91 52 ((119 : Nat) : Int)
def cF246 : zFs := znew cF245 120 (20, 12, fun _ => 0)
def cD222 : zDa := zrow cD221 120 (fun _ => 0)
def cF247 : zFs := zfin cF246 91 53 ((120 : Nat) : Int)
def cF248 : zFs := znew cF247 121 (20, 12, fun _ => 0)
def cD223 : zDa := zrow cD222 121 (fun _ => 0)
def cF249 : zFs := zfin cF248 91 54 ((121 : Nat) : Int)
def cF250 : zFs := znew cF249 122 (20, 12, fun _ => 0)
def cD224 : zDa := zrow cD223 122 (fun _ => 0)
def cF251 : zFs := zfin cF250 91 55 ((122 : Nat) : Int)
def cD225 : zDa := zwr cD224 91 58 (-1)
def cF252 : zFs := znew cF251 123 (21, 12, fun _ => 0)
def cD226 : zDa := zrow cD225 123 (fun _ => 0)
def cF253 : zFs := zfin cF252 91 60 ((123 : Nat) : Int)
def cF254 : zFs := znew cF253 124 (21, 12, fun _ => 0)
def cD227 : zDa := zrow cD226 124 (fun _ => 0)
def cF255 : zFs := zfin cF254 91 61 ((124 : Nat) : Int)
def cF256 : zFs := znew cF255 125 (21, 12, fun _ => 0)
def cD228 : zDa := zrow cD227 125 (fun _ => 0)
def cF257 : zFs := zfin cF256 91 62 ((125 : Nat) : Int)
def cD229 : zDa := zwr cD228 91 64 (-1)
def cD230 : zDa := zwr cD229 93 100 8
def cD231 : zDa := zwr cD230 93 101 3
def cD232 : zDa := zwr cD231 93 102 2
def cD233 : zDa := zwr cD232 93 104 10
def cD234 : zDa := zwr cD233 93 105 19
def cD235 : zDa := zwr cD234 93 106 6
def cD236 : zDa := zwr cD235 93 394 (-1)
theorem cn_X12_init_91 {l : Launch} {E : zE} {d : Nat} : zMet l E (d) YX12_init [zR 91] (cF189, cD115, 92, 5409) (zmV (cF257, cD236, 126, 172044)) := by
  refine zMet_of (plainFor_of_name (by decide)) (fun _ h => (nomatch h)) (Nat.le_of_ble_eq_true rfl) ?_
  have hz : zO l E (d) YX12_init 0 [(0, zR 91)] [] (cF189, cD115, 92, 5409) zmV (some (cF257, cD236, 126, 172044)) := by
    refine zO_aload_n dX12_init_0 rfl (zR_P _) ?_
    refine zO_objI dX12_init_1 wM_X12_14 (Nat.le_of_ble_eq_true rfl) ?_
    refine zO_aload_n dX12_init_4 rfl (zR_P _) ?_
    refine zO_bipush dX12_init_5 (by decide) ?_
    refine zO_newi (kd := 20) (z := 7) dX12_init_7 (by decide) (by decide) (by decide) ?_
    change zO l E (d) YX12_init 9 [(0, zR 91)] [zR 92, zR 91] (cF190, cD116, 93, 5416) zmV (some (cF257, cD236, 126, 172044))
    refine zO_putF (c := 12) (k := 2) (C := RX12) (z := ((92 : Nat) : Int)) dX12_init_9 wF_X12_7 rfl inX12 tyX12_ok nmX12 (by decide) (by decide) rfl rfl rfl (show (cF190 91).1 = 13 from by decide +kernel) (zq_nat 92).symm trivial ?_
    change zO l E (d) YX12_init 12 [(0, zR 91)] [] (cF191, cD116, 93, 5416) zmV (some (cF257, cD236, 126, 172044))
    refine zO_aload_n dX12_init_12 rfl (zR_P _) ?_
    refine zO_sipush dX12_init_13 (by decide) ?_
    refine zO_newi (kd := 20) (z := 5201) dX12_init_16 (by decide) (by decide) (by decide) ?_
    change zO l E (d) YX12_init 18 [(0, zR 91)] [zR 93, zR 91] (cF192, cD117, 94, 10617) zmV (some (cF257, cD236, 126, 172044))
    refine zO_putF (c := 12) (k := 3) (C := RX12) (z := ((93 : Nat) : Int)) dX12_init_18 wF_X12_20 rfl inX12 tyX12_ok nmX12 (by decide) (by decide) rfl rfl rfl (show (cF192 91).1 = 13 from by decide +kernel) (zq_nat 93).symm trivial ?_
    change zO l E (d) YX12_init 21 [(0, zR 91)] [] (cF193, cD117, 94, 10617) zmV (some (cF257, cD236, 126, 172044))
    refine zO_aload_n dX12_init_21 rfl (zR_P _) ?_
    refine zO_sipush dX12_init_22 (by decide) ?_
    refine zO_newi (kd := 20) (z := 10402) dX12_init_25 (by decide) (by decide) (by decide) ?_
    change zO l E (d) YX12_init 27 [(0, zR 91)] [zR 94, zR 91] (cF194, cD118, 95, 21019) zmV (some (cF257, cD236, 126, 172044))
    refine zO_putF (c := 12) (k := 4) (C := RX12) (z := ((94 : Nat) : Int)) dX12_init_27 wF_X12_23 rfl inX12 tyX12_ok nmX12 (by decide) (by decide) rfl rfl rfl (show (cF194 91).1 = 13 from by decide +kernel) (zq_nat 94).symm trivial ?_
    change zO l E (d) YX12_init 30 [(0, zR 91)] [] (cF195, cD118, 95, 21019) zmV (some (cF257, cD236, 126, 172044))
    refine zO_aload_n dX12_init_30 rfl (zR_P _) ?_
    refine zO_iconst dX12_init_31 (by decide) ?_
    refine zO_newi (kd := 23) (z := 2) dX12_init_32 (by decide) (by decide) (by decide) ?_
    change zO l E (d) YX12_init 34 [(0, zR 91)] [zR 95, zR 91] (cF196, cD119, 96, 21021) zmV (some (cF257, cD236, 126, 172044))
    refine zO_putF (c := 12) (k := 5) (C := RX12) (z := ((95 : Nat) : Int)) dX12_init_34 wF_X12_26 rfl inX12 tyX12_ok nmX12 (by decide) (by decide) rfl rfl rfl (show (cF196 91).1 = 13 from by decide +kernel) (zq_nat 95).symm trivial ?_
    change zO l E (d) YX12_init 37 [(0, zR 91)] [] (cF197, cD119, 96, 21021) zmV (some (cF257, cD236, 126, 172044))
    refine zO_aload_n dX12_init_37 rfl (zR_P _) ?_
    refine zO_bipush dX12_init_38 (by decide) ?_
    refine zO_newi (kd := 22) (z := 76) dX12_init_40 (by decide) (by decide) (by decide) ?_
    change zO l E (d) YX12_init 42 [(0, zR 91)] [zR 96, zR 91] (cF198, cD120, 97, 21097) zmV (some (cF257, cD236, 126, 172044))
    refine zO_dup dX12_init_42 rfl ?_
    refine zO_iconst dX12_init_43 (by decide) ?_
    refine zO_bipush dX12_init_44 (by decide) ?_
    refine zO_bast (z := 104) (j := 0) dX12_init_46 (show (cF198 96).1 = 22 from by decide +kernel) (show (0 : Int) ≤ 0 ∧ (0 : Int) < (cF198 96).2.1 from by decide +kernel) (by decide) ?_
    change zO l E (d) YX12_init 47 [(0, zR 91)] [zR 96, zR 91] (cF198, cD121, 97, 21097) zmV (some (cF257, cD236, 126, 172044))
    refine zO_dup dX12_init_47 rfl ?_
    refine zO_iconst dX12_init_48 (by decide) ?_
    refine zO_bipush dX12_init_49 (by decide) ?_
    refine zO_bast (z := 111) (j := 1) dX12_init_51 (show (cF198 96).1 = 22 from by decide +kernel) (show (0 : Int) ≤ 1 ∧ (1 : Int) < (cF198 96).2.1 from by decide +kernel) (by decide) ?_
    change zO l E (d) YX12_init 52 [(0, zR 91)] [zR 96, zR 91] (cF198, cD122, 97, 21097) zmV (some (cF257, cD236, 126, 172044))
    refine zO_dup dX12_init_52 rfl ?_
    refine zO_iconst dX12_init_53 (by decide) ?_
    refine zO_bipush dX12_init_54 (by decide) ?_
    refine zO_bast (z := 117) (j := 2) dX12_init_56 (show (cF198 96).1 = 22 from by decide +kernel) (show (0 : Int) ≤ 2 ∧ (2 : Int) < (cF198 96).2.1 from by decide +kernel) (by decide) ?_
    change zO l E (d) YX12_init 57 [(0, zR 91)] [zR 96, zR 91] (cF198, cD123, 97, 21097) zmV (some (cF257, cD236, 126, 172044))
    refine zO_dup dX12_init_57 rfl ?_
    refine zO_iconst dX12_init_58 (by decide) ?_
    refine zO_bipush dX12_init_59 (by decide) ?_
    refine zO_bast (z := 114) (j := 3) dX12_init_61 (show (cF198 96).1 = 22 from by decide +kernel) (show (0 : Int) ≤ 3 ∧ (3 : Int) < (cF198 96).2.1 from by decide +kernel) (by decide) ?_
    change zO l E (d) YX12_init 62 [(0, zR 91)] [zR 96, zR 91] (cF198, cD124, 97, 21097) zmV (some (cF257, cD236, 126, 172044))
    refine zO_dup dX12_init_62 rfl ?_
    refine zO_iconst dX12_init_63 (by decide) ?_
    refine zO_bipush dX12_init_64 (by decide) ?_
    refine zO_bast (z := 115) (j := 4) dX12_init_66 (show (cF198 96).1 = 22 from by decide +kernel) (show (0 : Int) ≤ 4 ∧ (4 : Int) < (cF198 96).2.1 from by decide +kernel) (by decide) ?_
    change zO l E (d) YX12_init 67 [(0, zR 91)] [zR 96, zR 91] (cF198, cD125, 97, 21097) zmV (some (cF257, cD236, 126, 172044))
    refine zO_dup dX12_init_67 rfl ?_
    refine zO_iconst dX12_init_68 (by decide) ?_
    refine zO_bipush dX12_init_69 (by decide) ?_
    refine zO_bast (z := 32) (j := 5) dX12_init_71 (show (cF198 96).1 = 22 from by decide +kernel) (show (0 : Int) ≤ 5 ∧ (5 : Int) < (cF198 96).2.1 from by decide +kernel) (by decide) ?_
    change zO l E (d) YX12_init 72 [(0, zR 91)] [zR 96, zR 91] (cF198, cD126, 97, 21097) zmV (some (cF257, cD236, 126, 172044))
    refine zO_dup dX12_init_72 rfl ?_
    refine zO_bipush dX12_init_73 (by decide) ?_
    refine zO_bipush dX12_init_75 (by decide) ?_
    refine zO_bast (z := 107) (j := 6) dX12_init_77 (show (cF198 96).1 = 22 from by decide +kernel) (show (0 : Int) ≤ 6 ∧ (6 : Int) < (cF198 96).2.1 from by decide +kernel) (by decide) ?_
    change zO l E (d) YX12_init 78 [(0, zR 91)] [zR 96, zR 91] (cF198, cD127, 97, 21097) zmV (some (cF257, cD236, 126, 172044))
    refine zO_dup dX12_init_78 rfl ?_
    refine zO_bipush dX12_init_79 (by decide) ?_
    refine zO_bipush dX12_init_81 (by decide) ?_
    refine zO_bast (z := 101) (j := 7) dX12_init_83 (show (cF198 96).1 = 22 from by decide +kernel) (show (0 : Int) ≤ 7 ∧ (7 : Int) < (cF198 96).2.1 from by decide +kernel) (by decide) ?_
    change zO l E (d) YX12_init 84 [(0, zR 91)] [zR 96, zR 91] (cF198, cD128, 97, 21097) zmV (some (cF257, cD236, 126, 172044))
    refine zO_dup dX12_init_84 rfl ?_
    refine zO_bipush dX12_init_85 (by decide) ?_
    refine zO_bipush dX12_init_87 (by decide) ?_
    refine zO_bast (z := 101) (j := 8) dX12_init_89 (show (cF198 96).1 = 22 from by decide +kernel) (show (0 : Int) ≤ 8 ∧ (8 : Int) < (cF198 96).2.1 from by decide +kernel) (by decide) ?_
    change zO l E (d) YX12_init 90 [(0, zR 91)] [zR 96, zR 91] (cF198, cD129, 97, 21097) zmV (some (cF257, cD236, 126, 172044))
    refine zO_dup dX12_init_90 rfl ?_
    refine zO_bipush dX12_init_91 (by decide) ?_
    refine zO_bipush dX12_init_93 (by decide) ?_
    refine zO_bast (z := 112) (j := 9) dX12_init_95 (show (cF198 96).1 = 22 from by decide +kernel) (show (0 : Int) ≤ 9 ∧ (9 : Int) < (cF198 96).2.1 from by decide +kernel) (by decide) ?_
    change zO l E (d) YX12_init 96 [(0, zR 91)] [zR 96, zR 91] (cF198, cD130, 97, 21097) zmV (some (cF257, cD236, 126, 172044))
    refine zO_dup dX12_init_96 rfl ?_
    refine zO_bipush dX12_init_97 (by decide) ?_
    refine zO_bipush dX12_init_99 (by decide) ?_
    refine zO_bast (z := 115) (j := 10) dX12_init_101 (show (cF198 96).1 = 22 from by decide +kernel) (show (0 : Int) ≤ 10 ∧ (10 : Int) < (cF198 96).2.1 from by decide +kernel) (by decide) ?_
    change zO l E (d) YX12_init 102 [(0, zR 91)] [zR 96, zR 91] (cF198, cD131, 97, 21097) zmV (some (cF257, cD236, 126, 172044))
    refine zO_dup dX12_init_102 rfl ?_
    refine zO_bipush dX12_init_103 (by decide) ?_
    refine zO_bipush dX12_init_105 (by decide) ?_
    refine zO_bast (z := 32) (j := 11) dX12_init_107 (show (cF198 96).1 = 22 from by decide +kernel) (show (0 : Int) ≤ 11 ∧ (11 : Int) < (cF198 96).2.1 from by decide +kernel) (by decide) ?_
    change zO l E (d) YX12_init 108 [(0, zR 91)] [zR 96, zR 91] (cF198, cD132, 97, 21097) zmV (some (cF257, cD236, 126, 172044))
    refine zO_dup dX12_init_108 rfl ?_
    refine zO_bipush dX12_init_109 (by decide) ?_
    refine zO_bipush dX12_init_111 (by decide) ?_
    refine zO_bast (z := 99) (j := 12) dX12_init_113 (show (cF198 96).1 = 22 from by decide +kernel) (show (0 : Int) ≤ 12 ∧ (12 : Int) < (cF198 96).2.1 from by decide +kernel) (by decide) ?_
    change zO l E (d) YX12_init 114 [(0, zR 91)] [zR 96, zR 91] (cF198, cD133, 97, 21097) zmV (some (cF257, cD236, 126, 172044))
    refine zO_dup dX12_init_114 rfl ?_
    refine zO_bipush dX12_init_115 (by decide) ?_
    refine zO_bipush dX12_init_117 (by decide) ?_
    refine zO_bast (z := 104) (j := 13) dX12_init_119 (show (cF198 96).1 = 22 from by decide +kernel) (show (0 : Int) ≤ 13 ∧ (13 : Int) < (cF198 96).2.1 from by decide +kernel) (by decide) ?_
    change zO l E (d) YX12_init 120 [(0, zR 91)] [zR 96, zR 91] (cF198, cD134, 97, 21097) zmV (some (cF257, cD236, 126, 172044))
    refine zO_dup dX12_init_120 rfl ?_
    refine zO_bipush dX12_init_121 (by decide) ?_
    refine zO_bipush dX12_init_123 (by decide) ?_
    refine zO_bast (z := 97) (j := 14) dX12_init_125 (show (cF198 96).1 = 22 from by decide +kernel) (show (0 : Int) ≤ 14 ∧ (14 : Int) < (cF198 96).2.1 from by decide +kernel) (by decide) ?_
    change zO l E (d) YX12_init 126 [(0, zR 91)] [zR 96, zR 91] (cF198, cD135, 97, 21097) zmV (some (cF257, cD236, 126, 172044))
    refine zO_dup dX12_init_126 rfl ?_
    refine zO_bipush dX12_init_127 (by decide) ?_
    refine zO_bipush dX12_init_129 (by decide) ?_
    refine zO_bast (z := 110) (j := 15) dX12_init_131 (show (cF198 96).1 = 22 from by decide +kernel) (show (0 : Int) ≤ 15 ∧ (15 : Int) < (cF198 96).2.1 from by decide +kernel) (by decide) ?_
    change zO l E (d) YX12_init 132 [(0, zR 91)] [zR 96, zR 91] (cF198, cD136, 97, 21097) zmV (some (cF257, cD236, 126, 172044))
    refine zO_dup dX12_init_132 rfl ?_
    refine zO_bipush dX12_init_133 (by decide) ?_
    refine zO_bipush dX12_init_135 (by decide) ?_
    refine zO_bast (z := 99) (j := 16) dX12_init_137 (show (cF198 96).1 = 22 from by decide +kernel) (show (0 : Int) ≤ 16 ∧ (16 : Int) < (cF198 96).2.1 from by decide +kernel) (by decide) ?_
    change zO l E (d) YX12_init 138 [(0, zR 91)] [zR 96, zR 91] (cF198, cD137, 97, 21097) zmV (some (cF257, cD236, 126, 172044))
    refine zO_dup dX12_init_138 rfl ?_
    refine zO_bipush dX12_init_139 (by decide) ?_
    refine zO_bipush dX12_init_141 (by decide) ?_
    refine zO_bast (z := 101) (j := 17) dX12_init_143 (show (cF198 96).1 = 22 from by decide +kernel) (show (0 : Int) ≤ 17 ∧ (17 : Int) < (cF198 96).2.1 from by decide +kernel) (by decide) ?_
    change zO l E (d) YX12_init 144 [(0, zR 91)] [zR 96, zR 91] (cF198, cD138, 97, 21097) zmV (some (cF257, cD236, 126, 172044))
    refine zO_dup dX12_init_144 rfl ?_
    refine zO_bipush dX12_init_145 (by decide) ?_
    refine zO_bipush dX12_init_147 (by decide) ?_
    refine zO_bast (z := 32) (j := 18) dX12_init_149 (show (cF198 96).1 = 22 from by decide +kernel) (show (0 : Int) ≤ 18 ∧ (18 : Int) < (cF198 96).2.1 from by decide +kernel) (by decide) ?_
    change zO l E (d) YX12_init 150 [(0, zR 91)] [zR 96, zR 91] (cF198, cD139, 97, 21097) zmV (some (cF257, cD236, 126, 172044))
    refine zO_dup dX12_init_150 rfl ?_
    refine zO_bipush dX12_init_151 (by decide) ?_
    refine zO_bipush dX12_init_153 (by decide) ?_
    refine zO_bast (z := 105) (j := 19) dX12_init_155 (show (cF198 96).1 = 22 from by decide +kernel) (show (0 : Int) ≤ 19 ∧ (19 : Int) < (cF198 96).2.1 from by decide +kernel) (by decide) ?_
    change zO l E (d) YX12_init 156 [(0, zR 91)] [zR 96, zR 91] (cF198, cD140, 97, 21097) zmV (some (cF257, cD236, 126, 172044))
    refine zO_dup dX12_init_156 rfl ?_
    refine zO_bipush dX12_init_157 (by decide) ?_
    refine zO_bipush dX12_init_159 (by decide) ?_
    refine zO_bast (z := 102) (j := 20) dX12_init_161 (show (cF198 96).1 = 22 from by decide +kernel) (show (0 : Int) ≤ 20 ∧ (20 : Int) < (cF198 96).2.1 from by decide +kernel) (by decide) ?_
    change zO l E (d) YX12_init 162 [(0, zR 91)] [zR 96, zR 91] (cF198, cD141, 97, 21097) zmV (some (cF257, cD236, 126, 172044))
    refine zO_dup dX12_init_162 rfl ?_
    refine zO_bipush dX12_init_163 (by decide) ?_
    refine zO_bipush dX12_init_165 (by decide) ?_
    refine zO_bast (z := 32) (j := 21) dX12_init_167 (show (cF198 96).1 = 22 from by decide +kernel) (show (0 : Int) ≤ 21 ∧ (21 : Int) < (cF198 96).2.1 from by decide +kernel) (by decide) ?_
    change zO l E (d) YX12_init 168 [(0, zR 91)] [zR 96, zR 91] (cF198, cD142, 97, 21097) zmV (some (cF257, cD236, 126, 172044))
    refine zO_dup dX12_init_168 rfl ?_
    refine zO_bipush dX12_init_169 (by decide) ?_
    refine zO_bipush dX12_init_171 (by decide) ?_
    refine zO_bast (z := 111) (j := 22) dX12_init_173 (show (cF198 96).1 = 22 from by decide +kernel) (show (0 : Int) ≤ 22 ∧ (22 : Int) < (cF198 96).2.1 from by decide +kernel) (by decide) ?_
    change zO l E (d) YX12_init 174 [(0, zR 91)] [zR 96, zR 91] (cF198, cD143, 97, 21097) zmV (some (cF257, cD236, 126, 172044))
    refine zO_dup dX12_init_174 rfl ?_
    refine zO_bipush dX12_init_175 (by decide) ?_
    refine zO_bipush dX12_init_177 (by decide) ?_
    refine zO_bast (z := 114) (j := 23) dX12_init_179 (show (cF198 96).1 = 22 from by decide +kernel) (show (0 : Int) ≤ 23 ∧ (23 : Int) < (cF198 96).2.1 from by decide +kernel) (by decide) ?_
    change zO l E (d) YX12_init 180 [(0, zR 91)] [zR 96, zR 91] (cF198, cD144, 97, 21097) zmV (some (cF257, cD236, 126, 172044))
    refine zO_dup dX12_init_180 rfl ?_
    refine zO_bipush dX12_init_181 (by decide) ?_
    refine zO_bipush dX12_init_183 (by decide) ?_
    refine zO_bast (z := 32) (j := 24) dX12_init_185 (show (cF198 96).1 = 22 from by decide +kernel) (show (0 : Int) ≤ 24 ∧ (24 : Int) < (cF198 96).2.1 from by decide +kernel) (by decide) ?_
    change zO l E (d) YX12_init 186 [(0, zR 91)] [zR 96, zR 91] (cF198, cD145, 97, 21097) zmV (some (cF257, cD236, 126, 172044))
    refine zO_dup dX12_init_186 rfl ?_
    refine zO_bipush dX12_init_187 (by decide) ?_
    refine zO_bipush dX12_init_189 (by decide) ?_
    refine zO_bast (z := 97) (j := 25) dX12_init_191 (show (cF198 96).1 = 22 from by decide +kernel) (show (0 : Int) ≤ 25 ∧ (25 : Int) < (cF198 96).2.1 from by decide +kernel) (by decide) ?_
    change zO l E (d) YX12_init 192 [(0, zR 91)] [zR 96, zR 91] (cF198, cD146, 97, 21097) zmV (some (cF257, cD236, 126, 172044))
    refine zO_dup dX12_init_192 rfl ?_
    refine zO_bipush dX12_init_193 (by decide) ?_
    refine zO_bipush dX12_init_195 (by decide) ?_
    refine zO_bast (z := 110) (j := 26) dX12_init_197 (show (cF198 96).1 = 22 from by decide +kernel) (show (0 : Int) ≤ 26 ∧ (26 : Int) < (cF198 96).2.1 from by decide +kernel) (by decide) ?_
    change zO l E (d) YX12_init 198 [(0, zR 91)] [zR 96, zR 91] (cF198, cD147, 97, 21097) zmV (some (cF257, cD236, 126, 172044))
    refine zO_dup dX12_init_198 rfl ?_
    refine zO_bipush dX12_init_199 (by decide) ?_
    refine zO_bipush dX12_init_201 (by decide) ?_
    refine zO_bast (z := 100) (j := 27) dX12_init_203 (show (cF198 96).1 = 22 from by decide +kernel) (show (0 : Int) ≤ 27 ∧ (27 : Int) < (cF198 96).2.1 from by decide +kernel) (by decide) ?_
    change zO l E (d) YX12_init 204 [(0, zR 91)] [zR 96, zR 91] (cF198, cD148, 97, 21097) zmV (some (cF257, cD236, 126, 172044))
    refine zO_dup dX12_init_204 rfl ?_
    refine zO_bipush dX12_init_205 (by decide) ?_
    refine zO_bipush dX12_init_207 (by decide) ?_
    refine zO_bast (z := 32) (j := 28) dX12_init_209 (show (cF198 96).1 = 22 from by decide +kernel) (show (0 : Int) ≤ 28 ∧ (28 : Int) < (cF198 96).2.1 from by decide +kernel) (by decide) ?_
    change zO l E (d) YX12_init 210 [(0, zR 91)] [zR 96, zR 91] (cF198, cD149, 97, 21097) zmV (some (cF257, cD236, 126, 172044))
    refine zO_dup dX12_init_210 rfl ?_
    refine zO_bipush dX12_init_211 (by decide) ?_
    refine zO_bipush dX12_init_213 (by decide) ?_
    refine zO_bast (z := 110) (j := 29) dX12_init_215 (show (cF198 96).1 = 22 from by decide +kernel) (show (0 : Int) ≤ 29 ∧ (29 : Int) < (cF198 96).2.1 from by decide +kernel) (by decide) ?_
    change zO l E (d) YX12_init 216 [(0, zR 91)] [zR 96, zR 91] (cF198, cD150, 97, 21097) zmV (some (cF257, cD236, 126, 172044))
    refine zO_dup dX12_init_216 rfl ?_
    refine zO_bipush dX12_init_217 (by decide) ?_
    refine zO_bipush dX12_init_219 (by decide) ?_
    refine zO_bast (z := 111) (j := 30) dX12_init_221 (show (cF198 96).1 = 22 from by decide +kernel) (show (0 : Int) ≤ 30 ∧ (30 : Int) < (cF198 96).2.1 from by decide +kernel) (by decide) ?_
    change zO l E (d) YX12_init 222 [(0, zR 91)] [zR 96, zR 91] (cF198, cD151, 97, 21097) zmV (some (cF257, cD236, 126, 172044))
    refine zO_dup dX12_init_222 rfl ?_
    refine zO_bipush dX12_init_223 (by decide) ?_
    refine zO_bipush dX12_init_225 (by decide) ?_
    refine zO_bast (z := 116) (j := 31) dX12_init_227 (show (cF198 96).1 = 22 from by decide +kernel) (show (0 : Int) ≤ 31 ∧ (31 : Int) < (cF198 96).2.1 from by decide +kernel) (by decide) ?_
    change zO l E (d) YX12_init 228 [(0, zR 91)] [zR 96, zR 91] (cF198, cD152, 97, 21097) zmV (some (cF257, cD236, 126, 172044))
    refine zO_dup dX12_init_228 rfl ?_
    refine zO_bipush dX12_init_229 (by decide) ?_
    refine zO_bipush dX12_init_231 (by decide) ?_
    refine zO_bast (z := 32) (j := 32) dX12_init_233 (show (cF198 96).1 = 22 from by decide +kernel) (show (0 : Int) ≤ 32 ∧ (32 : Int) < (cF198 96).2.1 from by decide +kernel) (by decide) ?_
    change zO l E (d) YX12_init 234 [(0, zR 91)] [zR 96, zR 91] (cF198, cD153, 97, 21097) zmV (some (cF257, cD236, 126, 172044))
    refine zO_dup dX12_init_234 rfl ?_
    refine zO_bipush dX12_init_235 (by decide) ?_
    refine zO_bipush dX12_init_237 (by decide) ?_
    refine zO_bast (z := 107) (j := 33) dX12_init_239 (show (cF198 96).1 = 22 from by decide +kernel) (show (0 : Int) ≤ 33 ∧ (33 : Int) < (cF198 96).2.1 from by decide +kernel) (by decide) ?_
    change zO l E (d) YX12_init 240 [(0, zR 91)] [zR 96, zR 91] (cF198, cD154, 97, 21097) zmV (some (cF257, cD236, 126, 172044))
    refine zO_dup dX12_init_240 rfl ?_
    refine zO_bipush dX12_init_241 (by decide) ?_
    refine zO_bipush dX12_init_243 (by decide) ?_
    refine zO_bast (z := 105) (j := 34) dX12_init_245 (show (cF198 96).1 = 22 from by decide +kernel) (show (0 : Int) ≤ 34 ∧ (34 : Int) < (cF198 96).2.1 from by decide +kernel) (by decide) ?_
    change zO l E (d) YX12_init 246 [(0, zR 91)] [zR 96, zR 91] (cF198, cD155, 97, 21097) zmV (some (cF257, cD236, 126, 172044))
    refine zO_dup dX12_init_246 rfl ?_
    refine zO_bipush dX12_init_247 (by decide) ?_
    refine zO_bipush dX12_init_249 (by decide) ?_
    refine zO_bast (z := 110) (j := 35) dX12_init_251 (show (cF198 96).1 = 22 from by decide +kernel) (show (0 : Int) ≤ 35 ∧ (35 : Int) < (cF198 96).2.1 from by decide +kernel) (by decide) ?_
    change zO l E (d) YX12_init 252 [(0, zR 91)] [zR 96, zR 91] (cF198, cD156, 97, 21097) zmV (some (cF257, cD236, 126, 172044))
    refine zO_dup dX12_init_252 rfl ?_
    refine zO_bipush dX12_init_253 (by decide) ?_
    refine zO_bipush dX12_init_255 (by decide) ?_
    refine zO_bast (z := 103) (j := 36) dX12_init_257 (show (cF198 96).1 = 22 from by decide +kernel) (show (0 : Int) ≤ 36 ∧ (36 : Int) < (cF198 96).2.1 from by decide +kernel) (by decide) ?_
    change zO l E (d) YX12_init 258 [(0, zR 91)] [zR 96, zR 91] (cF198, cD157, 97, 21097) zmV (some (cF257, cD236, 126, 172044))
    refine zO_dup dX12_init_258 rfl ?_
    refine zO_bipush dX12_init_259 (by decide) ?_
    refine zO_bipush dX12_init_261 (by decide) ?_
    refine zO_bast (z := 32) (j := 37) dX12_init_263 (show (cF198 96).1 = 22 from by decide +kernel) (show (0 : Int) ≤ 37 ∧ (37 : Int) < (cF198 96).2.1 from by decide +kernel) (by decide) ?_
    change zO l E (d) YX12_init 264 [(0, zR 91)] [zR 96, zR 91] (cF198, cD158, 97, 21097) zmV (some (cF257, cD236, 126, 172044))
    refine zO_dup dX12_init_264 rfl ?_
    refine zO_bipush dX12_init_265 (by decide) ?_
    refine zO_bipush dX12_init_267 (by decide) ?_
    refine zO_bast (z := 112) (j := 38) dX12_init_269 (show (cF198 96).1 = 22 from by decide +kernel) (show (0 : Int) ≤ 38 ∧ (38 : Int) < (cF198 96).2.1 from by decide +kernel) (by decide) ?_
    change zO l E (d) YX12_init 270 [(0, zR 91)] [zR 96, zR 91] (cF198, cD159, 97, 21097) zmV (some (cF257, cD236, 126, 172044))
    refine zO_dup dX12_init_270 rfl ?_
    refine zO_bipush dX12_init_271 (by decide) ?_
    refine zO_bipush dX12_init_273 (by decide) ?_
    refine zO_bast (z := 97) (j := 39) dX12_init_275 (show (cF198 96).1 = 22 from by decide +kernel) (show (0 : Int) ≤ 39 ∧ (39 : Int) < (cF198 96).2.1 from by decide +kernel) (by decide) ?_
    change zO l E (d) YX12_init 276 [(0, zR 91)] [zR 96, zR 91] (cF198, cD160, 97, 21097) zmV (some (cF257, cD236, 126, 172044))
    refine zO_dup dX12_init_276 rfl ?_
    refine zO_bipush dX12_init_277 (by decide) ?_
    refine zO_bipush dX12_init_279 (by decide) ?_
    refine zO_bast (z := 103) (j := 40) dX12_init_281 (show (cF198 96).1 = 22 from by decide +kernel) (show (0 : Int) ≤ 40 ∧ (40 : Int) < (cF198 96).2.1 from by decide +kernel) (by decide) ?_
    change zO l E (d) YX12_init 282 [(0, zR 91)] [zR 96, zR 91] (cF198, cD161, 97, 21097) zmV (some (cF257, cD236, 126, 172044))
    refine zO_dup dX12_init_282 rfl ?_
    refine zO_bipush dX12_init_283 (by decide) ?_
    refine zO_bipush dX12_init_285 (by decide) ?_
    refine zO_bast (z := 101) (j := 41) dX12_init_287 (show (cF198 96).1 = 22 from by decide +kernel) (show (0 : Int) ≤ 41 ∧ (41 : Int) < (cF198 96).2.1 from by decide +kernel) (by decide) ?_
    change zO l E (d) YX12_init 288 [(0, zR 91)] [zR 96, zR 91] (cF198, cD162, 97, 21097) zmV (some (cF257, cD236, 126, 172044))
    refine zO_dup dX12_init_288 rfl ?_
    refine zO_bipush dX12_init_289 (by decide) ?_
    refine zO_bipush dX12_init_291 (by decide) ?_
    refine zO_bast (z := 115) (j := 42) dX12_init_293 (show (cF198 96).1 = 22 from by decide +kernel) (show (0 : Int) ≤ 42 ∧ (42 : Int) < (cF198 96).2.1 from by decide +kernel) (by decide) ?_
    change zO l E (d) YX12_init 294 [(0, zR 91)] [zR 96, zR 91] (cF198, cD163, 97, 21097) zmV (some (cF257, cD236, 126, 172044))
    refine zO_dup dX12_init_294 rfl ?_
    refine zO_bipush dX12_init_295 (by decide) ?_
    refine zO_bipush dX12_init_297 (by decide) ?_
    refine zO_bast (z := 32) (j := 43) dX12_init_299 (show (cF198 96).1 = 22 from by decide +kernel) (show (0 : Int) ≤ 43 ∧ (43 : Int) < (cF198 96).2.1 from by decide +kernel) (by decide) ?_
    change zO l E (d) YX12_init 300 [(0, zR 91)] [zR 96, zR 91] (cF198, cD164, 97, 21097) zmV (some (cF257, cD236, 126, 172044))
    refine zO_dup dX12_init_300 rfl ?_
    refine zO_bipush dX12_init_301 (by decide) ?_
    refine zO_bipush dX12_init_303 (by decide) ?_
    refine zO_bast (z := 108) (j := 44) dX12_init_305 (show (cF198 96).1 = 22 from by decide +kernel) (show (0 : Int) ≤ 44 ∧ (44 : Int) < (cF198 96).2.1 from by decide +kernel) (by decide) ?_
    change zO l E (d) YX12_init 306 [(0, zR 91)] [zR 96, zR 91] (cF198, cD165, 97, 21097) zmV (some (cF257, cD236, 126, 172044))
    refine zO_dup dX12_init_306 rfl ?_
    refine zO_bipush dX12_init_307 (by decide) ?_
    refine zO_bipush dX12_init_309 (by decide) ?_
    refine zO_bast (z := 101) (j := 45) dX12_init_311 (show (cF198 96).1 = 22 from by decide +kernel) (show (0 : Int) ≤ 45 ∧ (45 : Int) < (cF198 96).2.1 from by decide +kernel) (by decide) ?_
    change zO l E (d) YX12_init 312 [(0, zR 91)] [zR 96, zR 91] (cF198, cD166, 97, 21097) zmV (some (cF257, cD236, 126, 172044))
    refine zO_dup dX12_init_312 rfl ?_
    refine zO_bipush dX12_init_313 (by decide) ?_
    refine zO_bipush dX12_init_315 (by decide) ?_
    refine zO_bast (z := 118) (j := 46) dX12_init_317 (show (cF198 96).1 = 22 from by decide +kernel) (show (0 : Int) ≤ 46 ∧ (46 : Int) < (cF198 96).2.1 from by decide +kernel) (by decide) ?_
    change zO l E (d) YX12_init 318 [(0, zR 91)] [zR 96, zR 91] (cF198, cD167, 97, 21097) zmV (some (cF257, cD236, 126, 172044))
    refine zO_dup dX12_init_318 rfl ?_
    refine zO_bipush dX12_init_319 (by decide) ?_
    refine zO_bipush dX12_init_321 (by decide) ?_
    refine zO_bast (z := 101) (j := 47) dX12_init_323 (show (cF198 96).1 = 22 from by decide +kernel) (show (0 : Int) ≤ 47 ∧ (47 : Int) < (cF198 96).2.1 from by decide +kernel) (by decide) ?_
    change zO l E (d) YX12_init 324 [(0, zR 91)] [zR 96, zR 91] (cF198, cD168, 97, 21097) zmV (some (cF257, cD236, 126, 172044))
    refine zO_dup dX12_init_324 rfl ?_
    refine zO_bipush dX12_init_325 (by decide) ?_
    refine zO_bipush dX12_init_327 (by decide) ?_
    refine zO_bast (z := 108) (j := 48) dX12_init_329 (show (cF198 96).1 = 22 from by decide +kernel) (show (0 : Int) ≤ 48 ∧ (48 : Int) < (cF198 96).2.1 from by decide +kernel) (by decide) ?_
    change zO l E (d) YX12_init 330 [(0, zR 91)] [zR 96, zR 91] (cF198, cD169, 97, 21097) zmV (some (cF257, cD236, 126, 172044))
    refine zO_dup dX12_init_330 rfl ?_
    refine zO_bipush dX12_init_331 (by decide) ?_
    refine zO_bipush dX12_init_333 (by decide) ?_
    refine zO_bast (z := 32) (j := 49) dX12_init_335 (show (cF198 96).1 = 22 from by decide +kernel) (show (0 : Int) ≤ 49 ∧ (49 : Int) < (cF198 96).2.1 from by decide +kernel) (by decide) ?_
    change zO l E (d) YX12_init 336 [(0, zR 91)] [zR 96, zR 91] (cF198, cD170, 97, 21097) zmV (some (cF257, cD236, 126, 172044))
    refine zO_dup dX12_init_336 rfl ?_
    refine zO_bipush dX12_init_337 (by decide) ?_
    refine zO_bipush dX12_init_339 (by decide) ?_
    refine zO_bast (z := 104) (j := 50) dX12_init_341 (show (cF198 96).1 = 22 from by decide +kernel) (show (0 : Int) ≤ 50 ∧ (50 : Int) < (cF198 96).2.1 from by decide +kernel) (by decide) ?_
    change zO l E (d) YX12_init 342 [(0, zR 91)] [zR 96, zR 91] (cF198, cD171, 97, 21097) zmV (some (cF257, cD236, 126, 172044))
    refine zO_dup dX12_init_342 rfl ?_
    refine zO_bipush dX12_init_343 (by decide) ?_
    refine zO_bipush dX12_init_345 (by decide) ?_
    refine zO_bast (z := 101) (j := 51) dX12_init_347 (show (cF198 96).1 = 22 from by decide +kernel) (show (0 : Int) ≤ 51 ∧ (51 : Int) < (cF198 96).2.1 from by decide +kernel) (by decide) ?_
    change zO l E (d) YX12_init 348 [(0, zR 91)] [zR 96, zR 91] (cF198, cD172, 97, 21097) zmV (some (cF257, cD236, 126, 172044))
    refine zO_dup dX12_init_348 rfl ?_
    refine zO_bipush dX12_init_349 (by decide) ?_
    refine zO_bipush dX12_init_351 (by decide) ?_
    refine zO_bast (z := 108) (j := 52) dX12_init_353 (show (cF198 96).1 = 22 from by decide +kernel) (show (0 : Int) ≤ 52 ∧ (52 : Int) < (cF198 96).2.1 from by decide +kernel) (by decide) ?_
    change zO l E (d) YX12_init 354 [(0, zR 91)] [zR 96, zR 91] (cF198, cD173, 97, 21097) zmV (some (cF257, cD236, 126, 172044))
    refine zO_dup dX12_init_354 rfl ?_
    refine zO_bipush dX12_init_355 (by decide) ?_
    refine zO_bipush dX12_init_357 (by decide) ?_
    refine zO_bast (z := 112) (j := 53) dX12_init_359 (show (cF198 96).1 = 22 from by decide +kernel) (show (0 : Int) ≤ 53 ∧ (53 : Int) < (cF198 96).2.1 from by decide +kernel) (by decide) ?_
    change zO l E (d) YX12_init 360 [(0, zR 91)] [zR 96, zR 91] (cF198, cD174, 97, 21097) zmV (some (cF257, cD236, 126, 172044))
    refine zO_dup dX12_init_360 rfl ?_
    refine zO_bipush dX12_init_361 (by decide) ?_
    refine zO_bipush dX12_init_363 (by decide) ?_
    refine zO_bast (z := 101) (j := 54) dX12_init_365 (show (cF198 96).1 = 22 from by decide +kernel) (show (0 : Int) ≤ 54 ∧ (54 : Int) < (cF198 96).2.1 from by decide +kernel) (by decide) ?_
    change zO l E (d) YX12_init 366 [(0, zR 91)] [zR 96, zR 91] (cF198, cD175, 97, 21097) zmV (some (cF257, cD236, 126, 172044))
    refine zO_dup dX12_init_366 rfl ?_
    refine zO_bipush dX12_init_367 (by decide) ?_
    refine zO_bipush dX12_init_369 (by decide) ?_
    refine zO_bast (z := 100) (j := 55) dX12_init_371 (show (cF198 96).1 = 22 from by decide +kernel) (show (0 : Int) ≤ 55 ∧ (55 : Int) < (cF198 96).2.1 from by decide +kernel) (by decide) ?_
    change zO l E (d) YX12_init 372 [(0, zR 91)] [zR 96, zR 91] (cF198, cD176, 97, 21097) zmV (some (cF257, cD236, 126, 172044))
    refine zO_dup dX12_init_372 rfl ?_
    refine zO_bipush dX12_init_373 (by decide) ?_
    refine zO_bipush dX12_init_375 (by decide) ?_
    refine zO_bast (z := 32) (j := 56) dX12_init_377 (show (cF198 96).1 = 22 from by decide +kernel) (show (0 : Int) ≤ 56 ∧ (56 : Int) < (cF198 96).2.1 from by decide +kernel) (by decide) ?_
    change zO l E (d) YX12_init 378 [(0, zR 91)] [zR 96, zR 91] (cF198, cD177, 97, 21097) zmV (some (cF257, cD236, 126, 172044))
    refine zO_dup dX12_init_378 rfl ?_
    refine zO_bipush dX12_init_379 (by decide) ?_
    refine zO_bipush dX12_init_381 (by decide) ?_
    refine zO_bast (z := 108) (j := 57) dX12_init_383 (show (cF198 96).1 = 22 from by decide +kernel) (show (0 : Int) ≤ 57 ∧ (57 : Int) < (cF198 96).2.1 from by decide +kernel) (by decide) ?_
    change zO l E (d) YX12_init 384 [(0, zR 91)] [zR 96, zR 91] (cF198, cD178, 97, 21097) zmV (some (cF257, cD236, 126, 172044))
    refine zO_dup dX12_init_384 rfl ?_
    refine zO_bipush dX12_init_385 (by decide) ?_
    refine zO_bipush dX12_init_387 (by decide) ?_
    refine zO_bast (z := 105) (j := 58) dX12_init_389 (show (cF198 96).1 = 22 from by decide +kernel) (show (0 : Int) ≤ 58 ∧ (58 : Int) < (cF198 96).2.1 from by decide +kernel) (by decide) ?_
    change zO l E (d) YX12_init 390 [(0, zR 91)] [zR 96, zR 91] (cF198, cD179, 97, 21097) zmV (some (cF257, cD236, 126, 172044))
    refine zO_dup dX12_init_390 rfl ?_
    refine zO_bipush dX12_init_391 (by decide) ?_
    refine zO_bipush dX12_init_393 (by decide) ?_
    refine zO_bast (z := 107) (j := 59) dX12_init_395 (show (cF198 96).1 = 22 from by decide +kernel) (show (0 : Int) ≤ 59 ∧ (59 : Int) < (cF198 96).2.1 from by decide +kernel) (by decide) ?_
    change zO l E (d) YX12_init 396 [(0, zR 91)] [zR 96, zR 91] (cF198, cD180, 97, 21097) zmV (some (cF257, cD236, 126, 172044))
    refine zO_dup dX12_init_396 rfl ?_
    refine zO_bipush dX12_init_397 (by decide) ?_
    refine zO_bipush dX12_init_399 (by decide) ?_
    refine zO_bast (z := 101) (j := 60) dX12_init_401 (show (cF198 96).1 = 22 from by decide +kernel) (show (0 : Int) ≤ 60 ∧ (60 : Int) < (cF198 96).2.1 from by decide +kernel) (by decide) ?_
    change zO l E (d) YX12_init 402 [(0, zR 91)] [zR 96, zR 91] (cF198, cD181, 97, 21097) zmV (some (cF257, cD236, 126, 172044))
    refine zO_dup dX12_init_402 rfl ?_
    refine zO_bipush dX12_init_403 (by decide) ?_
    refine zO_bipush dX12_init_405 (by decide) ?_
    refine zO_bast (z := 100) (j := 61) dX12_init_407 (show (cF198 96).1 = 22 from by decide +kernel) (show (0 : Int) ≤ 61 ∧ (61 : Int) < (cF198 96).2.1 from by decide +kernel) (by decide) ?_
    change zO l E (d) YX12_init 408 [(0, zR 91)] [zR 96, zR 91] (cF198, cD182, 97, 21097) zmV (some (cF257, cD236, 126, 172044))
    refine zO_dup dX12_init_408 rfl ?_
    refine zO_bipush dX12_init_409 (by decide) ?_
    refine zO_bipush dX12_init_411 (by decide) ?_
    refine zO_bast (z := 32) (j := 62) dX12_init_413 (show (cF198 96).1 = 22 from by decide +kernel) (show (0 : Int) ≤ 62 ∧ (62 : Int) < (cF198 96).2.1 from by decide +kernel) (by decide) ?_
    change zO l E (d) YX12_init 414 [(0, zR 91)] [zR 96, zR 91] (cF198, cD183, 97, 21097) zmV (some (cF257, cD236, 126, 172044))
    refine zO_dup dX12_init_414 rfl ?_
    refine zO_bipush dX12_init_415 (by decide) ?_
    refine zO_bipush dX12_init_417 (by decide) ?_
    refine zO_bast (z := 100) (j := 63) dX12_init_419 (show (cF198 96).1 = 22 from by decide +kernel) (show (0 : Int) ≤ 63 ∧ (63 : Int) < (cF198 96).2.1 from by decide +kernel) (by decide) ?_
    change zO l E (d) YX12_init 420 [(0, zR 91)] [zR 96, zR 91] (cF198, cD184, 97, 21097) zmV (some (cF257, cD236, 126, 172044))
    refine zO_dup dX12_init_420 rfl ?_
    refine zO_bipush dX12_init_421 (by decide) ?_
    refine zO_bipush dX12_init_423 (by decide) ?_
    refine zO_bast (z := 97) (j := 64) dX12_init_425 (show (cF198 96).1 = 22 from by decide +kernel) (show (0 : Int) ≤ 64 ∧ (64 : Int) < (cF198 96).2.1 from by decide +kernel) (by decide) ?_
    change zO l E (d) YX12_init 426 [(0, zR 91)] [zR 96, zR 91] (cF198, cD185, 97, 21097) zmV (some (cF257, cD236, 126, 172044))
    refine zO_dup dX12_init_426 rfl ?_
    refine zO_bipush dX12_init_427 (by decide) ?_
    refine zO_bipush dX12_init_429 (by decide) ?_
    refine zO_bast (z := 121) (j := 65) dX12_init_431 (show (cF198 96).1 = 22 from by decide +kernel) (show (0 : Int) ≤ 65 ∧ (65 : Int) < (cF198 96).2.1 from by decide +kernel) (by decide) ?_
    change zO l E (d) YX12_init 432 [(0, zR 91)] [zR 96, zR 91] (cF198, cD186, 97, 21097) zmV (some (cF257, cD236, 126, 172044))
    refine zO_dup dX12_init_432 rfl ?_
    refine zO_bipush dX12_init_433 (by decide) ?_
    refine zO_bipush dX12_init_435 (by decide) ?_
    refine zO_bast (z := 32) (j := 66) dX12_init_437 (show (cF198 96).1 = 22 from by decide +kernel) (show (0 : Int) ≤ 66 ∧ (66 : Int) < (cF198 96).2.1 from by decide +kernel) (by decide) ?_
    change zO l E (d) YX12_init 438 [(0, zR 91)] [zR 96, zR 91] (cF198, cD187, 97, 21097) zmV (some (cF257, cD236, 126, 172044))
    refine zO_dup dX12_init_438 rfl ?_
    refine zO_bipush dX12_init_439 (by decide) ?_
    refine zO_bipush dX12_init_441 (by decide) ?_
    refine zO_bast (z := 113) (j := 67) dX12_init_443 (show (cF198 96).1 = 22 from by decide +kernel) (show (0 : Int) ≤ 67 ∧ (67 : Int) < (cF198 96).2.1 from by decide +kernel) (by decide) ?_
    change zO l E (d) YX12_init 444 [(0, zR 91)] [zR 96, zR 91] (cF198, cD188, 97, 21097) zmV (some (cF257, cD236, 126, 172044))
    refine zO_dup dX12_init_444 rfl ?_
    refine zO_bipush dX12_init_445 (by decide) ?_
    refine zO_bipush dX12_init_447 (by decide) ?_
    refine zO_bast (z := 117) (j := 68) dX12_init_449 (show (cF198 96).1 = 22 from by decide +kernel) (show (0 : Int) ≤ 68 ∧ (68 : Int) < (cF198 96).2.1 from by decide +kernel) (by decide) ?_
    change zO l E (d) YX12_init 450 [(0, zR 91)] [zR 96, zR 91] (cF198, cD189, 97, 21097) zmV (some (cF257, cD236, 126, 172044))
    refine zO_dup dX12_init_450 rfl ?_
    refine zO_bipush dX12_init_451 (by decide) ?_
    refine zO_bipush dX12_init_453 (by decide) ?_
    refine zO_bast (z := 101) (j := 69) dX12_init_455 (show (cF198 96).1 = 22 from by decide +kernel) (show (0 : Int) ≤ 69 ∧ (69 : Int) < (cF198 96).2.1 from by decide +kernel) (by decide) ?_
    change zO l E (d) YX12_init 456 [(0, zR 91)] [zR 96, zR 91] (cF198, cD190, 97, 21097) zmV (some (cF257, cD236, 126, 172044))
    refine zO_dup dX12_init_456 rfl ?_
    refine zO_bipush dX12_init_457 (by decide) ?_
    refine zO_bipush dX12_init_459 (by decide) ?_
    refine zO_bast (z := 115) (j := 70) dX12_init_461 (show (cF198 96).1 = 22 from by decide +kernel) (show (0 : Int) ≤ 70 ∧ (70 : Int) < (cF198 96).2.1 from by decide +kernel) (by decide) ?_
    change zO l E (d) YX12_init 462 [(0, zR 91)] [zR 96, zR 91] (cF198, cD191, 97, 21097) zmV (some (cF257, cD236, 126, 172044))
    refine zO_dup dX12_init_462 rfl ?_
    refine zO_bipush dX12_init_463 (by decide) ?_
    refine zO_bipush dX12_init_465 (by decide) ?_
    refine zO_bast (z := 116) (j := 71) dX12_init_467 (show (cF198 96).1 = 22 from by decide +kernel) (show (0 : Int) ≤ 71 ∧ (71 : Int) < (cF198 96).2.1 from by decide +kernel) (by decide) ?_
    change zO l E (d) YX12_init 468 [(0, zR 91)] [zR 96, zR 91] (cF198, cD192, 97, 21097) zmV (some (cF257, cD236, 126, 172044))
    refine zO_dup dX12_init_468 rfl ?_
    refine zO_bipush dX12_init_469 (by decide) ?_
    refine zO_bipush dX12_init_471 (by decide) ?_
    refine zO_bast (z := 105) (j := 72) dX12_init_473 (show (cF198 96).1 = 22 from by decide +kernel) (show (0 : Int) ≤ 72 ∧ (72 : Int) < (cF198 96).2.1 from by decide +kernel) (by decide) ?_
    change zO l E (d) YX12_init 474 [(0, zR 91)] [zR 96, zR 91] (cF198, cD193, 97, 21097) zmV (some (cF257, cD236, 126, 172044))
    refine zO_dup dX12_init_474 rfl ?_
    refine zO_bipush dX12_init_475 (by decide) ?_
    refine zO_bipush dX12_init_477 (by decide) ?_
    refine zO_bast (z := 111) (j := 73) dX12_init_479 (show (cF198 96).1 = 22 from by decide +kernel) (show (0 : Int) ≤ 73 ∧ (73 : Int) < (cF198 96).2.1 from by decide +kernel) (by decide) ?_
    change zO l E (d) YX12_init 480 [(0, zR 91)] [zR 96, zR 91] (cF198, cD194, 97, 21097) zmV (some (cF257, cD236, 126, 172044))
    refine zO_dup dX12_init_480 rfl ?_
    refine zO_bipush dX12_init_481 (by decide) ?_
    refine zO_bipush dX12_init_483 (by decide) ?_
    refine zO_bast (z := 110) (j := 74) dX12_init_485 (show (cF198 96).1 = 22 from by decide +kernel) (show (0 : Int) ≤ 74 ∧ (74 : Int) < (cF198 96).2.1 from by decide +kernel) (by decide) ?_
    change zO l E (d) YX12_init 486 [(0, zR 91)] [zR 96, zR 91] (cF198, cD195, 97, 21097) zmV (some (cF257, cD236, 126, 172044))
    refine zO_dup dX12_init_486 rfl ?_
    refine zO_bipush dX12_init_487 (by decide) ?_
    refine zO_bipush dX12_init_489 (by decide) ?_
    refine zO_bast (z := 32) (j := 75) dX12_init_491 (show (cF198 96).1 = 22 from by decide +kernel) (show (0 : Int) ≤ 75 ∧ (75 : Int) < (cF198 96).2.1 from by decide +kernel) (by decide) ?_
    change zO l E (d) YX12_init 492 [(0, zR 91)] [zR 96, zR 91] (cF198, cD196, 97, 21097) zmV (some (cF257, cD236, 126, 172044))
    refine zO_putF (c := 12) (k := 6) (C := RX12) (z := ((96 : Nat) : Int)) dX12_init_492 wF_X12_30 rfl inX12 tyX12_ok nmX12 (by decide) (by decide) rfl rfl rfl (show (cF198 91).1 = 13 from by decide +kernel) (zq_nat 96).symm trivial ?_
    change zO l E (d) YX12_init 495 [(0, zR 91)] [] (cF199, cD196, 97, 21097) zmV (some (cF257, cD236, 126, 172044))
    refine zO_aload_n dX12_init_495 rfl (zR_P _) ?_
    refine zO_sipush dX12_init_496 (by decide) ?_
    refine zO_newi (kd := 22) (z := 400) dX12_init_499 (by decide) (by decide) (by decide) ?_
    change zO l E (d) YX12_init 501 [(0, zR 91)] [zR 97, zR 91] (cF200, cD197, 98, 21497) zmV (some (cF257, cD236, 126, 172044))
    refine zO_putF (c := 12) (k := 7) (C := RX12) (z := ((97 : Nat) : Int)) dX12_init_501 wF_X12_34 rfl inX12 tyX12_ok nmX12 (by decide) (by decide) rfl rfl rfl (show (cF200 91).1 = 13 from by decide +kernel) (zq_nat 97).symm trivial ?_
    change zO l E (d) YX12_init 504 [(0, zR 91)] [] (cF201, cD197, 98, 21497) zmV (some (cF257, cD236, 126, 172044))
    refine zO_aload_n dX12_init_504 rfl (zR_P _) ?_
    refine zO_iconst dX12_init_505 (by decide) ?_
    refine zO_newi (kd := 20) (z := 5) dX12_init_506 (by decide) (by decide) (by decide) ?_
    change zO l E (d) YX12_init 508 [(0, zR 91)] [zR 98, zR 91] (cF202, cD198, 99, 21502) zmV (some (cF257, cD236, 126, 172044))
    refine zO_putF (c := 12) (k := 8) (C := RX12) (z := ((98 : Nat) : Int)) dX12_init_508 wF_X12_37 rfl inX12 tyX12_ok nmX12 (by decide) (by decide) rfl rfl rfl (show (cF202 91).1 = 13 from by decide +kernel) (zq_nat 98).symm trivial ?_
    change zO l E (d) YX12_init 511 [(0, zR 91)] [] (cF203, cD198, 99, 21502) zmV (some (cF257, cD236, 126, 172044))
    refine zO_aload_n dX12_init_511 rfl (zR_P _) ?_
    refine zO_iconst dX12_init_512 (by decide) ?_
    refine ptI12 (k := 10) (z := (-1)) dX12_init_513 wF_X12_40 (by decide) rfl (show (cF203 91).1 = 13 from by decide +kernel) rfl ?_
    change zO l E (d) YX12_init 516 [(0, zR 91)] [] (cF203, cD199, 99, 21502) zmV (some (cF257, cD236, 126, 172044))
    refine zO_aload_n dX12_init_516 rfl (zR_P _) ?_
    refine zO_sipush dX12_init_517 (by decide) ?_
    refine zO_newi (kd := 20) (z := 401) dX12_init_520 (by decide) (by decide) (by decide) ?_
    change zO l E (d) YX12_init 522 [(0, zR 91)] [zR 99, zR 91] (cF204, cD200, 100, 21903) zmV (some (cF257, cD236, 126, 172044))
    refine zO_putF (c := 12) (k := 11) (C := RX12) (z := ((99 : Nat) : Int)) dX12_init_522 wF_X12_43 rfl inX12 tyX12_ok nmX12 (by decide) (by decide) rfl rfl rfl (show (cF204 91).1 = 13 from by decide +kernel) (zq_nat 99).symm trivial ?_
    change zO l E (d) YX12_init 525 [(0, zR 91)] [] (cF205, cD200, 100, 21903) zmV (some (cF257, cD236, 126, 172044))
    refine zO_aload_n dX12_init_525 rfl (zR_P _) ?_
    refine zO_sipush dX12_init_526 (by decide) ?_
    refine zO_newi (kd := 20) (z := 401) dX12_init_529 (by decide) (by decide) (by decide) ?_
    change zO l E (d) YX12_init 531 [(0, zR 91)] [zR 100, zR 91] (cF206, cD201, 101, 22304) zmV (some (cF257, cD236, 126, 172044))
    refine zO_putF (c := 12) (k := 12) (C := RX12) (z := ((100 : Nat) : Int)) dX12_init_531 wF_X12_46 rfl inX12 tyX12_ok nmX12 (by decide) (by decide) rfl rfl rfl (show (cF206 91).1 = 13 from by decide +kernel) (zq_nat 100).symm trivial ?_
    change zO l E (d) YX12_init 534 [(0, zR 91)] [] (cF207, cD201, 101, 22304) zmV (some (cF257, cD236, 126, 172044))
    refine zO_aload_n dX12_init_534 rfl (zR_P _) ?_
    refine zO_sipush dX12_init_535 (by decide) ?_
    refine zO_newi (kd := 20) (z := 401) dX12_init_538 (by decide) (by decide) (by decide) ?_
    change zO l E (d) YX12_init 540 [(0, zR 91)] [zR 101, zR 91] (cF208, cD202, 102, 22705) zmV (some (cF257, cD236, 126, 172044))
    refine zO_putF (c := 12) (k := 13) (C := RX12) (z := ((101 : Nat) : Int)) dX12_init_540 wF_X12_49 rfl inX12 tyX12_ok nmX12 (by decide) (by decide) rfl rfl rfl (show (cF208 91).1 = 13 from by decide +kernel) (zq_nat 101).symm trivial ?_
    change zO l E (d) YX12_init 543 [(0, zR 91)] [] (cF209, cD202, 102, 22705) zmV (some (cF257, cD236, 126, 172044))
    refine zO_aload_n dX12_init_543 rfl (zR_P _) ?_
    refine zO_bipush dX12_init_544 (by decide) ?_
    refine zO_newi (kd := 20) (z := 7) dX12_init_546 (by decide) (by decide) (by decide) ?_
    change zO l E (d) YX12_init 548 [(0, zR 91)] [zR 102, zR 91] (cF210, cD203, 103, 22712) zmV (some (cF257, cD236, 126, 172044))
    refine zO_putF (c := 12) (k := 21) (C := RX12) (z := ((102 : Nat) : Int)) dX12_init_548 wF_X12_52 rfl inX12 tyX12_ok nmX12 (by decide) (by decide) rfl rfl rfl (show (cF210 91).1 = 13 from by decide +kernel) (zq_nat 102).symm trivial ?_
    change zO l E (d) YX12_init 551 [(0, zR 91)] [] (cF211, cD203, 103, 22712) zmV (some (cF257, cD236, 126, 172044))
    refine zO_aload_n dX12_init_551 rfl (zR_P _) ?_
    refine zO_iconst dX12_init_552 (by decide) ?_
    refine zO_newi (kd := 20) (z := 3) dX12_init_553 (by decide) (by decide) (by decide) ?_
    change zO l E (d) YX12_init 555 [(0, zR 91)] [zR 103, zR 91] (cF212, cD204, 104, 22715) zmV (some (cF257, cD236, 126, 172044))
    refine zO_putF (c := 12) (k := 22) (C := RX12) (z := ((103 : Nat) : Int)) dX12_init_555 wF_X12_55 rfl inX12 tyX12_ok nmX12 (by decide) (by decide) rfl rfl rfl (show (cF212 91).1 = 13 from by decide +kernel) (zq_nat 103).symm trivial ?_
    change zO l E (d) YX12_init 558 [(0, zR 91)] [] (cF213, cD204, 104, 22715) zmV (some (cF257, cD236, 126, 172044))
    refine zO_aload_n dX12_init_558 rfl (zR_P _) ?_
    refine zO_iconst dX12_init_559 (by decide) ?_
    refine zO_newi (kd := 20) (z := 3) dX12_init_560 (by decide) (by decide) (by decide) ?_
    change zO l E (d) YX12_init 562 [(0, zR 91)] [zR 104, zR 91] (cF214, cD205, 105, 22718) zmV (some (cF257, cD236, 126, 172044))
    refine zO_putF (c := 12) (k := 23) (C := RX12) (z := ((104 : Nat) : Int)) dX12_init_562 wF_X12_58 rfl inX12 tyX12_ok nmX12 (by decide) (by decide) rfl rfl rfl (show (cF214 91).1 = 13 from by decide +kernel) (zq_nat 104).symm trivial ?_
    change zO l E (d) YX12_init 565 [(0, zR 91)] [] (cF215, cD205, 105, 22718) zmV (some (cF257, cD236, 126, 172044))
    refine zO_aload_n dX12_init_565 rfl (zR_P _) ?_
    refine zO_iconst dX12_init_566 (by decide) ?_
    refine zO_newi (kd := 20) (z := 3) dX12_init_567 (by decide) (by decide) (by decide) ?_
    change zO l E (d) YX12_init 569 [(0, zR 91)] [zR 105, zR 91] (cF216, cD206, 106, 22721) zmV (some (cF257, cD236, 126, 172044))
    refine zO_putF (c := 12) (k := 24) (C := RX12) (z := ((105 : Nat) : Int)) dX12_init_569 wF_X12_61 rfl inX12 tyX12_ok nmX12 (by decide) (by decide) rfl rfl rfl (show (cF216 91).1 = 13 from by decide +kernel) (zq_nat 105).symm trivial ?_
    change zO l E (d) YX12_init 572 [(0, zR 91)] [] (cF217, cD206, 106, 22721) zmV (some (cF257, cD236, 126, 172044))
    refine zO_aload_n dX12_init_572 rfl (zR_P _) ?_
    refine zO_iconst dX12_init_573 (by decide) ?_
    refine zO_newi (kd := 20) (z := 3) dX12_init_574 (by decide) (by decide) (by decide) ?_
    change zO l E (d) YX12_init 576 [(0, zR 91)] [zR 106, zR 91] (cF218, cD207, 107, 22724) zmV (some (cF257, cD236, 126, 172044))
    refine zO_putF (c := 12) (k := 25) (C := RX12) (z := ((106 : Nat) : Int)) dX12_init_576 wF_X12_64 rfl inX12 tyX12_ok nmX12 (by decide) (by decide) rfl rfl rfl (show (cF218 91).1 = 13 from by decide +kernel) (zq_nat 106).symm trivial ?_
    change zO l E (d) YX12_init 579 [(0, zR 91)] [] (cF219, cD207, 107, 22724) zmV (some (cF257, cD236, 126, 172044))
    refine zO_aload_n dX12_init_579 rfl (zR_P _) ?_
    refine zO_iconst dX12_init_580 (by decide) ?_
    refine zO_newi (kd := 21) (z := 4) dX12_init_581 (by decide) (by decide) (by decide) ?_
    change zO l E (d) YX12_init 583 [(0, zR 91)] [zR 107, zR 91] (cF220, cD208, 108, 22728) zmV (some (cF257, cD236, 126, 172044))
    refine zO_putF (c := 12) (k := 26) (C := RX12) (z := ((107 : Nat) : Int)) dX12_init_583 wF_X12_67 rfl inX12 tyX12_ok nmX12 (by decide) (by decide) rfl rfl rfl (show (cF220 91).1 = 13 from by decide +kernel) (zq_nat 107).symm trivial ?_
    change zO l E (d) YX12_init 586 [(0, zR 91)] [] (cF221, cD208, 108, 22728) zmV (some (cF257, cD236, 126, 172044))
    refine zO_aload_n dX12_init_586 rfl (zR_P _) ?_
    refine zO_iconst dX12_init_587 (by decide) ?_
    refine zO_newi (kd := 21) (z := 4) dX12_init_588 (by decide) (by decide) (by decide) ?_
    change zO l E (d) YX12_init 590 [(0, zR 91)] [zR 108, zR 91] (cF222, cD209, 109, 22732) zmV (some (cF257, cD236, 126, 172044))
    refine zO_putF (c := 12) (k := 27) (C := RX12) (z := ((108 : Nat) : Int)) dX12_init_590 wF_X12_71 rfl inX12 tyX12_ok nmX12 (by decide) (by decide) rfl rfl rfl (show (cF222 91).1 = 13 from by decide +kernel) (zq_nat 108).symm trivial ?_
    change zO l E (d) YX12_init 593 [(0, zR 91)] [] (cF223, cD209, 109, 22732) zmV (some (cF257, cD236, 126, 172044))
    refine zO_aload_n dX12_init_593 rfl (zR_P _) ?_
    refine zO_ldc (n := 148176) dX12_init_594 wK_X12_74 (by decide) ?_
    refine zO_newi (kd := 20) (z := 148176) dX12_init_596 (by decide) (by decide) (by decide) ?_
    change zO l E (d) YX12_init 598 [(0, zR 91)] [zR 109, zR 91] (cF224, cD210, 110, 170908) zmV (some (cF257, cD236, 126, 172044))
    refine zO_putF (c := 12) (k := 31) (C := RX12) (z := ((109 : Nat) : Int)) dX12_init_598 wF_X12_75 rfl inX12 tyX12_ok nmX12 (by decide) (by decide) rfl rfl rfl (show (cF224 91).1 = 13 from by decide +kernel) (zq_nat 109).symm trivial ?_
    change zO l E (d) YX12_init 601 [(0, zR 91)] [] (cF225, cD210, 110, 170908) zmV (some (cF257, cD236, 126, 172044))
    refine zO_aload_n dX12_init_601 rfl (zR_P _) ?_
    refine zO_sipush dX12_init_602 (by decide) ?_
    refine zO_newi (kd := 21) (z := 441) dX12_init_605 (by decide) (by decide) (by decide) ?_
    change zO l E (d) YX12_init 607 [(0, zR 91)] [zR 110, zR 91] (cF226, cD211, 111, 171349) zmV (some (cF257, cD236, 126, 172044))
    refine zO_putF (c := 12) (k := 32) (C := RX12) (z := ((110 : Nat) : Int)) dX12_init_607 wF_X12_78 rfl inX12 tyX12_ok nmX12 (by decide) (by decide) rfl rfl rfl (show (cF226 91).1 = 13 from by decide +kernel) (zq_nat 110).symm trivial ?_
    change zO l E (d) YX12_init 610 [(0, zR 91)] [] (cF227, cD211, 111, 171349) zmV (some (cF257, cD236, 126, 172044))
    refine zO_aload_n dX12_init_610 rfl (zR_P _) ?_
    refine zO_bipush dX12_init_611 (by decide) ?_
    refine zO_newi (kd := 20) (z := 80) dX12_init_613 (by decide) (by decide) (by decide) ?_
    change zO l E (d) YX12_init 615 [(0, zR 91)] [zR 111, zR 91] (cF228, cD212, 112, 171429) zmV (some (cF257, cD236, 126, 172044))
    refine zO_putF (c := 12) (k := 33) (C := RX12) (z := ((111 : Nat) : Int)) dX12_init_615 wF_X12_81 rfl inX12 tyX12_ok nmX12 (by decide) (by decide) rfl rfl rfl (show (cF228 91).1 = 13 from by decide +kernel) (zq_nat 111).symm trivial ?_
    change zO l E (d) YX12_init 618 [(0, zR 91)] [] (cF229, cD212, 112, 171429) zmV (some (cF257, cD236, 126, 172044))
    refine zO_aload_n dX12_init_618 rfl (zR_P _) ?_
    refine zO_iconst dX12_init_619 (by decide) ?_
    refine ptI12 (k := 35) (z := (-1)) dX12_init_620 wF_X12_84 (by decide) rfl (show (cF229 91).1 = 13 from by decide +kernel) rfl ?_
    change zO l E (d) YX12_init 623 [(0, zR 91)] [] (cF229, cD213, 112, 171429) zmV (some (cF257, cD236, 126, 172044))
    refine zO_aload_n dX12_init_623 rfl (zR_P _) ?_
    refine zO_bipush dX12_init_624 (by decide) ?_
    refine zO_newi (kd := 20) (z := 20) dX12_init_626 (by decide) (by decide) (by decide) ?_
    change zO l E (d) YX12_init 628 [(0, zR 91)] [zR 112, zR 91] (cF230, cD214, 113, 171449) zmV (some (cF257, cD236, 126, 172044))
    refine zO_putF (c := 12) (k := 38) (C := RX12) (z := ((112 : Nat) : Int)) dX12_init_628 wF_X12_87 rfl inX12 tyX12_ok nmX12 (by decide) (by decide) rfl rfl rfl (show (cF230 91).1 = 13 from by decide +kernel) (zq_nat 112).symm trivial ?_
    change zO l E (d) YX12_init 631 [(0, zR 91)] [] (cF231, cD214, 113, 171449) zmV (some (cF257, cD236, 126, 172044))
    refine zO_aload_n dX12_init_631 rfl (zR_P _) ?_
    refine zO_sipush dX12_init_632 (by decide) ?_
    refine zO_newi (kd := 20) (z := 400) dX12_init_635 (by decide) (by decide) (by decide) ?_
    change zO l E (d) YX12_init 637 [(0, zR 91)] [zR 113, zR 91] (cF232, cD215, 114, 171849) zmV (some (cF257, cD236, 126, 172044))
    refine zO_putF (c := 12) (k := 39) (C := RX12) (z := ((113 : Nat) : Int)) dX12_init_637 wF_X12_90 rfl inX12 tyX12_ok nmX12 (by decide) (by decide) rfl rfl rfl (show (cF232 91).1 = 13 from by decide +kernel) (zq_nat 113).symm trivial ?_
    change zO l E (d) YX12_init 640 [(0, zR 91)] [] (cF233, cD215, 114, 171849) zmV (some (cF257, cD236, 126, 172044))
    refine zO_aload_n dX12_init_640 rfl (zR_P _) ?_
    refine zO_bipush dX12_init_641 (by decide) ?_
    refine zO_newi (kd := 20) (z := 20) dX12_init_643 (by decide) (by decide) (by decide) ?_
    change zO l E (d) YX12_init 645 [(0, zR 91)] [zR 114, zR 91] (cF234, cD216, 115, 171869) zmV (some (cF257, cD236, 126, 172044))
    refine zO_putF (c := 12) (k := 40) (C := RX12) (z := ((114 : Nat) : Int)) dX12_init_645 wF_X12_93 rfl inX12 tyX12_ok nmX12 (by decide) (by decide) rfl rfl rfl (show (cF234 91).1 = 13 from by decide +kernel) (zq_nat 114).symm trivial ?_
    change zO l E (d) YX12_init 648 [(0, zR 91)] [] (cF235, cD216, 115, 171869) zmV (some (cF257, cD236, 126, 172044))
    refine zO_aload_n dX12_init_648 rfl (zR_P _) ?_
    refine zO_bipush dX12_init_649 (by decide) ?_
    refine zO_newi (kd := 20) (z := 20) dX12_init_651 (by decide) (by decide) (by decide) ?_
    change zO l E (d) YX12_init 653 [(0, zR 91)] [zR 115, zR 91] (cF236, cD217, 116, 171889) zmV (some (cF257, cD236, 126, 172044))
    refine zO_putF (c := 12) (k := 41) (C := RX12) (z := ((115 : Nat) : Int)) dX12_init_653 wF_X12_96 rfl inX12 tyX12_ok nmX12 (by decide) (by decide) rfl rfl rfl (show (cF236 91).1 = 13 from by decide +kernel) (zq_nat 115).symm trivial ?_
    change zO l E (d) YX12_init 656 [(0, zR 91)] [] (cF237, cD217, 116, 171889) zmV (some (cF257, cD236, 126, 172044))
    refine zO_aload_n dX12_init_656 rfl (zR_P _) ?_
    refine zO_bipush dX12_init_657 (by decide) ?_
    refine zO_newi (kd := 20) (z := 20) dX12_init_659 (by decide) (by decide) (by decide) ?_
    change zO l E (d) YX12_init 661 [(0, zR 91)] [zR 116, zR 91] (cF238, cD218, 117, 171909) zmV (some (cF257, cD236, 126, 172044))
    refine zO_putF (c := 12) (k := 42) (C := RX12) (z := ((116 : Nat) : Int)) dX12_init_661 wF_X12_99 rfl inX12 tyX12_ok nmX12 (by decide) (by decide) rfl rfl rfl (show (cF238 91).1 = 13 from by decide +kernel) (zq_nat 116).symm trivial ?_
    change zO l E (d) YX12_init 664 [(0, zR 91)] [] (cF239, cD218, 117, 171909) zmV (some (cF257, cD236, 126, 172044))
    refine zO_aload_n dX12_init_664 rfl (zR_P _) ?_
    refine zO_bipush dX12_init_665 (by decide) ?_
    refine zO_newi (kd := 20) (z := 40) dX12_init_667 (by decide) (by decide) (by decide) ?_
    change zO l E (d) YX12_init 669 [(0, zR 91)] [zR 117, zR 91] (cF240, cD219, 118, 171949) zmV (some (cF257, cD236, 126, 172044))
    refine zO_putF (c := 12) (k := 46) (C := RX12) (z := ((117 : Nat) : Int)) dX12_init_669 wF_X12_102 rfl inX12 tyX12_ok nmX12 (by decide) (by decide) rfl rfl rfl (show (cF240 91).1 = 13 from by decide +kernel) (zq_nat 117).symm trivial ?_
    change zO l E (d) YX12_init 672 [(0, zR 91)] [] (cF241, cD219, 118, 171949) zmV (some (cF257, cD236, 126, 172044))
    refine zO_aload_n dX12_init_672 rfl (zR_P _) ?_
    refine zO_bipush dX12_init_673 (by decide) ?_
    refine zO_newi (kd := 20) (z := 20) dX12_init_675 (by decide) (by decide) (by decide) ?_
    change zO l E (d) YX12_init 677 [(0, zR 91)] [zR 118, zR 91] (cF242, cD220, 119, 171969) zmV (some (cF257, cD236, 126, 172044))
    refine zO_putF (c := 12) (k := 47) (C := RX12) (z := ((118 : Nat) : Int)) dX12_init_677 wF_X12_105 rfl inX12 tyX12_ok nmX12 (by decide) (by decide) rfl rfl rfl (show (cF242 91).1 = 13 from by decide +kernel) (zq_nat 118).symm trivial ?_
    change zO l E (d) YX12_init 680 [(0, zR 91)] [] (cF243, cD220, 119, 171969) zmV (some (cF257, cD236, 126, 172044))
    refine zO_aload_n dX12_init_680 rfl (zR_P _) ?_
    refine zO_iconst dX12_init_681 (by decide) ?_
    refine zO_newi (kd := 20) (z := 3) dX12_init_682 (by decide) (by decide) (by decide) ?_
    change zO l E (d) YX12_init 684 [(0, zR 91)] [zR 119, zR 91] (cF244, cD221, 120, 171972) zmV (some (cF257, cD236, 126, 172044))
    refine zO_putF (c := 12) (k := 52) (C := RX12) (z := ((119 : Nat) : Int)) dX12_init_684 wF_X12_108 rfl inX12 tyX12_ok nmX12 (by decide) (by decide) rfl rfl rfl (show (cF244 91).1 = 13 from by decide +kernel) (zq_nat 119).symm trivial ?_
    change zO l E (d) YX12_init 687 [(0, zR 91)] [] (cF245, cD221, 120, 171972) zmV (some (cF257, cD236, 126, 172044))
    refine zO_aload_n dX12_init_687 rfl (zR_P _) ?_
    refine zO_bipush dX12_init_688 (by decide) ?_
    refine zO_newi (kd := 20) (z := 12) dX12_init_690 (by decide) (by decide) (by decide) ?_
    change zO l E (d) YX12_init 692 [(0, zR 91)] [zR 120, zR 91] (cF246, cD222, 121, 171984) zmV (some (cF257, cD236, 126, 172044))
    refine zO_putF (c := 12) (k := 53) (C := RX12) (z := ((120 : Nat) : Int)) dX12_init_692 wF_X12_111 rfl inX12 tyX12_ok nmX12 (by decide) (by decide) rfl rfl rfl (show (cF246 91).1 = 13 from by decide +kernel) (zq_nat 120).symm trivial ?_
    change zO l E (d) YX12_init 695 [(0, zR 91)] [] (cF247, cD222, 121, 171984) zmV (some (cF257, cD236, 126, 172044))
    refine zO_aload_n dX12_init_695 rfl (zR_P _) ?_
    refine zO_bipush dX12_init_696 (by decide) ?_
    refine zO_newi (kd := 20) (z := 12) dX12_init_698 (by decide) (by decide) (by decide) ?_
    change zO l E (d) YX12_init 700 [(0, zR 91)] [zR 121, zR 91] (cF248, cD223, 122, 171996) zmV (some (cF257, cD236, 126, 172044))
    refine zO_putF (c := 12) (k := 54) (C := RX12) (z := ((121 : Nat) : Int)) dX12_init_700 wF_X12_114 rfl inX12 tyX12_ok nmX12 (by decide) (by decide) rfl rfl rfl (show (cF248 91).1 = 13 from by decide +kernel) (zq_nat 121).symm trivial ?_
    change zO l E (d) YX12_init 703 [(0, zR 91)] [] (cF249, cD223, 122, 171996) zmV (some (cF257, cD236, 126, 172044))
    refine zO_aload_n dX12_init_703 rfl (zR_P _) ?_
    refine zO_bipush dX12_init_704 (by decide) ?_
    refine zO_newi (kd := 20) (z := 12) dX12_init_706 (by decide) (by decide) (by decide) ?_
    change zO l E (d) YX12_init 708 [(0, zR 91)] [zR 122, zR 91] (cF250, cD224, 123, 172008) zmV (some (cF257, cD236, 126, 172044))
    refine zO_putF (c := 12) (k := 55) (C := RX12) (z := ((122 : Nat) : Int)) dX12_init_708 wF_X12_117 rfl inX12 tyX12_ok nmX12 (by decide) (by decide) rfl rfl rfl (show (cF250 91).1 = 13 from by decide +kernel) (zq_nat 122).symm trivial ?_
    change zO l E (d) YX12_init 711 [(0, zR 91)] [] (cF251, cD224, 123, 172008) zmV (some (cF257, cD236, 126, 172044))
    refine zO_aload_n dX12_init_711 rfl (zR_P _) ?_
    refine zO_iconst dX12_init_712 (by decide) ?_
    refine ptI12 (k := 58) (z := (-1)) dX12_init_713 wF_X12_120 (by decide) rfl (show (cF251 91).1 = 13 from by decide +kernel) rfl ?_
    change zO l E (d) YX12_init 716 [(0, zR 91)] [] (cF251, cD225, 123, 172008) zmV (some (cF257, cD236, 126, 172044))
    refine zO_aload_n dX12_init_716 rfl (zR_P _) ?_
    refine zO_bipush dX12_init_717 (by decide) ?_
    refine zO_newi (kd := 21) (z := 12) dX12_init_719 (by decide) (by decide) (by decide) ?_
    change zO l E (d) YX12_init 721 [(0, zR 91)] [zR 123, zR 91] (cF252, cD226, 124, 172020) zmV (some (cF257, cD236, 126, 172044))
    refine zO_putF (c := 12) (k := 60) (C := RX12) (z := ((123 : Nat) : Int)) dX12_init_721 wF_X12_123 rfl inX12 tyX12_ok nmX12 (by decide) (by decide) rfl rfl rfl (show (cF252 91).1 = 13 from by decide +kernel) (zq_nat 123).symm trivial ?_
    change zO l E (d) YX12_init 724 [(0, zR 91)] [] (cF253, cD226, 124, 172020) zmV (some (cF257, cD236, 126, 172044))
    refine zO_aload_n dX12_init_724 rfl (zR_P _) ?_
    refine zO_bipush dX12_init_725 (by decide) ?_
    refine zO_newi (kd := 21) (z := 12) dX12_init_727 (by decide) (by decide) (by decide) ?_
    change zO l E (d) YX12_init 729 [(0, zR 91)] [zR 124, zR 91] (cF254, cD227, 125, 172032) zmV (some (cF257, cD236, 126, 172044))
    refine zO_putF (c := 12) (k := 61) (C := RX12) (z := ((124 : Nat) : Int)) dX12_init_729 wF_X12_126 rfl inX12 tyX12_ok nmX12 (by decide) (by decide) rfl rfl rfl (show (cF254 91).1 = 13 from by decide +kernel) (zq_nat 124).symm trivial ?_
    change zO l E (d) YX12_init 732 [(0, zR 91)] [] (cF255, cD227, 125, 172032) zmV (some (cF257, cD236, 126, 172044))
    refine zO_aload_n dX12_init_732 rfl (zR_P _) ?_
    refine zO_bipush dX12_init_733 (by decide) ?_
    refine zO_newi (kd := 21) (z := 12) dX12_init_735 (by decide) (by decide) (by decide) ?_
    change zO l E (d) YX12_init 737 [(0, zR 91)] [zR 125, zR 91] (cF256, cD228, 126, 172044) zmV (some (cF257, cD236, 126, 172044))
    refine zO_putF (c := 12) (k := 62) (C := RX12) (z := ((125 : Nat) : Int)) dX12_init_737 wF_X12_129 rfl inX12 tyX12_ok nmX12 (by decide) (by decide) rfl rfl rfl (show (cF256 91).1 = 13 from by decide +kernel) (zq_nat 125).symm trivial ?_
    change zO l E (d) YX12_init 740 [(0, zR 91)] [] (cF257, cD228, 126, 172044) zmV (some (cF257, cD236, 126, 172044))
    refine zO_aload_n dX12_init_740 rfl (zR_P _) ?_
    refine zO_iconst dX12_init_741 (by decide) ?_
    refine ptI12 (k := 64) (z := (-1)) dX12_init_742 wF_X12_132 (by decide) rfl (show (cF257 91).1 = 13 from by decide +kernel) rfl ?_
    change zO l E (d) YX12_init 745 [(0, zR 91)] [] (cF257, cD229, 126, 172044) zmV (some (cF257, cD236, 126, 172044))
    refine zO_aload_n dX12_init_745 rfl (zR_P _) ?_
    refine gt12 (k := 3) (v := zR 93) dX12_init_746 wF_X12_20 (by decide) (show (cF257 91).1 = 13 from by decide +kernel) (by rw [show zfv cF257 cD229 91 12 3 = ((93 : Nat) : Int) from by decide +kernel]; exact zq_nat 93) ?_
    refine zO_bipush dX12_init_749 (by decide) ?_
    refine zO_bipush dX12_init_751 (by decide) ?_
    refine zO_iast (z := 8) (j := 100) dX12_init_753 (show (cF257 93).1 = 20 from by decide +kernel) (show (0 : Int) ≤ 100 ∧ (100 : Int) < (cF257 93).2.1 from by decide +kernel) ?_
    change zO l E (d) YX12_init 754 [(0, zR 91)] [] (cF257, cD230, 126, 172044) zmV (some (cF257, cD236, 126, 172044))
    refine zO_aload_n dX12_init_754 rfl (zR_P _) ?_
    refine gt12 (k := 3) (v := zR 93) dX12_init_755 wF_X12_20 (by decide) (show (cF257 91).1 = 13 from by decide +kernel) (by rw [show zfv cF257 cD230 91 12 3 = ((93 : Nat) : Int) from by decide +kernel]; exact zq_nat 93) ?_
    refine zO_bipush dX12_init_758 (by decide) ?_
    refine zO_iconst dX12_init_760 (by decide) ?_
    refine zO_iast (z := 3) (j := 101) dX12_init_761 (show (cF257 93).1 = 20 from by decide +kernel) (show (0 : Int) ≤ 101 ∧ (101 : Int) < (cF257 93).2.1 from by decide +kernel) ?_
    change zO l E (d) YX12_init 762 [(0, zR 91)] [] (cF257, cD231, 126, 172044) zmV (some (cF257, cD236, 126, 172044))
    refine zO_aload_n dX12_init_762 rfl (zR_P _) ?_
    refine gt12 (k := 3) (v := zR 93) dX12_init_763 wF_X12_20 (by decide) (show (cF257 91).1 = 13 from by decide +kernel) (by rw [show zfv cF257 cD231 91 12 3 = ((93 : Nat) : Int) from by decide +kernel]; exact zq_nat 93) ?_
    refine zO_bipush dX12_init_766 (by decide) ?_
    refine zO_iconst dX12_init_768 (by decide) ?_
    refine zO_iast (z := 2) (j := 102) dX12_init_769 (show (cF257 93).1 = 20 from by decide +kernel) (show (0 : Int) ≤ 102 ∧ (102 : Int) < (cF257 93).2.1 from by decide +kernel) ?_
    change zO l E (d) YX12_init 770 [(0, zR 91)] [] (cF257, cD232, 126, 172044) zmV (some (cF257, cD236, 126, 172044))
    refine zO_aload_n dX12_init_770 rfl (zR_P _) ?_
    refine gt12 (k := 3) (v := zR 93) dX12_init_771 wF_X12_20 (by decide) (show (cF257 91).1 = 13 from by decide +kernel) (by rw [show zfv cF257 cD232 91 12 3 = ((93 : Nat) : Int) from by decide +kernel]; exact zq_nat 93) ?_
    refine zO_bipush dX12_init_774 (by decide) ?_
    refine zO_bipush dX12_init_776 (by decide) ?_
    refine zO_iast (z := 10) (j := 104) dX12_init_778 (show (cF257 93).1 = 20 from by decide +kernel) (show (0 : Int) ≤ 104 ∧ (104 : Int) < (cF257 93).2.1 from by decide +kernel) ?_
    change zO l E (d) YX12_init 779 [(0, zR 91)] [] (cF257, cD233, 126, 172044) zmV (some (cF257, cD236, 126, 172044))
    refine zO_aload_n dX12_init_779 rfl (zR_P _) ?_
    refine gt12 (k := 3) (v := zR 93) dX12_init_780 wF_X12_20 (by decide) (show (cF257 91).1 = 13 from by decide +kernel) (by rw [show zfv cF257 cD233 91 12 3 = ((93 : Nat) : Int) from by decide +kernel]; exact zq_nat 93) ?_
    refine zO_bipush dX12_init_783 (by decide) ?_
    refine zO_bipush dX12_init_785 (by decide) ?_
    refine zO_iast (z := 19) (j := 105) dX12_init_787 (show (cF257 93).1 = 20 from by decide +kernel) (show (0 : Int) ≤ 105 ∧ (105 : Int) < (cF257 93).2.1 from by decide +kernel) ?_
    change zO l E (d) YX12_init 788 [(0, zR 91)] [] (cF257, cD234, 126, 172044) zmV (some (cF257, cD236, 126, 172044))
    refine zO_aload_n dX12_init_788 rfl (zR_P _) ?_
    refine gt12 (k := 3) (v := zR 93) dX12_init_789 wF_X12_20 (by decide) (show (cF257 91).1 = 13 from by decide +kernel) (by rw [show zfv cF257 cD234 91 12 3 = ((93 : Nat) : Int) from by decide +kernel]; exact zq_nat 93) ?_
    refine zO_bipush dX12_init_792 (by decide) ?_
    refine zO_bipush dX12_init_794 (by decide) ?_
    refine zO_iast (z := 6) (j := 106) dX12_init_796 (show (cF257 93).1 = 20 from by decide +kernel) (show (0 : Int) ≤ 106 ∧ (106 : Int) < (cF257 93).2.1 from by decide +kernel) ?_
    change zO l E (d) YX12_init 797 [(0, zR 91)] [] (cF257, cD235, 126, 172044) zmV (some (cF257, cD236, 126, 172044))
    refine zO_aload_n dX12_init_797 rfl (zR_P _) ?_
    refine gt12 (k := 3) (v := zR 93) dX12_init_798 wF_X12_20 (by decide) (show (cF257 91).1 = 13 from by decide +kernel) (by rw [show zfv cF257 cD235 91 12 3 = ((93 : Nat) : Int) from by decide +kernel]; exact zq_nat 93) ?_
    refine zO_sipush dX12_init_801 (by decide) ?_
    refine zO_iconst dX12_init_804 (by decide) ?_
    refine zO_iast (z := (-1)) (j := 394) dX12_init_805 (show (cF257 93).1 = 20 from by decide +kernel) (show (0 : Int) ≤ 394 ∧ (394 : Int) < (cF257 93).2.1 from by decide +kernel) ?_
    change zO l E (d) YX12_init 806 [(0, zR 91)] [] (cF257, cD236, 126, 172044) zmV (some (cF257, cD236, 126, 172044))
    exact zO_ret (rv := none) dX12_init_806 rfl trivial rfl
  exact hz _ rfl
