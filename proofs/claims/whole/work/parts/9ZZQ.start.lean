/-! ===== the start: what the constructors leave (printed by wip/gen/start.py) ===== -/
theorem cs53_73 : cD73 53 = cLotT := zrow_self (D := cD72) (a := 53)
theorem cs53_74 : cD74 53 = cLotT := (zrow_ne (D := cD73) (a := 60) (b := 53) (by decide)).trans cs53_73
theorem cs53_75 : cD75 53 = cLotT := (zwr_ne (D := cD74) (a := 60) (b := 53) (by decide)).trans cs53_74
theorem cs53_76 : cD76 53 = cLotT := (zwr_ne (D := cD75) (a := 60) (b := 53) (by decide)).trans cs53_75
theorem cs53_77 : cD77 53 = cLotT := (zrow_ne (D := cD76) (a := 61) (b := 53) (by decide)).trans cs53_76
theorem cs53_78 : cD78 53 = cLotT := (zrow_ne (D := cD77) (a := 62) (b := 53) (by decide)).trans cs53_77
theorem cs53_79 : cD79 53 = cLotT := (zrow_ne (D := cD78) (a := 63) (b := 53) (by decide)).trans cs53_78
theorem cs53_80 : cD80 53 = cLotT := (zrow_ne (D := cD79) (a := 64) (b := 53) (by decide)).trans cs53_79
theorem cs53_81 : cD81 53 = cLotT := (zrow_ne (D := cD80) (a := 65) (b := 53) (by decide)).trans cs53_80
theorem cs53_82 : cD82 53 = cLotT := (zrow_ne (D := cD81) (a := 66) (b := 53) (by decide)).trans cs53_81
theorem cs53_83 : cD83 53 = cLotT := (zwr_ne (D := cD82) (a := 60) (b := 53) (by decide)).trans cs53_82
theorem cs53_84 : cD84 53 = cLotT := (zrow_ne (D := cD83) (a := 67) (b := 53) (by decide)).trans cs53_83
theorem cs53_85 : cD85 53 = cLotT := (zrow_ne (D := cD84) (a := 68) (b := 53) (by decide)).trans cs53_84
theorem cs53_86 : cD86 53 = cLotT := (zwr_ne (D := cD85) (a := 60) (b := 53) (by decide)).trans cs53_85
theorem cs53_87 : cD87 53 = cLotT := (zrow_ne (D := cD86) (a := 69) (b := 53) (by decide)).trans cs53_86
theorem cs53_88 : cD88 53 = cLotT := (zrow_ne (D := cD87) (a := 70) (b := 53) (by decide)).trans cs53_87
theorem cs53_89 : cD89 53 = cLotT := (zwr_ne (D := cD88) (a := 60) (b := 53) (by decide)).trans cs53_88
theorem cs53_90 : cD90 53 = cLotT := (zrow_ne (D := cD89) (a := 71) (b := 53) (by decide)).trans cs53_89
theorem cs53_91 : cD91 53 = cLotT := (zrow_ne (D := cD90) (a := 72) (b := 53) (by decide)).trans cs53_90
theorem cs53_92 : cD92 53 = cLotT := (zwr_ne (D := cD91) (a := 71) (b := 53) (by decide)).trans cs53_91
theorem cs53_93 : cD93 53 = cLotT := (zrow_ne (D := cD92) (a := 73) (b := 53) (by decide)).trans cs53_92
theorem cs53_94 : cD94 53 = cLotT := (zwr_ne (D := cD93) (a := 73) (b := 53) (by decide)).trans cs53_93
theorem cs53_95 : cD95 53 = cLotT := (zrow_ne (D := cD94) (a := 74) (b := 53) (by decide)).trans cs53_94
theorem cs53_96 : cD96 53 = cLotT := (zrow_ne (D := cD95) (a := 75) (b := 53) (by decide)).trans cs53_95
theorem cs53_97 : cD97 53 = cLotT := (zrow_ne (D := cD96) (a := 76) (b := 53) (by decide)).trans cs53_96
theorem cs53_98 : cD98 53 = cLotT := (zrow_ne (D := cD97) (a := 77) (b := 53) (by decide)).trans cs53_97
theorem cs53_99 : cD99 53 = cLotT := (zwr_ne (D := cD98) (a := 73) (b := 53) (by decide)).trans cs53_98
theorem cs53_100 : cD100 53 = cLotT := (zrow_ne (D := cD99) (a := 78) (b := 53) (by decide)).trans cs53_99
theorem cs53_101 : cD101 53 = cLotT := (zwr_ne (D := cD100) (a := 78) (b := 53) (by decide)).trans cs53_100
theorem cs53_102 : cD102 53 = cLotT := (zrow_ne (D := cD101) (a := 79) (b := 53) (by decide)).trans cs53_101
theorem cs53_103 : cD103 53 = cLotT := (zrow_ne (D := cD102) (a := 80) (b := 53) (by decide)).trans cs53_102
theorem cs53_104 : cD104 53 = cLotT := (zrow_ne (D := cD103) (a := 81) (b := 53) (by decide)).trans cs53_103
theorem cs53_105 : cD105 53 = cLotT := (zrow_ne (D := cD104) (a := 82) (b := 53) (by decide)).trans cs53_104
theorem cs53_106 : cD106 53 = cLotT := (zrow_ne (D := cD105) (a := 83) (b := 53) (by decide)).trans cs53_105
theorem cs53_107 : cD107 53 = cLotT := (zrow_ne (D := cD106) (a := 84) (b := 53) (by decide)).trans cs53_106
theorem cs53_108 : cD108 53 = cLotT := (zwr_ne (D := cD107) (a := 78) (b := 53) (by decide)).trans cs53_107
theorem cs53_109 : cD109 53 = cLotT := (zrow_ne (D := cD108) (a := 85) (b := 53) (by decide)).trans cs53_108
theorem cs53_110 : cD110 53 = cLotT := (zrow_ne (D := cD109) (a := 86) (b := 53) (by decide)).trans cs53_109
theorem cs53_111 : cD111 53 = cLotT := (zrow_ne (D := cD110) (a := 87) (b := 53) (by decide)).trans cs53_110
theorem cs53_112 : cD112 53 = cLotT := (zrow_ne (D := cD111) (a := 88) (b := 53) (by decide)).trans cs53_111
theorem cs53_113 : cD113 53 = cLotT := (zrow_ne (D := cD112) (a := 89) (b := 53) (by decide)).trans cs53_112
theorem cs53_114 : cD114 53 = cLotT := (zrow_ne (D := cD113) (a := 90) (b := 53) (by decide)).trans cs53_113
theorem cs53_115 : cD115 53 = cLotT := (zrow_ne (D := cD114) (a := 91) (b := 53) (by decide)).trans cs53_114
theorem cs53_116 : cD116 53 = cLotT := (zrow_ne (D := cD115) (a := 92) (b := 53) (by decide)).trans cs53_115
theorem cs53_117 : cD117 53 = cLotT := (zrow_ne (D := cD116) (a := 93) (b := 53) (by decide)).trans cs53_116
theorem cs53_118 : cD118 53 = cLotT := (zrow_ne (D := cD117) (a := 94) (b := 53) (by decide)).trans cs53_117
theorem cs53_119 : cD119 53 = cLotT := (zrow_ne (D := cD118) (a := 95) (b := 53) (by decide)).trans cs53_118
theorem cs53_120 : cD120 53 = cLotT := (zrow_ne (D := cD119) (a := 96) (b := 53) (by decide)).trans cs53_119
theorem cs53_121 : cD121 53 = cLotT := (zwr_ne (D := cD120) (a := 96) (b := 53) (by decide)).trans cs53_120
theorem cs53_122 : cD122 53 = cLotT := (zwr_ne (D := cD121) (a := 96) (b := 53) (by decide)).trans cs53_121
theorem cs53_123 : cD123 53 = cLotT := (zwr_ne (D := cD122) (a := 96) (b := 53) (by decide)).trans cs53_122
theorem cs53_124 : cD124 53 = cLotT := (zwr_ne (D := cD123) (a := 96) (b := 53) (by decide)).trans cs53_123
theorem cs53_125 : cD125 53 = cLotT := (zwr_ne (D := cD124) (a := 96) (b := 53) (by decide)).trans cs53_124
theorem cs53_126 : cD126 53 = cLotT := (zwr_ne (D := cD125) (a := 96) (b := 53) (by decide)).trans cs53_125
theorem cs53_127 : cD127 53 = cLotT := (zwr_ne (D := cD126) (a := 96) (b := 53) (by decide)).trans cs53_126
theorem cs53_128 : cD128 53 = cLotT := (zwr_ne (D := cD127) (a := 96) (b := 53) (by decide)).trans cs53_127
theorem cs53_129 : cD129 53 = cLotT := (zwr_ne (D := cD128) (a := 96) (b := 53) (by decide)).trans cs53_128
theorem cs53_130 : cD130 53 = cLotT := (zwr_ne (D := cD129) (a := 96) (b := 53) (by decide)).trans cs53_129
theorem cs53_131 : cD131 53 = cLotT := (zwr_ne (D := cD130) (a := 96) (b := 53) (by decide)).trans cs53_130
theorem cs53_132 : cD132 53 = cLotT := (zwr_ne (D := cD131) (a := 96) (b := 53) (by decide)).trans cs53_131
theorem cs53_133 : cD133 53 = cLotT := (zwr_ne (D := cD132) (a := 96) (b := 53) (by decide)).trans cs53_132
theorem cs53_134 : cD134 53 = cLotT := (zwr_ne (D := cD133) (a := 96) (b := 53) (by decide)).trans cs53_133
theorem cs53_135 : cD135 53 = cLotT := (zwr_ne (D := cD134) (a := 96) (b := 53) (by decide)).trans cs53_134
theorem cs53_136 : cD136 53 = cLotT := (zwr_ne (D := cD135) (a := 96) (b := 53) (by decide)).trans cs53_135
theorem cs53_137 : cD137 53 = cLotT := (zwr_ne (D := cD136) (a := 96) (b := 53) (by decide)).trans cs53_136
theorem cs53_138 : cD138 53 = cLotT := (zwr_ne (D := cD137) (a := 96) (b := 53) (by decide)).trans cs53_137
theorem cs53_139 : cD139 53 = cLotT := (zwr_ne (D := cD138) (a := 96) (b := 53) (by decide)).trans cs53_138
theorem cs53_140 : cD140 53 = cLotT := (zwr_ne (D := cD139) (a := 96) (b := 53) (by decide)).trans cs53_139
theorem cs53_141 : cD141 53 = cLotT := (zwr_ne (D := cD140) (a := 96) (b := 53) (by decide)).trans cs53_140
theorem cs53_142 : cD142 53 = cLotT := (zwr_ne (D := cD141) (a := 96) (b := 53) (by decide)).trans cs53_141
theorem cs53_143 : cD143 53 = cLotT := (zwr_ne (D := cD142) (a := 96) (b := 53) (by decide)).trans cs53_142
theorem cs53_144 : cD144 53 = cLotT := (zwr_ne (D := cD143) (a := 96) (b := 53) (by decide)).trans cs53_143
theorem cs53_145 : cD145 53 = cLotT := (zwr_ne (D := cD144) (a := 96) (b := 53) (by decide)).trans cs53_144
theorem cs53_146 : cD146 53 = cLotT := (zwr_ne (D := cD145) (a := 96) (b := 53) (by decide)).trans cs53_145
theorem cs53_147 : cD147 53 = cLotT := (zwr_ne (D := cD146) (a := 96) (b := 53) (by decide)).trans cs53_146
theorem cs53_148 : cD148 53 = cLotT := (zwr_ne (D := cD147) (a := 96) (b := 53) (by decide)).trans cs53_147
theorem cs53_149 : cD149 53 = cLotT := (zwr_ne (D := cD148) (a := 96) (b := 53) (by decide)).trans cs53_148
theorem cs53_150 : cD150 53 = cLotT := (zwr_ne (D := cD149) (a := 96) (b := 53) (by decide)).trans cs53_149
theorem cs53_151 : cD151 53 = cLotT := (zwr_ne (D := cD150) (a := 96) (b := 53) (by decide)).trans cs53_150
theorem cs53_152 : cD152 53 = cLotT := (zwr_ne (D := cD151) (a := 96) (b := 53) (by decide)).trans cs53_151
theorem cs53_153 : cD153 53 = cLotT := (zwr_ne (D := cD152) (a := 96) (b := 53) (by decide)).trans cs53_152
theorem cs53_154 : cD154 53 = cLotT := (zwr_ne (D := cD153) (a := 96) (b := 53) (by decide)).trans cs53_153
theorem cs53_155 : cD155 53 = cLotT := (zwr_ne (D := cD154) (a := 96) (b := 53) (by decide)).trans cs53_154
theorem cs53_156 : cD156 53 = cLotT := (zwr_ne (D := cD155) (a := 96) (b := 53) (by decide)).trans cs53_155
theorem cs53_157 : cD157 53 = cLotT := (zwr_ne (D := cD156) (a := 96) (b := 53) (by decide)).trans cs53_156
theorem cs53_158 : cD158 53 = cLotT := (zwr_ne (D := cD157) (a := 96) (b := 53) (by decide)).trans cs53_157
theorem cs53_159 : cD159 53 = cLotT := (zwr_ne (D := cD158) (a := 96) (b := 53) (by decide)).trans cs53_158
theorem cs53_160 : cD160 53 = cLotT := (zwr_ne (D := cD159) (a := 96) (b := 53) (by decide)).trans cs53_159
theorem cs53_161 : cD161 53 = cLotT := (zwr_ne (D := cD160) (a := 96) (b := 53) (by decide)).trans cs53_160
theorem cs53_162 : cD162 53 = cLotT := (zwr_ne (D := cD161) (a := 96) (b := 53) (by decide)).trans cs53_161
theorem cs53_163 : cD163 53 = cLotT := (zwr_ne (D := cD162) (a := 96) (b := 53) (by decide)).trans cs53_162
theorem cs53_164 : cD164 53 = cLotT := (zwr_ne (D := cD163) (a := 96) (b := 53) (by decide)).trans cs53_163
theorem cs53_165 : cD165 53 = cLotT := (zwr_ne (D := cD164) (a := 96) (b := 53) (by decide)).trans cs53_164
theorem cs53_166 : cD166 53 = cLotT := (zwr_ne (D := cD165) (a := 96) (b := 53) (by decide)).trans cs53_165
theorem cs53_167 : cD167 53 = cLotT := (zwr_ne (D := cD166) (a := 96) (b := 53) (by decide)).trans cs53_166
theorem cs53_168 : cD168 53 = cLotT := (zwr_ne (D := cD167) (a := 96) (b := 53) (by decide)).trans cs53_167
theorem cs53_169 : cD169 53 = cLotT := (zwr_ne (D := cD168) (a := 96) (b := 53) (by decide)).trans cs53_168
theorem cs53_170 : cD170 53 = cLotT := (zwr_ne (D := cD169) (a := 96) (b := 53) (by decide)).trans cs53_169
theorem cs53_171 : cD171 53 = cLotT := (zwr_ne (D := cD170) (a := 96) (b := 53) (by decide)).trans cs53_170
theorem cs53_172 : cD172 53 = cLotT := (zwr_ne (D := cD171) (a := 96) (b := 53) (by decide)).trans cs53_171
theorem cs53_173 : cD173 53 = cLotT := (zwr_ne (D := cD172) (a := 96) (b := 53) (by decide)).trans cs53_172
theorem cs53_174 : cD174 53 = cLotT := (zwr_ne (D := cD173) (a := 96) (b := 53) (by decide)).trans cs53_173
theorem cs53_175 : cD175 53 = cLotT := (zwr_ne (D := cD174) (a := 96) (b := 53) (by decide)).trans cs53_174
theorem cs53_176 : cD176 53 = cLotT := (zwr_ne (D := cD175) (a := 96) (b := 53) (by decide)).trans cs53_175
theorem cs53_177 : cD177 53 = cLotT := (zwr_ne (D := cD176) (a := 96) (b := 53) (by decide)).trans cs53_176
theorem cs53_178 : cD178 53 = cLotT := (zwr_ne (D := cD177) (a := 96) (b := 53) (by decide)).trans cs53_177
theorem cs53_179 : cD179 53 = cLotT := (zwr_ne (D := cD178) (a := 96) (b := 53) (by decide)).trans cs53_178
theorem cs53_180 : cD180 53 = cLotT := (zwr_ne (D := cD179) (a := 96) (b := 53) (by decide)).trans cs53_179
theorem cs53_181 : cD181 53 = cLotT := (zwr_ne (D := cD180) (a := 96) (b := 53) (by decide)).trans cs53_180
theorem cs53_182 : cD182 53 = cLotT := (zwr_ne (D := cD181) (a := 96) (b := 53) (by decide)).trans cs53_181
theorem cs53_183 : cD183 53 = cLotT := (zwr_ne (D := cD182) (a := 96) (b := 53) (by decide)).trans cs53_182
theorem cs53_184 : cD184 53 = cLotT := (zwr_ne (D := cD183) (a := 96) (b := 53) (by decide)).trans cs53_183
theorem cs53_185 : cD185 53 = cLotT := (zwr_ne (D := cD184) (a := 96) (b := 53) (by decide)).trans cs53_184
theorem cs53_186 : cD186 53 = cLotT := (zwr_ne (D := cD185) (a := 96) (b := 53) (by decide)).trans cs53_185
theorem cs53_187 : cD187 53 = cLotT := (zwr_ne (D := cD186) (a := 96) (b := 53) (by decide)).trans cs53_186
theorem cs53_188 : cD188 53 = cLotT := (zwr_ne (D := cD187) (a := 96) (b := 53) (by decide)).trans cs53_187
theorem cs53_189 : cD189 53 = cLotT := (zwr_ne (D := cD188) (a := 96) (b := 53) (by decide)).trans cs53_188
theorem cs53_190 : cD190 53 = cLotT := (zwr_ne (D := cD189) (a := 96) (b := 53) (by decide)).trans cs53_189
theorem cs53_191 : cD191 53 = cLotT := (zwr_ne (D := cD190) (a := 96) (b := 53) (by decide)).trans cs53_190
theorem cs53_192 : cD192 53 = cLotT := (zwr_ne (D := cD191) (a := 96) (b := 53) (by decide)).trans cs53_191
theorem cs53_193 : cD193 53 = cLotT := (zwr_ne (D := cD192) (a := 96) (b := 53) (by decide)).trans cs53_192
theorem cs53_194 : cD194 53 = cLotT := (zwr_ne (D := cD193) (a := 96) (b := 53) (by decide)).trans cs53_193
theorem cs53_195 : cD195 53 = cLotT := (zwr_ne (D := cD194) (a := 96) (b := 53) (by decide)).trans cs53_194
theorem cs53_196 : cD196 53 = cLotT := (zwr_ne (D := cD195) (a := 96) (b := 53) (by decide)).trans cs53_195
theorem cs53_197 : cD197 53 = cLotT := (zrow_ne (D := cD196) (a := 97) (b := 53) (by decide)).trans cs53_196
theorem cs53_198 : cD198 53 = cLotT := (zrow_ne (D := cD197) (a := 98) (b := 53) (by decide)).trans cs53_197
theorem cs53_199 : cD199 53 = cLotT := (zwr_ne (D := cD198) (a := 91) (b := 53) (by decide)).trans cs53_198
theorem cs53_200 : cD200 53 = cLotT := (zrow_ne (D := cD199) (a := 99) (b := 53) (by decide)).trans cs53_199
theorem cs53_201 : cD201 53 = cLotT := (zrow_ne (D := cD200) (a := 100) (b := 53) (by decide)).trans cs53_200
theorem cs53_202 : cD202 53 = cLotT := (zrow_ne (D := cD201) (a := 101) (b := 53) (by decide)).trans cs53_201
theorem cs53_203 : cD203 53 = cLotT := (zrow_ne (D := cD202) (a := 102) (b := 53) (by decide)).trans cs53_202
theorem cs53_204 : cD204 53 = cLotT := (zrow_ne (D := cD203) (a := 103) (b := 53) (by decide)).trans cs53_203
theorem cs53_205 : cD205 53 = cLotT := (zrow_ne (D := cD204) (a := 104) (b := 53) (by decide)).trans cs53_204
theorem cs53_206 : cD206 53 = cLotT := (zrow_ne (D := cD205) (a := 105) (b := 53) (by decide)).trans cs53_205
theorem cs53_207 : cD207 53 = cLotT := (zrow_ne (D := cD206) (a := 106) (b := 53) (by decide)).trans cs53_206
theorem cs53_208 : cD208 53 = cLotT := (zrow_ne (D := cD207) (a := 107) (b := 53) (by decide)).trans cs53_207
theorem cs53_209 : cD209 53 = cLotT := (zrow_ne (D := cD208) (a := 108) (b := 53) (by decide)).trans cs53_208
theorem cs53_210 : cD210 53 = cLotT := (zrow_ne (D := cD209) (a := 109) (b := 53) (by decide)).trans cs53_209
theorem cs53_211 : cD211 53 = cLotT := (zrow_ne (D := cD210) (a := 110) (b := 53) (by decide)).trans cs53_210
theorem cs53_212 : cD212 53 = cLotT := (zrow_ne (D := cD211) (a := 111) (b := 53) (by decide)).trans cs53_211
theorem cs53_213 : cD213 53 = cLotT := (zwr_ne (D := cD212) (a := 91) (b := 53) (by decide)).trans cs53_212
theorem cs53_214 : cD214 53 = cLotT := (zrow_ne (D := cD213) (a := 112) (b := 53) (by decide)).trans cs53_213
theorem cs53_215 : cD215 53 = cLotT := (zrow_ne (D := cD214) (a := 113) (b := 53) (by decide)).trans cs53_214
theorem cs53_216 : cD216 53 = cLotT := (zrow_ne (D := cD215) (a := 114) (b := 53) (by decide)).trans cs53_215
theorem cs53_217 : cD217 53 = cLotT := (zrow_ne (D := cD216) (a := 115) (b := 53) (by decide)).trans cs53_216
theorem cs53_218 : cD218 53 = cLotT := (zrow_ne (D := cD217) (a := 116) (b := 53) (by decide)).trans cs53_217
theorem cs53_219 : cD219 53 = cLotT := (zrow_ne (D := cD218) (a := 117) (b := 53) (by decide)).trans cs53_218
theorem cs53_220 : cD220 53 = cLotT := (zrow_ne (D := cD219) (a := 118) (b := 53) (by decide)).trans cs53_219
theorem cs53_221 : cD221 53 = cLotT := (zrow_ne (D := cD220) (a := 119) (b := 53) (by decide)).trans cs53_220
theorem cs53_222 : cD222 53 = cLotT := (zrow_ne (D := cD221) (a := 120) (b := 53) (by decide)).trans cs53_221
theorem cs53_223 : cD223 53 = cLotT := (zrow_ne (D := cD222) (a := 121) (b := 53) (by decide)).trans cs53_222
theorem cs53_224 : cD224 53 = cLotT := (zrow_ne (D := cD223) (a := 122) (b := 53) (by decide)).trans cs53_223
theorem cs53_225 : cD225 53 = cLotT := (zwr_ne (D := cD224) (a := 91) (b := 53) (by decide)).trans cs53_224
theorem cs53_226 : cD226 53 = cLotT := (zrow_ne (D := cD225) (a := 123) (b := 53) (by decide)).trans cs53_225
theorem cs53_227 : cD227 53 = cLotT := (zrow_ne (D := cD226) (a := 124) (b := 53) (by decide)).trans cs53_226
theorem cs53_228 : cD228 53 = cLotT := (zrow_ne (D := cD227) (a := 125) (b := 53) (by decide)).trans cs53_227
theorem cs53_229 : cD229 53 = cLotT := (zwr_ne (D := cD228) (a := 91) (b := 53) (by decide)).trans cs53_228
theorem cs53_230 : cD230 53 = cLotT := (zwr_ne (D := cD229) (a := 93) (b := 53) (by decide)).trans cs53_229
theorem cs53_231 : cD231 53 = cLotT := (zwr_ne (D := cD230) (a := 93) (b := 53) (by decide)).trans cs53_230
theorem cs53_232 : cD232 53 = cLotT := (zwr_ne (D := cD231) (a := 93) (b := 53) (by decide)).trans cs53_231
theorem cs53_233 : cD233 53 = cLotT := (zwr_ne (D := cD232) (a := 93) (b := 53) (by decide)).trans cs53_232
theorem cs53_234 : cD234 53 = cLotT := (zwr_ne (D := cD233) (a := 93) (b := 53) (by decide)).trans cs53_233
theorem cs53_235 : cD235 53 = cLotT := (zwr_ne (D := cD234) (a := 93) (b := 53) (by decide)).trans cs53_234
theorem cs53_236 : cD236 53 = cLotT := (zwr_ne (D := cD235) (a := 93) (b := 53) (by decide)).trans cs53_235
theorem cs93_117 (i : Nat) (_ : 5201 ≤ i) : cD117 93 i = 0 := congrFun (zrow_self (D := cD116) (a := 93) (r := fun _ => 0)) i
theorem cs93_118 (i : Nat) (h : 5201 ≤ i) : cD118 93 i = 0 := (congrFun (zrow_ne (D := cD117) (a := 94) (b := 93) (by decide)) i).trans (cs93_117 i h)
theorem cs93_119 (i : Nat) (h : 5201 ≤ i) : cD119 93 i = 0 := (congrFun (zrow_ne (D := cD118) (a := 95) (b := 93) (by decide)) i).trans (cs93_118 i h)
theorem cs93_120 (i : Nat) (h : 5201 ≤ i) : cD120 93 i = 0 := (congrFun (zrow_ne (D := cD119) (a := 96) (b := 93) (by decide)) i).trans (cs93_119 i h)
theorem cs93_121 (i : Nat) (h : 5201 ≤ i) : cD121 93 i = 0 := (congrFun (zwr_ne (D := cD120) (a := 96) (b := 93) (by decide)) i).trans (cs93_120 i h)
theorem cs93_122 (i : Nat) (h : 5201 ≤ i) : cD122 93 i = 0 := (congrFun (zwr_ne (D := cD121) (a := 96) (b := 93) (by decide)) i).trans (cs93_121 i h)
theorem cs93_123 (i : Nat) (h : 5201 ≤ i) : cD123 93 i = 0 := (congrFun (zwr_ne (D := cD122) (a := 96) (b := 93) (by decide)) i).trans (cs93_122 i h)
theorem cs93_124 (i : Nat) (h : 5201 ≤ i) : cD124 93 i = 0 := (congrFun (zwr_ne (D := cD123) (a := 96) (b := 93) (by decide)) i).trans (cs93_123 i h)
theorem cs93_125 (i : Nat) (h : 5201 ≤ i) : cD125 93 i = 0 := (congrFun (zwr_ne (D := cD124) (a := 96) (b := 93) (by decide)) i).trans (cs93_124 i h)
theorem cs93_126 (i : Nat) (h : 5201 ≤ i) : cD126 93 i = 0 := (congrFun (zwr_ne (D := cD125) (a := 96) (b := 93) (by decide)) i).trans (cs93_125 i h)
theorem cs93_127 (i : Nat) (h : 5201 ≤ i) : cD127 93 i = 0 := (congrFun (zwr_ne (D := cD126) (a := 96) (b := 93) (by decide)) i).trans (cs93_126 i h)
theorem cs93_128 (i : Nat) (h : 5201 ≤ i) : cD128 93 i = 0 := (congrFun (zwr_ne (D := cD127) (a := 96) (b := 93) (by decide)) i).trans (cs93_127 i h)
theorem cs93_129 (i : Nat) (h : 5201 ≤ i) : cD129 93 i = 0 := (congrFun (zwr_ne (D := cD128) (a := 96) (b := 93) (by decide)) i).trans (cs93_128 i h)
theorem cs93_130 (i : Nat) (h : 5201 ≤ i) : cD130 93 i = 0 := (congrFun (zwr_ne (D := cD129) (a := 96) (b := 93) (by decide)) i).trans (cs93_129 i h)
theorem cs93_131 (i : Nat) (h : 5201 ≤ i) : cD131 93 i = 0 := (congrFun (zwr_ne (D := cD130) (a := 96) (b := 93) (by decide)) i).trans (cs93_130 i h)
theorem cs93_132 (i : Nat) (h : 5201 ≤ i) : cD132 93 i = 0 := (congrFun (zwr_ne (D := cD131) (a := 96) (b := 93) (by decide)) i).trans (cs93_131 i h)
theorem cs93_133 (i : Nat) (h : 5201 ≤ i) : cD133 93 i = 0 := (congrFun (zwr_ne (D := cD132) (a := 96) (b := 93) (by decide)) i).trans (cs93_132 i h)
theorem cs93_134 (i : Nat) (h : 5201 ≤ i) : cD134 93 i = 0 := (congrFun (zwr_ne (D := cD133) (a := 96) (b := 93) (by decide)) i).trans (cs93_133 i h)
theorem cs93_135 (i : Nat) (h : 5201 ≤ i) : cD135 93 i = 0 := (congrFun (zwr_ne (D := cD134) (a := 96) (b := 93) (by decide)) i).trans (cs93_134 i h)
theorem cs93_136 (i : Nat) (h : 5201 ≤ i) : cD136 93 i = 0 := (congrFun (zwr_ne (D := cD135) (a := 96) (b := 93) (by decide)) i).trans (cs93_135 i h)
theorem cs93_137 (i : Nat) (h : 5201 ≤ i) : cD137 93 i = 0 := (congrFun (zwr_ne (D := cD136) (a := 96) (b := 93) (by decide)) i).trans (cs93_136 i h)
theorem cs93_138 (i : Nat) (h : 5201 ≤ i) : cD138 93 i = 0 := (congrFun (zwr_ne (D := cD137) (a := 96) (b := 93) (by decide)) i).trans (cs93_137 i h)
theorem cs93_139 (i : Nat) (h : 5201 ≤ i) : cD139 93 i = 0 := (congrFun (zwr_ne (D := cD138) (a := 96) (b := 93) (by decide)) i).trans (cs93_138 i h)
theorem cs93_140 (i : Nat) (h : 5201 ≤ i) : cD140 93 i = 0 := (congrFun (zwr_ne (D := cD139) (a := 96) (b := 93) (by decide)) i).trans (cs93_139 i h)
theorem cs93_141 (i : Nat) (h : 5201 ≤ i) : cD141 93 i = 0 := (congrFun (zwr_ne (D := cD140) (a := 96) (b := 93) (by decide)) i).trans (cs93_140 i h)
theorem cs93_142 (i : Nat) (h : 5201 ≤ i) : cD142 93 i = 0 := (congrFun (zwr_ne (D := cD141) (a := 96) (b := 93) (by decide)) i).trans (cs93_141 i h)
theorem cs93_143 (i : Nat) (h : 5201 ≤ i) : cD143 93 i = 0 := (congrFun (zwr_ne (D := cD142) (a := 96) (b := 93) (by decide)) i).trans (cs93_142 i h)
theorem cs93_144 (i : Nat) (h : 5201 ≤ i) : cD144 93 i = 0 := (congrFun (zwr_ne (D := cD143) (a := 96) (b := 93) (by decide)) i).trans (cs93_143 i h)
theorem cs93_145 (i : Nat) (h : 5201 ≤ i) : cD145 93 i = 0 := (congrFun (zwr_ne (D := cD144) (a := 96) (b := 93) (by decide)) i).trans (cs93_144 i h)
theorem cs93_146 (i : Nat) (h : 5201 ≤ i) : cD146 93 i = 0 := (congrFun (zwr_ne (D := cD145) (a := 96) (b := 93) (by decide)) i).trans (cs93_145 i h)
theorem cs93_147 (i : Nat) (h : 5201 ≤ i) : cD147 93 i = 0 := (congrFun (zwr_ne (D := cD146) (a := 96) (b := 93) (by decide)) i).trans (cs93_146 i h)
theorem cs93_148 (i : Nat) (h : 5201 ≤ i) : cD148 93 i = 0 := (congrFun (zwr_ne (D := cD147) (a := 96) (b := 93) (by decide)) i).trans (cs93_147 i h)
theorem cs93_149 (i : Nat) (h : 5201 ≤ i) : cD149 93 i = 0 := (congrFun (zwr_ne (D := cD148) (a := 96) (b := 93) (by decide)) i).trans (cs93_148 i h)
theorem cs93_150 (i : Nat) (h : 5201 ≤ i) : cD150 93 i = 0 := (congrFun (zwr_ne (D := cD149) (a := 96) (b := 93) (by decide)) i).trans (cs93_149 i h)
theorem cs93_151 (i : Nat) (h : 5201 ≤ i) : cD151 93 i = 0 := (congrFun (zwr_ne (D := cD150) (a := 96) (b := 93) (by decide)) i).trans (cs93_150 i h)
theorem cs93_152 (i : Nat) (h : 5201 ≤ i) : cD152 93 i = 0 := (congrFun (zwr_ne (D := cD151) (a := 96) (b := 93) (by decide)) i).trans (cs93_151 i h)
theorem cs93_153 (i : Nat) (h : 5201 ≤ i) : cD153 93 i = 0 := (congrFun (zwr_ne (D := cD152) (a := 96) (b := 93) (by decide)) i).trans (cs93_152 i h)
theorem cs93_154 (i : Nat) (h : 5201 ≤ i) : cD154 93 i = 0 := (congrFun (zwr_ne (D := cD153) (a := 96) (b := 93) (by decide)) i).trans (cs93_153 i h)
theorem cs93_155 (i : Nat) (h : 5201 ≤ i) : cD155 93 i = 0 := (congrFun (zwr_ne (D := cD154) (a := 96) (b := 93) (by decide)) i).trans (cs93_154 i h)
theorem cs93_156 (i : Nat) (h : 5201 ≤ i) : cD156 93 i = 0 := (congrFun (zwr_ne (D := cD155) (a := 96) (b := 93) (by decide)) i).trans (cs93_155 i h)
theorem cs93_157 (i : Nat) (h : 5201 ≤ i) : cD157 93 i = 0 := (congrFun (zwr_ne (D := cD156) (a := 96) (b := 93) (by decide)) i).trans (cs93_156 i h)
theorem cs93_158 (i : Nat) (h : 5201 ≤ i) : cD158 93 i = 0 := (congrFun (zwr_ne (D := cD157) (a := 96) (b := 93) (by decide)) i).trans (cs93_157 i h)
theorem cs93_159 (i : Nat) (h : 5201 ≤ i) : cD159 93 i = 0 := (congrFun (zwr_ne (D := cD158) (a := 96) (b := 93) (by decide)) i).trans (cs93_158 i h)
theorem cs93_160 (i : Nat) (h : 5201 ≤ i) : cD160 93 i = 0 := (congrFun (zwr_ne (D := cD159) (a := 96) (b := 93) (by decide)) i).trans (cs93_159 i h)
theorem cs93_161 (i : Nat) (h : 5201 ≤ i) : cD161 93 i = 0 := (congrFun (zwr_ne (D := cD160) (a := 96) (b := 93) (by decide)) i).trans (cs93_160 i h)
theorem cs93_162 (i : Nat) (h : 5201 ≤ i) : cD162 93 i = 0 := (congrFun (zwr_ne (D := cD161) (a := 96) (b := 93) (by decide)) i).trans (cs93_161 i h)
theorem cs93_163 (i : Nat) (h : 5201 ≤ i) : cD163 93 i = 0 := (congrFun (zwr_ne (D := cD162) (a := 96) (b := 93) (by decide)) i).trans (cs93_162 i h)
theorem cs93_164 (i : Nat) (h : 5201 ≤ i) : cD164 93 i = 0 := (congrFun (zwr_ne (D := cD163) (a := 96) (b := 93) (by decide)) i).trans (cs93_163 i h)
theorem cs93_165 (i : Nat) (h : 5201 ≤ i) : cD165 93 i = 0 := (congrFun (zwr_ne (D := cD164) (a := 96) (b := 93) (by decide)) i).trans (cs93_164 i h)
theorem cs93_166 (i : Nat) (h : 5201 ≤ i) : cD166 93 i = 0 := (congrFun (zwr_ne (D := cD165) (a := 96) (b := 93) (by decide)) i).trans (cs93_165 i h)
theorem cs93_167 (i : Nat) (h : 5201 ≤ i) : cD167 93 i = 0 := (congrFun (zwr_ne (D := cD166) (a := 96) (b := 93) (by decide)) i).trans (cs93_166 i h)
theorem cs93_168 (i : Nat) (h : 5201 ≤ i) : cD168 93 i = 0 := (congrFun (zwr_ne (D := cD167) (a := 96) (b := 93) (by decide)) i).trans (cs93_167 i h)
theorem cs93_169 (i : Nat) (h : 5201 ≤ i) : cD169 93 i = 0 := (congrFun (zwr_ne (D := cD168) (a := 96) (b := 93) (by decide)) i).trans (cs93_168 i h)
theorem cs93_170 (i : Nat) (h : 5201 ≤ i) : cD170 93 i = 0 := (congrFun (zwr_ne (D := cD169) (a := 96) (b := 93) (by decide)) i).trans (cs93_169 i h)
theorem cs93_171 (i : Nat) (h : 5201 ≤ i) : cD171 93 i = 0 := (congrFun (zwr_ne (D := cD170) (a := 96) (b := 93) (by decide)) i).trans (cs93_170 i h)
theorem cs93_172 (i : Nat) (h : 5201 ≤ i) : cD172 93 i = 0 := (congrFun (zwr_ne (D := cD171) (a := 96) (b := 93) (by decide)) i).trans (cs93_171 i h)
theorem cs93_173 (i : Nat) (h : 5201 ≤ i) : cD173 93 i = 0 := (congrFun (zwr_ne (D := cD172) (a := 96) (b := 93) (by decide)) i).trans (cs93_172 i h)
theorem cs93_174 (i : Nat) (h : 5201 ≤ i) : cD174 93 i = 0 := (congrFun (zwr_ne (D := cD173) (a := 96) (b := 93) (by decide)) i).trans (cs93_173 i h)
theorem cs93_175 (i : Nat) (h : 5201 ≤ i) : cD175 93 i = 0 := (congrFun (zwr_ne (D := cD174) (a := 96) (b := 93) (by decide)) i).trans (cs93_174 i h)
theorem cs93_176 (i : Nat) (h : 5201 ≤ i) : cD176 93 i = 0 := (congrFun (zwr_ne (D := cD175) (a := 96) (b := 93) (by decide)) i).trans (cs93_175 i h)
theorem cs93_177 (i : Nat) (h : 5201 ≤ i) : cD177 93 i = 0 := (congrFun (zwr_ne (D := cD176) (a := 96) (b := 93) (by decide)) i).trans (cs93_176 i h)
theorem cs93_178 (i : Nat) (h : 5201 ≤ i) : cD178 93 i = 0 := (congrFun (zwr_ne (D := cD177) (a := 96) (b := 93) (by decide)) i).trans (cs93_177 i h)
theorem cs93_179 (i : Nat) (h : 5201 ≤ i) : cD179 93 i = 0 := (congrFun (zwr_ne (D := cD178) (a := 96) (b := 93) (by decide)) i).trans (cs93_178 i h)
theorem cs93_180 (i : Nat) (h : 5201 ≤ i) : cD180 93 i = 0 := (congrFun (zwr_ne (D := cD179) (a := 96) (b := 93) (by decide)) i).trans (cs93_179 i h)
theorem cs93_181 (i : Nat) (h : 5201 ≤ i) : cD181 93 i = 0 := (congrFun (zwr_ne (D := cD180) (a := 96) (b := 93) (by decide)) i).trans (cs93_180 i h)
theorem cs93_182 (i : Nat) (h : 5201 ≤ i) : cD182 93 i = 0 := (congrFun (zwr_ne (D := cD181) (a := 96) (b := 93) (by decide)) i).trans (cs93_181 i h)
theorem cs93_183 (i : Nat) (h : 5201 ≤ i) : cD183 93 i = 0 := (congrFun (zwr_ne (D := cD182) (a := 96) (b := 93) (by decide)) i).trans (cs93_182 i h)
theorem cs93_184 (i : Nat) (h : 5201 ≤ i) : cD184 93 i = 0 := (congrFun (zwr_ne (D := cD183) (a := 96) (b := 93) (by decide)) i).trans (cs93_183 i h)
theorem cs93_185 (i : Nat) (h : 5201 ≤ i) : cD185 93 i = 0 := (congrFun (zwr_ne (D := cD184) (a := 96) (b := 93) (by decide)) i).trans (cs93_184 i h)
theorem cs93_186 (i : Nat) (h : 5201 ≤ i) : cD186 93 i = 0 := (congrFun (zwr_ne (D := cD185) (a := 96) (b := 93) (by decide)) i).trans (cs93_185 i h)
theorem cs93_187 (i : Nat) (h : 5201 ≤ i) : cD187 93 i = 0 := (congrFun (zwr_ne (D := cD186) (a := 96) (b := 93) (by decide)) i).trans (cs93_186 i h)
theorem cs93_188 (i : Nat) (h : 5201 ≤ i) : cD188 93 i = 0 := (congrFun (zwr_ne (D := cD187) (a := 96) (b := 93) (by decide)) i).trans (cs93_187 i h)
theorem cs93_189 (i : Nat) (h : 5201 ≤ i) : cD189 93 i = 0 := (congrFun (zwr_ne (D := cD188) (a := 96) (b := 93) (by decide)) i).trans (cs93_188 i h)
theorem cs93_190 (i : Nat) (h : 5201 ≤ i) : cD190 93 i = 0 := (congrFun (zwr_ne (D := cD189) (a := 96) (b := 93) (by decide)) i).trans (cs93_189 i h)
theorem cs93_191 (i : Nat) (h : 5201 ≤ i) : cD191 93 i = 0 := (congrFun (zwr_ne (D := cD190) (a := 96) (b := 93) (by decide)) i).trans (cs93_190 i h)
theorem cs93_192 (i : Nat) (h : 5201 ≤ i) : cD192 93 i = 0 := (congrFun (zwr_ne (D := cD191) (a := 96) (b := 93) (by decide)) i).trans (cs93_191 i h)
theorem cs93_193 (i : Nat) (h : 5201 ≤ i) : cD193 93 i = 0 := (congrFun (zwr_ne (D := cD192) (a := 96) (b := 93) (by decide)) i).trans (cs93_192 i h)
theorem cs93_194 (i : Nat) (h : 5201 ≤ i) : cD194 93 i = 0 := (congrFun (zwr_ne (D := cD193) (a := 96) (b := 93) (by decide)) i).trans (cs93_193 i h)
theorem cs93_195 (i : Nat) (h : 5201 ≤ i) : cD195 93 i = 0 := (congrFun (zwr_ne (D := cD194) (a := 96) (b := 93) (by decide)) i).trans (cs93_194 i h)
theorem cs93_196 (i : Nat) (h : 5201 ≤ i) : cD196 93 i = 0 := (congrFun (zwr_ne (D := cD195) (a := 96) (b := 93) (by decide)) i).trans (cs93_195 i h)
theorem cs93_197 (i : Nat) (h : 5201 ≤ i) : cD197 93 i = 0 := (congrFun (zrow_ne (D := cD196) (a := 97) (b := 93) (by decide)) i).trans (cs93_196 i h)
theorem cs93_198 (i : Nat) (h : 5201 ≤ i) : cD198 93 i = 0 := (congrFun (zrow_ne (D := cD197) (a := 98) (b := 93) (by decide)) i).trans (cs93_197 i h)
theorem cs93_199 (i : Nat) (h : 5201 ≤ i) : cD199 93 i = 0 := (congrFun (zwr_ne (D := cD198) (a := 91) (b := 93) (by decide)) i).trans (cs93_198 i h)
theorem cs93_200 (i : Nat) (h : 5201 ≤ i) : cD200 93 i = 0 := (congrFun (zrow_ne (D := cD199) (a := 99) (b := 93) (by decide)) i).trans (cs93_199 i h)
theorem cs93_201 (i : Nat) (h : 5201 ≤ i) : cD201 93 i = 0 := (congrFun (zrow_ne (D := cD200) (a := 100) (b := 93) (by decide)) i).trans (cs93_200 i h)
theorem cs93_202 (i : Nat) (h : 5201 ≤ i) : cD202 93 i = 0 := (congrFun (zrow_ne (D := cD201) (a := 101) (b := 93) (by decide)) i).trans (cs93_201 i h)
theorem cs93_203 (i : Nat) (h : 5201 ≤ i) : cD203 93 i = 0 := (congrFun (zrow_ne (D := cD202) (a := 102) (b := 93) (by decide)) i).trans (cs93_202 i h)
theorem cs93_204 (i : Nat) (h : 5201 ≤ i) : cD204 93 i = 0 := (congrFun (zrow_ne (D := cD203) (a := 103) (b := 93) (by decide)) i).trans (cs93_203 i h)
theorem cs93_205 (i : Nat) (h : 5201 ≤ i) : cD205 93 i = 0 := (congrFun (zrow_ne (D := cD204) (a := 104) (b := 93) (by decide)) i).trans (cs93_204 i h)
theorem cs93_206 (i : Nat) (h : 5201 ≤ i) : cD206 93 i = 0 := (congrFun (zrow_ne (D := cD205) (a := 105) (b := 93) (by decide)) i).trans (cs93_205 i h)
theorem cs93_207 (i : Nat) (h : 5201 ≤ i) : cD207 93 i = 0 := (congrFun (zrow_ne (D := cD206) (a := 106) (b := 93) (by decide)) i).trans (cs93_206 i h)
theorem cs93_208 (i : Nat) (h : 5201 ≤ i) : cD208 93 i = 0 := (congrFun (zrow_ne (D := cD207) (a := 107) (b := 93) (by decide)) i).trans (cs93_207 i h)
theorem cs93_209 (i : Nat) (h : 5201 ≤ i) : cD209 93 i = 0 := (congrFun (zrow_ne (D := cD208) (a := 108) (b := 93) (by decide)) i).trans (cs93_208 i h)
theorem cs93_210 (i : Nat) (h : 5201 ≤ i) : cD210 93 i = 0 := (congrFun (zrow_ne (D := cD209) (a := 109) (b := 93) (by decide)) i).trans (cs93_209 i h)
theorem cs93_211 (i : Nat) (h : 5201 ≤ i) : cD211 93 i = 0 := (congrFun (zrow_ne (D := cD210) (a := 110) (b := 93) (by decide)) i).trans (cs93_210 i h)
theorem cs93_212 (i : Nat) (h : 5201 ≤ i) : cD212 93 i = 0 := (congrFun (zrow_ne (D := cD211) (a := 111) (b := 93) (by decide)) i).trans (cs93_211 i h)
theorem cs93_213 (i : Nat) (h : 5201 ≤ i) : cD213 93 i = 0 := (congrFun (zwr_ne (D := cD212) (a := 91) (b := 93) (by decide)) i).trans (cs93_212 i h)
theorem cs93_214 (i : Nat) (h : 5201 ≤ i) : cD214 93 i = 0 := (congrFun (zrow_ne (D := cD213) (a := 112) (b := 93) (by decide)) i).trans (cs93_213 i h)
theorem cs93_215 (i : Nat) (h : 5201 ≤ i) : cD215 93 i = 0 := (congrFun (zrow_ne (D := cD214) (a := 113) (b := 93) (by decide)) i).trans (cs93_214 i h)
theorem cs93_216 (i : Nat) (h : 5201 ≤ i) : cD216 93 i = 0 := (congrFun (zrow_ne (D := cD215) (a := 114) (b := 93) (by decide)) i).trans (cs93_215 i h)
theorem cs93_217 (i : Nat) (h : 5201 ≤ i) : cD217 93 i = 0 := (congrFun (zrow_ne (D := cD216) (a := 115) (b := 93) (by decide)) i).trans (cs93_216 i h)
theorem cs93_218 (i : Nat) (h : 5201 ≤ i) : cD218 93 i = 0 := (congrFun (zrow_ne (D := cD217) (a := 116) (b := 93) (by decide)) i).trans (cs93_217 i h)
theorem cs93_219 (i : Nat) (h : 5201 ≤ i) : cD219 93 i = 0 := (congrFun (zrow_ne (D := cD218) (a := 117) (b := 93) (by decide)) i).trans (cs93_218 i h)
theorem cs93_220 (i : Nat) (h : 5201 ≤ i) : cD220 93 i = 0 := (congrFun (zrow_ne (D := cD219) (a := 118) (b := 93) (by decide)) i).trans (cs93_219 i h)
theorem cs93_221 (i : Nat) (h : 5201 ≤ i) : cD221 93 i = 0 := (congrFun (zrow_ne (D := cD220) (a := 119) (b := 93) (by decide)) i).trans (cs93_220 i h)
theorem cs93_222 (i : Nat) (h : 5201 ≤ i) : cD222 93 i = 0 := (congrFun (zrow_ne (D := cD221) (a := 120) (b := 93) (by decide)) i).trans (cs93_221 i h)
theorem cs93_223 (i : Nat) (h : 5201 ≤ i) : cD223 93 i = 0 := (congrFun (zrow_ne (D := cD222) (a := 121) (b := 93) (by decide)) i).trans (cs93_222 i h)
theorem cs93_224 (i : Nat) (h : 5201 ≤ i) : cD224 93 i = 0 := (congrFun (zrow_ne (D := cD223) (a := 122) (b := 93) (by decide)) i).trans (cs93_223 i h)
theorem cs93_225 (i : Nat) (h : 5201 ≤ i) : cD225 93 i = 0 := (congrFun (zwr_ne (D := cD224) (a := 91) (b := 93) (by decide)) i).trans (cs93_224 i h)
theorem cs93_226 (i : Nat) (h : 5201 ≤ i) : cD226 93 i = 0 := (congrFun (zrow_ne (D := cD225) (a := 123) (b := 93) (by decide)) i).trans (cs93_225 i h)
theorem cs93_227 (i : Nat) (h : 5201 ≤ i) : cD227 93 i = 0 := (congrFun (zrow_ne (D := cD226) (a := 124) (b := 93) (by decide)) i).trans (cs93_226 i h)
theorem cs93_228 (i : Nat) (h : 5201 ≤ i) : cD228 93 i = 0 := (congrFun (zrow_ne (D := cD227) (a := 125) (b := 93) (by decide)) i).trans (cs93_227 i h)
theorem cs93_229 (i : Nat) (h : 5201 ≤ i) : cD229 93 i = 0 := (congrFun (zwr_ne (D := cD228) (a := 91) (b := 93) (by decide)) i).trans (cs93_228 i h)
theorem cs93_230 (i : Nat) (h : 5201 ≤ i) : cD230 93 i = 0 := (congrFun (zwr_self (D := cD229) (a := 93) (k := 100) (v := 8)) i).trans ((show zset (cD229 93) 100 8 i = cD229 93 i from if_neg (by omega)).trans (cs93_229 i h))
theorem cs93_231 (i : Nat) (h : 5201 ≤ i) : cD231 93 i = 0 := (congrFun (zwr_self (D := cD230) (a := 93) (k := 101) (v := 3)) i).trans ((show zset (cD230 93) 101 3 i = cD230 93 i from if_neg (by omega)).trans (cs93_230 i h))
theorem cs93_232 (i : Nat) (h : 5201 ≤ i) : cD232 93 i = 0 := (congrFun (zwr_self (D := cD231) (a := 93) (k := 102) (v := 2)) i).trans ((show zset (cD231 93) 102 2 i = cD231 93 i from if_neg (by omega)).trans (cs93_231 i h))
theorem cs93_233 (i : Nat) (h : 5201 ≤ i) : cD233 93 i = 0 := (congrFun (zwr_self (D := cD232) (a := 93) (k := 104) (v := 10)) i).trans ((show zset (cD232 93) 104 10 i = cD232 93 i from if_neg (by omega)).trans (cs93_232 i h))
theorem cs93_234 (i : Nat) (h : 5201 ≤ i) : cD234 93 i = 0 := (congrFun (zwr_self (D := cD233) (a := 93) (k := 105) (v := 19)) i).trans ((show zset (cD233 93) 105 19 i = cD233 93 i from if_neg (by omega)).trans (cs93_233 i h))
theorem cs93_235 (i : Nat) (h : 5201 ≤ i) : cD235 93 i = 0 := (congrFun (zwr_self (D := cD234) (a := 93) (k := 106) (v := 6)) i).trans ((show zset (cD234 93) 106 6 i = cD234 93 i from if_neg (by omega)).trans (cs93_234 i h))
theorem cs93_236 (i : Nat) (h : 5201 ≤ i) : cD236 93 i = 0 := (congrFun (zwr_self (D := cD235) (a := 93) (k := 394) (v := (-1))) i).trans ((show zset (cD235 93) 394 (-1) i = cD235 93 i from if_neg (by omega)).trans (cs93_235 i h))
def csM : Nat → Int := fun k => if k = 7 ∨ k = 9 ∨ k = 10 ∨ k = 11 then -1 else 0
theorem wI_of {F : zFs} {D : zDa} (hG : zG F)
    (k0 : D 93 390 = 0 ∧ D 93 391 = 0 ∧ D 93 392 = 0 ∧ D 93 393 = 0 ∧ D 93 394 = -1)
    (kt : ∀ k, k < 7 → D 7 k = D 93 (100 + k) ∧ zTLf k ≤ D 93 (100 + k) ∧ D 93 (100 + k) ≤ zTMf k)
    (kf : ∀ f, f < 3 → D 11 f = D 93 (347 + f) ∧ 0 ≤ D 93 (347 + f) ∧ D 93 (347 + f) ≤ 99)
    (s0 : D 1 5 = 0 ∧ D 1 12 = 0 ∧ D 1 15 = 0 ∧ D 1 8 = 0 ∧ D 1 9 = -1)
    (sp : ∀ t, t < 6 → D 8 t < 0)
    (im : ∀ k : Nat, k < 2 → D 13 k = 14 + 12 * (k : Int) ∧ D 38 k = 0)
    (e0 : D 0 4 = 0 ∧ D 0 9 = 0 ∧ D 0 5 = -1 ∧ D 0 6 = 0 ∧ D 40 0 = -1 ∧ D 40 1 = -1 ∧ D 40 2 = -1)
    (e41 : ∀ k, k < 7 → 1 ≤ k → D 41 k = 0)
    (ev : ∀ s ∈ ([1, 14, 26] : List Nat), D s 16 = 0 ∧ D s 17 = 0)
    (lot : D 53 = cLotT)
    (w : D 73 2 = -1 ∧ D 60 11 = 66 ∧ D 60 3 = -1 ∧ D 60 4 = -1 ∧ D 78 9 = 84 ∧ D 78 2 = -1)
    (r0 : D 91 9 = 0 ∧ D 91 0 = 0 ∧ D 91 10 = -1 ∧ D 91 59 = 0 ∧ D 91 64 = -1 ∧ D 91 1 = 0 ∧ D 91 35 = -1 ∧ D 91 58 = -1)
    (r92 : ∀ k, k < 7 → 1 ≤ k → D 92 k = 0)
    (r95 : ∀ k, k < 2 → D 95 k = 0)
    (rw9 : rWs D)
    (hi : ∀ i, 5201 ≤ i → D 93 i = 0) : wI F D 126 172044 0 := by
  obtain ⟨k1, k2, k3, k4, k5⟩ := k0
  obtain ⟨s1, s2, s3, s4, s5⟩ := s0
  obtain ⟨e1, e2, e3, e4, e5, e6, e7⟩ := e0
  obtain ⟨w1, w2, w3, w4, w5, w6⟩ := w
  obtain ⟨r1, r2, r3, r4, r5, r6, r7, r8⟩ := r0
  have v1 := ev 1 (by decide)
  generalize hK : D 93 = K at k1 k2 k3 k4 k5 kt kf hi
  have hOk : kOk K := by
    refine ⟨by omega, fun q h => ?_, fun k h => (kt k h).2, ⟨by omega, fun i h => ?_⟩, fun f h => (kf f h).2, ⟨by omega, fun y h => ?_⟩, by omega, by omega⟩
    · rw [k1] at h; omega
    · rw [k2] at h; omega
    · rw [k3] at h; omega
  have hSt : qSt F D (fun _ => False) 1 K := by
    refine ⟨hOk, by omega, fun q h => ?_, fun k h => (kt k h).1, ⟨by omega, fun i h => ?_⟩, fun f h => (kf f h).1, ⟨by omega, fun y h => ?_⟩, ⟨by omega, by omega, fun t h => Or.inl (sp t h), fun t h => ?_⟩⟩
    · rw [k1] at h; omega
    · rw [k2] at h; omega
    · rw [k3] at h; omega
    · rw [k4] at h; omega
  refine ⟨fun _ => False, K, fun _ => none, fun _ => 0, 0, csM, 66, 84, ⟨?_, ?_, fun a h => h.elim, by omega, ?_, ?_, ?_, ?_, id, by omega, ?_, by omega, by omega⟩, ⟨?_, rw9, ?_, ?_⟩⟩
  · refine ⟨hSt, fun k hk => ⟨(im k hk).1, Or.inl ⟨(im k hk).2, rfl⟩⟩, ⟨⟨e1, by omega, by omega⟩, fun i h => by omega⟩, ⟨e2, e3, e4, e5, e6, e7, fun k h1 h2 => ?_⟩, fun s hs => ?_, by omega, hG, fun a h => h.elim⟩
    · have : csM k = 0 := if_neg (by omega)
      rw [this]
      exact ⟨e41 k (by omega) h1, by omega, by omega⟩
    · have := ev s hs
      omega
  · intro n k hn hk
    rw [lot]
    show cT 21 0 (21 * n + k) = _
    unfold cT
    rw [show (21 * n + k) / 21 = n by omega, show (21 * n + k) % 21 = k by omega, if_pos (by omega)]
  · exact ⟨by omega, fun h => by omega⟩
  · exact ⟨w2, Or.inl rfl, by omega, id, gk_66 hG, by rw [gl_66 hG]; omega⟩
  · exact ⟨⟨by omega, by omega⟩, fun h => by omega, fun h => by omega⟩
  · exact ⟨w5, Or.inl rfl, by omega, gk_84 hG, 0, by omega, gl_84 hG⟩
  · exact ⟨by omega, fun h => by omega⟩
  · refine ⟨⟨hK, hOk, hi⟩, fun k hk => Or.inl ⟨r95 k hk, rfl⟩, ⟨⟨r1, by omega, by omega⟩, fun i h => by omega⟩, ⟨r2, r3, r4, r5, fun _ => ⟨rfl, rfl⟩, fun h => absurd rfl h, fun k h1 h2 => ?_⟩, by omega, by omega⟩
    have : csM k = 0 := if_neg (by omega)
    rw [this]
    exact ⟨r92 k (by omega) h1, by omega, by omega⟩
  · exact ⟨by omega, fun h => by omega⟩
  · exact ⟨by omega, fun h => by omega⟩
theorem cs_G : zG cF257 := by decide +kernel
theorem wI_start : wI cF257 cD236 126 172044 0 :=
  wI_of cs_G (by decide +kernel) (by decide +kernel) (by decide +kernel) (by decide +kernel) (by decide +kernel) (by decide +kernel) (by decide +kernel) (by decide +kernel) (by decide +kernel) cs53_236 (by decide +kernel) (by decide +kernel) (by decide +kernel) (by decide +kernel) (by unfold rWs; decide +kernel) cs93_236
