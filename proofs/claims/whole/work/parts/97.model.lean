theorem zX12_init_0 : decode mX12_init.2.1 0 = .ok (.aload_n 0, 1) := by decide +kernel
theorem zX12_init_1 : decode mX12_init.2.1 1 = .ok (.invokespecial 1, 3) := by decide +kernel
theorem loX12 : Cond.methodLink RX12 1 Lib.objectInit ∈ Gw := (gx5 129 rfl rfl)
theorem zX12_init_4 : decode mX12_init.2.1 4 = .ok (.aload_n 0, 1) := by decide +kernel
theorem zX12_init_5 : decode mX12_init.2.1 5 = .ok (.sipush 322, 3) := by decide +kernel
theorem ks322 : (Int16.ofInt (322)).toInt32 = nI 322 := by decide +kernel
theorem zX12_init_8 : decode mX12_init.2.1 8 = .ok (.newarray .int, 2) := by decide +kernel
theorem zX12_init_10 : decode mX12_init.2.1 10 = .ok (.putfield 9, 3) := by decide +kernel
theorem kpX12_9 : KP RX12 9 12 0 (tyX12 0) := ⟨RX12, TX12, 38, tyX12, rfl, by decide, rfl, rfl, iX12, (gx5 130 rfl rfl), tyX12_ok, nmX12, by decide +kernel⟩
theorem zX12_init_13 : decode mX12_init.2.1 13 = .ok (.aload_n 0, 1) := by decide +kernel
theorem zX12_init_14 : decode mX12_init.2.1 14 = .ok (.sipush 322, 3) := by decide +kernel
theorem zX12_init_17 : decode mX12_init.2.1 17 = .ok (.newarray .int, 2) := by decide +kernel
theorem zX12_init_19 : decode mX12_init.2.1 19 = .ok (.putfield 13, 3) := by decide +kernel
theorem kpX12_13 : KP RX12 13 12 1 (tyX12 1) := ⟨RX12, TX12, 38, tyX12, rfl, by decide, rfl, rfl, iX12, (gx5 131 rfl rfl), tyX12_ok, nmX12, by decide +kernel⟩
theorem zX12_init_22 : decode mX12_init.2.1 22 = .ok (.aload_n 0, 1) := by decide +kernel
theorem zX12_init_23 : decode mX12_init.2.1 23 = .ok (.bipush 74, 2) := by decide +kernel
theorem kb74 : (Int8.ofInt (74)).toInt32 = nI 74 := by decide +kernel
theorem zX12_init_25 : decode mX12_init.2.1 25 = .ok (.newarray .int, 2) := by decide +kernel
theorem zX12_init_27 : decode mX12_init.2.1 27 = .ok (.putfield 16, 3) := by decide +kernel
theorem kpX12_16 : KP RX12 16 12 2 (tyX12 2) := ⟨RX12, TX12, 38, tyX12, rfl, by decide, rfl, rfl, iX12, (gx5 132 rfl rfl), tyX12_ok, nmX12, by decide +kernel⟩
theorem zX12_init_30 : decode mX12_init.2.1 30 = .ok (.aload_n 0, 1) := by decide +kernel
theorem zX12_init_31 : decode mX12_init.2.1 31 = .ok (.sipush 200, 3) := by decide +kernel
theorem zX12_init_34 : decode mX12_init.2.1 34 = .ok (.newarray .int, 2) := by decide +kernel
theorem zX12_init_36 : decode mX12_init.2.1 36 = .ok (.putfield 19, 3) := by decide +kernel
theorem kpX12_19 : KP RX12 19 12 4 (tyX12 4) := ⟨RX12, TX12, 38, tyX12, rfl, by decide, rfl, rfl, iX12, (gx5 134 rfl rfl), tyX12_ok, nmX12, by decide +kernel⟩
theorem zX12_init_39 : decode mX12_init.2.1 39 = .ok (.aload_n 0, 1) := by decide +kernel
theorem zX12_init_40 : decode mX12_init.2.1 40 = .ok (.sipush 200, 3) := by decide +kernel
theorem zX12_init_43 : decode mX12_init.2.1 43 = .ok (.newarray .int, 2) := by decide +kernel
theorem zX12_init_45 : decode mX12_init.2.1 45 = .ok (.putfield 22, 3) := by decide +kernel
theorem kpX12_22 : KP RX12 22 12 5 (tyX12 5) := ⟨RX12, TX12, 38, tyX12, rfl, by decide, rfl, rfl, iX12, (gx5 135 rfl rfl), tyX12_ok, nmX12, by decide +kernel⟩
theorem zX12_init_48 : decode mX12_init.2.1 48 = .ok (.aload_n 0, 1) := by decide +kernel
theorem zX12_init_49 : decode mX12_init.2.1 49 = .ok (.sipush 144, 3) := by decide +kernel
theorem ks144 : (Int16.ofInt (144)).toInt32 = nI 144 := by decide +kernel
theorem zX12_init_52 : decode mX12_init.2.1 52 = .ok (.newarray .char, 2) := by decide +kernel
theorem kacC : Cond.arrayClass .char ∈ Gw := (gx6 5 rfl rfl)
theorem zX12_init_54 : decode mX12_init.2.1 54 = .ok (.dup, 1) := by decide +kernel
theorem zX12_init_55 : decode mX12_init.2.1 55 = .ok (.iconst 0, 1) := by decide +kernel
theorem zX12_init_56 : decode mX12_init.2.1 56 = .ok (.bipush 112, 2) := by decide +kernel
theorem kb112 : (Int8.ofInt (112)).toInt32 = nI 112 := by decide +kernel
theorem zX12_init_58 : decode mX12_init.2.1 58 = .ok (.castore, 1) := by decide +kernel
theorem vc112 : vp_nar .char (nI 112) = nI 112 := by decide +kernel
theorem zX12_init_59 : decode mX12_init.2.1 59 = .ok (.dup, 1) := by decide +kernel
theorem zX12_init_60 : decode mX12_init.2.1 60 = .ok (.iconst 1, 1) := by decide +kernel
theorem zX12_init_61 : decode mX12_init.2.1 61 = .ok (.bipush 97, 2) := by decide +kernel
theorem kb97 : (Int8.ofInt (97)).toInt32 = nI 97 := by decide +kernel
theorem zX12_init_63 : decode mX12_init.2.1 63 = .ok (.castore, 1) := by decide +kernel
theorem vc97 : vp_nar .char (nI 97) = nI 97 := by decide +kernel
theorem zX12_init_64 : decode mX12_init.2.1 64 = .ok (.dup, 1) := by decide +kernel
theorem zX12_init_65 : decode mX12_init.2.1 65 = .ok (.iconst 2, 1) := by decide +kernel
theorem zX12_init_66 : decode mX12_init.2.1 66 = .ok (.bipush 110, 2) := by decide +kernel
theorem kb110 : (Int8.ofInt (110)).toInt32 = nI 110 := by decide +kernel
theorem zX12_init_68 : decode mX12_init.2.1 68 = .ok (.castore, 1) := by decide +kernel
theorem vc110 : vp_nar .char (nI 110) = nI 110 := by decide +kernel
theorem zX12_init_69 : decode mX12_init.2.1 69 = .ok (.dup, 1) := by decide +kernel
theorem zX12_init_70 : decode mX12_init.2.1 70 = .ok (.iconst 3, 1) := by decide +kernel
theorem zX12_init_71 : decode mX12_init.2.1 71 = .ok (.bipush 101, 2) := by decide +kernel
theorem kb101 : (Int8.ofInt (101)).toInt32 = nI 101 := by decide +kernel
theorem zX12_init_73 : decode mX12_init.2.1 73 = .ok (.castore, 1) := by decide +kernel
theorem vc101 : vp_nar .char (nI 101) = nI 101 := by decide +kernel
theorem zX12_init_74 : decode mX12_init.2.1 74 = .ok (.dup, 1) := by decide +kernel
theorem zX12_init_75 : decode mX12_init.2.1 75 = .ok (.iconst 4, 1) := by decide +kernel
theorem zX12_init_76 : decode mX12_init.2.1 76 = .ok (.bipush 32, 2) := by decide +kernel
theorem kb32 : (Int8.ofInt (32)).toInt32 = nI 32 := by decide +kernel
theorem zX12_init_78 : decode mX12_init.2.1 78 = .ok (.castore, 1) := by decide +kernel
theorem vc32 : vp_nar .char (nI 32) = nI 32 := by decide +kernel
theorem zX12_init_79 : decode mX12_init.2.1 79 = .ok (.dup, 1) := by decide +kernel
theorem zX12_init_80 : decode mX12_init.2.1 80 = .ok (.iconst 5, 1) := by decide +kernel
theorem zX12_init_81 : decode mX12_init.2.1 81 = .ok (.bipush 32, 2) := by decide +kernel
theorem zX12_init_83 : decode mX12_init.2.1 83 = .ok (.castore, 1) := by decide +kernel
theorem zX12_init_84 : decode mX12_init.2.1 84 = .ok (.dup, 1) := by decide +kernel
theorem zX12_init_85 : decode mX12_init.2.1 85 = .ok (.bipush 6, 2) := by decide +kernel
theorem zX12_init_87 : decode mX12_init.2.1 87 = .ok (.bipush 32, 2) := by decide +kernel
theorem zX12_init_89 : decode mX12_init.2.1 89 = .ok (.castore, 1) := by decide +kernel
theorem zX12_init_90 : decode mX12_init.2.1 90 = .ok (.dup, 1) := by decide +kernel
theorem zX12_init_91 : decode mX12_init.2.1 91 = .ok (.bipush 7, 2) := by decide +kernel
theorem kb7 : (Int8.ofInt (7)).toInt32 = nI 7 := by decide +kernel
theorem zX12_init_93 : decode mX12_init.2.1 93 = .ok (.bipush 32, 2) := by decide +kernel
theorem zX12_init_95 : decode mX12_init.2.1 95 = .ok (.castore, 1) := by decide +kernel
theorem zX12_init_96 : decode mX12_init.2.1 96 = .ok (.dup, 1) := by decide +kernel
theorem zX12_init_97 : decode mX12_init.2.1 97 = .ok (.bipush 8, 2) := by decide +kernel
theorem zX12_init_99 : decode mX12_init.2.1 99 = .ok (.bipush 110, 2) := by decide +kernel
theorem zX12_init_101 : decode mX12_init.2.1 101 = .ok (.castore, 1) := by decide +kernel
theorem zX12_init_102 : decode mX12_init.2.1 102 = .ok (.dup, 1) := by decide +kernel
theorem zX12_init_103 : decode mX12_init.2.1 103 = .ok (.bipush 9, 2) := by decide +kernel
theorem kb9 : (Int8.ofInt (9)).toInt32 = nI 9 := by decide +kernel
theorem zX12_init_105 : decode mX12_init.2.1 105 = .ok (.bipush 97, 2) := by decide +kernel
theorem zX12_init_107 : decode mX12_init.2.1 107 = .ok (.castore, 1) := by decide +kernel
theorem zX12_init_108 : decode mX12_init.2.1 108 = .ok (.dup, 1) := by decide +kernel
theorem zX12_init_109 : decode mX12_init.2.1 109 = .ok (.bipush 10, 2) := by decide +kernel
theorem kb10 : (Int8.ofInt (10)).toInt32 = nI 10 := by decide +kernel
theorem zX12_init_111 : decode mX12_init.2.1 111 = .ok (.bipush 118, 2) := by decide +kernel
theorem kb118 : (Int8.ofInt (118)).toInt32 = nI 118 := by decide +kernel
theorem zX12_init_113 : decode mX12_init.2.1 113 = .ok (.castore, 1) := by decide +kernel
theorem vc118 : vp_nar .char (nI 118) = nI 118 := by decide +kernel
theorem zX12_init_114 : decode mX12_init.2.1 114 = .ok (.dup, 1) := by decide +kernel
theorem zX12_init_115 : decode mX12_init.2.1 115 = .ok (.bipush 11, 2) := by decide +kernel
theorem kb11 : (Int8.ofInt (11)).toInt32 = nI 11 := by decide +kernel
theorem zX12_init_117 : decode mX12_init.2.1 117 = .ok (.bipush 118, 2) := by decide +kernel
theorem zX12_init_119 : decode mX12_init.2.1 119 = .ok (.castore, 1) := by decide +kernel
theorem zX12_init_120 : decode mX12_init.2.1 120 = .ok (.dup, 1) := by decide +kernel
theorem zX12_init_121 : decode mX12_init.2.1 121 = .ok (.bipush 12, 2) := by decide +kernel
theorem zX12_init_123 : decode mX12_init.2.1 123 = .ok (.bipush 121, 2) := by decide +kernel
theorem kb121 : (Int8.ofInt (121)).toInt32 = nI 121 := by decide +kernel
theorem zX12_init_125 : decode mX12_init.2.1 125 = .ok (.castore, 1) := by decide +kernel
theorem vc121 : vp_nar .char (nI 121) = nI 121 := by decide +kernel
theorem zX12_init_126 : decode mX12_init.2.1 126 = .ok (.dup, 1) := by decide +kernel
theorem zX12_init_127 : decode mX12_init.2.1 127 = .ok (.bipush 13, 2) := by decide +kernel
theorem kb13 : (Int8.ofInt (13)).toInt32 = nI 13 := by decide +kernel
theorem zX12_init_129 : decode mX12_init.2.1 129 = .ok (.bipush 32, 2) := by decide +kernel
theorem zX12_init_131 : decode mX12_init.2.1 131 = .ok (.castore, 1) := by decide +kernel
theorem zX12_init_132 : decode mX12_init.2.1 132 = .ok (.dup, 1) := by decide +kernel
theorem zX12_init_133 : decode mX12_init.2.1 133 = .ok (.bipush 14, 2) := by decide +kernel
theorem kb14 : (Int8.ofInt (14)).toInt32 = nI 14 := by decide +kernel
theorem zX12_init_135 : decode mX12_init.2.1 135 = .ok (.bipush 32, 2) := by decide +kernel
theorem zX12_init_137 : decode mX12_init.2.1 137 = .ok (.castore, 1) := by decide +kernel
theorem zX12_init_138 : decode mX12_init.2.1 138 = .ok (.dup, 1) := by decide +kernel
theorem zX12_init_139 : decode mX12_init.2.1 139 = .ok (.bipush 15, 2) := by decide +kernel
theorem kb15 : (Int8.ofInt (15)).toInt32 = nI 15 := by decide +kernel
theorem zX12_init_141 : decode mX12_init.2.1 141 = .ok (.bipush 32, 2) := by decide +kernel
theorem zX12_init_143 : decode mX12_init.2.1 143 = .ok (.castore, 1) := by decide +kernel
theorem zX12_init_144 : decode mX12_init.2.1 144 = .ok (.dup, 1) := by decide +kernel
theorem zX12_init_145 : decode mX12_init.2.1 145 = .ok (.bipush 16, 2) := by decide +kernel
theorem zX12_init_147 : decode mX12_init.2.1 147 = .ok (.bipush 115, 2) := by decide +kernel
theorem kb115 : (Int8.ofInt (115)).toInt32 = nI 115 := by decide +kernel
theorem zX12_init_149 : decode mX12_init.2.1 149 = .ok (.castore, 1) := by decide +kernel
theorem vc115 : vp_nar .char (nI 115) = nI 115 := by decide +kernel
theorem zX12_init_150 : decode mX12_init.2.1 150 = .ok (.dup, 1) := by decide +kernel
theorem zX12_init_151 : decode mX12_init.2.1 151 = .ok (.bipush 17, 2) := by decide +kernel
theorem kb17 : (Int8.ofInt (17)).toInt32 = nI 17 := by decide +kernel
theorem zX12_init_153 : decode mX12_init.2.1 153 = .ok (.bipush 101, 2) := by decide +kernel
theorem zX12_init_155 : decode mX12_init.2.1 155 = .ok (.castore, 1) := by decide +kernel
theorem zX12_init_156 : decode mX12_init.2.1 156 = .ok (.dup, 1) := by decide +kernel
theorem zX12_init_157 : decode mX12_init.2.1 157 = .ok (.bipush 18, 2) := by decide +kernel
theorem kb18 : (Int8.ofInt (18)).toInt32 = nI 18 := by decide +kernel
theorem zX12_init_159 : decode mX12_init.2.1 159 = .ok (.bipush 119, 2) := by decide +kernel
theorem kb119 : (Int8.ofInt (119)).toInt32 = nI 119 := by decide +kernel
theorem zX12_init_161 : decode mX12_init.2.1 161 = .ok (.castore, 1) := by decide +kernel
theorem vc119 : vp_nar .char (nI 119) = nI 119 := by decide +kernel
theorem zX12_init_162 : decode mX12_init.2.1 162 = .ok (.dup, 1) := by decide +kernel
theorem zX12_init_163 : decode mX12_init.2.1 163 = .ok (.bipush 19, 2) := by decide +kernel
theorem kb19 : (Int8.ofInt (19)).toInt32 = nI 19 := by decide +kernel
theorem zX12_init_165 : decode mX12_init.2.1 165 = .ok (.bipush 101, 2) := by decide +kernel
theorem zX12_init_167 : decode mX12_init.2.1 167 = .ok (.castore, 1) := by decide +kernel
theorem zX12_init_168 : decode mX12_init.2.1 168 = .ok (.dup, 1) := by decide +kernel
theorem zX12_init_169 : decode mX12_init.2.1 169 = .ok (.bipush 20, 2) := by decide +kernel
theorem kb20 : (Int8.ofInt (20)).toInt32 = nI 20 := by decide +kernel
theorem zX12_init_171 : decode mX12_init.2.1 171 = .ok (.bipush 114, 2) := by decide +kernel
theorem kb114 : (Int8.ofInt (114)).toInt32 = nI 114 := by decide +kernel
theorem zX12_init_173 : decode mX12_init.2.1 173 = .ok (.castore, 1) := by decide +kernel
theorem vc114 : vp_nar .char (nI 114) = nI 114 := by decide +kernel
theorem zX12_init_174 : decode mX12_init.2.1 174 = .ok (.dup, 1) := by decide +kernel
theorem zX12_init_175 : decode mX12_init.2.1 175 = .ok (.bipush 21, 2) := by decide +kernel
theorem kb21 : (Int8.ofInt (21)).toInt32 = nI 21 := by decide +kernel
theorem zX12_init_177 : decode mX12_init.2.1 177 = .ok (.bipush 32, 2) := by decide +kernel
theorem zX12_init_179 : decode mX12_init.2.1 179 = .ok (.castore, 1) := by decide +kernel
theorem zX12_init_180 : decode mX12_init.2.1 180 = .ok (.dup, 1) := by decide +kernel
theorem zX12_init_181 : decode mX12_init.2.1 181 = .ok (.bipush 22, 2) := by decide +kernel
theorem kb22 : (Int8.ofInt (22)).toInt32 = nI 22 := by decide +kernel
theorem zX12_init_183 : decode mX12_init.2.1 183 = .ok (.bipush 32, 2) := by decide +kernel
theorem zX12_init_185 : decode mX12_init.2.1 185 = .ok (.castore, 1) := by decide +kernel
theorem zX12_init_186 : decode mX12_init.2.1 186 = .ok (.dup, 1) := by decide +kernel
theorem zX12_init_187 : decode mX12_init.2.1 187 = .ok (.bipush 23, 2) := by decide +kernel
theorem kb23 : (Int8.ofInt (23)).toInt32 = nI 23 := by decide +kernel
theorem zX12_init_189 : decode mX12_init.2.1 189 = .ok (.bipush 32, 2) := by decide +kernel
theorem zX12_init_191 : decode mX12_init.2.1 191 = .ok (.castore, 1) := by decide +kernel
theorem zX12_init_192 : decode mX12_init.2.1 192 = .ok (.dup, 1) := by decide +kernel
theorem zX12_init_193 : decode mX12_init.2.1 193 = .ok (.bipush 24, 2) := by decide +kernel
theorem zX12_init_195 : decode mX12_init.2.1 195 = .ok (.bipush 119, 2) := by decide +kernel
theorem zX12_init_197 : decode mX12_init.2.1 197 = .ok (.castore, 1) := by decide +kernel
theorem zX12_init_198 : decode mX12_init.2.1 198 = .ok (.dup, 1) := by decide +kernel
theorem zX12_init_199 : decode mX12_init.2.1 199 = .ok (.bipush 25, 2) := by decide +kernel
theorem kb25 : (Int8.ofInt (25)).toInt32 = nI 25 := by decide +kernel
theorem zX12_init_201 : decode mX12_init.2.1 201 = .ok (.bipush 105, 2) := by decide +kernel
theorem kb105 : (Int8.ofInt (105)).toInt32 = nI 105 := by decide +kernel
theorem zX12_init_203 : decode mX12_init.2.1 203 = .ok (.castore, 1) := by decide +kernel
theorem vc105 : vp_nar .char (nI 105) = nI 105 := by decide +kernel
theorem zX12_init_204 : decode mX12_init.2.1 204 = .ok (.dup, 1) := by decide +kernel
theorem zX12_init_205 : decode mX12_init.2.1 205 = .ok (.bipush 26, 2) := by decide +kernel
theorem kb26 : (Int8.ofInt (26)).toInt32 = nI 26 := by decide +kernel
theorem zX12_init_207 : decode mX12_init.2.1 207 = .ok (.bipush 100, 2) := by decide +kernel
theorem kb100 : (Int8.ofInt (100)).toInt32 = nI 100 := by decide +kernel
theorem zX12_init_209 : decode mX12_init.2.1 209 = .ok (.castore, 1) := by decide +kernel
theorem vc100 : vp_nar .char (nI 100) = nI 100 := by decide +kernel
theorem zX12_init_210 : decode mX12_init.2.1 210 = .ok (.dup, 1) := by decide +kernel
theorem zX12_init_211 : decode mX12_init.2.1 211 = .ok (.bipush 27, 2) := by decide +kernel
theorem kb27 : (Int8.ofInt (27)).toInt32 = nI 27 := by decide +kernel
theorem zX12_init_213 : decode mX12_init.2.1 213 = .ok (.bipush 111, 2) := by decide +kernel
theorem kb111 : (Int8.ofInt (111)).toInt32 = nI 111 := by decide +kernel
theorem zX12_init_215 : decode mX12_init.2.1 215 = .ok (.castore, 1) := by decide +kernel
theorem vc111 : vp_nar .char (nI 111) = nI 111 := by decide +kernel
theorem zX12_init_216 : decode mX12_init.2.1 216 = .ok (.dup, 1) := by decide +kernel
theorem zX12_init_217 : decode mX12_init.2.1 217 = .ok (.bipush 28, 2) := by decide +kernel
theorem kb28 : (Int8.ofInt (28)).toInt32 = nI 28 := by decide +kernel
theorem zX12_init_219 : decode mX12_init.2.1 219 = .ok (.bipush 119, 2) := by decide +kernel
theorem zX12_init_221 : decode mX12_init.2.1 221 = .ok (.castore, 1) := by decide +kernel
theorem zX12_init_222 : decode mX12_init.2.1 222 = .ok (.dup, 1) := by decide +kernel
theorem zX12_init_223 : decode mX12_init.2.1 223 = .ok (.bipush 29, 2) := by decide +kernel
theorem kb29 : (Int8.ofInt (29)).toInt32 = nI 29 := by decide +kernel
theorem zX12_init_225 : decode mX12_init.2.1 225 = .ok (.bipush 32, 2) := by decide +kernel
theorem zX12_init_227 : decode mX12_init.2.1 227 = .ok (.castore, 1) := by decide +kernel
theorem zX12_init_228 : decode mX12_init.2.1 228 = .ok (.dup, 1) := by decide +kernel
theorem zX12_init_229 : decode mX12_init.2.1 229 = .ok (.bipush 30, 2) := by decide +kernel
theorem zX12_init_231 : decode mX12_init.2.1 231 = .ok (.bipush 32, 2) := by decide +kernel
theorem zX12_init_233 : decode mX12_init.2.1 233 = .ok (.castore, 1) := by decide +kernel
theorem zX12_init_234 : decode mX12_init.2.1 234 = .ok (.dup, 1) := by decide +kernel
theorem zX12_init_235 : decode mX12_init.2.1 235 = .ok (.bipush 31, 2) := by decide +kernel
theorem kb31 : (Int8.ofInt (31)).toInt32 = nI 31 := by decide +kernel
theorem zX12_init_237 : decode mX12_init.2.1 237 = .ok (.bipush 32, 2) := by decide +kernel
theorem zX12_init_239 : decode mX12_init.2.1 239 = .ok (.castore, 1) := by decide +kernel
theorem zX12_init_240 : decode mX12_init.2.1 240 = .ok (.dup, 1) := by decide +kernel
theorem zX12_init_241 : decode mX12_init.2.1 241 = .ok (.bipush 32, 2) := by decide +kernel
theorem zX12_init_243 : decode mX12_init.2.1 243 = .ok (.bipush 108, 2) := by decide +kernel
theorem kb108 : (Int8.ofInt (108)).toInt32 = nI 108 := by decide +kernel
theorem zX12_init_245 : decode mX12_init.2.1 245 = .ok (.castore, 1) := by decide +kernel
theorem vc108 : vp_nar .char (nI 108) = nI 108 := by decide +kernel
theorem zX12_init_246 : decode mX12_init.2.1 246 = .ok (.dup, 1) := by decide +kernel
theorem zX12_init_247 : decode mX12_init.2.1 247 = .ok (.bipush 33, 2) := by decide +kernel
theorem kb33 : (Int8.ofInt (33)).toInt32 = nI 33 := by decide +kernel
theorem zX12_init_249 : decode mX12_init.2.1 249 = .ok (.bipush 97, 2) := by decide +kernel
theorem zX12_init_251 : decode mX12_init.2.1 251 = .ok (.castore, 1) := by decide +kernel
theorem zX12_init_252 : decode mX12_init.2.1 252 = .ok (.dup, 1) := by decide +kernel
theorem zX12_init_253 : decode mX12_init.2.1 253 = .ok (.bipush 34, 2) := by decide +kernel
theorem kb34 : (Int8.ofInt (34)).toInt32 = nI 34 := by decide +kernel
theorem zX12_init_255 : decode mX12_init.2.1 255 = .ok (.bipush 100, 2) := by decide +kernel
theorem zX12_init_257 : decode mX12_init.2.1 257 = .ok (.castore, 1) := by decide +kernel
theorem zX12_init_258 : decode mX12_init.2.1 258 = .ok (.dup, 1) := by decide +kernel
theorem zX12_init_259 : decode mX12_init.2.1 259 = .ok (.bipush 35, 2) := by decide +kernel
theorem kb35 : (Int8.ofInt (35)).toInt32 = nI 35 := by decide +kernel
theorem zX12_init_261 : decode mX12_init.2.1 261 = .ok (.bipush 32, 2) := by decide +kernel
theorem zX12_init_263 : decode mX12_init.2.1 263 = .ok (.castore, 1) := by decide +kernel
theorem zX12_init_264 : decode mX12_init.2.1 264 = .ok (.dup, 1) := by decide +kernel
theorem zX12_init_265 : decode mX12_init.2.1 265 = .ok (.bipush 36, 2) := by decide +kernel
theorem kb36 : (Int8.ofInt (36)).toInt32 = nI 36 := by decide +kernel
theorem zX12_init_267 : decode mX12_init.2.1 267 = .ok (.bipush 32, 2) := by decide +kernel
theorem zX12_init_269 : decode mX12_init.2.1 269 = .ok (.castore, 1) := by decide +kernel
theorem zX12_init_270 : decode mX12_init.2.1 270 = .ok (.dup, 1) := by decide +kernel
theorem zX12_init_271 : decode mX12_init.2.1 271 = .ok (.bipush 37, 2) := by decide +kernel
theorem kb37 : (Int8.ofInt (37)).toInt32 = nI 37 := by decide +kernel
theorem zX12_init_273 : decode mX12_init.2.1 273 = .ok (.bipush 32, 2) := by decide +kernel
theorem zX12_init_275 : decode mX12_init.2.1 275 = .ok (.castore, 1) := by decide +kernel
theorem zX12_init_276 : decode mX12_init.2.1 276 = .ok (.dup, 1) := by decide +kernel
theorem zX12_init_277 : decode mX12_init.2.1 277 = .ok (.bipush 38, 2) := by decide +kernel
theorem kb38 : (Int8.ofInt (38)).toInt32 = nI 38 := by decide +kernel
theorem zX12_init_279 : decode mX12_init.2.1 279 = .ok (.bipush 32, 2) := by decide +kernel
theorem zX12_init_281 : decode mX12_init.2.1 281 = .ok (.castore, 1) := by decide +kernel
theorem zX12_init_282 : decode mX12_init.2.1 282 = .ok (.dup, 1) := by decide +kernel
theorem zX12_init_283 : decode mX12_init.2.1 283 = .ok (.bipush 39, 2) := by decide +kernel
theorem kb39 : (Int8.ofInt (39)).toInt32 = nI 39 := by decide +kernel
theorem zX12_init_285 : decode mX12_init.2.1 285 = .ok (.bipush 32, 2) := by decide +kernel
theorem zX12_init_287 : decode mX12_init.2.1 287 = .ok (.castore, 1) := by decide +kernel
theorem zX12_init_288 : decode mX12_init.2.1 288 = .ok (.dup, 1) := by decide +kernel
theorem zX12_init_289 : decode mX12_init.2.1 289 = .ok (.bipush 40, 2) := by decide +kernel
theorem kb40 : (Int8.ofInt (40)).toInt32 = nI 40 := by decide +kernel
theorem zX12_init_291 : decode mX12_init.2.1 291 = .ok (.bipush 100, 2) := by decide +kernel
theorem zX12_init_293 : decode mX12_init.2.1 293 = .ok (.castore, 1) := by decide +kernel
theorem zX12_init_294 : decode mX12_init.2.1 294 = .ok (.dup, 1) := by decide +kernel
theorem zX12_init_295 : decode mX12_init.2.1 295 = .ok (.bipush 41, 2) := by decide +kernel
theorem kb41 : (Int8.ofInt (41)).toInt32 = nI 41 := by decide +kernel
theorem zX12_init_297 : decode mX12_init.2.1 297 = .ok (.bipush 111, 2) := by decide +kernel
theorem zX12_init_299 : decode mX12_init.2.1 299 = .ok (.castore, 1) := by decide +kernel
theorem zX12_init_300 : decode mX12_init.2.1 300 = .ok (.dup, 1) := by decide +kernel
theorem zX12_init_301 : decode mX12_init.2.1 301 = .ok (.bipush 42, 2) := by decide +kernel
theorem kb42 : (Int8.ofInt (42)).toInt32 = nI 42 := by decide +kernel
theorem zX12_init_303 : decode mX12_init.2.1 303 = .ok (.bipush 103, 2) := by decide +kernel
theorem kb103 : (Int8.ofInt (103)).toInt32 = nI 103 := by decide +kernel
theorem zX12_init_305 : decode mX12_init.2.1 305 = .ok (.castore, 1) := by decide +kernel
theorem vc103 : vp_nar .char (nI 103) = nI 103 := by decide +kernel
theorem zX12_init_306 : decode mX12_init.2.1 306 = .ok (.dup, 1) := by decide +kernel
theorem zX12_init_307 : decode mX12_init.2.1 307 = .ok (.bipush 43, 2) := by decide +kernel
theorem kb43 : (Int8.ofInt (43)).toInt32 = nI 43 := by decide +kernel
theorem zX12_init_309 : decode mX12_init.2.1 309 = .ok (.bipush 32, 2) := by decide +kernel
theorem zX12_init_311 : decode mX12_init.2.1 311 = .ok (.castore, 1) := by decide +kernel
theorem zX12_init_312 : decode mX12_init.2.1 312 = .ok (.dup, 1) := by decide +kernel
theorem zX12_init_313 : decode mX12_init.2.1 313 = .ok (.bipush 44, 2) := by decide +kernel
theorem kb44 : (Int8.ofInt (44)).toInt32 = nI 44 := by decide +kernel
theorem zX12_init_315 : decode mX12_init.2.1 315 = .ok (.bipush 32, 2) := by decide +kernel
theorem zX12_init_317 : decode mX12_init.2.1 317 = .ok (.castore, 1) := by decide +kernel
theorem zX12_init_318 : decode mX12_init.2.1 318 = .ok (.dup, 1) := by decide +kernel
theorem zX12_init_319 : decode mX12_init.2.1 319 = .ok (.bipush 45, 2) := by decide +kernel
theorem kb45 : (Int8.ofInt (45)).toInt32 = nI 45 := by decide +kernel
theorem zX12_init_321 : decode mX12_init.2.1 321 = .ok (.bipush 32, 2) := by decide +kernel
theorem zX12_init_323 : decode mX12_init.2.1 323 = .ok (.castore, 1) := by decide +kernel
theorem zX12_init_324 : decode mX12_init.2.1 324 = .ok (.dup, 1) := by decide +kernel
theorem zX12_init_325 : decode mX12_init.2.1 325 = .ok (.bipush 46, 2) := by decide +kernel
theorem kb46 : (Int8.ofInt (46)).toInt32 = nI 46 := by decide +kernel
theorem zX12_init_327 : decode mX12_init.2.1 327 = .ok (.bipush 32, 2) := by decide +kernel
theorem zX12_init_329 : decode mX12_init.2.1 329 = .ok (.castore, 1) := by decide +kernel
theorem zX12_init_330 : decode mX12_init.2.1 330 = .ok (.dup, 1) := by decide +kernel
theorem zX12_init_331 : decode mX12_init.2.1 331 = .ok (.bipush 47, 2) := by decide +kernel
theorem kb47 : (Int8.ofInt (47)).toInt32 = nI 47 := by decide +kernel
theorem zX12_init_333 : decode mX12_init.2.1 333 = .ok (.bipush 32, 2) := by decide +kernel
theorem zX12_init_335 : decode mX12_init.2.1 335 = .ok (.castore, 1) := by decide +kernel
theorem zX12_init_336 : decode mX12_init.2.1 336 = .ok (.dup, 1) := by decide +kernel
theorem zX12_init_337 : decode mX12_init.2.1 337 = .ok (.bipush 48, 2) := by decide +kernel
theorem kb48 : (Int8.ofInt (48)).toInt32 = nI 48 := by decide +kernel
theorem zX12_init_339 : decode mX12_init.2.1 339 = .ok (.bipush 108, 2) := by decide +kernel
theorem zX12_init_341 : decode mX12_init.2.1 341 = .ok (.castore, 1) := by decide +kernel
theorem zX12_init_342 : decode mX12_init.2.1 342 = .ok (.dup, 1) := by decide +kernel
theorem zX12_init_343 : decode mX12_init.2.1 343 = .ok (.bipush 49, 2) := by decide +kernel
theorem kb49 : (Int8.ofInt (49)).toInt32 = nI 49 := by decide +kernel
theorem zX12_init_345 : decode mX12_init.2.1 345 = .ok (.bipush 111, 2) := by decide +kernel
theorem zX12_init_347 : decode mX12_init.2.1 347 = .ok (.castore, 1) := by decide +kernel
theorem zX12_init_348 : decode mX12_init.2.1 348 = .ok (.dup, 1) := by decide +kernel
theorem zX12_init_349 : decode mX12_init.2.1 349 = .ok (.bipush 50, 2) := by decide +kernel
theorem kb50 : (Int8.ofInt (50)).toInt32 = nI 50 := by decide +kernel
theorem zX12_init_351 : decode mX12_init.2.1 351 = .ok (.bipush 111, 2) := by decide +kernel
theorem zX12_init_353 : decode mX12_init.2.1 353 = .ok (.castore, 1) := by decide +kernel
theorem zX12_init_354 : decode mX12_init.2.1 354 = .ok (.dup, 1) := by decide +kernel
theorem zX12_init_355 : decode mX12_init.2.1 355 = .ok (.bipush 51, 2) := by decide +kernel
theorem kb51 : (Int8.ofInt (51)).toInt32 = nI 51 := by decide +kernel
theorem zX12_init_357 : decode mX12_init.2.1 357 = .ok (.bipush 107, 2) := by decide +kernel
theorem kb107 : (Int8.ofInt (107)).toInt32 = nI 107 := by decide +kernel
theorem zX12_init_359 : decode mX12_init.2.1 359 = .ok (.castore, 1) := by decide +kernel
theorem vc107 : vp_nar .char (nI 107) = nI 107 := by decide +kernel
theorem zX12_init_360 : decode mX12_init.2.1 360 = .ok (.dup, 1) := by decide +kernel
theorem zX12_init_361 : decode mX12_init.2.1 361 = .ok (.bipush 52, 2) := by decide +kernel
theorem kb52 : (Int8.ofInt (52)).toInt32 = nI 52 := by decide +kernel
theorem zX12_init_363 : decode mX12_init.2.1 363 = .ok (.bipush 32, 2) := by decide +kernel
theorem zX12_init_365 : decode mX12_init.2.1 365 = .ok (.castore, 1) := by decide +kernel
theorem zX12_init_366 : decode mX12_init.2.1 366 = .ok (.dup, 1) := by decide +kernel
theorem zX12_init_367 : decode mX12_init.2.1 367 = .ok (.bipush 53, 2) := by decide +kernel
theorem kb53 : (Int8.ofInt (53)).toInt32 = nI 53 := by decide +kernel
theorem zX12_init_369 : decode mX12_init.2.1 369 = .ok (.bipush 32, 2) := by decide +kernel
theorem zX12_init_371 : decode mX12_init.2.1 371 = .ok (.castore, 1) := by decide +kernel
theorem zX12_init_372 : decode mX12_init.2.1 372 = .ok (.dup, 1) := by decide +kernel
theorem zX12_init_373 : decode mX12_init.2.1 373 = .ok (.bipush 54, 2) := by decide +kernel
theorem kb54 : (Int8.ofInt (54)).toInt32 = nI 54 := by decide +kernel
theorem zX12_init_375 : decode mX12_init.2.1 375 = .ok (.bipush 32, 2) := by decide +kernel
theorem zX12_init_377 : decode mX12_init.2.1 377 = .ok (.castore, 1) := by decide +kernel
theorem zX12_init_378 : decode mX12_init.2.1 378 = .ok (.dup, 1) := by decide +kernel
theorem zX12_init_379 : decode mX12_init.2.1 379 = .ok (.bipush 55, 2) := by decide +kernel
theorem kb55 : (Int8.ofInt (55)).toInt32 = nI 55 := by decide +kernel
theorem zX12_init_381 : decode mX12_init.2.1 381 = .ok (.bipush 32, 2) := by decide +kernel
theorem zX12_init_383 : decode mX12_init.2.1 383 = .ok (.castore, 1) := by decide +kernel
theorem zX12_init_384 : decode mX12_init.2.1 384 = .ok (.dup, 1) := by decide +kernel
theorem zX12_init_385 : decode mX12_init.2.1 385 = .ok (.bipush 56, 2) := by decide +kernel
theorem kb56 : (Int8.ofInt (56)).toInt32 = nI 56 := by decide +kernel
theorem zX12_init_387 : decode mX12_init.2.1 387 = .ok (.bipush 112, 2) := by decide +kernel
theorem zX12_init_389 : decode mX12_init.2.1 389 = .ok (.castore, 1) := by decide +kernel
theorem zX12_init_390 : decode mX12_init.2.1 390 = .ok (.dup, 1) := by decide +kernel
theorem zX12_init_391 : decode mX12_init.2.1 391 = .ok (.bipush 57, 2) := by decide +kernel
theorem kb57 : (Int8.ofInt (57)).toInt32 = nI 57 := by decide +kernel
theorem zX12_init_393 : decode mX12_init.2.1 393 = .ok (.bipush 97, 2) := by decide +kernel
theorem zX12_init_395 : decode mX12_init.2.1 395 = .ok (.castore, 1) := by decide +kernel
theorem zX12_init_396 : decode mX12_init.2.1 396 = .ok (.dup, 1) := by decide +kernel
theorem zX12_init_397 : decode mX12_init.2.1 397 = .ok (.bipush 58, 2) := by decide +kernel
theorem kb58 : (Int8.ofInt (58)).toInt32 = nI 58 := by decide +kernel
theorem zX12_init_399 : decode mX12_init.2.1 399 = .ok (.bipush 115, 2) := by decide +kernel
theorem zX12_init_401 : decode mX12_init.2.1 401 = .ok (.castore, 1) := by decide +kernel
theorem zX12_init_402 : decode mX12_init.2.1 402 = .ok (.dup, 1) := by decide +kernel
theorem zX12_init_403 : decode mX12_init.2.1 403 = .ok (.bipush 59, 2) := by decide +kernel
theorem kb59 : (Int8.ofInt (59)).toInt32 = nI 59 := by decide +kernel
theorem zX12_init_405 : decode mX12_init.2.1 405 = .ok (.bipush 115, 2) := by decide +kernel
theorem zX12_init_407 : decode mX12_init.2.1 407 = .ok (.castore, 1) := by decide +kernel
theorem zX12_init_408 : decode mX12_init.2.1 408 = .ok (.dup, 1) := by decide +kernel
theorem zX12_init_409 : decode mX12_init.2.1 409 = .ok (.bipush 60, 2) := by decide +kernel
theorem zX12_init_411 : decode mX12_init.2.1 411 = .ok (.bipush 32, 2) := by decide +kernel
theorem zX12_init_413 : decode mX12_init.2.1 413 = .ok (.castore, 1) := by decide +kernel
theorem zX12_init_414 : decode mX12_init.2.1 414 = .ok (.dup, 1) := by decide +kernel
theorem zX12_init_415 : decode mX12_init.2.1 415 = .ok (.bipush 61, 2) := by decide +kernel
theorem kb61 : (Int8.ofInt (61)).toInt32 = nI 61 := by decide +kernel
theorem zX12_init_417 : decode mX12_init.2.1 417 = .ok (.bipush 32, 2) := by decide +kernel
theorem zX12_init_419 : decode mX12_init.2.1 419 = .ok (.castore, 1) := by decide +kernel
theorem zX12_init_420 : decode mX12_init.2.1 420 = .ok (.dup, 1) := by decide +kernel
theorem zX12_init_421 : decode mX12_init.2.1 421 = .ok (.bipush 62, 2) := by decide +kernel
theorem kb62 : (Int8.ofInt (62)).toInt32 = nI 62 := by decide +kernel
theorem zX12_init_423 : decode mX12_init.2.1 423 = .ok (.bipush 32, 2) := by decide +kernel
theorem zX12_init_425 : decode mX12_init.2.1 425 = .ok (.castore, 1) := by decide +kernel
theorem zX12_init_426 : decode mX12_init.2.1 426 = .ok (.dup, 1) := by decide +kernel
theorem zX12_init_427 : decode mX12_init.2.1 427 = .ok (.bipush 63, 2) := by decide +kernel
theorem kb63 : (Int8.ofInt (63)).toInt32 = nI 63 := by decide +kernel
theorem zX12_init_429 : decode mX12_init.2.1 429 = .ok (.bipush 32, 2) := by decide +kernel
theorem zX12_init_431 : decode mX12_init.2.1 431 = .ok (.castore, 1) := by decide +kernel
theorem zX12_init_432 : decode mX12_init.2.1 432 = .ok (.dup, 1) := by decide +kernel
theorem zX12_init_433 : decode mX12_init.2.1 433 = .ok (.bipush 64, 2) := by decide +kernel
theorem kb64 : (Int8.ofInt (64)).toInt32 = nI 64 := by decide +kernel
theorem zX12_init_435 : decode mX12_init.2.1 435 = .ok (.bipush 114, 2) := by decide +kernel
theorem zX12_init_437 : decode mX12_init.2.1 437 = .ok (.castore, 1) := by decide +kernel
theorem zX12_init_438 : decode mX12_init.2.1 438 = .ok (.dup, 1) := by decide +kernel
theorem zX12_init_439 : decode mX12_init.2.1 439 = .ok (.bipush 65, 2) := by decide +kernel
theorem kb65 : (Int8.ofInt (65)).toInt32 = nI 65 := by decide +kernel
theorem zX12_init_441 : decode mX12_init.2.1 441 = .ok (.bipush 97, 2) := by decide +kernel
theorem zX12_init_443 : decode mX12_init.2.1 443 = .ok (.castore, 1) := by decide +kernel
theorem zX12_init_444 : decode mX12_init.2.1 444 = .ok (.dup, 1) := by decide +kernel
theorem zX12_init_445 : decode mX12_init.2.1 445 = .ok (.bipush 66, 2) := by decide +kernel
theorem kb66 : (Int8.ofInt (66)).toInt32 = nI 66 := by decide +kernel
theorem zX12_init_447 : decode mX12_init.2.1 447 = .ok (.bipush 103, 2) := by decide +kernel
theorem zX12_init_449 : decode mX12_init.2.1 449 = .ok (.castore, 1) := by decide +kernel
theorem zX12_init_450 : decode mX12_init.2.1 450 = .ok (.dup, 1) := by decide +kernel
theorem zX12_init_451 : decode mX12_init.2.1 451 = .ok (.bipush 67, 2) := by decide +kernel
theorem kb67 : (Int8.ofInt (67)).toInt32 = nI 67 := by decide +kernel
theorem zX12_init_453 : decode mX12_init.2.1 453 = .ok (.bipush 32, 2) := by decide +kernel
theorem zX12_init_455 : decode mX12_init.2.1 455 = .ok (.castore, 1) := by decide +kernel
theorem zX12_init_456 : decode mX12_init.2.1 456 = .ok (.dup, 1) := by decide +kernel
theorem zX12_init_457 : decode mX12_init.2.1 457 = .ok (.bipush 68, 2) := by decide +kernel
theorem kb68 : (Int8.ofInt (68)).toInt32 = nI 68 := by decide +kernel
theorem zX12_init_459 : decode mX12_init.2.1 459 = .ok (.bipush 32, 2) := by decide +kernel
theorem zX12_init_461 : decode mX12_init.2.1 461 = .ok (.castore, 1) := by decide +kernel
theorem zX12_init_462 : decode mX12_init.2.1 462 = .ok (.dup, 1) := by decide +kernel
theorem zX12_init_463 : decode mX12_init.2.1 463 = .ok (.bipush 69, 2) := by decide +kernel
theorem kb69 : (Int8.ofInt (69)).toInt32 = nI 69 := by decide +kernel
theorem zX12_init_465 : decode mX12_init.2.1 465 = .ok (.bipush 32, 2) := by decide +kernel
theorem zX12_init_467 : decode mX12_init.2.1 467 = .ok (.castore, 1) := by decide +kernel
theorem zX12_init_468 : decode mX12_init.2.1 468 = .ok (.dup, 1) := by decide +kernel
theorem zX12_init_469 : decode mX12_init.2.1 469 = .ok (.bipush 70, 2) := by decide +kernel
theorem kb70 : (Int8.ofInt (70)).toInt32 = nI 70 := by decide +kernel
theorem zX12_init_471 : decode mX12_init.2.1 471 = .ok (.bipush 32, 2) := by decide +kernel
theorem zX12_init_473 : decode mX12_init.2.1 473 = .ok (.castore, 1) := by decide +kernel
theorem zX12_init_474 : decode mX12_init.2.1 474 = .ok (.dup, 1) := by decide +kernel
theorem zX12_init_475 : decode mX12_init.2.1 475 = .ok (.bipush 71, 2) := by decide +kernel
theorem kb71 : (Int8.ofInt (71)).toInt32 = nI 71 := by decide +kernel
theorem zX12_init_477 : decode mX12_init.2.1 477 = .ok (.bipush 32, 2) := by decide +kernel
theorem zX12_init_479 : decode mX12_init.2.1 479 = .ok (.castore, 1) := by decide +kernel
theorem zX12_init_480 : decode mX12_init.2.1 480 = .ok (.dup, 1) := by decide +kernel
theorem zX12_init_481 : decode mX12_init.2.1 481 = .ok (.bipush 72, 2) := by decide +kernel
theorem kb72 : (Int8.ofInt (72)).toInt32 = nI 72 := by decide +kernel
theorem zX12_init_483 : decode mX12_init.2.1 483 = .ok (.bipush 105, 2) := by decide +kernel
theorem zX12_init_485 : decode mX12_init.2.1 485 = .ok (.castore, 1) := by decide +kernel
theorem zX12_init_486 : decode mX12_init.2.1 486 = .ok (.dup, 1) := by decide +kernel
theorem zX12_init_487 : decode mX12_init.2.1 487 = .ok (.bipush 73, 2) := by decide +kernel
theorem kb73 : (Int8.ofInt (73)).toInt32 = nI 73 := by decide +kernel
theorem zX12_init_489 : decode mX12_init.2.1 489 = .ok (.bipush 102, 2) := by decide +kernel
theorem kb102 : (Int8.ofInt (102)).toInt32 = nI 102 := by decide +kernel
theorem zX12_init_491 : decode mX12_init.2.1 491 = .ok (.castore, 1) := by decide +kernel
theorem vc102 : vp_nar .char (nI 102) = nI 102 := by decide +kernel
theorem zX12_init_492 : decode mX12_init.2.1 492 = .ok (.dup, 1) := by decide +kernel
theorem zX12_init_493 : decode mX12_init.2.1 493 = .ok (.bipush 74, 2) := by decide +kernel
theorem zX12_init_495 : decode mX12_init.2.1 495 = .ok (.bipush 32, 2) := by decide +kernel
theorem zX12_init_497 : decode mX12_init.2.1 497 = .ok (.castore, 1) := by decide +kernel
theorem zX12_init_498 : decode mX12_init.2.1 498 = .ok (.dup, 1) := by decide +kernel
theorem zX12_init_499 : decode mX12_init.2.1 499 = .ok (.bipush 75, 2) := by decide +kernel
theorem kb75 : (Int8.ofInt (75)).toInt32 = nI 75 := by decide +kernel
theorem zX12_init_501 : decode mX12_init.2.1 501 = .ok (.bipush 32, 2) := by decide +kernel
theorem zX12_init_503 : decode mX12_init.2.1 503 = .ok (.castore, 1) := by decide +kernel
theorem zX12_init_504 : decode mX12_init.2.1 504 = .ok (.dup, 1) := by decide +kernel
theorem zX12_init_505 : decode mX12_init.2.1 505 = .ok (.bipush 76, 2) := by decide +kernel
theorem kb76 : (Int8.ofInt (76)).toInt32 = nI 76 := by decide +kernel
theorem zX12_init_507 : decode mX12_init.2.1 507 = .ok (.bipush 32, 2) := by decide +kernel
theorem zX12_init_509 : decode mX12_init.2.1 509 = .ok (.castore, 1) := by decide +kernel
theorem zX12_init_510 : decode mX12_init.2.1 510 = .ok (.dup, 1) := by decide +kernel
theorem zX12_init_511 : decode mX12_init.2.1 511 = .ok (.bipush 77, 2) := by decide +kernel
theorem kb77 : (Int8.ofInt (77)).toInt32 = nI 77 := by decide +kernel
theorem zX12_init_513 : decode mX12_init.2.1 513 = .ok (.bipush 32, 2) := by decide +kernel
theorem zX12_init_515 : decode mX12_init.2.1 515 = .ok (.castore, 1) := by decide +kernel
theorem zX12_init_516 : decode mX12_init.2.1 516 = .ok (.dup, 1) := by decide +kernel
theorem zX12_init_517 : decode mX12_init.2.1 517 = .ok (.bipush 78, 2) := by decide +kernel
theorem kb78 : (Int8.ofInt (78)).toInt32 = nI 78 := by decide +kernel
theorem zX12_init_519 : decode mX12_init.2.1 519 = .ok (.bipush 32, 2) := by decide +kernel
theorem zX12_init_521 : decode mX12_init.2.1 521 = .ok (.castore, 1) := by decide +kernel
theorem zX12_init_522 : decode mX12_init.2.1 522 = .ok (.dup, 1) := by decide +kernel
theorem zX12_init_523 : decode mX12_init.2.1 523 = .ok (.bipush 79, 2) := by decide +kernel
theorem kb79 : (Int8.ofInt (79)).toInt32 = nI 79 := by decide +kernel
theorem zX12_init_525 : decode mX12_init.2.1 525 = .ok (.bipush 32, 2) := by decide +kernel
theorem zX12_init_527 : decode mX12_init.2.1 527 = .ok (.castore, 1) := by decide +kernel
theorem zX12_init_528 : decode mX12_init.2.1 528 = .ok (.dup, 1) := by decide +kernel
theorem zX12_init_529 : decode mX12_init.2.1 529 = .ok (.bipush 80, 2) := by decide +kernel
theorem kb80 : (Int8.ofInt (80)).toInt32 = nI 80 := by decide +kernel
theorem zX12_init_531 : decode mX12_init.2.1 531 = .ok (.bipush 110, 2) := by decide +kernel
theorem zX12_init_533 : decode mX12_init.2.1 533 = .ok (.castore, 1) := by decide +kernel
theorem zX12_init_534 : decode mX12_init.2.1 534 = .ok (.dup, 1) := by decide +kernel
theorem zX12_init_535 : decode mX12_init.2.1 535 = .ok (.bipush 81, 2) := by decide +kernel
theorem kb81 : (Int8.ofInt (81)).toInt32 = nI 81 := by decide +kernel
theorem zX12_init_537 : decode mX12_init.2.1 537 = .ok (.bipush 111, 2) := by decide +kernel
theorem zX12_init_539 : decode mX12_init.2.1 539 = .ok (.castore, 1) := by decide +kernel
theorem zX12_init_540 : decode mX12_init.2.1 540 = .ok (.dup, 1) := by decide +kernel
theorem zX12_init_541 : decode mX12_init.2.1 541 = .ok (.bipush 82, 2) := by decide +kernel
theorem kb82 : (Int8.ofInt (82)).toInt32 = nI 82 := by decide +kernel
theorem zX12_init_543 : decode mX12_init.2.1 543 = .ok (.bipush 116, 2) := by decide +kernel
theorem kb116 : (Int8.ofInt (116)).toInt32 = nI 116 := by decide +kernel
theorem zX12_init_545 : decode mX12_init.2.1 545 = .ok (.castore, 1) := by decide +kernel
theorem vc116 : vp_nar .char (nI 116) = nI 116 := by decide +kernel
theorem zX12_init_546 : decode mX12_init.2.1 546 = .ok (.dup, 1) := by decide +kernel
theorem zX12_init_547 : decode mX12_init.2.1 547 = .ok (.bipush 83, 2) := by decide +kernel
theorem kb83 : (Int8.ofInt (83)).toInt32 = nI 83 := by decide +kernel
theorem zX12_init_549 : decode mX12_init.2.1 549 = .ok (.bipush 32, 2) := by decide +kernel
theorem zX12_init_551 : decode mX12_init.2.1 551 = .ok (.castore, 1) := by decide +kernel
theorem zX12_init_552 : decode mX12_init.2.1 552 = .ok (.dup, 1) := by decide +kernel
theorem zX12_init_553 : decode mX12_init.2.1 553 = .ok (.bipush 84, 2) := by decide +kernel
theorem kb84 : (Int8.ofInt (84)).toInt32 = nI 84 := by decide +kernel
theorem zX12_init_555 : decode mX12_init.2.1 555 = .ok (.bipush 32, 2) := by decide +kernel
theorem zX12_init_557 : decode mX12_init.2.1 557 = .ok (.castore, 1) := by decide +kernel
theorem zX12_init_558 : decode mX12_init.2.1 558 = .ok (.dup, 1) := by decide +kernel
theorem zX12_init_559 : decode mX12_init.2.1 559 = .ok (.bipush 85, 2) := by decide +kernel
theorem kb85 : (Int8.ofInt (85)).toInt32 = nI 85 := by decide +kernel
theorem zX12_init_561 : decode mX12_init.2.1 561 = .ok (.bipush 32, 2) := by decide +kernel
theorem zX12_init_563 : decode mX12_init.2.1 563 = .ok (.castore, 1) := by decide +kernel
theorem zX12_init_564 : decode mX12_init.2.1 564 = .ok (.dup, 1) := by decide +kernel
theorem zX12_init_565 : decode mX12_init.2.1 565 = .ok (.bipush 86, 2) := by decide +kernel
theorem kb86 : (Int8.ofInt (86)).toInt32 = nI 86 := by decide +kernel
theorem zX12_init_567 : decode mX12_init.2.1 567 = .ok (.bipush 32, 2) := by decide +kernel
theorem zX12_init_569 : decode mX12_init.2.1 569 = .ok (.castore, 1) := by decide +kernel
theorem zX12_init_570 : decode mX12_init.2.1 570 = .ok (.dup, 1) := by decide +kernel
theorem zX12_init_571 : decode mX12_init.2.1 571 = .ok (.bipush 87, 2) := by decide +kernel
theorem kb87 : (Int8.ofInt (87)).toInt32 = nI 87 := by decide +kernel
theorem zX12_init_573 : decode mX12_init.2.1 573 = .ok (.bipush 32, 2) := by decide +kernel
theorem zX12_init_575 : decode mX12_init.2.1 575 = .ok (.castore, 1) := by decide +kernel
theorem zX12_init_576 : decode mX12_init.2.1 576 = .ok (.dup, 1) := by decide +kernel
theorem zX12_init_577 : decode mX12_init.2.1 577 = .ok (.bipush 88, 2) := by decide +kernel
theorem kb88 : (Int8.ofInt (88)).toInt32 = nI 88 := by decide +kernel
theorem zX12_init_579 : decode mX12_init.2.1 579 = .ok (.bipush 97, 2) := by decide +kernel
theorem zX12_init_581 : decode mX12_init.2.1 581 = .ok (.castore, 1) := by decide +kernel
theorem zX12_init_582 : decode mX12_init.2.1 582 = .ok (.dup, 1) := by decide +kernel
theorem zX12_init_583 : decode mX12_init.2.1 583 = .ok (.bipush 89, 2) := by decide +kernel
theorem kb89 : (Int8.ofInt (89)).toInt32 = nI 89 := by decide +kernel
theorem zX12_init_585 : decode mX12_init.2.1 585 = .ok (.bipush 110, 2) := by decide +kernel
theorem zX12_init_587 : decode mX12_init.2.1 587 = .ok (.castore, 1) := by decide +kernel
theorem zX12_init_588 : decode mX12_init.2.1 588 = .ok (.dup, 1) := by decide +kernel
theorem zX12_init_589 : decode mX12_init.2.1 589 = .ok (.bipush 90, 2) := by decide +kernel
theorem kb90 : (Int8.ofInt (90)).toInt32 = nI 90 := by decide +kernel
theorem zX12_init_591 : decode mX12_init.2.1 591 = .ok (.bipush 100, 2) := by decide +kernel
theorem zX12_init_593 : decode mX12_init.2.1 593 = .ok (.castore, 1) := by decide +kernel
theorem zX12_init_594 : decode mX12_init.2.1 594 = .ok (.dup, 1) := by decide +kernel
theorem zX12_init_595 : decode mX12_init.2.1 595 = .ok (.bipush 91, 2) := by decide +kernel
theorem kb91 : (Int8.ofInt (91)).toInt32 = nI 91 := by decide +kernel
theorem zX12_init_597 : decode mX12_init.2.1 597 = .ok (.bipush 32, 2) := by decide +kernel
theorem zX12_init_599 : decode mX12_init.2.1 599 = .ok (.castore, 1) := by decide +kernel
theorem zX12_init_600 : decode mX12_init.2.1 600 = .ok (.dup, 1) := by decide +kernel
theorem zX12_init_601 : decode mX12_init.2.1 601 = .ok (.bipush 92, 2) := by decide +kernel
theorem kb92 : (Int8.ofInt (92)).toInt32 = nI 92 := by decide +kernel
theorem zX12_init_603 : decode mX12_init.2.1 603 = .ok (.bipush 32, 2) := by decide +kernel
theorem zX12_init_605 : decode mX12_init.2.1 605 = .ok (.castore, 1) := by decide +kernel
theorem zX12_init_606 : decode mX12_init.2.1 606 = .ok (.dup, 1) := by decide +kernel
theorem zX12_init_607 : decode mX12_init.2.1 607 = .ok (.bipush 93, 2) := by decide +kernel
theorem kb93 : (Int8.ofInt (93)).toInt32 = nI 93 := by decide +kernel
theorem zX12_init_609 : decode mX12_init.2.1 609 = .ok (.bipush 32, 2) := by decide +kernel
theorem zX12_init_611 : decode mX12_init.2.1 611 = .ok (.castore, 1) := by decide +kernel
theorem zX12_init_612 : decode mX12_init.2.1 612 = .ok (.dup, 1) := by decide +kernel
theorem zX12_init_613 : decode mX12_init.2.1 613 = .ok (.bipush 94, 2) := by decide +kernel
theorem kb94 : (Int8.ofInt (94)).toInt32 = nI 94 := by decide +kernel
theorem zX12_init_615 : decode mX12_init.2.1 615 = .ok (.bipush 32, 2) := by decide +kernel
theorem zX12_init_617 : decode mX12_init.2.1 617 = .ok (.castore, 1) := by decide +kernel
theorem zX12_init_618 : decode mX12_init.2.1 618 = .ok (.dup, 1) := by decide +kernel
theorem zX12_init_619 : decode mX12_init.2.1 619 = .ok (.bipush 95, 2) := by decide +kernel
theorem kb95 : (Int8.ofInt (95)).toInt32 = nI 95 := by decide +kernel
theorem zX12_init_621 : decode mX12_init.2.1 621 = .ok (.bipush 32, 2) := by decide +kernel
theorem zX12_init_623 : decode mX12_init.2.1 623 = .ok (.castore, 1) := by decide +kernel
theorem zX12_init_624 : decode mX12_init.2.1 624 = .ok (.dup, 1) := by decide +kernel
theorem zX12_init_625 : decode mX12_init.2.1 625 = .ok (.bipush 96, 2) := by decide +kernel
theorem kb96 : (Int8.ofInt (96)).toInt32 = nI 96 := by decide +kernel
theorem zX12_init_627 : decode mX12_init.2.1 627 = .ok (.bipush 111, 2) := by decide +kernel
theorem zX12_init_629 : decode mX12_init.2.1 629 = .ok (.castore, 1) := by decide +kernel
theorem zX12_init_630 : decode mX12_init.2.1 630 = .ok (.dup, 1) := by decide +kernel
theorem zX12_init_631 : decode mX12_init.2.1 631 = .ok (.bipush 97, 2) := by decide +kernel
theorem zX12_init_633 : decode mX12_init.2.1 633 = .ok (.bipush 114, 2) := by decide +kernel
theorem zX12_init_635 : decode mX12_init.2.1 635 = .ok (.castore, 1) := by decide +kernel
theorem zX12_init_636 : decode mX12_init.2.1 636 = .ok (.dup, 1) := by decide +kernel
theorem zX12_init_637 : decode mX12_init.2.1 637 = .ok (.bipush 98, 2) := by decide +kernel
theorem kb98 : (Int8.ofInt (98)).toInt32 = nI 98 := by decide +kernel
theorem zX12_init_639 : decode mX12_init.2.1 639 = .ok (.bipush 32, 2) := by decide +kernel
theorem zX12_init_641 : decode mX12_init.2.1 641 = .ok (.castore, 1) := by decide +kernel
theorem zX12_init_642 : decode mX12_init.2.1 642 = .ok (.dup, 1) := by decide +kernel
theorem zX12_init_643 : decode mX12_init.2.1 643 = .ok (.bipush 99, 2) := by decide +kernel
theorem kb99 : (Int8.ofInt (99)).toInt32 = nI 99 := by decide +kernel
theorem zX12_init_645 : decode mX12_init.2.1 645 = .ok (.bipush 32, 2) := by decide +kernel
theorem zX12_init_647 : decode mX12_init.2.1 647 = .ok (.castore, 1) := by decide +kernel
theorem zX12_init_648 : decode mX12_init.2.1 648 = .ok (.dup, 1) := by decide +kernel
theorem zX12_init_649 : decode mX12_init.2.1 649 = .ok (.bipush 100, 2) := by decide +kernel
theorem zX12_init_651 : decode mX12_init.2.1 651 = .ok (.bipush 32, 2) := by decide +kernel
theorem zX12_init_653 : decode mX12_init.2.1 653 = .ok (.castore, 1) := by decide +kernel
theorem zX12_init_654 : decode mX12_init.2.1 654 = .ok (.dup, 1) := by decide +kernel
theorem zX12_init_655 : decode mX12_init.2.1 655 = .ok (.bipush 101, 2) := by decide +kernel
theorem zX12_init_657 : decode mX12_init.2.1 657 = .ok (.bipush 32, 2) := by decide +kernel
theorem zX12_init_659 : decode mX12_init.2.1 659 = .ok (.castore, 1) := by decide +kernel
theorem zX12_init_660 : decode mX12_init.2.1 660 = .ok (.dup, 1) := by decide +kernel
theorem zX12_init_661 : decode mX12_init.2.1 661 = .ok (.bipush 102, 2) := by decide +kernel
theorem zX12_init_663 : decode mX12_init.2.1 663 = .ok (.bipush 32, 2) := by decide +kernel
theorem zX12_init_665 : decode mX12_init.2.1 665 = .ok (.castore, 1) := by decide +kernel
theorem zX12_init_666 : decode mX12_init.2.1 666 = .ok (.dup, 1) := by decide +kernel
theorem zX12_init_667 : decode mX12_init.2.1 667 = .ok (.bipush 103, 2) := by decide +kernel
theorem zX12_init_669 : decode mX12_init.2.1 669 = .ok (.bipush 32, 2) := by decide +kernel
theorem zX12_init_671 : decode mX12_init.2.1 671 = .ok (.castore, 1) := by decide +kernel
theorem zX12_init_672 : decode mX12_init.2.1 672 = .ok (.dup, 1) := by decide +kernel
theorem zX12_init_673 : decode mX12_init.2.1 673 = .ok (.bipush 104, 2) := by decide +kernel
theorem kb104 : (Int8.ofInt (104)).toInt32 = nI 104 := by decide +kernel
theorem zX12_init_675 : decode mX12_init.2.1 675 = .ok (.bipush 109, 2) := by decide +kernel
theorem kb109 : (Int8.ofInt (109)).toInt32 = nI 109 := by decide +kernel
theorem zX12_init_677 : decode mX12_init.2.1 677 = .ok (.castore, 1) := by decide +kernel
theorem vc109 : vp_nar .char (nI 109) = nI 109 := by decide +kernel
theorem zX12_init_678 : decode mX12_init.2.1 678 = .ok (.dup, 1) := by decide +kernel
theorem zX12_init_679 : decode mX12_init.2.1 679 = .ok (.bipush 105, 2) := by decide +kernel
theorem zX12_init_681 : decode mX12_init.2.1 681 = .ok (.bipush 105, 2) := by decide +kernel
theorem zX12_init_683 : decode mX12_init.2.1 683 = .ok (.castore, 1) := by decide +kernel
theorem zX12_init_684 : decode mX12_init.2.1 684 = .ok (.dup, 1) := by decide +kernel
theorem zX12_init_685 : decode mX12_init.2.1 685 = .ok (.bipush 106, 2) := by decide +kernel
theorem kb106 : (Int8.ofInt (106)).toInt32 = nI 106 := by decide +kernel
theorem zX12_init_687 : decode mX12_init.2.1 687 = .ok (.bipush 110, 2) := by decide +kernel
theorem zX12_init_689 : decode mX12_init.2.1 689 = .ok (.castore, 1) := by decide +kernel
theorem zX12_init_690 : decode mX12_init.2.1 690 = .ok (.dup, 1) := by decide +kernel
theorem zX12_init_691 : decode mX12_init.2.1 691 = .ok (.bipush 107, 2) := by decide +kernel
theorem zX12_init_693 : decode mX12_init.2.1 693 = .ok (.bipush 117, 2) := by decide +kernel
theorem kb117 : (Int8.ofInt (117)).toInt32 = nI 117 := by decide +kernel
theorem zX12_init_695 : decode mX12_init.2.1 695 = .ok (.castore, 1) := by decide +kernel
theorem vc117 : vp_nar .char (nI 117) = nI 117 := by decide +kernel
theorem zX12_init_696 : decode mX12_init.2.1 696 = .ok (.dup, 1) := by decide +kernel
theorem zX12_init_697 : decode mX12_init.2.1 697 = .ok (.bipush 108, 2) := by decide +kernel
theorem zX12_init_699 : decode mX12_init.2.1 699 = .ok (.bipush 116, 2) := by decide +kernel
theorem zX12_init_701 : decode mX12_init.2.1 701 = .ok (.castore, 1) := by decide +kernel
theorem zX12_init_702 : decode mX12_init.2.1 702 = .ok (.dup, 1) := by decide +kernel
theorem zX12_init_703 : decode mX12_init.2.1 703 = .ok (.bipush 109, 2) := by decide +kernel
theorem zX12_init_705 : decode mX12_init.2.1 705 = .ok (.bipush 101, 2) := by decide +kernel
theorem zX12_init_707 : decode mX12_init.2.1 707 = .ok (.castore, 1) := by decide +kernel
theorem zX12_init_708 : decode mX12_init.2.1 708 = .ok (.dup, 1) := by decide +kernel
theorem zX12_init_709 : decode mX12_init.2.1 709 = .ok (.bipush 110, 2) := by decide +kernel
theorem zX12_init_711 : decode mX12_init.2.1 711 = .ok (.bipush 32, 2) := by decide +kernel
theorem zX12_init_713 : decode mX12_init.2.1 713 = .ok (.castore, 1) := by decide +kernel
theorem zX12_init_714 : decode mX12_init.2.1 714 = .ok (.dup, 1) := by decide +kernel
theorem zX12_init_715 : decode mX12_init.2.1 715 = .ok (.bipush 111, 2) := by decide +kernel
theorem zX12_init_717 : decode mX12_init.2.1 717 = .ok (.bipush 32, 2) := by decide +kernel
theorem zX12_init_719 : decode mX12_init.2.1 719 = .ok (.castore, 1) := by decide +kernel
theorem zX12_init_720 : decode mX12_init.2.1 720 = .ok (.dup, 1) := by decide +kernel
theorem zX12_init_721 : decode mX12_init.2.1 721 = .ok (.bipush 112, 2) := by decide +kernel
theorem zX12_init_723 : decode mX12_init.2.1 723 = .ok (.bipush 108, 2) := by decide +kernel
theorem zX12_init_725 : decode mX12_init.2.1 725 = .ok (.castore, 1) := by decide +kernel
theorem zX12_init_726 : decode mX12_init.2.1 726 = .ok (.dup, 1) := by decide +kernel
theorem zX12_init_727 : decode mX12_init.2.1 727 = .ok (.bipush 113, 2) := by decide +kernel
theorem kb113 : (Int8.ofInt (113)).toInt32 = nI 113 := by decide +kernel
theorem zX12_init_729 : decode mX12_init.2.1 729 = .ok (.bipush 105, 2) := by decide +kernel
theorem zX12_init_731 : decode mX12_init.2.1 731 = .ok (.castore, 1) := by decide +kernel
theorem zX12_init_732 : decode mX12_init.2.1 732 = .ok (.dup, 1) := by decide +kernel
theorem zX12_init_733 : decode mX12_init.2.1 733 = .ok (.bipush 114, 2) := by decide +kernel
theorem zX12_init_735 : decode mX12_init.2.1 735 = .ok (.bipush 103, 2) := by decide +kernel
theorem zX12_init_737 : decode mX12_init.2.1 737 = .ok (.castore, 1) := by decide +kernel
theorem zX12_init_738 : decode mX12_init.2.1 738 = .ok (.dup, 1) := by decide +kernel
theorem zX12_init_739 : decode mX12_init.2.1 739 = .ok (.bipush 115, 2) := by decide +kernel
theorem zX12_init_741 : decode mX12_init.2.1 741 = .ok (.bipush 104, 2) := by decide +kernel
theorem zX12_init_743 : decode mX12_init.2.1 743 = .ok (.castore, 1) := by decide +kernel
theorem vc104 : vp_nar .char (nI 104) = nI 104 := by decide +kernel
theorem zX12_init_744 : decode mX12_init.2.1 744 = .ok (.dup, 1) := by decide +kernel
theorem zX12_init_745 : decode mX12_init.2.1 745 = .ok (.bipush 116, 2) := by decide +kernel
theorem zX12_init_747 : decode mX12_init.2.1 747 = .ok (.bipush 116, 2) := by decide +kernel
theorem zX12_init_749 : decode mX12_init.2.1 749 = .ok (.castore, 1) := by decide +kernel
theorem zX12_init_750 : decode mX12_init.2.1 750 = .ok (.dup, 1) := by decide +kernel
theorem zX12_init_751 : decode mX12_init.2.1 751 = .ok (.bipush 117, 2) := by decide +kernel
theorem zX12_init_753 : decode mX12_init.2.1 753 = .ok (.bipush 115, 2) := by decide +kernel
theorem zX12_init_755 : decode mX12_init.2.1 755 = .ok (.castore, 1) := by decide +kernel
theorem zX12_init_756 : decode mX12_init.2.1 756 = .ok (.dup, 1) := by decide +kernel
theorem zX12_init_757 : decode mX12_init.2.1 757 = .ok (.bipush 118, 2) := by decide +kernel
theorem zX12_init_759 : decode mX12_init.2.1 759 = .ok (.bipush 32, 2) := by decide +kernel
theorem zX12_init_761 : decode mX12_init.2.1 761 = .ok (.castore, 1) := by decide +kernel
theorem zX12_init_762 : decode mX12_init.2.1 762 = .ok (.dup, 1) := by decide +kernel
theorem zX12_init_763 : decode mX12_init.2.1 763 = .ok (.bipush 119, 2) := by decide +kernel
theorem zX12_init_765 : decode mX12_init.2.1 765 = .ok (.bipush 32, 2) := by decide +kernel
theorem zX12_init_767 : decode mX12_init.2.1 767 = .ok (.castore, 1) := by decide +kernel
theorem zX12_init_768 : decode mX12_init.2.1 768 = .ok (.dup, 1) := by decide +kernel
theorem zX12_init_769 : decode mX12_init.2.1 769 = .ok (.bipush 120, 2) := by decide +kernel
theorem kb120 : (Int8.ofInt (120)).toInt32 = nI 120 := by decide +kernel
theorem zX12_init_771 : decode mX12_init.2.1 771 = .ok (.bipush 108, 2) := by decide +kernel
theorem zX12_init_773 : decode mX12_init.2.1 773 = .ok (.castore, 1) := by decide +kernel
theorem zX12_init_774 : decode mX12_init.2.1 774 = .ok (.dup, 1) := by decide +kernel
theorem zX12_init_775 : decode mX12_init.2.1 775 = .ok (.bipush 121, 2) := by decide +kernel
theorem zX12_init_777 : decode mX12_init.2.1 777 = .ok (.bipush 111, 2) := by decide +kernel
theorem zX12_init_779 : decode mX12_init.2.1 779 = .ok (.castore, 1) := by decide +kernel
theorem zX12_init_780 : decode mX12_init.2.1 780 = .ok (.dup, 1) := by decide +kernel
theorem zX12_init_781 : decode mX12_init.2.1 781 = .ok (.bipush 122, 2) := by decide +kernel
theorem kb122 : (Int8.ofInt (122)).toInt32 = nI 122 := by decide +kernel
theorem zX12_init_783 : decode mX12_init.2.1 783 = .ok (.bipush 111, 2) := by decide +kernel
theorem zX12_init_785 : decode mX12_init.2.1 785 = .ok (.castore, 1) := by decide +kernel
theorem zX12_init_786 : decode mX12_init.2.1 786 = .ok (.dup, 1) := by decide +kernel
theorem zX12_init_787 : decode mX12_init.2.1 787 = .ok (.bipush 123, 2) := by decide +kernel
theorem kb123 : (Int8.ofInt (123)).toInt32 = nI 123 := by decide +kernel
theorem zX12_init_789 : decode mX12_init.2.1 789 = .ok (.bipush 107, 2) := by decide +kernel
theorem zX12_init_791 : decode mX12_init.2.1 791 = .ok (.castore, 1) := by decide +kernel
theorem zX12_init_792 : decode mX12_init.2.1 792 = .ok (.dup, 1) := by decide +kernel
theorem zX12_init_793 : decode mX12_init.2.1 793 = .ok (.bipush 124, 2) := by decide +kernel
theorem kb124 : (Int8.ofInt (124)).toInt32 = nI 124 := by decide +kernel
theorem zX12_init_795 : decode mX12_init.2.1 795 = .ok (.bipush 101, 2) := by decide +kernel
theorem zX12_init_797 : decode mX12_init.2.1 797 = .ok (.castore, 1) := by decide +kernel
theorem zX12_init_798 : decode mX12_init.2.1 798 = .ok (.dup, 1) := by decide +kernel
theorem zX12_init_799 : decode mX12_init.2.1 799 = .ok (.bipush 125, 2) := by decide +kernel
theorem kb125 : (Int8.ofInt (125)).toInt32 = nI 125 := by decide +kernel
theorem zX12_init_801 : decode mX12_init.2.1 801 = .ok (.bipush 100, 2) := by decide +kernel
theorem zX12_init_803 : decode mX12_init.2.1 803 = .ok (.castore, 1) := by decide +kernel
theorem zX12_init_804 : decode mX12_init.2.1 804 = .ok (.dup, 1) := by decide +kernel
theorem zX12_init_805 : decode mX12_init.2.1 805 = .ok (.bipush 126, 2) := by decide +kernel
theorem kb126 : (Int8.ofInt (126)).toInt32 = nI 126 := by decide +kernel
theorem zX12_init_807 : decode mX12_init.2.1 807 = .ok (.bipush 32, 2) := by decide +kernel
theorem zX12_init_809 : decode mX12_init.2.1 809 = .ok (.castore, 1) := by decide +kernel
theorem zX12_init_810 : decode mX12_init.2.1 810 = .ok (.dup, 1) := by decide +kernel
theorem zX12_init_811 : decode mX12_init.2.1 811 = .ok (.bipush 127, 2) := by decide +kernel
theorem kb127 : (Int8.ofInt (127)).toInt32 = nI 127 := by decide +kernel
theorem zX12_init_813 : decode mX12_init.2.1 813 = .ok (.bipush 32, 2) := by decide +kernel
theorem zX12_init_815 : decode mX12_init.2.1 815 = .ok (.castore, 1) := by decide +kernel
theorem zX12_init_816 : decode mX12_init.2.1 816 = .ok (.dup, 1) := by decide +kernel
theorem zX12_init_817 : decode mX12_init.2.1 817 = .ok (.sipush 128, 3) := by decide +kernel
theorem ks128 : (Int16.ofInt (128)).toInt32 = nI 128 := by decide +kernel
theorem zX12_init_820 : decode mX12_init.2.1 820 = .ok (.bipush 102, 2) := by decide +kernel
theorem zX12_init_822 : decode mX12_init.2.1 822 = .ok (.castore, 1) := by decide +kernel
theorem zX12_init_823 : decode mX12_init.2.1 823 = .ok (.dup, 1) := by decide +kernel
theorem zX12_init_824 : decode mX12_init.2.1 824 = .ok (.sipush 129, 3) := by decide +kernel
theorem ks129 : (Int16.ofInt (129)).toInt32 = nI 129 := by decide +kernel
theorem zX12_init_827 : decode mX12_init.2.1 827 = .ok (.bipush 111, 2) := by decide +kernel
theorem zX12_init_829 : decode mX12_init.2.1 829 = .ok (.castore, 1) := by decide +kernel
theorem zX12_init_830 : decode mX12_init.2.1 830 = .ok (.dup, 1) := by decide +kernel
theorem zX12_init_831 : decode mX12_init.2.1 831 = .ok (.sipush 130, 3) := by decide +kernel
theorem ks130 : (Int16.ofInt (130)).toInt32 = nI 130 := by decide +kernel
theorem zX12_init_834 : decode mX12_init.2.1 834 = .ok (.bipush 103, 2) := by decide +kernel
theorem zX12_init_836 : decode mX12_init.2.1 836 = .ok (.castore, 1) := by decide +kernel
theorem zX12_init_837 : decode mX12_init.2.1 837 = .ok (.dup, 1) := by decide +kernel
theorem zX12_init_838 : decode mX12_init.2.1 838 = .ok (.sipush 131, 3) := by decide +kernel
theorem ks131 : (Int16.ofInt (131)).toInt32 = nI 131 := by decide +kernel
theorem zX12_init_841 : decode mX12_init.2.1 841 = .ok (.bipush 32, 2) := by decide +kernel
theorem zX12_init_843 : decode mX12_init.2.1 843 = .ok (.castore, 1) := by decide +kernel
theorem zX12_init_844 : decode mX12_init.2.1 844 = .ok (.dup, 1) := by decide +kernel
theorem zX12_init_845 : decode mX12_init.2.1 845 = .ok (.sipush 132, 3) := by decide +kernel
theorem ks132 : (Int16.ofInt (132)).toInt32 = nI 132 := by decide +kernel
theorem zX12_init_848 : decode mX12_init.2.1 848 = .ok (.bipush 32, 2) := by decide +kernel
theorem zX12_init_850 : decode mX12_init.2.1 850 = .ok (.castore, 1) := by decide +kernel
theorem zX12_init_851 : decode mX12_init.2.1 851 = .ok (.dup, 1) := by decide +kernel
theorem zX12_init_852 : decode mX12_init.2.1 852 = .ok (.sipush 133, 3) := by decide +kernel
theorem ks133 : (Int16.ofInt (133)).toInt32 = nI 133 := by decide +kernel
theorem zX12_init_855 : decode mX12_init.2.1 855 = .ok (.bipush 32, 2) := by decide +kernel
theorem zX12_init_857 : decode mX12_init.2.1 857 = .ok (.castore, 1) := by decide +kernel
theorem zX12_init_858 : decode mX12_init.2.1 858 = .ok (.dup, 1) := by decide +kernel
theorem zX12_init_859 : decode mX12_init.2.1 859 = .ok (.sipush 134, 3) := by decide +kernel
theorem ks134 : (Int16.ofInt (134)).toInt32 = nI 134 := by decide +kernel
theorem zX12_init_862 : decode mX12_init.2.1 862 = .ok (.bipush 32, 2) := by decide +kernel
theorem zX12_init_864 : decode mX12_init.2.1 864 = .ok (.castore, 1) := by decide +kernel
theorem zX12_init_865 : decode mX12_init.2.1 865 = .ok (.dup, 1) := by decide +kernel
theorem zX12_init_866 : decode mX12_init.2.1 866 = .ok (.sipush 135, 3) := by decide +kernel
theorem ks135 : (Int16.ofInt (135)).toInt32 = nI 135 := by decide +kernel
theorem zX12_init_869 : decode mX12_init.2.1 869 = .ok (.bipush 32, 2) := by decide +kernel
theorem zX12_init_871 : decode mX12_init.2.1 871 = .ok (.castore, 1) := by decide +kernel
theorem zX12_init_872 : decode mX12_init.2.1 872 = .ok (.dup, 1) := by decide +kernel
theorem zX12_init_873 : decode mX12_init.2.1 873 = .ok (.sipush 136, 3) := by decide +kernel
theorem ks136 : (Int16.ofInt (136)).toInt32 = nI 136 := by decide +kernel
theorem zX12_init_876 : decode mX12_init.2.1 876 = .ok (.bipush 110, 2) := by decide +kernel
theorem zX12_init_878 : decode mX12_init.2.1 878 = .ok (.castore, 1) := by decide +kernel
theorem zX12_init_879 : decode mX12_init.2.1 879 = .ok (.dup, 1) := by decide +kernel
theorem zX12_init_880 : decode mX12_init.2.1 880 = .ok (.sipush 137, 3) := by decide +kernel
theorem ks137 : (Int16.ofInt (137)).toInt32 = nI 137 := by decide +kernel
theorem zX12_init_883 : decode mX12_init.2.1 883 = .ok (.bipush 117, 2) := by decide +kernel
theorem zX12_init_885 : decode mX12_init.2.1 885 = .ok (.castore, 1) := by decide +kernel
theorem zX12_init_886 : decode mX12_init.2.1 886 = .ok (.dup, 1) := by decide +kernel
theorem zX12_init_887 : decode mX12_init.2.1 887 = .ok (.sipush 138, 3) := by decide +kernel
theorem ks138 : (Int16.ofInt (138)).toInt32 = nI 138 := by decide +kernel
theorem zX12_init_890 : decode mX12_init.2.1 890 = .ok (.bipush 109, 2) := by decide +kernel
theorem zX12_init_892 : decode mX12_init.2.1 892 = .ok (.castore, 1) := by decide +kernel
theorem zX12_init_893 : decode mX12_init.2.1 893 = .ok (.dup, 1) := by decide +kernel
theorem zX12_init_894 : decode mX12_init.2.1 894 = .ok (.sipush 139, 3) := by decide +kernel
theorem ks139 : (Int16.ofInt (139)).toInt32 = nI 139 := by decide +kernel
theorem zX12_init_897 : decode mX12_init.2.1 897 = .ok (.bipush 98, 2) := by decide +kernel
theorem zX12_init_899 : decode mX12_init.2.1 899 = .ok (.castore, 1) := by decide +kernel
theorem vc98 : vp_nar .char (nI 98) = nI 98 := by decide +kernel
theorem zX12_init_900 : decode mX12_init.2.1 900 = .ok (.dup, 1) := by decide +kernel
theorem zX12_init_901 : decode mX12_init.2.1 901 = .ok (.sipush 140, 3) := by decide +kernel
theorem ks140 : (Int16.ofInt (140)).toInt32 = nI 140 := by decide +kernel
theorem zX12_init_904 : decode mX12_init.2.1 904 = .ok (.bipush 101, 2) := by decide +kernel
theorem zX12_init_906 : decode mX12_init.2.1 906 = .ok (.castore, 1) := by decide +kernel
theorem zX12_init_907 : decode mX12_init.2.1 907 = .ok (.dup, 1) := by decide +kernel
theorem zX12_init_908 : decode mX12_init.2.1 908 = .ok (.sipush 141, 3) := by decide +kernel
theorem ks141 : (Int16.ofInt (141)).toInt32 = nI 141 := by decide +kernel
theorem zX12_init_911 : decode mX12_init.2.1 911 = .ok (.bipush 114, 2) := by decide +kernel
theorem zX12_init_913 : decode mX12_init.2.1 913 = .ok (.castore, 1) := by decide +kernel
theorem zX12_init_914 : decode mX12_init.2.1 914 = .ok (.dup, 1) := by decide +kernel
theorem zX12_init_915 : decode mX12_init.2.1 915 = .ok (.sipush 142, 3) := by decide +kernel
theorem ks142 : (Int16.ofInt (142)).toInt32 = nI 142 := by decide +kernel
theorem zX12_init_918 : decode mX12_init.2.1 918 = .ok (.bipush 32, 2) := by decide +kernel
theorem zX12_init_920 : decode mX12_init.2.1 920 = .ok (.castore, 1) := by decide +kernel
theorem zX12_init_921 : decode mX12_init.2.1 921 = .ok (.dup, 1) := by decide +kernel
theorem zX12_init_922 : decode mX12_init.2.1 922 = .ok (.sipush 143, 3) := by decide +kernel
theorem ks143 : (Int16.ofInt (143)).toInt32 = nI 143 := by decide +kernel
theorem zX12_init_925 : decode mX12_init.2.1 925 = .ok (.bipush 32, 2) := by decide +kernel
theorem zX12_init_927 : decode mX12_init.2.1 927 = .ok (.castore, 1) := by decide +kernel
theorem zX12_init_928 : decode mX12_init.2.1 928 = .ok (.putfield 25, 3) := by decide +kernel
theorem kpX12_25 : KP RX12 25 12 7 (tyX12 7) := ⟨RX12, TX12, 38, tyX12, rfl, by decide, rfl, rfl, iX12, (gx5 137 rfl rfl), tyX12_ok, nmX12, by decide +kernel⟩
theorem zX12_init_931 : decode mX12_init.2.1 931 = .ok (.aload_n 0, 1) := by decide +kernel
theorem zX12_init_932 : decode mX12_init.2.1 932 = .ok (.sipush 200, 3) := by decide +kernel
theorem zX12_init_935 : decode mX12_init.2.1 935 = .ok (.newarray .int, 2) := by decide +kernel
theorem zX12_init_937 : decode mX12_init.2.1 937 = .ok (.putfield 29, 3) := by decide +kernel
theorem kpX12_29 : KP RX12 29 12 14 (tyX12 14) := ⟨RX12, TX12, 38, tyX12, rfl, by decide, rfl, rfl, iX12, (gx5 144 rfl rfl), tyX12_ok, nmX12, by decide +kernel⟩
theorem zX12_init_940 : decode mX12_init.2.1 940 = .ok (.aload_n 0, 1) := by decide +kernel
theorem zX12_init_941 : decode mX12_init.2.1 941 = .ok (.bipush 24, 2) := by decide +kernel
theorem zX12_init_943 : decode mX12_init.2.1 943 = .ok (.newarray .int, 2) := by decide +kernel
theorem zX12_init_945 : decode mX12_init.2.1 945 = .ok (.putfield 32, 3) := by decide +kernel
theorem kpX12_32 : KP RX12 32 12 15 (tyX12 15) := ⟨RX12, TX12, 38, tyX12, rfl, by decide, rfl, rfl, iX12, (gx5 145 rfl rfl), tyX12_ok, nmX12, by decide +kernel⟩
theorem zX12_init_948 : decode mX12_init.2.1 948 = .ok (.aload_n 0, 1) := by decide +kernel
theorem zX12_init_949 : decode mX12_init.2.1 949 = .ok (.sipush 370, 3) := by decide +kernel
theorem ks370 : (Int16.ofInt (370)).toInt32 = nI 370 := by decide +kernel
theorem zX12_init_952 : decode mX12_init.2.1 952 = .ok (.newarray .int, 2) := by decide +kernel
theorem zX12_init_954 : decode mX12_init.2.1 954 = .ok (.putfield 35, 3) := by decide +kernel
theorem kpX12_35 : KP RX12 35 12 18 (tyX12 18) := ⟨RX12, TX12, 38, tyX12, rfl, by decide, rfl, rfl, iX12, (gx5 148 rfl rfl), tyX12_ok, nmX12, by decide +kernel⟩
theorem zX12_init_957 : decode mX12_init.2.1 957 = .ok (.aload_n 0, 1) := by decide +kernel
theorem zX12_init_958 : decode mX12_init.2.1 958 = .ok (.iconst 4, 1) := by decide +kernel
theorem zX12_init_959 : decode mX12_init.2.1 959 = .ok (.newarray .int, 2) := by decide +kernel
theorem zX12_init_961 : decode mX12_init.2.1 961 = .ok (.putfield 38, 3) := by decide +kernel
theorem kpX12_38 : KP RX12 38 12 19 (tyX12 19) := ⟨RX12, TX12, 38, tyX12, rfl, by decide, rfl, rfl, iX12, (gx5 149 rfl rfl), tyX12_ok, nmX12, by decide +kernel⟩
theorem zX12_init_964 : decode mX12_init.2.1 964 = .ok (.aload_n 0, 1) := by decide +kernel
theorem zX12_init_965 : decode mX12_init.2.1 965 = .ok (.iconst 4, 1) := by decide +kernel
theorem zX12_init_966 : decode mX12_init.2.1 966 = .ok (.newarray .int, 2) := by decide +kernel
theorem zX12_init_968 : decode mX12_init.2.1 968 = .ok (.putfield 41, 3) := by decide +kernel
theorem kpX12_41 : KP RX12 41 12 20 (tyX12 20) := ⟨RX12, TX12, 38, tyX12, rfl, by decide, rfl, rfl, iX12, (gx5 150 rfl rfl), tyX12_ok, nmX12, by decide +kernel⟩
theorem zX12_init_971 : decode mX12_init.2.1 971 = .ok (.aload_n 0, 1) := by decide +kernel
theorem zX12_init_972 : decode mX12_init.2.1 972 = .ok (.bipush 16, 2) := by decide +kernel
theorem zX12_init_974 : decode mX12_init.2.1 974 = .ok (.newarray .int, 2) := by decide +kernel
theorem zX12_init_976 : decode mX12_init.2.1 976 = .ok (.putfield 44, 3) := by decide +kernel
theorem kpX12_44 : KP RX12 44 12 25 (tyX12 25) := ⟨RX12, TX12, 38, tyX12, rfl, by decide, rfl, rfl, iX12, (gx5 155 rfl rfl), tyX12_ok, nmX12, by decide +kernel⟩
theorem zX12_init_979 : decode mX12_init.2.1 979 = .ok (.aload_n 0, 1) := by decide +kernel
theorem zX12_init_980 : decode mX12_init.2.1 980 = .ok (.bipush 12, 2) := by decide +kernel
theorem zX12_init_982 : decode mX12_init.2.1 982 = .ok (.newarray .int, 2) := by decide +kernel
theorem zX12_init_984 : decode mX12_init.2.1 984 = .ok (.putfield 47, 3) := by decide +kernel
theorem kpX12_47 : KP RX12 47 12 27 (tyX12 27) := ⟨RX12, TX12, 38, tyX12, rfl, by decide, rfl, rfl, iX12, (gx5 157 rfl rfl), tyX12_ok, nmX12, by decide +kernel⟩
theorem zX12_init_987 : decode mX12_init.2.1 987 = .ok (.aload_n 0, 1) := by decide +kernel
theorem zX12_init_988 : decode mX12_init.2.1 988 = .ok (.iconst 4, 1) := by decide +kernel
theorem zX12_init_989 : decode mX12_init.2.1 989 = .ok (.newarray .int, 2) := by decide +kernel
theorem zX12_init_991 : decode mX12_init.2.1 991 = .ok (.dup, 1) := by decide +kernel
theorem zX12_init_992 : decode mX12_init.2.1 992 = .ok (.iconst 0, 1) := by decide +kernel
theorem zX12_init_993 : decode mX12_init.2.1 993 = .ok (.iconst (-1), 1) := by decide +kernel
theorem zX12_init_994 : decode mX12_init.2.1 994 = .ok (.iastore, 1) := by decide +kernel
theorem zX12_init_995 : decode mX12_init.2.1 995 = .ok (.dup, 1) := by decide +kernel
theorem zX12_init_996 : decode mX12_init.2.1 996 = .ok (.iconst 1, 1) := by decide +kernel
theorem zX12_init_997 : decode mX12_init.2.1 997 = .ok (.iconst (-1), 1) := by decide +kernel
theorem zX12_init_998 : decode mX12_init.2.1 998 = .ok (.iastore, 1) := by decide +kernel
theorem zX12_init_999 : decode mX12_init.2.1 999 = .ok (.dup, 1) := by decide +kernel
theorem zX12_init_1000 : decode mX12_init.2.1 1000 = .ok (.iconst 2, 1) := by decide +kernel
theorem zX12_init_1001 : decode mX12_init.2.1 1001 = .ok (.iconst (-1), 1) := by decide +kernel
theorem zX12_init_1002 : decode mX12_init.2.1 1002 = .ok (.iastore, 1) := by decide +kernel
theorem zX12_init_1003 : decode mX12_init.2.1 1003 = .ok (.dup, 1) := by decide +kernel
theorem zX12_init_1004 : decode mX12_init.2.1 1004 = .ok (.iconst 3, 1) := by decide +kernel
theorem zX12_init_1005 : decode mX12_init.2.1 1005 = .ok (.iconst (-1), 1) := by decide +kernel
theorem zX12_init_1006 : decode mX12_init.2.1 1006 = .ok (.iastore, 1) := by decide +kernel
theorem zX12_init_1007 : decode mX12_init.2.1 1007 = .ok (.putfield 50, 3) := by decide +kernel
theorem kpX12_50 : KP RX12 50 12 29 (tyX12 29) := ⟨RX12, TX12, 38, tyX12, rfl, by decide, rfl, rfl, iX12, (gx5 159 rfl rfl), tyX12_ok, nmX12, by decide +kernel⟩
theorem zX12_init_1010 : decode mX12_init.2.1 1010 = .ok (.aload_n 0, 1) := by decide +kernel
theorem zX12_init_1011 : decode mX12_init.2.1 1011 = .ok (.iconst 4, 1) := by decide +kernel
theorem zX12_init_1012 : decode mX12_init.2.1 1012 = .ok (.newarray .int, 2) := by decide +kernel
theorem zX12_init_1014 : decode mX12_init.2.1 1014 = .ok (.putfield 53, 3) := by decide +kernel
theorem kpX12_53 : KP RX12 53 12 30 (tyX12 30) := ⟨RX12, TX12, 38, tyX12, rfl, by decide, rfl, rfl, iX12, (gx5 160 rfl rfl), tyX12_ok, nmX12, by decide +kernel⟩
theorem zX12_init_1017 : decode mX12_init.2.1 1017 = .ok (.aload_n 0, 1) := by decide +kernel
theorem zX12_init_1018 : decode mX12_init.2.1 1018 = .ok (.sipush 160, 3) := by decide +kernel
theorem zX12_init_1021 : decode mX12_init.2.1 1021 = .ok (.newarray .int, 2) := by decide +kernel
theorem zX12_init_1023 : decode mX12_init.2.1 1023 = .ok (.putfield 56, 3) := by decide +kernel
theorem kpX12_56 : KP RX12 56 12 31 (tyX12 31) := ⟨RX12, TX12, 38, tyX12, rfl, by decide, rfl, rfl, iX12, (gx5 161 rfl rfl), tyX12_ok, nmX12, by decide +kernel⟩
theorem zX12_init_1026 : decode mX12_init.2.1 1026 = .ok (.aload_n 0, 1) := by decide +kernel
theorem zX12_init_1027 : decode mX12_init.2.1 1027 = .ok (.iconst 4, 1) := by decide +kernel
theorem zX12_init_1028 : decode mX12_init.2.1 1028 = .ok (.newarray .int, 2) := by decide +kernel
theorem zX12_init_1030 : decode mX12_init.2.1 1030 = .ok (.dup, 1) := by decide +kernel
theorem zX12_init_1031 : decode mX12_init.2.1 1031 = .ok (.iconst 0, 1) := by decide +kernel
theorem zX12_init_1032 : decode mX12_init.2.1 1032 = .ok (.iconst (-1), 1) := by decide +kernel
theorem zX12_init_1033 : decode mX12_init.2.1 1033 = .ok (.iastore, 1) := by decide +kernel
theorem zX12_init_1034 : decode mX12_init.2.1 1034 = .ok (.dup, 1) := by decide +kernel
theorem zX12_init_1035 : decode mX12_init.2.1 1035 = .ok (.iconst 1, 1) := by decide +kernel
theorem zX12_init_1036 : decode mX12_init.2.1 1036 = .ok (.iconst (-1), 1) := by decide +kernel
theorem zX12_init_1037 : decode mX12_init.2.1 1037 = .ok (.iastore, 1) := by decide +kernel
theorem zX12_init_1038 : decode mX12_init.2.1 1038 = .ok (.dup, 1) := by decide +kernel
theorem zX12_init_1039 : decode mX12_init.2.1 1039 = .ok (.iconst 2, 1) := by decide +kernel
theorem zX12_init_1040 : decode mX12_init.2.1 1040 = .ok (.iconst (-1), 1) := by decide +kernel
theorem zX12_init_1041 : decode mX12_init.2.1 1041 = .ok (.iastore, 1) := by decide +kernel
theorem zX12_init_1042 : decode mX12_init.2.1 1042 = .ok (.dup, 1) := by decide +kernel
theorem zX12_init_1043 : decode mX12_init.2.1 1043 = .ok (.iconst 3, 1) := by decide +kernel
theorem zX12_init_1044 : decode mX12_init.2.1 1044 = .ok (.iconst (-1), 1) := by decide +kernel
theorem zX12_init_1045 : decode mX12_init.2.1 1045 = .ok (.iastore, 1) := by decide +kernel
theorem zX12_init_1046 : decode mX12_init.2.1 1046 = .ok (.putfield 59, 3) := by decide +kernel
theorem kpX12_59 : KP RX12 59 12 32 (tyX12 32) := ⟨RX12, TX12, 38, tyX12, rfl, by decide, rfl, rfl, iX12, (gx5 162 rfl rfl), tyX12_ok, nmX12, by decide +kernel⟩
theorem zX12_init_1049 : decode mX12_init.2.1 1049 = .ok (.aload_n 0, 1) := by decide +kernel
theorem zX12_init_1050 : decode mX12_init.2.1 1050 = .ok (.iconst 4, 1) := by decide +kernel
theorem zX12_init_1051 : decode mX12_init.2.1 1051 = .ok (.newarray .int, 2) := by decide +kernel
theorem zX12_init_1053 : decode mX12_init.2.1 1053 = .ok (.putfield 62, 3) := by decide +kernel
theorem kpX12_62 : KP RX12 62 12 33 (tyX12 33) := ⟨RX12, TX12, 38, tyX12, rfl, by decide, rfl, rfl, iX12, (gx5 163 rfl rfl), tyX12_ok, nmX12, by decide +kernel⟩
theorem zX12_init_1056 : decode mX12_init.2.1 1056 = .ok (.aload_n 0, 1) := by decide +kernel
theorem zX12_init_1057 : decode mX12_init.2.1 1057 = .ok (.bipush 30, 2) := by decide +kernel
theorem zX12_init_1059 : decode mX12_init.2.1 1059 = .ok (.newarray .int, 2) := by decide +kernel
theorem zX12_init_1061 : decode mX12_init.2.1 1061 = .ok (.putfield 65, 3) := by decide +kernel
theorem kpX12_65 : KP RX12 65 12 34 (tyX12 34) := ⟨RX12, TX12, 38, tyX12, rfl, by decide, rfl, rfl, iX12, (gx5 164 rfl rfl), tyX12_ok, nmX12, by decide +kernel⟩
theorem zX12_init_1064 : decode mX12_init.2.1 1064 = .ok (.aload_n 0, 1) := by decide +kernel
theorem zX12_init_1065 : decode mX12_init.2.1 1065 = .ok (.getfield 9, 3) := by decide +kernel
theorem zX12_init_1068 : decode mX12_init.2.1 1068 = .ok (.iconst 1, 1) := by decide +kernel
theorem zX12_init_1069 : decode mX12_init.2.1 1069 = .ok (.bipush 12, 2) := by decide +kernel
theorem zX12_init_1071 : decode mX12_init.2.1 1071 = .ok (.iastore, 1) := by decide +kernel
theorem zX12_init_1072 : decode mX12_init.2.1 1072 = .ok (.aload_n 0, 1) := by decide +kernel
theorem zX12_init_1073 : decode mX12_init.2.1 1073 = .ok (.getfield 9, 3) := by decide +kernel
theorem zX12_init_1076 : decode mX12_init.2.1 1076 = .ok (.iconst 4, 1) := by decide +kernel
theorem zX12_init_1077 : decode mX12_init.2.1 1077 = .ok (.bipush 60, 2) := by decide +kernel
theorem zX12_init_1079 : decode mX12_init.2.1 1079 = .ok (.iastore, 1) := by decide +kernel
theorem zX12_init_1080 : decode mX12_init.2.1 1080 = .ok (.aload_n 0, 1) := by decide +kernel
theorem zX12_init_1081 : decode mX12_init.2.1 1081 = .ok (.getfield 9, 3) := by decide +kernel
theorem zX12_init_1084 : decode mX12_init.2.1 1084 = .ok (.iconst 5, 1) := by decide +kernel
theorem zX12_init_1085 : decode mX12_init.2.1 1085 = .ok (.iconst 1, 1) := by decide +kernel
theorem zX12_init_1086 : decode mX12_init.2.1 1086 = .ok (.iastore, 1) := by decide +kernel
theorem zX12_init_1087 : decode mX12_init.2.1 1087 = .ok (.iconst 0, 1) := by decide +kernel
theorem zX12_init_1088 : decode mX12_init.2.1 1088 = .ok (.istore_n 1, 1) := by decide +kernel
theorem zX12_init_1089 : decode mX12_init.2.1 1089 = .ok (.iload_n 1, 1) := by decide +kernel
theorem zX12_init_1090 : decode mX12_init.2.1 1090 = .ok (.bipush 16, 2) := by decide +kernel
theorem zX12_init_1092 : decode mX12_init.2.1 1092 = .ok (.if_icmp .ge 19, 3) := by decide +kernel
theorem zX12_init_1095 : decode mX12_init.2.1 1095 = .ok (.aload_n 0, 1) := by decide +kernel
theorem zX12_init_1096 : decode mX12_init.2.1 1096 = .ok (.getfield 9, 3) := by decide +kernel
theorem zX12_init_1099 : decode mX12_init.2.1 1099 = .ok (.bipush 10, 2) := by decide +kernel
theorem zX12_init_1101 : decode mX12_init.2.1 1101 = .ok (.iload_n 1, 1) := by decide +kernel
theorem zX12_init_1102 : decode mX12_init.2.1 1102 = .ok (.iadd, 1) := by decide +kernel
theorem zX12_init_1103 : decode mX12_init.2.1 1103 = .ok (.iconst 4, 1) := by decide +kernel
theorem zX12_init_1104 : decode mX12_init.2.1 1104 = .ok (.iastore, 1) := by decide +kernel
theorem zX12_init_1105 : decode mX12_init.2.1 1105 = .ok (.iinc 1 1, 3) := by decide +kernel
theorem zX12_init_1108 : decode mX12_init.2.1 1108 = .ok (.goto (-19), 3) := by decide +kernel
theorem zX12_init_1111 : decode mX12_init.2.1 1111 = .ok (.iconst 0, 1) := by decide +kernel
theorem zX12_init_1112 : decode mX12_init.2.1 1112 = .ok (.istore_n 1, 1) := by decide +kernel
theorem zX12_init_1113 : decode mX12_init.2.1 1113 = .ok (.iload_n 1, 1) := by decide +kernel
theorem zX12_init_1114 : decode mX12_init.2.1 1114 = .ok (.bipush 6, 2) := by decide +kernel
theorem zX12_init_1116 : decode mX12_init.2.1 1116 = .ok (.if_icmp .ge 19, 3) := by decide +kernel
theorem zX12_init_1119 : decode mX12_init.2.1 1119 = .ok (.aload_n 0, 1) := by decide +kernel
theorem zX12_init_1120 : decode mX12_init.2.1 1120 = .ok (.getfield 9, 3) := by decide +kernel
theorem zX12_init_1123 : decode mX12_init.2.1 1123 = .ok (.bipush 32, 2) := by decide +kernel
theorem zX12_init_1125 : decode mX12_init.2.1 1125 = .ok (.iload_n 1, 1) := by decide +kernel
theorem zX12_init_1126 : decode mX12_init.2.1 1126 = .ok (.iadd, 1) := by decide +kernel
theorem zX12_init_1127 : decode mX12_init.2.1 1127 = .ok (.iconst 3, 1) := by decide +kernel
theorem zX12_init_1128 : decode mX12_init.2.1 1128 = .ok (.iastore, 1) := by decide +kernel
theorem zX12_init_1129 : decode mX12_init.2.1 1129 = .ok (.iinc 1 1, 3) := by decide +kernel
theorem zX12_init_1132 : decode mX12_init.2.1 1132 = .ok (.goto (-19), 3) := by decide +kernel
theorem zX12_init_1135 : decode mX12_init.2.1 1135 = .ok (.return_, 1) := by decide +kernel
def sg1 (f : Nat → Int32) : Nat → Int32 := upd (upd (upd (upd (upd (upd (upd (upd (upd (upd (upd (upd (upd (upd (upd (upd (f) 0 (nI 112)) 1 (nI 97)) 2 (nI 110)) 3 (nI 101)) 4 (nI 32)) 5 (nI 32)) 6 (nI 32)) 7 (nI 32)) 8 (nI 110)) 9 (nI 97)) 10 (nI 118)) 11 (nI 118)) 12 (nI 121)) 13 (nI 32)) 14 (nI 32)) 15 (nI 32)
set_option maxHeartbeats 4000000 in
set_option maxRecDepth 100000 in
theorem klt1 {E : EE} {p : Program} {l : Launch} {e : Env} {R : Room} {s : State} {m : MethodId} {args : Array Value} {below : List Frame} {meth : Method} {c : Code} {H : Heap} {locs : List Loc} {cells slots : Nat} {Q : State → Prop} {ls : Array Slot} {rest : List Value} {cs N : List va_E} {X : va_E} {o L : Nat} {f : Nat → Int32} (F : Fx E mX12_init p s m meth c) (hL : cs.length = L) (ha : 5 < N.length) (P : PK E s (cs.set o X ++ N.set 5 (.inl (E.2.2.2.2 2, 144, .inl f))) H locs) (kk : ∀ (H : Heap) (locs : List Loc), PK E s (cs.set o X ++ N.set 5 (.inl (E.2.2.2.2 2, 144, .inl (sg1 f)))) H locs → W p l e R s m args below meth c H locs cells slots Q (F0 m 144 ls (.ref (eb E + (L + 5)) :: rest))) : W p l e R s m args below meth c H locs cells slots Q (F0 m 54 ls (.ref (eb E + (L + 5)) :: rest)) := by
  refine lv_dup F.1 F.2.1 zX12_init_54 rfl ?_
  refine lv_iconst F.1 F.2.1 zX12_init_55 kc0 ?_
  refine lv_bipush F.1 F.2.1 zX12_init_56 kb112 ?_
  refine T_cast F P hL ha rfl (by decide) (by decide) vc112 zX12_init_58 (fun H locs P => ?_)
  refine lv_dup F.1 F.2.1 zX12_init_59 rfl ?_
  refine lv_iconst F.1 F.2.1 zX12_init_60 kc1 ?_
  refine lv_bipush F.1 F.2.1 zX12_init_61 kb97 ?_
  refine T_cast F P hL ha rfl (by decide) (by decide) vc97 zX12_init_63 (fun H locs P => ?_)
  refine lv_dup F.1 F.2.1 zX12_init_64 rfl ?_
  refine lv_iconst F.1 F.2.1 zX12_init_65 kc2 ?_
  refine lv_bipush F.1 F.2.1 zX12_init_66 kb110 ?_
  refine T_cast F P hL ha rfl (by decide) (by decide) vc110 zX12_init_68 (fun H locs P => ?_)
  refine lv_dup F.1 F.2.1 zX12_init_69 rfl ?_
  refine lv_iconst F.1 F.2.1 zX12_init_70 kc3 ?_
  refine lv_bipush F.1 F.2.1 zX12_init_71 kb101 ?_
  refine T_cast F P hL ha rfl (by decide) (by decide) vc101 zX12_init_73 (fun H locs P => ?_)
  refine lv_dup F.1 F.2.1 zX12_init_74 rfl ?_
  refine lv_iconst F.1 F.2.1 zX12_init_75 kc4 ?_
  refine lv_bipush F.1 F.2.1 zX12_init_76 kb32 ?_
  refine T_cast F P hL ha rfl (by decide) (by decide) vc32 zX12_init_78 (fun H locs P => ?_)
  refine lv_dup F.1 F.2.1 zX12_init_79 rfl ?_
  refine lv_iconst F.1 F.2.1 zX12_init_80 kc5 ?_
  refine lv_bipush F.1 F.2.1 zX12_init_81 kb32 ?_
  refine T_cast F P hL ha rfl (by decide) (by decide) vc32 zX12_init_83 (fun H locs P => ?_)
  refine lv_dup F.1 F.2.1 zX12_init_84 rfl ?_
  refine lv_bipush F.1 F.2.1 zX12_init_85 kb6 ?_
  refine lv_bipush F.1 F.2.1 zX12_init_87 kb32 ?_
  refine T_cast F P hL ha rfl (by decide) (by decide) vc32 zX12_init_89 (fun H locs P => ?_)
  refine lv_dup F.1 F.2.1 zX12_init_90 rfl ?_
  refine lv_bipush F.1 F.2.1 zX12_init_91 kb7 ?_
  refine lv_bipush F.1 F.2.1 zX12_init_93 kb32 ?_
  refine T_cast F P hL ha rfl (by decide) (by decide) vc32 zX12_init_95 (fun H locs P => ?_)
  refine lv_dup F.1 F.2.1 zX12_init_96 rfl ?_
  refine lv_bipush F.1 F.2.1 zX12_init_97 kb8 ?_
  refine lv_bipush F.1 F.2.1 zX12_init_99 kb110 ?_
  refine T_cast F P hL ha rfl (by decide) (by decide) vc110 zX12_init_101 (fun H locs P => ?_)
  refine lv_dup F.1 F.2.1 zX12_init_102 rfl ?_
  refine lv_bipush F.1 F.2.1 zX12_init_103 kb9 ?_
  refine lv_bipush F.1 F.2.1 zX12_init_105 kb97 ?_
  refine T_cast F P hL ha rfl (by decide) (by decide) vc97 zX12_init_107 (fun H locs P => ?_)
  refine lv_dup F.1 F.2.1 zX12_init_108 rfl ?_
  refine lv_bipush F.1 F.2.1 zX12_init_109 kb10 ?_
  refine lv_bipush F.1 F.2.1 zX12_init_111 kb118 ?_
  refine T_cast F P hL ha rfl (by decide) (by decide) vc118 zX12_init_113 (fun H locs P => ?_)
  refine lv_dup F.1 F.2.1 zX12_init_114 rfl ?_
  refine lv_bipush F.1 F.2.1 zX12_init_115 kb11 ?_
  refine lv_bipush F.1 F.2.1 zX12_init_117 kb118 ?_
  refine T_cast F P hL ha rfl (by decide) (by decide) vc118 zX12_init_119 (fun H locs P => ?_)
  refine lv_dup F.1 F.2.1 zX12_init_120 rfl ?_
  refine lv_bipush F.1 F.2.1 zX12_init_121 kb12 ?_
  refine lv_bipush F.1 F.2.1 zX12_init_123 kb121 ?_
  refine T_cast F P hL ha rfl (by decide) (by decide) vc121 zX12_init_125 (fun H locs P => ?_)
  refine lv_dup F.1 F.2.1 zX12_init_126 rfl ?_
  refine lv_bipush F.1 F.2.1 zX12_init_127 kb13 ?_
  refine lv_bipush F.1 F.2.1 zX12_init_129 kb32 ?_
  refine T_cast F P hL ha rfl (by decide) (by decide) vc32 zX12_init_131 (fun H locs P => ?_)
  refine lv_dup F.1 F.2.1 zX12_init_132 rfl ?_
  refine lv_bipush F.1 F.2.1 zX12_init_133 kb14 ?_
  refine lv_bipush F.1 F.2.1 zX12_init_135 kb32 ?_
  refine T_cast F P hL ha rfl (by decide) (by decide) vc32 zX12_init_137 (fun H locs P => ?_)
  refine lv_dup F.1 F.2.1 zX12_init_138 rfl ?_
  refine lv_bipush F.1 F.2.1 zX12_init_139 kb15 ?_
  refine lv_bipush F.1 F.2.1 zX12_init_141 kb32 ?_
  refine T_cast F P hL ha rfl (by decide) (by decide) vc32 zX12_init_143 (fun H locs P => ?_)
  exact kk H locs P
def sg2 (f : Nat → Int32) : Nat → Int32 := upd (upd (upd (upd (upd (upd (upd (upd (upd (upd (upd (upd (upd (upd (upd (upd (f) 16 (nI 115)) 17 (nI 101)) 18 (nI 119)) 19 (nI 101)) 20 (nI 114)) 21 (nI 32)) 22 (nI 32)) 23 (nI 32)) 24 (nI 119)) 25 (nI 105)) 26 (nI 100)) 27 (nI 111)) 28 (nI 119)) 29 (nI 32)) 30 (nI 32)) 31 (nI 32)
set_option maxHeartbeats 4000000 in
set_option maxRecDepth 100000 in
theorem klt2 {E : EE} {p : Program} {l : Launch} {e : Env} {R : Room} {s : State} {m : MethodId} {args : Array Value} {below : List Frame} {meth : Method} {c : Code} {H : Heap} {locs : List Loc} {cells slots : Nat} {Q : State → Prop} {ls : Array Slot} {rest : List Value} {cs N : List va_E} {X : va_E} {o L : Nat} {f : Nat → Int32} (F : Fx E mX12_init p s m meth c) (hL : cs.length = L) (ha : 5 < N.length) (P : PK E s (cs.set o X ++ N.set 5 (.inl (E.2.2.2.2 2, 144, .inl f))) H locs) (kk : ∀ (H : Heap) (locs : List Loc), PK E s (cs.set o X ++ N.set 5 (.inl (E.2.2.2.2 2, 144, .inl (sg2 f)))) H locs → W p l e R s m args below meth c H locs cells slots Q (F0 m 240 ls (.ref (eb E + (L + 5)) :: rest))) : W p l e R s m args below meth c H locs cells slots Q (F0 m 144 ls (.ref (eb E + (L + 5)) :: rest)) := by
  refine lv_dup F.1 F.2.1 zX12_init_144 rfl ?_
  refine lv_bipush F.1 F.2.1 zX12_init_145 kb16 ?_
  refine lv_bipush F.1 F.2.1 zX12_init_147 kb115 ?_
  refine T_cast F P hL ha rfl (by decide) (by decide) vc115 zX12_init_149 (fun H locs P => ?_)
  refine lv_dup F.1 F.2.1 zX12_init_150 rfl ?_
  refine lv_bipush F.1 F.2.1 zX12_init_151 kb17 ?_
  refine lv_bipush F.1 F.2.1 zX12_init_153 kb101 ?_
  refine T_cast F P hL ha rfl (by decide) (by decide) vc101 zX12_init_155 (fun H locs P => ?_)
  refine lv_dup F.1 F.2.1 zX12_init_156 rfl ?_
  refine lv_bipush F.1 F.2.1 zX12_init_157 kb18 ?_
  refine lv_bipush F.1 F.2.1 zX12_init_159 kb119 ?_
  refine T_cast F P hL ha rfl (by decide) (by decide) vc119 zX12_init_161 (fun H locs P => ?_)
  refine lv_dup F.1 F.2.1 zX12_init_162 rfl ?_
  refine lv_bipush F.1 F.2.1 zX12_init_163 kb19 ?_
  refine lv_bipush F.1 F.2.1 zX12_init_165 kb101 ?_
  refine T_cast F P hL ha rfl (by decide) (by decide) vc101 zX12_init_167 (fun H locs P => ?_)
  refine lv_dup F.1 F.2.1 zX12_init_168 rfl ?_
  refine lv_bipush F.1 F.2.1 zX12_init_169 kb20 ?_
  refine lv_bipush F.1 F.2.1 zX12_init_171 kb114 ?_
  refine T_cast F P hL ha rfl (by decide) (by decide) vc114 zX12_init_173 (fun H locs P => ?_)
  refine lv_dup F.1 F.2.1 zX12_init_174 rfl ?_
  refine lv_bipush F.1 F.2.1 zX12_init_175 kb21 ?_
  refine lv_bipush F.1 F.2.1 zX12_init_177 kb32 ?_
  refine T_cast F P hL ha rfl (by decide) (by decide) vc32 zX12_init_179 (fun H locs P => ?_)
  refine lv_dup F.1 F.2.1 zX12_init_180 rfl ?_
  refine lv_bipush F.1 F.2.1 zX12_init_181 kb22 ?_
  refine lv_bipush F.1 F.2.1 zX12_init_183 kb32 ?_
  refine T_cast F P hL ha rfl (by decide) (by decide) vc32 zX12_init_185 (fun H locs P => ?_)
  refine lv_dup F.1 F.2.1 zX12_init_186 rfl ?_
  refine lv_bipush F.1 F.2.1 zX12_init_187 kb23 ?_
  refine lv_bipush F.1 F.2.1 zX12_init_189 kb32 ?_
  refine T_cast F P hL ha rfl (by decide) (by decide) vc32 zX12_init_191 (fun H locs P => ?_)
  refine lv_dup F.1 F.2.1 zX12_init_192 rfl ?_
  refine lv_bipush F.1 F.2.1 zX12_init_193 kb24 ?_
  refine lv_bipush F.1 F.2.1 zX12_init_195 kb119 ?_
  refine T_cast F P hL ha rfl (by decide) (by decide) vc119 zX12_init_197 (fun H locs P => ?_)
  refine lv_dup F.1 F.2.1 zX12_init_198 rfl ?_
  refine lv_bipush F.1 F.2.1 zX12_init_199 kb25 ?_
  refine lv_bipush F.1 F.2.1 zX12_init_201 kb105 ?_
  refine T_cast F P hL ha rfl (by decide) (by decide) vc105 zX12_init_203 (fun H locs P => ?_)
  refine lv_dup F.1 F.2.1 zX12_init_204 rfl ?_
  refine lv_bipush F.1 F.2.1 zX12_init_205 kb26 ?_
  refine lv_bipush F.1 F.2.1 zX12_init_207 kb100 ?_
  refine T_cast F P hL ha rfl (by decide) (by decide) vc100 zX12_init_209 (fun H locs P => ?_)
  refine lv_dup F.1 F.2.1 zX12_init_210 rfl ?_
  refine lv_bipush F.1 F.2.1 zX12_init_211 kb27 ?_
  refine lv_bipush F.1 F.2.1 zX12_init_213 kb111 ?_
  refine T_cast F P hL ha rfl (by decide) (by decide) vc111 zX12_init_215 (fun H locs P => ?_)
  refine lv_dup F.1 F.2.1 zX12_init_216 rfl ?_
  refine lv_bipush F.1 F.2.1 zX12_init_217 kb28 ?_
  refine lv_bipush F.1 F.2.1 zX12_init_219 kb119 ?_
  refine T_cast F P hL ha rfl (by decide) (by decide) vc119 zX12_init_221 (fun H locs P => ?_)
  refine lv_dup F.1 F.2.1 zX12_init_222 rfl ?_
  refine lv_bipush F.1 F.2.1 zX12_init_223 kb29 ?_
  refine lv_bipush F.1 F.2.1 zX12_init_225 kb32 ?_
  refine T_cast F P hL ha rfl (by decide) (by decide) vc32 zX12_init_227 (fun H locs P => ?_)
  refine lv_dup F.1 F.2.1 zX12_init_228 rfl ?_
  refine lv_bipush F.1 F.2.1 zX12_init_229 kb30 ?_
  refine lv_bipush F.1 F.2.1 zX12_init_231 kb32 ?_
  refine T_cast F P hL ha rfl (by decide) (by decide) vc32 zX12_init_233 (fun H locs P => ?_)
  refine lv_dup F.1 F.2.1 zX12_init_234 rfl ?_
  refine lv_bipush F.1 F.2.1 zX12_init_235 kb31 ?_
  refine lv_bipush F.1 F.2.1 zX12_init_237 kb32 ?_
  refine T_cast F P hL ha rfl (by decide) (by decide) vc32 zX12_init_239 (fun H locs P => ?_)
  exact kk H locs P
def sg3 (f : Nat → Int32) : Nat → Int32 := upd (upd (upd (upd (upd (upd (upd (upd (upd (upd (upd (upd (upd (upd (upd (upd (f) 32 (nI 108)) 33 (nI 97)) 34 (nI 100)) 35 (nI 32)) 36 (nI 32)) 37 (nI 32)) 38 (nI 32)) 39 (nI 32)) 40 (nI 100)) 41 (nI 111)) 42 (nI 103)) 43 (nI 32)) 44 (nI 32)) 45 (nI 32)) 46 (nI 32)) 47 (nI 32)
set_option maxHeartbeats 4000000 in
set_option maxRecDepth 100000 in
theorem klt3 {E : EE} {p : Program} {l : Launch} {e : Env} {R : Room} {s : State} {m : MethodId} {args : Array Value} {below : List Frame} {meth : Method} {c : Code} {H : Heap} {locs : List Loc} {cells slots : Nat} {Q : State → Prop} {ls : Array Slot} {rest : List Value} {cs N : List va_E} {X : va_E} {o L : Nat} {f : Nat → Int32} (F : Fx E mX12_init p s m meth c) (hL : cs.length = L) (ha : 5 < N.length) (P : PK E s (cs.set o X ++ N.set 5 (.inl (E.2.2.2.2 2, 144, .inl f))) H locs) (kk : ∀ (H : Heap) (locs : List Loc), PK E s (cs.set o X ++ N.set 5 (.inl (E.2.2.2.2 2, 144, .inl (sg3 f)))) H locs → W p l e R s m args below meth c H locs cells slots Q (F0 m 336 ls (.ref (eb E + (L + 5)) :: rest))) : W p l e R s m args below meth c H locs cells slots Q (F0 m 240 ls (.ref (eb E + (L + 5)) :: rest)) := by
  refine lv_dup F.1 F.2.1 zX12_init_240 rfl ?_
  refine lv_bipush F.1 F.2.1 zX12_init_241 kb32 ?_
  refine lv_bipush F.1 F.2.1 zX12_init_243 kb108 ?_
  refine T_cast F P hL ha rfl (by decide) (by decide) vc108 zX12_init_245 (fun H locs P => ?_)
  refine lv_dup F.1 F.2.1 zX12_init_246 rfl ?_
  refine lv_bipush F.1 F.2.1 zX12_init_247 kb33 ?_
  refine lv_bipush F.1 F.2.1 zX12_init_249 kb97 ?_
  refine T_cast F P hL ha rfl (by decide) (by decide) vc97 zX12_init_251 (fun H locs P => ?_)
  refine lv_dup F.1 F.2.1 zX12_init_252 rfl ?_
  refine lv_bipush F.1 F.2.1 zX12_init_253 kb34 ?_
  refine lv_bipush F.1 F.2.1 zX12_init_255 kb100 ?_
  refine T_cast F P hL ha rfl (by decide) (by decide) vc100 zX12_init_257 (fun H locs P => ?_)
  refine lv_dup F.1 F.2.1 zX12_init_258 rfl ?_
  refine lv_bipush F.1 F.2.1 zX12_init_259 kb35 ?_
  refine lv_bipush F.1 F.2.1 zX12_init_261 kb32 ?_
  refine T_cast F P hL ha rfl (by decide) (by decide) vc32 zX12_init_263 (fun H locs P => ?_)
  refine lv_dup F.1 F.2.1 zX12_init_264 rfl ?_
  refine lv_bipush F.1 F.2.1 zX12_init_265 kb36 ?_
  refine lv_bipush F.1 F.2.1 zX12_init_267 kb32 ?_
  refine T_cast F P hL ha rfl (by decide) (by decide) vc32 zX12_init_269 (fun H locs P => ?_)
  refine lv_dup F.1 F.2.1 zX12_init_270 rfl ?_
  refine lv_bipush F.1 F.2.1 zX12_init_271 kb37 ?_
  refine lv_bipush F.1 F.2.1 zX12_init_273 kb32 ?_
  refine T_cast F P hL ha rfl (by decide) (by decide) vc32 zX12_init_275 (fun H locs P => ?_)
  refine lv_dup F.1 F.2.1 zX12_init_276 rfl ?_
  refine lv_bipush F.1 F.2.1 zX12_init_277 kb38 ?_
  refine lv_bipush F.1 F.2.1 zX12_init_279 kb32 ?_
  refine T_cast F P hL ha rfl (by decide) (by decide) vc32 zX12_init_281 (fun H locs P => ?_)
  refine lv_dup F.1 F.2.1 zX12_init_282 rfl ?_
  refine lv_bipush F.1 F.2.1 zX12_init_283 kb39 ?_
  refine lv_bipush F.1 F.2.1 zX12_init_285 kb32 ?_
  refine T_cast F P hL ha rfl (by decide) (by decide) vc32 zX12_init_287 (fun H locs P => ?_)
  refine lv_dup F.1 F.2.1 zX12_init_288 rfl ?_
  refine lv_bipush F.1 F.2.1 zX12_init_289 kb40 ?_
  refine lv_bipush F.1 F.2.1 zX12_init_291 kb100 ?_
  refine T_cast F P hL ha rfl (by decide) (by decide) vc100 zX12_init_293 (fun H locs P => ?_)
  refine lv_dup F.1 F.2.1 zX12_init_294 rfl ?_
  refine lv_bipush F.1 F.2.1 zX12_init_295 kb41 ?_
  refine lv_bipush F.1 F.2.1 zX12_init_297 kb111 ?_
  refine T_cast F P hL ha rfl (by decide) (by decide) vc111 zX12_init_299 (fun H locs P => ?_)
  refine lv_dup F.1 F.2.1 zX12_init_300 rfl ?_
  refine lv_bipush F.1 F.2.1 zX12_init_301 kb42 ?_
  refine lv_bipush F.1 F.2.1 zX12_init_303 kb103 ?_
  refine T_cast F P hL ha rfl (by decide) (by decide) vc103 zX12_init_305 (fun H locs P => ?_)
  refine lv_dup F.1 F.2.1 zX12_init_306 rfl ?_
  refine lv_bipush F.1 F.2.1 zX12_init_307 kb43 ?_
  refine lv_bipush F.1 F.2.1 zX12_init_309 kb32 ?_
  refine T_cast F P hL ha rfl (by decide) (by decide) vc32 zX12_init_311 (fun H locs P => ?_)
  refine lv_dup F.1 F.2.1 zX12_init_312 rfl ?_
  refine lv_bipush F.1 F.2.1 zX12_init_313 kb44 ?_
  refine lv_bipush F.1 F.2.1 zX12_init_315 kb32 ?_
  refine T_cast F P hL ha rfl (by decide) (by decide) vc32 zX12_init_317 (fun H locs P => ?_)
  refine lv_dup F.1 F.2.1 zX12_init_318 rfl ?_
  refine lv_bipush F.1 F.2.1 zX12_init_319 kb45 ?_
  refine lv_bipush F.1 F.2.1 zX12_init_321 kb32 ?_
  refine T_cast F P hL ha rfl (by decide) (by decide) vc32 zX12_init_323 (fun H locs P => ?_)
  refine lv_dup F.1 F.2.1 zX12_init_324 rfl ?_
  refine lv_bipush F.1 F.2.1 zX12_init_325 kb46 ?_
  refine lv_bipush F.1 F.2.1 zX12_init_327 kb32 ?_
  refine T_cast F P hL ha rfl (by decide) (by decide) vc32 zX12_init_329 (fun H locs P => ?_)
  refine lv_dup F.1 F.2.1 zX12_init_330 rfl ?_
  refine lv_bipush F.1 F.2.1 zX12_init_331 kb47 ?_
  refine lv_bipush F.1 F.2.1 zX12_init_333 kb32 ?_
  refine T_cast F P hL ha rfl (by decide) (by decide) vc32 zX12_init_335 (fun H locs P => ?_)
  exact kk H locs P
def sg4 (f : Nat → Int32) : Nat → Int32 := upd (upd (upd (upd (upd (upd (upd (upd (upd (upd (upd (upd (upd (upd (upd (upd (f) 48 (nI 108)) 49 (nI 111)) 50 (nI 111)) 51 (nI 107)) 52 (nI 32)) 53 (nI 32)) 54 (nI 32)) 55 (nI 32)) 56 (nI 112)) 57 (nI 97)) 58 (nI 115)) 59 (nI 115)) 60 (nI 32)) 61 (nI 32)) 62 (nI 32)) 63 (nI 32)
set_option maxHeartbeats 4000000 in
set_option maxRecDepth 100000 in
theorem klt4 {E : EE} {p : Program} {l : Launch} {e : Env} {R : Room} {s : State} {m : MethodId} {args : Array Value} {below : List Frame} {meth : Method} {c : Code} {H : Heap} {locs : List Loc} {cells slots : Nat} {Q : State → Prop} {ls : Array Slot} {rest : List Value} {cs N : List va_E} {X : va_E} {o L : Nat} {f : Nat → Int32} (F : Fx E mX12_init p s m meth c) (hL : cs.length = L) (ha : 5 < N.length) (P : PK E s (cs.set o X ++ N.set 5 (.inl (E.2.2.2.2 2, 144, .inl f))) H locs) (kk : ∀ (H : Heap) (locs : List Loc), PK E s (cs.set o X ++ N.set 5 (.inl (E.2.2.2.2 2, 144, .inl (sg4 f)))) H locs → W p l e R s m args below meth c H locs cells slots Q (F0 m 432 ls (.ref (eb E + (L + 5)) :: rest))) : W p l e R s m args below meth c H locs cells slots Q (F0 m 336 ls (.ref (eb E + (L + 5)) :: rest)) := by
  refine lv_dup F.1 F.2.1 zX12_init_336 rfl ?_
  refine lv_bipush F.1 F.2.1 zX12_init_337 kb48 ?_
  refine lv_bipush F.1 F.2.1 zX12_init_339 kb108 ?_
  refine T_cast F P hL ha rfl (by decide) (by decide) vc108 zX12_init_341 (fun H locs P => ?_)
  refine lv_dup F.1 F.2.1 zX12_init_342 rfl ?_
  refine lv_bipush F.1 F.2.1 zX12_init_343 kb49 ?_
  refine lv_bipush F.1 F.2.1 zX12_init_345 kb111 ?_
  refine T_cast F P hL ha rfl (by decide) (by decide) vc111 zX12_init_347 (fun H locs P => ?_)
  refine lv_dup F.1 F.2.1 zX12_init_348 rfl ?_
  refine lv_bipush F.1 F.2.1 zX12_init_349 kb50 ?_
  refine lv_bipush F.1 F.2.1 zX12_init_351 kb111 ?_
  refine T_cast F P hL ha rfl (by decide) (by decide) vc111 zX12_init_353 (fun H locs P => ?_)
  refine lv_dup F.1 F.2.1 zX12_init_354 rfl ?_
  refine lv_bipush F.1 F.2.1 zX12_init_355 kb51 ?_
  refine lv_bipush F.1 F.2.1 zX12_init_357 kb107 ?_
  refine T_cast F P hL ha rfl (by decide) (by decide) vc107 zX12_init_359 (fun H locs P => ?_)
  refine lv_dup F.1 F.2.1 zX12_init_360 rfl ?_
  refine lv_bipush F.1 F.2.1 zX12_init_361 kb52 ?_
  refine lv_bipush F.1 F.2.1 zX12_init_363 kb32 ?_
  refine T_cast F P hL ha rfl (by decide) (by decide) vc32 zX12_init_365 (fun H locs P => ?_)
  refine lv_dup F.1 F.2.1 zX12_init_366 rfl ?_
  refine lv_bipush F.1 F.2.1 zX12_init_367 kb53 ?_
  refine lv_bipush F.1 F.2.1 zX12_init_369 kb32 ?_
  refine T_cast F P hL ha rfl (by decide) (by decide) vc32 zX12_init_371 (fun H locs P => ?_)
  refine lv_dup F.1 F.2.1 zX12_init_372 rfl ?_
  refine lv_bipush F.1 F.2.1 zX12_init_373 kb54 ?_
  refine lv_bipush F.1 F.2.1 zX12_init_375 kb32 ?_
  refine T_cast F P hL ha rfl (by decide) (by decide) vc32 zX12_init_377 (fun H locs P => ?_)
  refine lv_dup F.1 F.2.1 zX12_init_378 rfl ?_
  refine lv_bipush F.1 F.2.1 zX12_init_379 kb55 ?_
  refine lv_bipush F.1 F.2.1 zX12_init_381 kb32 ?_
  refine T_cast F P hL ha rfl (by decide) (by decide) vc32 zX12_init_383 (fun H locs P => ?_)
  refine lv_dup F.1 F.2.1 zX12_init_384 rfl ?_
  refine lv_bipush F.1 F.2.1 zX12_init_385 kb56 ?_
  refine lv_bipush F.1 F.2.1 zX12_init_387 kb112 ?_
  refine T_cast F P hL ha rfl (by decide) (by decide) vc112 zX12_init_389 (fun H locs P => ?_)
  refine lv_dup F.1 F.2.1 zX12_init_390 rfl ?_
  refine lv_bipush F.1 F.2.1 zX12_init_391 kb57 ?_
  refine lv_bipush F.1 F.2.1 zX12_init_393 kb97 ?_
  refine T_cast F P hL ha rfl (by decide) (by decide) vc97 zX12_init_395 (fun H locs P => ?_)
  refine lv_dup F.1 F.2.1 zX12_init_396 rfl ?_
  refine lv_bipush F.1 F.2.1 zX12_init_397 kb58 ?_
  refine lv_bipush F.1 F.2.1 zX12_init_399 kb115 ?_
  refine T_cast F P hL ha rfl (by decide) (by decide) vc115 zX12_init_401 (fun H locs P => ?_)
  refine lv_dup F.1 F.2.1 zX12_init_402 rfl ?_
  refine lv_bipush F.1 F.2.1 zX12_init_403 kb59 ?_
  refine lv_bipush F.1 F.2.1 zX12_init_405 kb115 ?_
  refine T_cast F P hL ha rfl (by decide) (by decide) vc115 zX12_init_407 (fun H locs P => ?_)
  refine lv_dup F.1 F.2.1 zX12_init_408 rfl ?_
  refine lv_bipush F.1 F.2.1 zX12_init_409 kb60 ?_
  refine lv_bipush F.1 F.2.1 zX12_init_411 kb32 ?_
  refine T_cast F P hL ha rfl (by decide) (by decide) vc32 zX12_init_413 (fun H locs P => ?_)
  refine lv_dup F.1 F.2.1 zX12_init_414 rfl ?_
  refine lv_bipush F.1 F.2.1 zX12_init_415 kb61 ?_
  refine lv_bipush F.1 F.2.1 zX12_init_417 kb32 ?_
  refine T_cast F P hL ha rfl (by decide) (by decide) vc32 zX12_init_419 (fun H locs P => ?_)
  refine lv_dup F.1 F.2.1 zX12_init_420 rfl ?_
  refine lv_bipush F.1 F.2.1 zX12_init_421 kb62 ?_
  refine lv_bipush F.1 F.2.1 zX12_init_423 kb32 ?_
  refine T_cast F P hL ha rfl (by decide) (by decide) vc32 zX12_init_425 (fun H locs P => ?_)
  refine lv_dup F.1 F.2.1 zX12_init_426 rfl ?_
  refine lv_bipush F.1 F.2.1 zX12_init_427 kb63 ?_
  refine lv_bipush F.1 F.2.1 zX12_init_429 kb32 ?_
  refine T_cast F P hL ha rfl (by decide) (by decide) vc32 zX12_init_431 (fun H locs P => ?_)
  exact kk H locs P
def sg5 (f : Nat → Int32) : Nat → Int32 := upd (upd (upd (upd (upd (upd (upd (upd (upd (upd (upd (upd (upd (upd (upd (upd (f) 64 (nI 114)) 65 (nI 97)) 66 (nI 103)) 67 (nI 32)) 68 (nI 32)) 69 (nI 32)) 70 (nI 32)) 71 (nI 32)) 72 (nI 105)) 73 (nI 102)) 74 (nI 32)) 75 (nI 32)) 76 (nI 32)) 77 (nI 32)) 78 (nI 32)) 79 (nI 32)
set_option maxHeartbeats 4000000 in
set_option maxRecDepth 100000 in
theorem klt5 {E : EE} {p : Program} {l : Launch} {e : Env} {R : Room} {s : State} {m : MethodId} {args : Array Value} {below : List Frame} {meth : Method} {c : Code} {H : Heap} {locs : List Loc} {cells slots : Nat} {Q : State → Prop} {ls : Array Slot} {rest : List Value} {cs N : List va_E} {X : va_E} {o L : Nat} {f : Nat → Int32} (F : Fx E mX12_init p s m meth c) (hL : cs.length = L) (ha : 5 < N.length) (P : PK E s (cs.set o X ++ N.set 5 (.inl (E.2.2.2.2 2, 144, .inl f))) H locs) (kk : ∀ (H : Heap) (locs : List Loc), PK E s (cs.set o X ++ N.set 5 (.inl (E.2.2.2.2 2, 144, .inl (sg5 f)))) H locs → W p l e R s m args below meth c H locs cells slots Q (F0 m 528 ls (.ref (eb E + (L + 5)) :: rest))) : W p l e R s m args below meth c H locs cells slots Q (F0 m 432 ls (.ref (eb E + (L + 5)) :: rest)) := by
  refine lv_dup F.1 F.2.1 zX12_init_432 rfl ?_
  refine lv_bipush F.1 F.2.1 zX12_init_433 kb64 ?_
  refine lv_bipush F.1 F.2.1 zX12_init_435 kb114 ?_
  refine T_cast F P hL ha rfl (by decide) (by decide) vc114 zX12_init_437 (fun H locs P => ?_)
  refine lv_dup F.1 F.2.1 zX12_init_438 rfl ?_
  refine lv_bipush F.1 F.2.1 zX12_init_439 kb65 ?_
  refine lv_bipush F.1 F.2.1 zX12_init_441 kb97 ?_
  refine T_cast F P hL ha rfl (by decide) (by decide) vc97 zX12_init_443 (fun H locs P => ?_)
  refine lv_dup F.1 F.2.1 zX12_init_444 rfl ?_
  refine lv_bipush F.1 F.2.1 zX12_init_445 kb66 ?_
  refine lv_bipush F.1 F.2.1 zX12_init_447 kb103 ?_
  refine T_cast F P hL ha rfl (by decide) (by decide) vc103 zX12_init_449 (fun H locs P => ?_)
  refine lv_dup F.1 F.2.1 zX12_init_450 rfl ?_
  refine lv_bipush F.1 F.2.1 zX12_init_451 kb67 ?_
  refine lv_bipush F.1 F.2.1 zX12_init_453 kb32 ?_
  refine T_cast F P hL ha rfl (by decide) (by decide) vc32 zX12_init_455 (fun H locs P => ?_)
  refine lv_dup F.1 F.2.1 zX12_init_456 rfl ?_
  refine lv_bipush F.1 F.2.1 zX12_init_457 kb68 ?_
  refine lv_bipush F.1 F.2.1 zX12_init_459 kb32 ?_
  refine T_cast F P hL ha rfl (by decide) (by decide) vc32 zX12_init_461 (fun H locs P => ?_)
  refine lv_dup F.1 F.2.1 zX12_init_462 rfl ?_
  refine lv_bipush F.1 F.2.1 zX12_init_463 kb69 ?_
  refine lv_bipush F.1 F.2.1 zX12_init_465 kb32 ?_
  refine T_cast F P hL ha rfl (by decide) (by decide) vc32 zX12_init_467 (fun H locs P => ?_)
  refine lv_dup F.1 F.2.1 zX12_init_468 rfl ?_
  refine lv_bipush F.1 F.2.1 zX12_init_469 kb70 ?_
  refine lv_bipush F.1 F.2.1 zX12_init_471 kb32 ?_
  refine T_cast F P hL ha rfl (by decide) (by decide) vc32 zX12_init_473 (fun H locs P => ?_)
  refine lv_dup F.1 F.2.1 zX12_init_474 rfl ?_
  refine lv_bipush F.1 F.2.1 zX12_init_475 kb71 ?_
  refine lv_bipush F.1 F.2.1 zX12_init_477 kb32 ?_
  refine T_cast F P hL ha rfl (by decide) (by decide) vc32 zX12_init_479 (fun H locs P => ?_)
  refine lv_dup F.1 F.2.1 zX12_init_480 rfl ?_
  refine lv_bipush F.1 F.2.1 zX12_init_481 kb72 ?_
  refine lv_bipush F.1 F.2.1 zX12_init_483 kb105 ?_
  refine T_cast F P hL ha rfl (by decide) (by decide) vc105 zX12_init_485 (fun H locs P => ?_)
  refine lv_dup F.1 F.2.1 zX12_init_486 rfl ?_
  refine lv_bipush F.1 F.2.1 zX12_init_487 kb73 ?_
  refine lv_bipush F.1 F.2.1 zX12_init_489 kb102 ?_
  refine T_cast F P hL ha rfl (by decide) (by decide) vc102 zX12_init_491 (fun H locs P => ?_)
  refine lv_dup F.1 F.2.1 zX12_init_492 rfl ?_
  refine lv_bipush F.1 F.2.1 zX12_init_493 kb74 ?_
  refine lv_bipush F.1 F.2.1 zX12_init_495 kb32 ?_
  refine T_cast F P hL ha rfl (by decide) (by decide) vc32 zX12_init_497 (fun H locs P => ?_)
  refine lv_dup F.1 F.2.1 zX12_init_498 rfl ?_
  refine lv_bipush F.1 F.2.1 zX12_init_499 kb75 ?_
  refine lv_bipush F.1 F.2.1 zX12_init_501 kb32 ?_
  refine T_cast F P hL ha rfl (by decide) (by decide) vc32 zX12_init_503 (fun H locs P => ?_)
  refine lv_dup F.1 F.2.1 zX12_init_504 rfl ?_
  refine lv_bipush F.1 F.2.1 zX12_init_505 kb76 ?_
  refine lv_bipush F.1 F.2.1 zX12_init_507 kb32 ?_
  refine T_cast F P hL ha rfl (by decide) (by decide) vc32 zX12_init_509 (fun H locs P => ?_)
  refine lv_dup F.1 F.2.1 zX12_init_510 rfl ?_
  refine lv_bipush F.1 F.2.1 zX12_init_511 kb77 ?_
  refine lv_bipush F.1 F.2.1 zX12_init_513 kb32 ?_
  refine T_cast F P hL ha rfl (by decide) (by decide) vc32 zX12_init_515 (fun H locs P => ?_)
  refine lv_dup F.1 F.2.1 zX12_init_516 rfl ?_
  refine lv_bipush F.1 F.2.1 zX12_init_517 kb78 ?_
  refine lv_bipush F.1 F.2.1 zX12_init_519 kb32 ?_
  refine T_cast F P hL ha rfl (by decide) (by decide) vc32 zX12_init_521 (fun H locs P => ?_)
  refine lv_dup F.1 F.2.1 zX12_init_522 rfl ?_
  refine lv_bipush F.1 F.2.1 zX12_init_523 kb79 ?_
  refine lv_bipush F.1 F.2.1 zX12_init_525 kb32 ?_
  refine T_cast F P hL ha rfl (by decide) (by decide) vc32 zX12_init_527 (fun H locs P => ?_)
  exact kk H locs P
def sg6 (f : Nat → Int32) : Nat → Int32 := upd (upd (upd (upd (upd (upd (upd (upd (upd (upd (upd (upd (upd (upd (upd (upd (f) 80 (nI 110)) 81 (nI 111)) 82 (nI 116)) 83 (nI 32)) 84 (nI 32)) 85 (nI 32)) 86 (nI 32)) 87 (nI 32)) 88 (nI 97)) 89 (nI 110)) 90 (nI 100)) 91 (nI 32)) 92 (nI 32)) 93 (nI 32)) 94 (nI 32)) 95 (nI 32)
set_option maxHeartbeats 4000000 in
set_option maxRecDepth 100000 in
theorem klt6 {E : EE} {p : Program} {l : Launch} {e : Env} {R : Room} {s : State} {m : MethodId} {args : Array Value} {below : List Frame} {meth : Method} {c : Code} {H : Heap} {locs : List Loc} {cells slots : Nat} {Q : State → Prop} {ls : Array Slot} {rest : List Value} {cs N : List va_E} {X : va_E} {o L : Nat} {f : Nat → Int32} (F : Fx E mX12_init p s m meth c) (hL : cs.length = L) (ha : 5 < N.length) (P : PK E s (cs.set o X ++ N.set 5 (.inl (E.2.2.2.2 2, 144, .inl f))) H locs) (kk : ∀ (H : Heap) (locs : List Loc), PK E s (cs.set o X ++ N.set 5 (.inl (E.2.2.2.2 2, 144, .inl (sg6 f)))) H locs → W p l e R s m args below meth c H locs cells slots Q (F0 m 624 ls (.ref (eb E + (L + 5)) :: rest))) : W p l e R s m args below meth c H locs cells slots Q (F0 m 528 ls (.ref (eb E + (L + 5)) :: rest)) := by
  refine lv_dup F.1 F.2.1 zX12_init_528 rfl ?_
  refine lv_bipush F.1 F.2.1 zX12_init_529 kb80 ?_
  refine lv_bipush F.1 F.2.1 zX12_init_531 kb110 ?_
  refine T_cast F P hL ha rfl (by decide) (by decide) vc110 zX12_init_533 (fun H locs P => ?_)
  refine lv_dup F.1 F.2.1 zX12_init_534 rfl ?_
  refine lv_bipush F.1 F.2.1 zX12_init_535 kb81 ?_
  refine lv_bipush F.1 F.2.1 zX12_init_537 kb111 ?_
  refine T_cast F P hL ha rfl (by decide) (by decide) vc111 zX12_init_539 (fun H locs P => ?_)
  refine lv_dup F.1 F.2.1 zX12_init_540 rfl ?_
  refine lv_bipush F.1 F.2.1 zX12_init_541 kb82 ?_
  refine lv_bipush F.1 F.2.1 zX12_init_543 kb116 ?_
  refine T_cast F P hL ha rfl (by decide) (by decide) vc116 zX12_init_545 (fun H locs P => ?_)
  refine lv_dup F.1 F.2.1 zX12_init_546 rfl ?_
  refine lv_bipush F.1 F.2.1 zX12_init_547 kb83 ?_
  refine lv_bipush F.1 F.2.1 zX12_init_549 kb32 ?_
  refine T_cast F P hL ha rfl (by decide) (by decide) vc32 zX12_init_551 (fun H locs P => ?_)
  refine lv_dup F.1 F.2.1 zX12_init_552 rfl ?_
  refine lv_bipush F.1 F.2.1 zX12_init_553 kb84 ?_
  refine lv_bipush F.1 F.2.1 zX12_init_555 kb32 ?_
  refine T_cast F P hL ha rfl (by decide) (by decide) vc32 zX12_init_557 (fun H locs P => ?_)
  refine lv_dup F.1 F.2.1 zX12_init_558 rfl ?_
  refine lv_bipush F.1 F.2.1 zX12_init_559 kb85 ?_
  refine lv_bipush F.1 F.2.1 zX12_init_561 kb32 ?_
  refine T_cast F P hL ha rfl (by decide) (by decide) vc32 zX12_init_563 (fun H locs P => ?_)
  refine lv_dup F.1 F.2.1 zX12_init_564 rfl ?_
  refine lv_bipush F.1 F.2.1 zX12_init_565 kb86 ?_
  refine lv_bipush F.1 F.2.1 zX12_init_567 kb32 ?_
  refine T_cast F P hL ha rfl (by decide) (by decide) vc32 zX12_init_569 (fun H locs P => ?_)
  refine lv_dup F.1 F.2.1 zX12_init_570 rfl ?_
  refine lv_bipush F.1 F.2.1 zX12_init_571 kb87 ?_
  refine lv_bipush F.1 F.2.1 zX12_init_573 kb32 ?_
  refine T_cast F P hL ha rfl (by decide) (by decide) vc32 zX12_init_575 (fun H locs P => ?_)
  refine lv_dup F.1 F.2.1 zX12_init_576 rfl ?_
  refine lv_bipush F.1 F.2.1 zX12_init_577 kb88 ?_
  refine lv_bipush F.1 F.2.1 zX12_init_579 kb97 ?_
  refine T_cast F P hL ha rfl (by decide) (by decide) vc97 zX12_init_581 (fun H locs P => ?_)
  refine lv_dup F.1 F.2.1 zX12_init_582 rfl ?_
  refine lv_bipush F.1 F.2.1 zX12_init_583 kb89 ?_
  refine lv_bipush F.1 F.2.1 zX12_init_585 kb110 ?_
  refine T_cast F P hL ha rfl (by decide) (by decide) vc110 zX12_init_587 (fun H locs P => ?_)
  refine lv_dup F.1 F.2.1 zX12_init_588 rfl ?_
  refine lv_bipush F.1 F.2.1 zX12_init_589 kb90 ?_
  refine lv_bipush F.1 F.2.1 zX12_init_591 kb100 ?_
  refine T_cast F P hL ha rfl (by decide) (by decide) vc100 zX12_init_593 (fun H locs P => ?_)
  refine lv_dup F.1 F.2.1 zX12_init_594 rfl ?_
  refine lv_bipush F.1 F.2.1 zX12_init_595 kb91 ?_
  refine lv_bipush F.1 F.2.1 zX12_init_597 kb32 ?_
  refine T_cast F P hL ha rfl (by decide) (by decide) vc32 zX12_init_599 (fun H locs P => ?_)
  refine lv_dup F.1 F.2.1 zX12_init_600 rfl ?_
  refine lv_bipush F.1 F.2.1 zX12_init_601 kb92 ?_
  refine lv_bipush F.1 F.2.1 zX12_init_603 kb32 ?_
  refine T_cast F P hL ha rfl (by decide) (by decide) vc32 zX12_init_605 (fun H locs P => ?_)
  refine lv_dup F.1 F.2.1 zX12_init_606 rfl ?_
  refine lv_bipush F.1 F.2.1 zX12_init_607 kb93 ?_
  refine lv_bipush F.1 F.2.1 zX12_init_609 kb32 ?_
  refine T_cast F P hL ha rfl (by decide) (by decide) vc32 zX12_init_611 (fun H locs P => ?_)
  refine lv_dup F.1 F.2.1 zX12_init_612 rfl ?_
  refine lv_bipush F.1 F.2.1 zX12_init_613 kb94 ?_
  refine lv_bipush F.1 F.2.1 zX12_init_615 kb32 ?_
  refine T_cast F P hL ha rfl (by decide) (by decide) vc32 zX12_init_617 (fun H locs P => ?_)
  refine lv_dup F.1 F.2.1 zX12_init_618 rfl ?_
  refine lv_bipush F.1 F.2.1 zX12_init_619 kb95 ?_
  refine lv_bipush F.1 F.2.1 zX12_init_621 kb32 ?_
  refine T_cast F P hL ha rfl (by decide) (by decide) vc32 zX12_init_623 (fun H locs P => ?_)
  exact kk H locs P
def sg7 (f : Nat → Int32) : Nat → Int32 := upd (upd (upd (upd (upd (upd (upd (upd (upd (upd (upd (upd (upd (upd (upd (upd (f) 96 (nI 111)) 97 (nI 114)) 98 (nI 32)) 99 (nI 32)) 100 (nI 32)) 101 (nI 32)) 102 (nI 32)) 103 (nI 32)) 104 (nI 109)) 105 (nI 105)) 106 (nI 110)) 107 (nI 117)) 108 (nI 116)) 109 (nI 101)) 110 (nI 32)) 111 (nI 32)
set_option maxHeartbeats 4000000 in
set_option maxRecDepth 100000 in
theorem klt7 {E : EE} {p : Program} {l : Launch} {e : Env} {R : Room} {s : State} {m : MethodId} {args : Array Value} {below : List Frame} {meth : Method} {c : Code} {H : Heap} {locs : List Loc} {cells slots : Nat} {Q : State → Prop} {ls : Array Slot} {rest : List Value} {cs N : List va_E} {X : va_E} {o L : Nat} {f : Nat → Int32} (F : Fx E mX12_init p s m meth c) (hL : cs.length = L) (ha : 5 < N.length) (P : PK E s (cs.set o X ++ N.set 5 (.inl (E.2.2.2.2 2, 144, .inl f))) H locs) (kk : ∀ (H : Heap) (locs : List Loc), PK E s (cs.set o X ++ N.set 5 (.inl (E.2.2.2.2 2, 144, .inl (sg7 f)))) H locs → W p l e R s m args below meth c H locs cells slots Q (F0 m 720 ls (.ref (eb E + (L + 5)) :: rest))) : W p l e R s m args below meth c H locs cells slots Q (F0 m 624 ls (.ref (eb E + (L + 5)) :: rest)) := by
  refine lv_dup F.1 F.2.1 zX12_init_624 rfl ?_
  refine lv_bipush F.1 F.2.1 zX12_init_625 kb96 ?_
  refine lv_bipush F.1 F.2.1 zX12_init_627 kb111 ?_
  refine T_cast F P hL ha rfl (by decide) (by decide) vc111 zX12_init_629 (fun H locs P => ?_)
  refine lv_dup F.1 F.2.1 zX12_init_630 rfl ?_
  refine lv_bipush F.1 F.2.1 zX12_init_631 kb97 ?_
  refine lv_bipush F.1 F.2.1 zX12_init_633 kb114 ?_
  refine T_cast F P hL ha rfl (by decide) (by decide) vc114 zX12_init_635 (fun H locs P => ?_)
  refine lv_dup F.1 F.2.1 zX12_init_636 rfl ?_
  refine lv_bipush F.1 F.2.1 zX12_init_637 kb98 ?_
  refine lv_bipush F.1 F.2.1 zX12_init_639 kb32 ?_
  refine T_cast F P hL ha rfl (by decide) (by decide) vc32 zX12_init_641 (fun H locs P => ?_)
  refine lv_dup F.1 F.2.1 zX12_init_642 rfl ?_
  refine lv_bipush F.1 F.2.1 zX12_init_643 kb99 ?_
  refine lv_bipush F.1 F.2.1 zX12_init_645 kb32 ?_
  refine T_cast F P hL ha rfl (by decide) (by decide) vc32 zX12_init_647 (fun H locs P => ?_)
  refine lv_dup F.1 F.2.1 zX12_init_648 rfl ?_
  refine lv_bipush F.1 F.2.1 zX12_init_649 kb100 ?_
  refine lv_bipush F.1 F.2.1 zX12_init_651 kb32 ?_
  refine T_cast F P hL ha rfl (by decide) (by decide) vc32 zX12_init_653 (fun H locs P => ?_)
  refine lv_dup F.1 F.2.1 zX12_init_654 rfl ?_
  refine lv_bipush F.1 F.2.1 zX12_init_655 kb101 ?_
  refine lv_bipush F.1 F.2.1 zX12_init_657 kb32 ?_
  refine T_cast F P hL ha rfl (by decide) (by decide) vc32 zX12_init_659 (fun H locs P => ?_)
  refine lv_dup F.1 F.2.1 zX12_init_660 rfl ?_
  refine lv_bipush F.1 F.2.1 zX12_init_661 kb102 ?_
  refine lv_bipush F.1 F.2.1 zX12_init_663 kb32 ?_
  refine T_cast F P hL ha rfl (by decide) (by decide) vc32 zX12_init_665 (fun H locs P => ?_)
  refine lv_dup F.1 F.2.1 zX12_init_666 rfl ?_
  refine lv_bipush F.1 F.2.1 zX12_init_667 kb103 ?_
  refine lv_bipush F.1 F.2.1 zX12_init_669 kb32 ?_
  refine T_cast F P hL ha rfl (by decide) (by decide) vc32 zX12_init_671 (fun H locs P => ?_)
  refine lv_dup F.1 F.2.1 zX12_init_672 rfl ?_
  refine lv_bipush F.1 F.2.1 zX12_init_673 kb104 ?_
  refine lv_bipush F.1 F.2.1 zX12_init_675 kb109 ?_
  refine T_cast F P hL ha rfl (by decide) (by decide) vc109 zX12_init_677 (fun H locs P => ?_)
  refine lv_dup F.1 F.2.1 zX12_init_678 rfl ?_
  refine lv_bipush F.1 F.2.1 zX12_init_679 kb105 ?_
  refine lv_bipush F.1 F.2.1 zX12_init_681 kb105 ?_
  refine T_cast F P hL ha rfl (by decide) (by decide) vc105 zX12_init_683 (fun H locs P => ?_)
  refine lv_dup F.1 F.2.1 zX12_init_684 rfl ?_
  refine lv_bipush F.1 F.2.1 zX12_init_685 kb106 ?_
  refine lv_bipush F.1 F.2.1 zX12_init_687 kb110 ?_
  refine T_cast F P hL ha rfl (by decide) (by decide) vc110 zX12_init_689 (fun H locs P => ?_)
  refine lv_dup F.1 F.2.1 zX12_init_690 rfl ?_
  refine lv_bipush F.1 F.2.1 zX12_init_691 kb107 ?_
  refine lv_bipush F.1 F.2.1 zX12_init_693 kb117 ?_
  refine T_cast F P hL ha rfl (by decide) (by decide) vc117 zX12_init_695 (fun H locs P => ?_)
  refine lv_dup F.1 F.2.1 zX12_init_696 rfl ?_
  refine lv_bipush F.1 F.2.1 zX12_init_697 kb108 ?_
  refine lv_bipush F.1 F.2.1 zX12_init_699 kb116 ?_
  refine T_cast F P hL ha rfl (by decide) (by decide) vc116 zX12_init_701 (fun H locs P => ?_)
  refine lv_dup F.1 F.2.1 zX12_init_702 rfl ?_
  refine lv_bipush F.1 F.2.1 zX12_init_703 kb109 ?_
  refine lv_bipush F.1 F.2.1 zX12_init_705 kb101 ?_
  refine T_cast F P hL ha rfl (by decide) (by decide) vc101 zX12_init_707 (fun H locs P => ?_)
  refine lv_dup F.1 F.2.1 zX12_init_708 rfl ?_
  refine lv_bipush F.1 F.2.1 zX12_init_709 kb110 ?_
  refine lv_bipush F.1 F.2.1 zX12_init_711 kb32 ?_
  refine T_cast F P hL ha rfl (by decide) (by decide) vc32 zX12_init_713 (fun H locs P => ?_)
  refine lv_dup F.1 F.2.1 zX12_init_714 rfl ?_
  refine lv_bipush F.1 F.2.1 zX12_init_715 kb111 ?_
  refine lv_bipush F.1 F.2.1 zX12_init_717 kb32 ?_
  refine T_cast F P hL ha rfl (by decide) (by decide) vc32 zX12_init_719 (fun H locs P => ?_)
  exact kk H locs P
def sg8 (f : Nat → Int32) : Nat → Int32 := upd (upd (upd (upd (upd (upd (upd (upd (upd (upd (upd (upd (upd (upd (upd (upd (f) 112 (nI 108)) 113 (nI 105)) 114 (nI 103)) 115 (nI 104)) 116 (nI 116)) 117 (nI 115)) 118 (nI 32)) 119 (nI 32)) 120 (nI 108)) 121 (nI 111)) 122 (nI 111)) 123 (nI 107)) 124 (nI 101)) 125 (nI 100)) 126 (nI 32)) 127 (nI 32)
set_option maxHeartbeats 4000000 in
set_option maxRecDepth 100000 in
theorem klt8 {E : EE} {p : Program} {l : Launch} {e : Env} {R : Room} {s : State} {m : MethodId} {args : Array Value} {below : List Frame} {meth : Method} {c : Code} {H : Heap} {locs : List Loc} {cells slots : Nat} {Q : State → Prop} {ls : Array Slot} {rest : List Value} {cs N : List va_E} {X : va_E} {o L : Nat} {f : Nat → Int32} (F : Fx E mX12_init p s m meth c) (hL : cs.length = L) (ha : 5 < N.length) (P : PK E s (cs.set o X ++ N.set 5 (.inl (E.2.2.2.2 2, 144, .inl f))) H locs) (kk : ∀ (H : Heap) (locs : List Loc), PK E s (cs.set o X ++ N.set 5 (.inl (E.2.2.2.2 2, 144, .inl (sg8 f)))) H locs → W p l e R s m args below meth c H locs cells slots Q (F0 m 816 ls (.ref (eb E + (L + 5)) :: rest))) : W p l e R s m args below meth c H locs cells slots Q (F0 m 720 ls (.ref (eb E + (L + 5)) :: rest)) := by
  refine lv_dup F.1 F.2.1 zX12_init_720 rfl ?_
  refine lv_bipush F.1 F.2.1 zX12_init_721 kb112 ?_
  refine lv_bipush F.1 F.2.1 zX12_init_723 kb108 ?_
  refine T_cast F P hL ha rfl (by decide) (by decide) vc108 zX12_init_725 (fun H locs P => ?_)
  refine lv_dup F.1 F.2.1 zX12_init_726 rfl ?_
  refine lv_bipush F.1 F.2.1 zX12_init_727 kb113 ?_
  refine lv_bipush F.1 F.2.1 zX12_init_729 kb105 ?_
  refine T_cast F P hL ha rfl (by decide) (by decide) vc105 zX12_init_731 (fun H locs P => ?_)
  refine lv_dup F.1 F.2.1 zX12_init_732 rfl ?_
  refine lv_bipush F.1 F.2.1 zX12_init_733 kb114 ?_
  refine lv_bipush F.1 F.2.1 zX12_init_735 kb103 ?_
  refine T_cast F P hL ha rfl (by decide) (by decide) vc103 zX12_init_737 (fun H locs P => ?_)
  refine lv_dup F.1 F.2.1 zX12_init_738 rfl ?_
  refine lv_bipush F.1 F.2.1 zX12_init_739 kb115 ?_
  refine lv_bipush F.1 F.2.1 zX12_init_741 kb104 ?_
  refine T_cast F P hL ha rfl (by decide) (by decide) vc104 zX12_init_743 (fun H locs P => ?_)
  refine lv_dup F.1 F.2.1 zX12_init_744 rfl ?_
  refine lv_bipush F.1 F.2.1 zX12_init_745 kb116 ?_
  refine lv_bipush F.1 F.2.1 zX12_init_747 kb116 ?_
  refine T_cast F P hL ha rfl (by decide) (by decide) vc116 zX12_init_749 (fun H locs P => ?_)
  refine lv_dup F.1 F.2.1 zX12_init_750 rfl ?_
  refine lv_bipush F.1 F.2.1 zX12_init_751 kb117 ?_
  refine lv_bipush F.1 F.2.1 zX12_init_753 kb115 ?_
  refine T_cast F P hL ha rfl (by decide) (by decide) vc115 zX12_init_755 (fun H locs P => ?_)
  refine lv_dup F.1 F.2.1 zX12_init_756 rfl ?_
  refine lv_bipush F.1 F.2.1 zX12_init_757 kb118 ?_
  refine lv_bipush F.1 F.2.1 zX12_init_759 kb32 ?_
  refine T_cast F P hL ha rfl (by decide) (by decide) vc32 zX12_init_761 (fun H locs P => ?_)
  refine lv_dup F.1 F.2.1 zX12_init_762 rfl ?_
  refine lv_bipush F.1 F.2.1 zX12_init_763 kb119 ?_
  refine lv_bipush F.1 F.2.1 zX12_init_765 kb32 ?_
  refine T_cast F P hL ha rfl (by decide) (by decide) vc32 zX12_init_767 (fun H locs P => ?_)
  refine lv_dup F.1 F.2.1 zX12_init_768 rfl ?_
  refine lv_bipush F.1 F.2.1 zX12_init_769 kb120 ?_
  refine lv_bipush F.1 F.2.1 zX12_init_771 kb108 ?_
  refine T_cast F P hL ha rfl (by decide) (by decide) vc108 zX12_init_773 (fun H locs P => ?_)
  refine lv_dup F.1 F.2.1 zX12_init_774 rfl ?_
  refine lv_bipush F.1 F.2.1 zX12_init_775 kb121 ?_
  refine lv_bipush F.1 F.2.1 zX12_init_777 kb111 ?_
  refine T_cast F P hL ha rfl (by decide) (by decide) vc111 zX12_init_779 (fun H locs P => ?_)
  refine lv_dup F.1 F.2.1 zX12_init_780 rfl ?_
  refine lv_bipush F.1 F.2.1 zX12_init_781 kb122 ?_
  refine lv_bipush F.1 F.2.1 zX12_init_783 kb111 ?_
  refine T_cast F P hL ha rfl (by decide) (by decide) vc111 zX12_init_785 (fun H locs P => ?_)
  refine lv_dup F.1 F.2.1 zX12_init_786 rfl ?_
  refine lv_bipush F.1 F.2.1 zX12_init_787 kb123 ?_
  refine lv_bipush F.1 F.2.1 zX12_init_789 kb107 ?_
  refine T_cast F P hL ha rfl (by decide) (by decide) vc107 zX12_init_791 (fun H locs P => ?_)
  refine lv_dup F.1 F.2.1 zX12_init_792 rfl ?_
  refine lv_bipush F.1 F.2.1 zX12_init_793 kb124 ?_
  refine lv_bipush F.1 F.2.1 zX12_init_795 kb101 ?_
  refine T_cast F P hL ha rfl (by decide) (by decide) vc101 zX12_init_797 (fun H locs P => ?_)
  refine lv_dup F.1 F.2.1 zX12_init_798 rfl ?_
  refine lv_bipush F.1 F.2.1 zX12_init_799 kb125 ?_
  refine lv_bipush F.1 F.2.1 zX12_init_801 kb100 ?_
  refine T_cast F P hL ha rfl (by decide) (by decide) vc100 zX12_init_803 (fun H locs P => ?_)
  refine lv_dup F.1 F.2.1 zX12_init_804 rfl ?_
  refine lv_bipush F.1 F.2.1 zX12_init_805 kb126 ?_
  refine lv_bipush F.1 F.2.1 zX12_init_807 kb32 ?_
  refine T_cast F P hL ha rfl (by decide) (by decide) vc32 zX12_init_809 (fun H locs P => ?_)
  refine lv_dup F.1 F.2.1 zX12_init_810 rfl ?_
  refine lv_bipush F.1 F.2.1 zX12_init_811 kb127 ?_
  refine lv_bipush F.1 F.2.1 zX12_init_813 kb32 ?_
  refine T_cast F P hL ha rfl (by decide) (by decide) vc32 zX12_init_815 (fun H locs P => ?_)
  exact kk H locs P
def sg9 (f : Nat → Int32) : Nat → Int32 := upd (upd (upd (upd (upd (upd (upd (upd (upd (upd (upd (upd (upd (upd (upd (upd (f) 128 (nI 102)) 129 (nI 111)) 130 (nI 103)) 131 (nI 32)) 132 (nI 32)) 133 (nI 32)) 134 (nI 32)) 135 (nI 32)) 136 (nI 110)) 137 (nI 117)) 138 (nI 109)) 139 (nI 98)) 140 (nI 101)) 141 (nI 114)) 142 (nI 32)) 143 (nI 32)
set_option maxHeartbeats 4000000 in
set_option maxRecDepth 100000 in
theorem klt9 {E : EE} {p : Program} {l : Launch} {e : Env} {R : Room} {s : State} {m : MethodId} {args : Array Value} {below : List Frame} {meth : Method} {c : Code} {H : Heap} {locs : List Loc} {cells slots : Nat} {Q : State → Prop} {ls : Array Slot} {rest : List Value} {cs N : List va_E} {X : va_E} {o L : Nat} {f : Nat → Int32} (F : Fx E mX12_init p s m meth c) (hL : cs.length = L) (ha : 5 < N.length) (P : PK E s (cs.set o X ++ N.set 5 (.inl (E.2.2.2.2 2, 144, .inl f))) H locs) (kk : ∀ (H : Heap) (locs : List Loc), PK E s (cs.set o X ++ N.set 5 (.inl (E.2.2.2.2 2, 144, .inl (sg9 f)))) H locs → W p l e R s m args below meth c H locs cells slots Q (F0 m 928 ls (.ref (eb E + (L + 5)) :: rest))) : W p l e R s m args below meth c H locs cells slots Q (F0 m 816 ls (.ref (eb E + (L + 5)) :: rest)) := by
  refine lv_dup F.1 F.2.1 zX12_init_816 rfl ?_
  refine lv_sipush F.1 F.2.1 zX12_init_817 ks128 ?_
  refine lv_bipush F.1 F.2.1 zX12_init_820 kb102 ?_
  refine T_cast F P hL ha rfl (by decide) (by decide) vc102 zX12_init_822 (fun H locs P => ?_)
  refine lv_dup F.1 F.2.1 zX12_init_823 rfl ?_
  refine lv_sipush F.1 F.2.1 zX12_init_824 ks129 ?_
  refine lv_bipush F.1 F.2.1 zX12_init_827 kb111 ?_
  refine T_cast F P hL ha rfl (by decide) (by decide) vc111 zX12_init_829 (fun H locs P => ?_)
  refine lv_dup F.1 F.2.1 zX12_init_830 rfl ?_
  refine lv_sipush F.1 F.2.1 zX12_init_831 ks130 ?_
  refine lv_bipush F.1 F.2.1 zX12_init_834 kb103 ?_
  refine T_cast F P hL ha rfl (by decide) (by decide) vc103 zX12_init_836 (fun H locs P => ?_)
  refine lv_dup F.1 F.2.1 zX12_init_837 rfl ?_
  refine lv_sipush F.1 F.2.1 zX12_init_838 ks131 ?_
  refine lv_bipush F.1 F.2.1 zX12_init_841 kb32 ?_
  refine T_cast F P hL ha rfl (by decide) (by decide) vc32 zX12_init_843 (fun H locs P => ?_)
  refine lv_dup F.1 F.2.1 zX12_init_844 rfl ?_
  refine lv_sipush F.1 F.2.1 zX12_init_845 ks132 ?_
  refine lv_bipush F.1 F.2.1 zX12_init_848 kb32 ?_
  refine T_cast F P hL ha rfl (by decide) (by decide) vc32 zX12_init_850 (fun H locs P => ?_)
  refine lv_dup F.1 F.2.1 zX12_init_851 rfl ?_
  refine lv_sipush F.1 F.2.1 zX12_init_852 ks133 ?_
  refine lv_bipush F.1 F.2.1 zX12_init_855 kb32 ?_
  refine T_cast F P hL ha rfl (by decide) (by decide) vc32 zX12_init_857 (fun H locs P => ?_)
  refine lv_dup F.1 F.2.1 zX12_init_858 rfl ?_
  refine lv_sipush F.1 F.2.1 zX12_init_859 ks134 ?_
  refine lv_bipush F.1 F.2.1 zX12_init_862 kb32 ?_
  refine T_cast F P hL ha rfl (by decide) (by decide) vc32 zX12_init_864 (fun H locs P => ?_)
  refine lv_dup F.1 F.2.1 zX12_init_865 rfl ?_
  refine lv_sipush F.1 F.2.1 zX12_init_866 ks135 ?_
  refine lv_bipush F.1 F.2.1 zX12_init_869 kb32 ?_
  refine T_cast F P hL ha rfl (by decide) (by decide) vc32 zX12_init_871 (fun H locs P => ?_)
  refine lv_dup F.1 F.2.1 zX12_init_872 rfl ?_
  refine lv_sipush F.1 F.2.1 zX12_init_873 ks136 ?_
  refine lv_bipush F.1 F.2.1 zX12_init_876 kb110 ?_
  refine T_cast F P hL ha rfl (by decide) (by decide) vc110 zX12_init_878 (fun H locs P => ?_)
  refine lv_dup F.1 F.2.1 zX12_init_879 rfl ?_
  refine lv_sipush F.1 F.2.1 zX12_init_880 ks137 ?_
  refine lv_bipush F.1 F.2.1 zX12_init_883 kb117 ?_
  refine T_cast F P hL ha rfl (by decide) (by decide) vc117 zX12_init_885 (fun H locs P => ?_)
  refine lv_dup F.1 F.2.1 zX12_init_886 rfl ?_
  refine lv_sipush F.1 F.2.1 zX12_init_887 ks138 ?_
  refine lv_bipush F.1 F.2.1 zX12_init_890 kb109 ?_
  refine T_cast F P hL ha rfl (by decide) (by decide) vc109 zX12_init_892 (fun H locs P => ?_)
  refine lv_dup F.1 F.2.1 zX12_init_893 rfl ?_
  refine lv_sipush F.1 F.2.1 zX12_init_894 ks139 ?_
  refine lv_bipush F.1 F.2.1 zX12_init_897 kb98 ?_
  refine T_cast F P hL ha rfl (by decide) (by decide) vc98 zX12_init_899 (fun H locs P => ?_)
  refine lv_dup F.1 F.2.1 zX12_init_900 rfl ?_
  refine lv_sipush F.1 F.2.1 zX12_init_901 ks140 ?_
  refine lv_bipush F.1 F.2.1 zX12_init_904 kb101 ?_
  refine T_cast F P hL ha rfl (by decide) (by decide) vc101 zX12_init_906 (fun H locs P => ?_)
  refine lv_dup F.1 F.2.1 zX12_init_907 rfl ?_
  refine lv_sipush F.1 F.2.1 zX12_init_908 ks141 ?_
  refine lv_bipush F.1 F.2.1 zX12_init_911 kb114 ?_
  refine T_cast F P hL ha rfl (by decide) (by decide) vc114 zX12_init_913 (fun H locs P => ?_)
  refine lv_dup F.1 F.2.1 zX12_init_914 rfl ?_
  refine lv_sipush F.1 F.2.1 zX12_init_915 ks142 ?_
  refine lv_bipush F.1 F.2.1 zX12_init_918 kb32 ?_
  refine T_cast F P hL ha rfl (by decide) (by decide) vc32 zX12_init_920 (fun H locs P => ?_)
  refine lv_dup F.1 F.2.1 zX12_init_921 rfl ?_
  refine lv_sipush F.1 F.2.1 zX12_init_922 ks143 ?_
  refine lv_bipush F.1 F.2.1 zX12_init_925 kb32 ?_
  refine T_cast F P hL ha rfl (by decide) (by decide) vc32 zX12_init_927 (fun H locs P => ?_)
  exact kk H locs P
def ltF : Nat → Int32 := sg9 (sg8 (sg7 (sg6 (sg5 (sg4 (sg3 (sg2 (sg1 (fun _ => 0)))))))))
def msF : Nat → Int32 := upd (upd (upd (upd (upd (upd (upd (upd (upd (upd (upd (upd (upd (upd (upd (upd (upd (upd (upd (upd (upd (upd (upd (upd (upd (fun _ => 0) 1 (nI 12)) 4 (nI 60)) 5 (nI 1)) 10 (nI 4)) 11 (nI 4)) 12 (nI 4)) 13 (nI 4)) 14 (nI 4)) 15 (nI 4)) 16 (nI 4)) 17 (nI 4)) 18 (nI 4)) 19 (nI 4)) 20 (nI 4)) 21 (nI 4)) 22 (nI 4)) 23 (nI 4)) 24 (nI 4)) 25 (nI 4)) 32 (nI 3)) 33 (nI 3)) 34 (nI 3)) 35 (nI 3)) 36 (nI 3)) 37 (nI 3)
set_option maxHeartbeats 4000000 in
set_option maxRecDepth 100000 in
theorem k_X12 {E : EE} {cs : List va_E} {o L : Nat} (h : cs[o]? = some (.inr (12, [.null, .null, .null, .int 0, .null, .null, .int 0, .null, .int 0, .int 0, .int 0, .int 0, .int 0, .int 0, .null, .null, .int 0, .int 0, .null, .null, .null, .int 0, .int 0, .int 0, .int 0, .null, .int 0, .null, .int 0, .null, .null, .null, .null, .null, .null, .int 0, .int 0, .int 0]))) (hL : cs.length = L) : CK E 1 mX12_init [.ref (eb E + o)] 19 2098 cs (cs.set o (.inr (12, [.ref (eb E + (L + 0)), .ref (eb E + (L + 1)), .ref (eb E + (L + 2)), .int 0, .ref (eb E + (L + 3)), .ref (eb E + (L + 4)), .int 0, .ref (eb E + (L + 5)), .int 0, .int 0, .int 0, .int 0, .int 0, .int 0, .ref (eb E + (L + 6)), .ref (eb E + (L + 7)), .int 0, .int 0, .ref (eb E + (L + 8)), .ref (eb E + (L + 9)), .ref (eb E + (L + 10)), .int 0, .int 0, .int 0, .int 0, .ref (eb E + (L + 11)), .int 0, .ref (eb E + (L + 12)), .int 0, .ref (eb E + (L + 13)), .ref (eb E + (L + 14)), .ref (eb E + (L + 15)), .ref (eb E + (L + 16)), .ref (eb E + (L + 17)), .ref (eb E + (L + 18)), .int 0, .int 0, .int 0])) ++ [.inl (E.2.2.2.2 0, 322, .inl (msF)), .inl (E.2.2.2.2 0, 322, .inl (fun _ => 0)), .inl (E.2.2.2.2 0, 74, .inl (fun _ => 0)), .inl (E.2.2.2.2 0, 200, .inl (fun _ => 0)), .inl (E.2.2.2.2 0, 200, .inl (fun _ => 0)), .inl (E.2.2.2.2 2, 144, .inl (ltF)), .inl (E.2.2.2.2 0, 200, .inl (fun _ => 0)), .inl (E.2.2.2.2 0, 24, .inl (fun _ => 0)), .inl (E.2.2.2.2 0, 370, .inl (fun _ => 0)), .inl (E.2.2.2.2 0, 4, .inl (fun _ => 0)), .inl (E.2.2.2.2 0, 4, .inl (fun _ => 0)), .inl (E.2.2.2.2 0, 16, .inl (fun _ => 0)), .inl (E.2.2.2.2 0, 12, .inl (fun _ => 0)), .inl (E.2.2.2.2 0, 4, .inl (upd (upd (upd (upd (fun _ => 0) 0 ((-1 : Int32))) 1 ((-1 : Int32))) 2 ((-1 : Int32))) 3 ((-1 : Int32)))), .inl (E.2.2.2.2 0, 4, .inl (fun _ => 0)), .inl (E.2.2.2.2 0, 160, .inl (fun _ => 0)), .inl (E.2.2.2.2 0, 4, .inl (upd (upd (upd (upd (fun _ => 0) 0 ((-1 : Int32))) 1 ((-1 : Int32))) 2 ((-1 : Int32))) 3 ((-1 : Int32)))), .inl (E.2.2.2.2 0, 4, .inl (fun _ => 0)), .inl (E.2.2.2.2 0, 30, .inl (fun _ => 0))]) := by
  refine CK_of [(0, .ref (eb E + o))] (by decide +kernel) (Nat.le_of_ble_eq_true rfl) rfl ?_
  intro p l e s m args below meth c H locs ls F hin P hl
  have ho := cs_lt h
  rw [nf_0 h] at P
  refine lv_aload_n F.1 F.2.1 zX12_init_0 rfl (lv_at hl 0 rfl) ?_
  refine K_obj F hl.1 loX12 (Nat.le_of_ble_eq_true rfl) (Nat.le_of_ble_eq_true rfl) (Nat.le_of_ble_eq_true rfl) zX12_init_1 ?_
  refine lv_aload_n F.1 F.2.1 zX12_init_4 rfl (lv_at hl 0 rfl) ?_
  refine lv_sipush F.1 F.2.1 zX12_init_5 ks322 ?_
  refine T_newI F P hL rfl kacI rfl (by decide) (Nat.le_of_ble_eq_true rfl) (Nat.le_of_ble_eq_true rfl) zX12_init_8 (fun H (P : PK E s (cs.set o (.inr (12, [.null, .null, .null, .int 0, .null, .null, .int 0, .null, .int 0, .int 0, .int 0, .int 0, .int 0, .int 0, .null, .null, .int 0, .int 0, .null, .null, .null, .int 0, .int 0, .int 0, .int 0, .null, .int 0, .null, .int 0, .null, .null, .null, .null, .null, .null, .int 0, .int 0, .int 0])) ++ [.inl (E.2.2.2.2 0, 322, .inl (fun _ => 0))]) H locs) => ?_)
  refine T_put F P ho hin kpX12_9 rfl rfl (Nat.le_of_ble_eq_true rfl) zX12_init_10 (fun H locs (P : PK E s (cs.set o (.inr (12, [.ref (eb E + (L + 0)), .null, .null, .int 0, .null, .null, .int 0, .null, .int 0, .int 0, .int 0, .int 0, .int 0, .int 0, .null, .null, .int 0, .int 0, .null, .null, .null, .int 0, .int 0, .int 0, .int 0, .null, .int 0, .null, .int 0, .null, .null, .null, .null, .null, .null, .int 0, .int 0, .int 0])) ++ [.inl (E.2.2.2.2 0, 322, .inl (fun _ => 0))]) H locs) => ?_)
  refine lv_aload_n F.1 F.2.1 zX12_init_13 rfl (lv_at hl 0 rfl) ?_
  refine lv_sipush F.1 F.2.1 zX12_init_14 ks322 ?_
  refine T_newI F P hL rfl kacI rfl (by decide) (Nat.le_of_ble_eq_true rfl) (Nat.le_of_ble_eq_true rfl) zX12_init_17 (fun H (P : PK E s (cs.set o (.inr (12, [.ref (eb E + (L + 0)), .null, .null, .int 0, .null, .null, .int 0, .null, .int 0, .int 0, .int 0, .int 0, .int 0, .int 0, .null, .null, .int 0, .int 0, .null, .null, .null, .int 0, .int 0, .int 0, .int 0, .null, .int 0, .null, .int 0, .null, .null, .null, .null, .null, .null, .int 0, .int 0, .int 0])) ++ [.inl (E.2.2.2.2 0, 322, .inl (fun _ => 0)), .inl (E.2.2.2.2 0, 322, .inl (fun _ => 0))]) H locs) => ?_)
  refine T_put F P ho hin kpX12_13 rfl rfl (Nat.le_of_ble_eq_true rfl) zX12_init_19 (fun H locs (P : PK E s (cs.set o (.inr (12, [.ref (eb E + (L + 0)), .ref (eb E + (L + 1)), .null, .int 0, .null, .null, .int 0, .null, .int 0, .int 0, .int 0, .int 0, .int 0, .int 0, .null, .null, .int 0, .int 0, .null, .null, .null, .int 0, .int 0, .int 0, .int 0, .null, .int 0, .null, .int 0, .null, .null, .null, .null, .null, .null, .int 0, .int 0, .int 0])) ++ [.inl (E.2.2.2.2 0, 322, .inl (fun _ => 0)), .inl (E.2.2.2.2 0, 322, .inl (fun _ => 0))]) H locs) => ?_)
  refine lv_aload_n F.1 F.2.1 zX12_init_22 rfl (lv_at hl 0 rfl) ?_
  refine lv_bipush F.1 F.2.1 zX12_init_23 kb74 ?_
  refine T_newI F P hL rfl kacI rfl (by decide) (Nat.le_of_ble_eq_true rfl) (Nat.le_of_ble_eq_true rfl) zX12_init_25 (fun H (P : PK E s (cs.set o (.inr (12, [.ref (eb E + (L + 0)), .ref (eb E + (L + 1)), .null, .int 0, .null, .null, .int 0, .null, .int 0, .int 0, .int 0, .int 0, .int 0, .int 0, .null, .null, .int 0, .int 0, .null, .null, .null, .int 0, .int 0, .int 0, .int 0, .null, .int 0, .null, .int 0, .null, .null, .null, .null, .null, .null, .int 0, .int 0, .int 0])) ++ [.inl (E.2.2.2.2 0, 322, .inl (fun _ => 0)), .inl (E.2.2.2.2 0, 322, .inl (fun _ => 0)), .inl (E.2.2.2.2 0, 74, .inl (fun _ => 0))]) H locs) => ?_)
  refine T_put F P ho hin kpX12_16 rfl rfl (Nat.le_of_ble_eq_true rfl) zX12_init_27 (fun H locs (P : PK E s (cs.set o (.inr (12, [.ref (eb E + (L + 0)), .ref (eb E + (L + 1)), .ref (eb E + (L + 2)), .int 0, .null, .null, .int 0, .null, .int 0, .int 0, .int 0, .int 0, .int 0, .int 0, .null, .null, .int 0, .int 0, .null, .null, .null, .int 0, .int 0, .int 0, .int 0, .null, .int 0, .null, .int 0, .null, .null, .null, .null, .null, .null, .int 0, .int 0, .int 0])) ++ [.inl (E.2.2.2.2 0, 322, .inl (fun _ => 0)), .inl (E.2.2.2.2 0, 322, .inl (fun _ => 0)), .inl (E.2.2.2.2 0, 74, .inl (fun _ => 0))]) H locs) => ?_)
  refine lv_aload_n F.1 F.2.1 zX12_init_30 rfl (lv_at hl 0 rfl) ?_
  refine lv_sipush F.1 F.2.1 zX12_init_31 ks200 ?_
  refine T_newI F P hL rfl kacI rfl (by decide) (Nat.le_of_ble_eq_true rfl) (Nat.le_of_ble_eq_true rfl) zX12_init_34 (fun H (P : PK E s (cs.set o (.inr (12, [.ref (eb E + (L + 0)), .ref (eb E + (L + 1)), .ref (eb E + (L + 2)), .int 0, .null, .null, .int 0, .null, .int 0, .int 0, .int 0, .int 0, .int 0, .int 0, .null, .null, .int 0, .int 0, .null, .null, .null, .int 0, .int 0, .int 0, .int 0, .null, .int 0, .null, .int 0, .null, .null, .null, .null, .null, .null, .int 0, .int 0, .int 0])) ++ [.inl (E.2.2.2.2 0, 322, .inl (fun _ => 0)), .inl (E.2.2.2.2 0, 322, .inl (fun _ => 0)), .inl (E.2.2.2.2 0, 74, .inl (fun _ => 0)), .inl (E.2.2.2.2 0, 200, .inl (fun _ => 0))]) H locs) => ?_)
  refine T_put F P ho hin kpX12_19 rfl rfl (Nat.le_of_ble_eq_true rfl) zX12_init_36 (fun H locs (P : PK E s (cs.set o (.inr (12, [.ref (eb E + (L + 0)), .ref (eb E + (L + 1)), .ref (eb E + (L + 2)), .int 0, .ref (eb E + (L + 3)), .null, .int 0, .null, .int 0, .int 0, .int 0, .int 0, .int 0, .int 0, .null, .null, .int 0, .int 0, .null, .null, .null, .int 0, .int 0, .int 0, .int 0, .null, .int 0, .null, .int 0, .null, .null, .null, .null, .null, .null, .int 0, .int 0, .int 0])) ++ [.inl (E.2.2.2.2 0, 322, .inl (fun _ => 0)), .inl (E.2.2.2.2 0, 322, .inl (fun _ => 0)), .inl (E.2.2.2.2 0, 74, .inl (fun _ => 0)), .inl (E.2.2.2.2 0, 200, .inl (fun _ => 0))]) H locs) => ?_)
  refine lv_aload_n F.1 F.2.1 zX12_init_39 rfl (lv_at hl 0 rfl) ?_
  refine lv_sipush F.1 F.2.1 zX12_init_40 ks200 ?_
  refine T_newI F P hL rfl kacI rfl (by decide) (Nat.le_of_ble_eq_true rfl) (Nat.le_of_ble_eq_true rfl) zX12_init_43 (fun H (P : PK E s (cs.set o (.inr (12, [.ref (eb E + (L + 0)), .ref (eb E + (L + 1)), .ref (eb E + (L + 2)), .int 0, .ref (eb E + (L + 3)), .null, .int 0, .null, .int 0, .int 0, .int 0, .int 0, .int 0, .int 0, .null, .null, .int 0, .int 0, .null, .null, .null, .int 0, .int 0, .int 0, .int 0, .null, .int 0, .null, .int 0, .null, .null, .null, .null, .null, .null, .int 0, .int 0, .int 0])) ++ [.inl (E.2.2.2.2 0, 322, .inl (fun _ => 0)), .inl (E.2.2.2.2 0, 322, .inl (fun _ => 0)), .inl (E.2.2.2.2 0, 74, .inl (fun _ => 0)), .inl (E.2.2.2.2 0, 200, .inl (fun _ => 0)), .inl (E.2.2.2.2 0, 200, .inl (fun _ => 0))]) H locs) => ?_)
  refine T_put F P ho hin kpX12_22 rfl rfl (Nat.le_of_ble_eq_true rfl) zX12_init_45 (fun H locs (P : PK E s (cs.set o (.inr (12, [.ref (eb E + (L + 0)), .ref (eb E + (L + 1)), .ref (eb E + (L + 2)), .int 0, .ref (eb E + (L + 3)), .ref (eb E + (L + 4)), .int 0, .null, .int 0, .int 0, .int 0, .int 0, .int 0, .int 0, .null, .null, .int 0, .int 0, .null, .null, .null, .int 0, .int 0, .int 0, .int 0, .null, .int 0, .null, .int 0, .null, .null, .null, .null, .null, .null, .int 0, .int 0, .int 0])) ++ [.inl (E.2.2.2.2 0, 322, .inl (fun _ => 0)), .inl (E.2.2.2.2 0, 322, .inl (fun _ => 0)), .inl (E.2.2.2.2 0, 74, .inl (fun _ => 0)), .inl (E.2.2.2.2 0, 200, .inl (fun _ => 0)), .inl (E.2.2.2.2 0, 200, .inl (fun _ => 0))]) H locs) => ?_)
  refine lv_aload_n F.1 F.2.1 zX12_init_48 rfl (lv_at hl 0 rfl) ?_
  refine lv_sipush F.1 F.2.1 zX12_init_49 ks144 ?_
  refine T_newC F P hL rfl kacC rfl (by decide) (Nat.le_of_ble_eq_true rfl) (Nat.le_of_ble_eq_true rfl) zX12_init_52 (fun H (P : PK E s (cs.set o (.inr (12, [.ref (eb E + (L + 0)), .ref (eb E + (L + 1)), .ref (eb E + (L + 2)), .int 0, .ref (eb E + (L + 3)), .ref (eb E + (L + 4)), .int 0, .null, .int 0, .int 0, .int 0, .int 0, .int 0, .int 0, .null, .null, .int 0, .int 0, .null, .null, .null, .int 0, .int 0, .int 0, .int 0, .null, .int 0, .null, .int 0, .null, .null, .null, .null, .null, .null, .int 0, .int 0, .int 0])) ++ [.inl (E.2.2.2.2 0, 322, .inl (fun _ => 0)), .inl (E.2.2.2.2 0, 322, .inl (fun _ => 0)), .inl (E.2.2.2.2 0, 74, .inl (fun _ => 0)), .inl (E.2.2.2.2 0, 200, .inl (fun _ => 0)), .inl (E.2.2.2.2 0, 200, .inl (fun _ => 0)), .inl (E.2.2.2.2 2, 144, .inl (fun _ => 0))]) H locs) => ?_)
  have P : PK E s (cs.set o (.inr (12, [.ref (eb E + (L + 0)), .ref (eb E + (L + 1)), .ref (eb E + (L + 2)), .int 0, .ref (eb E + (L + 3)), .ref (eb E + (L + 4)), .int 0, .null, .int 0, .int 0, .int 0, .int 0, .int 0, .int 0, .null, .null, .int 0, .int 0, .null, .null, .null, .int 0, .int 0, .int 0, .int 0, .null, .int 0, .null, .int 0, .null, .null, .null, .null, .null, .null, .int 0, .int 0, .int 0])) ++ ([.inl (E.2.2.2.2 0, 322, .inl (fun _ => 0)), .inl (E.2.2.2.2 0, 322, .inl (fun _ => 0)), .inl (E.2.2.2.2 0, 74, .inl (fun _ => 0)), .inl (E.2.2.2.2 0, 200, .inl (fun _ => 0)), .inl (E.2.2.2.2 0, 200, .inl (fun _ => 0)), .inl (E.2.2.2.2 2, 144, .inl (fun _ => 0))] : List va_E).set 5 (.inl (E.2.2.2.2 2, 144, .inl (fun _ => 0)))) H locs := P
  refine klt1 F hL (Nat.le_of_ble_eq_true rfl) P (fun H locs P => ?_)
  refine klt2 F hL (Nat.le_of_ble_eq_true rfl) P (fun H locs P => ?_)
  refine klt3 F hL (Nat.le_of_ble_eq_true rfl) P (fun H locs P => ?_)
  refine klt4 F hL (Nat.le_of_ble_eq_true rfl) P (fun H locs P => ?_)
  refine klt5 F hL (Nat.le_of_ble_eq_true rfl) P (fun H locs P => ?_)
  refine klt6 F hL (Nat.le_of_ble_eq_true rfl) P (fun H locs P => ?_)
  refine klt7 F hL (Nat.le_of_ble_eq_true rfl) P (fun H locs P => ?_)
  refine klt8 F hL (Nat.le_of_ble_eq_true rfl) P (fun H locs P => ?_)
  refine klt9 F hL (Nat.le_of_ble_eq_true rfl) P (fun H locs P => ?_)
  have P : PK E s (cs.set o (.inr (12, [.ref (eb E + (L + 0)), .ref (eb E + (L + 1)), .ref (eb E + (L + 2)), .int 0, .ref (eb E + (L + 3)), .ref (eb E + (L + 4)), .int 0, .null, .int 0, .int 0, .int 0, .int 0, .int 0, .int 0, .null, .null, .int 0, .int 0, .null, .null, .null, .int 0, .int 0, .int 0, .int 0, .null, .int 0, .null, .int 0, .null, .null, .null, .null, .null, .null, .int 0, .int 0, .int 0])) ++ [.inl (E.2.2.2.2 0, 322, .inl (fun _ => 0)), .inl (E.2.2.2.2 0, 322, .inl (fun _ => 0)), .inl (E.2.2.2.2 0, 74, .inl (fun _ => 0)), .inl (E.2.2.2.2 0, 200, .inl (fun _ => 0)), .inl (E.2.2.2.2 0, 200, .inl (fun _ => 0)), .inl (E.2.2.2.2 2, 144, .inl (ltF))]) H locs := P
  refine T_put F P ho hin kpX12_25 rfl rfl (Nat.le_of_ble_eq_true rfl) zX12_init_928 (fun H locs (P : PK E s (cs.set o (.inr (12, [.ref (eb E + (L + 0)), .ref (eb E + (L + 1)), .ref (eb E + (L + 2)), .int 0, .ref (eb E + (L + 3)), .ref (eb E + (L + 4)), .int 0, .ref (eb E + (L + 5)), .int 0, .int 0, .int 0, .int 0, .int 0, .int 0, .null, .null, .int 0, .int 0, .null, .null, .null, .int 0, .int 0, .int 0, .int 0, .null, .int 0, .null, .int 0, .null, .null, .null, .null, .null, .null, .int 0, .int 0, .int 0])) ++ [.inl (E.2.2.2.2 0, 322, .inl (fun _ => 0)), .inl (E.2.2.2.2 0, 322, .inl (fun _ => 0)), .inl (E.2.2.2.2 0, 74, .inl (fun _ => 0)), .inl (E.2.2.2.2 0, 200, .inl (fun _ => 0)), .inl (E.2.2.2.2 0, 200, .inl (fun _ => 0)), .inl (E.2.2.2.2 2, 144, .inl (ltF))]) H locs) => ?_)
  refine lv_aload_n F.1 F.2.1 zX12_init_931 rfl (lv_at hl 0 rfl) ?_
  refine lv_sipush F.1 F.2.1 zX12_init_932 ks200 ?_
  refine T_newI F P hL rfl kacI rfl (by decide) (Nat.le_of_ble_eq_true rfl) (Nat.le_of_ble_eq_true rfl) zX12_init_935 (fun H (P : PK E s (cs.set o (.inr (12, [.ref (eb E + (L + 0)), .ref (eb E + (L + 1)), .ref (eb E + (L + 2)), .int 0, .ref (eb E + (L + 3)), .ref (eb E + (L + 4)), .int 0, .ref (eb E + (L + 5)), .int 0, .int 0, .int 0, .int 0, .int 0, .int 0, .null, .null, .int 0, .int 0, .null, .null, .null, .int 0, .int 0, .int 0, .int 0, .null, .int 0, .null, .int 0, .null, .null, .null, .null, .null, .null, .int 0, .int 0, .int 0])) ++ [.inl (E.2.2.2.2 0, 322, .inl (fun _ => 0)), .inl (E.2.2.2.2 0, 322, .inl (fun _ => 0)), .inl (E.2.2.2.2 0, 74, .inl (fun _ => 0)), .inl (E.2.2.2.2 0, 200, .inl (fun _ => 0)), .inl (E.2.2.2.2 0, 200, .inl (fun _ => 0)), .inl (E.2.2.2.2 2, 144, .inl (ltF)), .inl (E.2.2.2.2 0, 200, .inl (fun _ => 0))]) H locs) => ?_)
  refine T_put F P ho hin kpX12_29 rfl rfl (Nat.le_of_ble_eq_true rfl) zX12_init_937 (fun H locs (P : PK E s (cs.set o (.inr (12, [.ref (eb E + (L + 0)), .ref (eb E + (L + 1)), .ref (eb E + (L + 2)), .int 0, .ref (eb E + (L + 3)), .ref (eb E + (L + 4)), .int 0, .ref (eb E + (L + 5)), .int 0, .int 0, .int 0, .int 0, .int 0, .int 0, .ref (eb E + (L + 6)), .null, .int 0, .int 0, .null, .null, .null, .int 0, .int 0, .int 0, .int 0, .null, .int 0, .null, .int 0, .null, .null, .null, .null, .null, .null, .int 0, .int 0, .int 0])) ++ [.inl (E.2.2.2.2 0, 322, .inl (fun _ => 0)), .inl (E.2.2.2.2 0, 322, .inl (fun _ => 0)), .inl (E.2.2.2.2 0, 74, .inl (fun _ => 0)), .inl (E.2.2.2.2 0, 200, .inl (fun _ => 0)), .inl (E.2.2.2.2 0, 200, .inl (fun _ => 0)), .inl (E.2.2.2.2 2, 144, .inl (ltF)), .inl (E.2.2.2.2 0, 200, .inl (fun _ => 0))]) H locs) => ?_)
  refine lv_aload_n F.1 F.2.1 zX12_init_940 rfl (lv_at hl 0 rfl) ?_
  refine lv_bipush F.1 F.2.1 zX12_init_941 kb24 ?_
  refine T_newI F P hL rfl kacI rfl (by decide) (Nat.le_of_ble_eq_true rfl) (Nat.le_of_ble_eq_true rfl) zX12_init_943 (fun H (P : PK E s (cs.set o (.inr (12, [.ref (eb E + (L + 0)), .ref (eb E + (L + 1)), .ref (eb E + (L + 2)), .int 0, .ref (eb E + (L + 3)), .ref (eb E + (L + 4)), .int 0, .ref (eb E + (L + 5)), .int 0, .int 0, .int 0, .int 0, .int 0, .int 0, .ref (eb E + (L + 6)), .null, .int 0, .int 0, .null, .null, .null, .int 0, .int 0, .int 0, .int 0, .null, .int 0, .null, .int 0, .null, .null, .null, .null, .null, .null, .int 0, .int 0, .int 0])) ++ [.inl (E.2.2.2.2 0, 322, .inl (fun _ => 0)), .inl (E.2.2.2.2 0, 322, .inl (fun _ => 0)), .inl (E.2.2.2.2 0, 74, .inl (fun _ => 0)), .inl (E.2.2.2.2 0, 200, .inl (fun _ => 0)), .inl (E.2.2.2.2 0, 200, .inl (fun _ => 0)), .inl (E.2.2.2.2 2, 144, .inl (ltF)), .inl (E.2.2.2.2 0, 200, .inl (fun _ => 0)), .inl (E.2.2.2.2 0, 24, .inl (fun _ => 0))]) H locs) => ?_)
  refine T_put F P ho hin kpX12_32 rfl rfl (Nat.le_of_ble_eq_true rfl) zX12_init_945 (fun H locs (P : PK E s (cs.set o (.inr (12, [.ref (eb E + (L + 0)), .ref (eb E + (L + 1)), .ref (eb E + (L + 2)), .int 0, .ref (eb E + (L + 3)), .ref (eb E + (L + 4)), .int 0, .ref (eb E + (L + 5)), .int 0, .int 0, .int 0, .int 0, .int 0, .int 0, .ref (eb E + (L + 6)), .ref (eb E + (L + 7)), .int 0, .int 0, .null, .null, .null, .int 0, .int 0, .int 0, .int 0, .null, .int 0, .null, .int 0, .null, .null, .null, .null, .null, .null, .int 0, .int 0, .int 0])) ++ [.inl (E.2.2.2.2 0, 322, .inl (fun _ => 0)), .inl (E.2.2.2.2 0, 322, .inl (fun _ => 0)), .inl (E.2.2.2.2 0, 74, .inl (fun _ => 0)), .inl (E.2.2.2.2 0, 200, .inl (fun _ => 0)), .inl (E.2.2.2.2 0, 200, .inl (fun _ => 0)), .inl (E.2.2.2.2 2, 144, .inl (ltF)), .inl (E.2.2.2.2 0, 200, .inl (fun _ => 0)), .inl (E.2.2.2.2 0, 24, .inl (fun _ => 0))]) H locs) => ?_)
  refine lv_aload_n F.1 F.2.1 zX12_init_948 rfl (lv_at hl 0 rfl) ?_
  refine lv_sipush F.1 F.2.1 zX12_init_949 ks370 ?_
  refine T_newI F P hL rfl kacI rfl (by decide) (Nat.le_of_ble_eq_true rfl) (Nat.le_of_ble_eq_true rfl) zX12_init_952 (fun H (P : PK E s (cs.set o (.inr (12, [.ref (eb E + (L + 0)), .ref (eb E + (L + 1)), .ref (eb E + (L + 2)), .int 0, .ref (eb E + (L + 3)), .ref (eb E + (L + 4)), .int 0, .ref (eb E + (L + 5)), .int 0, .int 0, .int 0, .int 0, .int 0, .int 0, .ref (eb E + (L + 6)), .ref (eb E + (L + 7)), .int 0, .int 0, .null, .null, .null, .int 0, .int 0, .int 0, .int 0, .null, .int 0, .null, .int 0, .null, .null, .null, .null, .null, .null, .int 0, .int 0, .int 0])) ++ [.inl (E.2.2.2.2 0, 322, .inl (fun _ => 0)), .inl (E.2.2.2.2 0, 322, .inl (fun _ => 0)), .inl (E.2.2.2.2 0, 74, .inl (fun _ => 0)), .inl (E.2.2.2.2 0, 200, .inl (fun _ => 0)), .inl (E.2.2.2.2 0, 200, .inl (fun _ => 0)), .inl (E.2.2.2.2 2, 144, .inl (ltF)), .inl (E.2.2.2.2 0, 200, .inl (fun _ => 0)), .inl (E.2.2.2.2 0, 24, .inl (fun _ => 0)), .inl (E.2.2.2.2 0, 370, .inl (fun _ => 0))]) H locs) => ?_)
  refine T_put F P ho hin kpX12_35 rfl rfl (Nat.le_of_ble_eq_true rfl) zX12_init_954 (fun H locs (P : PK E s (cs.set o (.inr (12, [.ref (eb E + (L + 0)), .ref (eb E + (L + 1)), .ref (eb E + (L + 2)), .int 0, .ref (eb E + (L + 3)), .ref (eb E + (L + 4)), .int 0, .ref (eb E + (L + 5)), .int 0, .int 0, .int 0, .int 0, .int 0, .int 0, .ref (eb E + (L + 6)), .ref (eb E + (L + 7)), .int 0, .int 0, .ref (eb E + (L + 8)), .null, .null, .int 0, .int 0, .int 0, .int 0, .null, .int 0, .null, .int 0, .null, .null, .null, .null, .null, .null, .int 0, .int 0, .int 0])) ++ [.inl (E.2.2.2.2 0, 322, .inl (fun _ => 0)), .inl (E.2.2.2.2 0, 322, .inl (fun _ => 0)), .inl (E.2.2.2.2 0, 74, .inl (fun _ => 0)), .inl (E.2.2.2.2 0, 200, .inl (fun _ => 0)), .inl (E.2.2.2.2 0, 200, .inl (fun _ => 0)), .inl (E.2.2.2.2 2, 144, .inl (ltF)), .inl (E.2.2.2.2 0, 200, .inl (fun _ => 0)), .inl (E.2.2.2.2 0, 24, .inl (fun _ => 0)), .inl (E.2.2.2.2 0, 370, .inl (fun _ => 0))]) H locs) => ?_)
  refine lv_aload_n F.1 F.2.1 zX12_init_957 rfl (lv_at hl 0 rfl) ?_
  refine lv_iconst F.1 F.2.1 zX12_init_958 kc4 ?_
  refine T_newI F P hL rfl kacI rfl (by decide) (Nat.le_of_ble_eq_true rfl) (Nat.le_of_ble_eq_true rfl) zX12_init_959 (fun H (P : PK E s (cs.set o (.inr (12, [.ref (eb E + (L + 0)), .ref (eb E + (L + 1)), .ref (eb E + (L + 2)), .int 0, .ref (eb E + (L + 3)), .ref (eb E + (L + 4)), .int 0, .ref (eb E + (L + 5)), .int 0, .int 0, .int 0, .int 0, .int 0, .int 0, .ref (eb E + (L + 6)), .ref (eb E + (L + 7)), .int 0, .int 0, .ref (eb E + (L + 8)), .null, .null, .int 0, .int 0, .int 0, .int 0, .null, .int 0, .null, .int 0, .null, .null, .null, .null, .null, .null, .int 0, .int 0, .int 0])) ++ [.inl (E.2.2.2.2 0, 322, .inl (fun _ => 0)), .inl (E.2.2.2.2 0, 322, .inl (fun _ => 0)), .inl (E.2.2.2.2 0, 74, .inl (fun _ => 0)), .inl (E.2.2.2.2 0, 200, .inl (fun _ => 0)), .inl (E.2.2.2.2 0, 200, .inl (fun _ => 0)), .inl (E.2.2.2.2 2, 144, .inl (ltF)), .inl (E.2.2.2.2 0, 200, .inl (fun _ => 0)), .inl (E.2.2.2.2 0, 24, .inl (fun _ => 0)), .inl (E.2.2.2.2 0, 370, .inl (fun _ => 0)), .inl (E.2.2.2.2 0, 4, .inl (fun _ => 0))]) H locs) => ?_)
  refine T_put F P ho hin kpX12_38 rfl rfl (Nat.le_of_ble_eq_true rfl) zX12_init_961 (fun H locs (P : PK E s (cs.set o (.inr (12, [.ref (eb E + (L + 0)), .ref (eb E + (L + 1)), .ref (eb E + (L + 2)), .int 0, .ref (eb E + (L + 3)), .ref (eb E + (L + 4)), .int 0, .ref (eb E + (L + 5)), .int 0, .int 0, .int 0, .int 0, .int 0, .int 0, .ref (eb E + (L + 6)), .ref (eb E + (L + 7)), .int 0, .int 0, .ref (eb E + (L + 8)), .ref (eb E + (L + 9)), .null, .int 0, .int 0, .int 0, .int 0, .null, .int 0, .null, .int 0, .null, .null, .null, .null, .null, .null, .int 0, .int 0, .int 0])) ++ [.inl (E.2.2.2.2 0, 322, .inl (fun _ => 0)), .inl (E.2.2.2.2 0, 322, .inl (fun _ => 0)), .inl (E.2.2.2.2 0, 74, .inl (fun _ => 0)), .inl (E.2.2.2.2 0, 200, .inl (fun _ => 0)), .inl (E.2.2.2.2 0, 200, .inl (fun _ => 0)), .inl (E.2.2.2.2 2, 144, .inl (ltF)), .inl (E.2.2.2.2 0, 200, .inl (fun _ => 0)), .inl (E.2.2.2.2 0, 24, .inl (fun _ => 0)), .inl (E.2.2.2.2 0, 370, .inl (fun _ => 0)), .inl (E.2.2.2.2 0, 4, .inl (fun _ => 0))]) H locs) => ?_)
  refine lv_aload_n F.1 F.2.1 zX12_init_964 rfl (lv_at hl 0 rfl) ?_
  refine lv_iconst F.1 F.2.1 zX12_init_965 kc4 ?_
  refine T_newI F P hL rfl kacI rfl (by decide) (Nat.le_of_ble_eq_true rfl) (Nat.le_of_ble_eq_true rfl) zX12_init_966 (fun H (P : PK E s (cs.set o (.inr (12, [.ref (eb E + (L + 0)), .ref (eb E + (L + 1)), .ref (eb E + (L + 2)), .int 0, .ref (eb E + (L + 3)), .ref (eb E + (L + 4)), .int 0, .ref (eb E + (L + 5)), .int 0, .int 0, .int 0, .int 0, .int 0, .int 0, .ref (eb E + (L + 6)), .ref (eb E + (L + 7)), .int 0, .int 0, .ref (eb E + (L + 8)), .ref (eb E + (L + 9)), .null, .int 0, .int 0, .int 0, .int 0, .null, .int 0, .null, .int 0, .null, .null, .null, .null, .null, .null, .int 0, .int 0, .int 0])) ++ [.inl (E.2.2.2.2 0, 322, .inl (fun _ => 0)), .inl (E.2.2.2.2 0, 322, .inl (fun _ => 0)), .inl (E.2.2.2.2 0, 74, .inl (fun _ => 0)), .inl (E.2.2.2.2 0, 200, .inl (fun _ => 0)), .inl (E.2.2.2.2 0, 200, .inl (fun _ => 0)), .inl (E.2.2.2.2 2, 144, .inl (ltF)), .inl (E.2.2.2.2 0, 200, .inl (fun _ => 0)), .inl (E.2.2.2.2 0, 24, .inl (fun _ => 0)), .inl (E.2.2.2.2 0, 370, .inl (fun _ => 0)), .inl (E.2.2.2.2 0, 4, .inl (fun _ => 0)), .inl (E.2.2.2.2 0, 4, .inl (fun _ => 0))]) H locs) => ?_)
  refine T_put F P ho hin kpX12_41 rfl rfl (Nat.le_of_ble_eq_true rfl) zX12_init_968 (fun H locs (P : PK E s (cs.set o (.inr (12, [.ref (eb E + (L + 0)), .ref (eb E + (L + 1)), .ref (eb E + (L + 2)), .int 0, .ref (eb E + (L + 3)), .ref (eb E + (L + 4)), .int 0, .ref (eb E + (L + 5)), .int 0, .int 0, .int 0, .int 0, .int 0, .int 0, .ref (eb E + (L + 6)), .ref (eb E + (L + 7)), .int 0, .int 0, .ref (eb E + (L + 8)), .ref (eb E + (L + 9)), .ref (eb E + (L + 10)), .int 0, .int 0, .int 0, .int 0, .null, .int 0, .null, .int 0, .null, .null, .null, .null, .null, .null, .int 0, .int 0, .int 0])) ++ [.inl (E.2.2.2.2 0, 322, .inl (fun _ => 0)), .inl (E.2.2.2.2 0, 322, .inl (fun _ => 0)), .inl (E.2.2.2.2 0, 74, .inl (fun _ => 0)), .inl (E.2.2.2.2 0, 200, .inl (fun _ => 0)), .inl (E.2.2.2.2 0, 200, .inl (fun _ => 0)), .inl (E.2.2.2.2 2, 144, .inl (ltF)), .inl (E.2.2.2.2 0, 200, .inl (fun _ => 0)), .inl (E.2.2.2.2 0, 24, .inl (fun _ => 0)), .inl (E.2.2.2.2 0, 370, .inl (fun _ => 0)), .inl (E.2.2.2.2 0, 4, .inl (fun _ => 0)), .inl (E.2.2.2.2 0, 4, .inl (fun _ => 0))]) H locs) => ?_)
  refine lv_aload_n F.1 F.2.1 zX12_init_971 rfl (lv_at hl 0 rfl) ?_
  refine lv_bipush F.1 F.2.1 zX12_init_972 kb16 ?_
  refine T_newI F P hL rfl kacI rfl (by decide) (Nat.le_of_ble_eq_true rfl) (Nat.le_of_ble_eq_true rfl) zX12_init_974 (fun H (P : PK E s (cs.set o (.inr (12, [.ref (eb E + (L + 0)), .ref (eb E + (L + 1)), .ref (eb E + (L + 2)), .int 0, .ref (eb E + (L + 3)), .ref (eb E + (L + 4)), .int 0, .ref (eb E + (L + 5)), .int 0, .int 0, .int 0, .int 0, .int 0, .int 0, .ref (eb E + (L + 6)), .ref (eb E + (L + 7)), .int 0, .int 0, .ref (eb E + (L + 8)), .ref (eb E + (L + 9)), .ref (eb E + (L + 10)), .int 0, .int 0, .int 0, .int 0, .null, .int 0, .null, .int 0, .null, .null, .null, .null, .null, .null, .int 0, .int 0, .int 0])) ++ [.inl (E.2.2.2.2 0, 322, .inl (fun _ => 0)), .inl (E.2.2.2.2 0, 322, .inl (fun _ => 0)), .inl (E.2.2.2.2 0, 74, .inl (fun _ => 0)), .inl (E.2.2.2.2 0, 200, .inl (fun _ => 0)), .inl (E.2.2.2.2 0, 200, .inl (fun _ => 0)), .inl (E.2.2.2.2 2, 144, .inl (ltF)), .inl (E.2.2.2.2 0, 200, .inl (fun _ => 0)), .inl (E.2.2.2.2 0, 24, .inl (fun _ => 0)), .inl (E.2.2.2.2 0, 370, .inl (fun _ => 0)), .inl (E.2.2.2.2 0, 4, .inl (fun _ => 0)), .inl (E.2.2.2.2 0, 4, .inl (fun _ => 0)), .inl (E.2.2.2.2 0, 16, .inl (fun _ => 0))]) H locs) => ?_)
  refine T_put F P ho hin kpX12_44 rfl rfl (Nat.le_of_ble_eq_true rfl) zX12_init_976 (fun H locs (P : PK E s (cs.set o (.inr (12, [.ref (eb E + (L + 0)), .ref (eb E + (L + 1)), .ref (eb E + (L + 2)), .int 0, .ref (eb E + (L + 3)), .ref (eb E + (L + 4)), .int 0, .ref (eb E + (L + 5)), .int 0, .int 0, .int 0, .int 0, .int 0, .int 0, .ref (eb E + (L + 6)), .ref (eb E + (L + 7)), .int 0, .int 0, .ref (eb E + (L + 8)), .ref (eb E + (L + 9)), .ref (eb E + (L + 10)), .int 0, .int 0, .int 0, .int 0, .ref (eb E + (L + 11)), .int 0, .null, .int 0, .null, .null, .null, .null, .null, .null, .int 0, .int 0, .int 0])) ++ [.inl (E.2.2.2.2 0, 322, .inl (fun _ => 0)), .inl (E.2.2.2.2 0, 322, .inl (fun _ => 0)), .inl (E.2.2.2.2 0, 74, .inl (fun _ => 0)), .inl (E.2.2.2.2 0, 200, .inl (fun _ => 0)), .inl (E.2.2.2.2 0, 200, .inl (fun _ => 0)), .inl (E.2.2.2.2 2, 144, .inl (ltF)), .inl (E.2.2.2.2 0, 200, .inl (fun _ => 0)), .inl (E.2.2.2.2 0, 24, .inl (fun _ => 0)), .inl (E.2.2.2.2 0, 370, .inl (fun _ => 0)), .inl (E.2.2.2.2 0, 4, .inl (fun _ => 0)), .inl (E.2.2.2.2 0, 4, .inl (fun _ => 0)), .inl (E.2.2.2.2 0, 16, .inl (fun _ => 0))]) H locs) => ?_)
  refine lv_aload_n F.1 F.2.1 zX12_init_979 rfl (lv_at hl 0 rfl) ?_
  refine lv_bipush F.1 F.2.1 zX12_init_980 kb12 ?_
  refine T_newI F P hL rfl kacI rfl (by decide) (Nat.le_of_ble_eq_true rfl) (Nat.le_of_ble_eq_true rfl) zX12_init_982 (fun H (P : PK E s (cs.set o (.inr (12, [.ref (eb E + (L + 0)), .ref (eb E + (L + 1)), .ref (eb E + (L + 2)), .int 0, .ref (eb E + (L + 3)), .ref (eb E + (L + 4)), .int 0, .ref (eb E + (L + 5)), .int 0, .int 0, .int 0, .int 0, .int 0, .int 0, .ref (eb E + (L + 6)), .ref (eb E + (L + 7)), .int 0, .int 0, .ref (eb E + (L + 8)), .ref (eb E + (L + 9)), .ref (eb E + (L + 10)), .int 0, .int 0, .int 0, .int 0, .ref (eb E + (L + 11)), .int 0, .null, .int 0, .null, .null, .null, .null, .null, .null, .int 0, .int 0, .int 0])) ++ [.inl (E.2.2.2.2 0, 322, .inl (fun _ => 0)), .inl (E.2.2.2.2 0, 322, .inl (fun _ => 0)), .inl (E.2.2.2.2 0, 74, .inl (fun _ => 0)), .inl (E.2.2.2.2 0, 200, .inl (fun _ => 0)), .inl (E.2.2.2.2 0, 200, .inl (fun _ => 0)), .inl (E.2.2.2.2 2, 144, .inl (ltF)), .inl (E.2.2.2.2 0, 200, .inl (fun _ => 0)), .inl (E.2.2.2.2 0, 24, .inl (fun _ => 0)), .inl (E.2.2.2.2 0, 370, .inl (fun _ => 0)), .inl (E.2.2.2.2 0, 4, .inl (fun _ => 0)), .inl (E.2.2.2.2 0, 4, .inl (fun _ => 0)), .inl (E.2.2.2.2 0, 16, .inl (fun _ => 0)), .inl (E.2.2.2.2 0, 12, .inl (fun _ => 0))]) H locs) => ?_)
  refine T_put F P ho hin kpX12_47 rfl rfl (Nat.le_of_ble_eq_true rfl) zX12_init_984 (fun H locs (P : PK E s (cs.set o (.inr (12, [.ref (eb E + (L + 0)), .ref (eb E + (L + 1)), .ref (eb E + (L + 2)), .int 0, .ref (eb E + (L + 3)), .ref (eb E + (L + 4)), .int 0, .ref (eb E + (L + 5)), .int 0, .int 0, .int 0, .int 0, .int 0, .int 0, .ref (eb E + (L + 6)), .ref (eb E + (L + 7)), .int 0, .int 0, .ref (eb E + (L + 8)), .ref (eb E + (L + 9)), .ref (eb E + (L + 10)), .int 0, .int 0, .int 0, .int 0, .ref (eb E + (L + 11)), .int 0, .ref (eb E + (L + 12)), .int 0, .null, .null, .null, .null, .null, .null, .int 0, .int 0, .int 0])) ++ [.inl (E.2.2.2.2 0, 322, .inl (fun _ => 0)), .inl (E.2.2.2.2 0, 322, .inl (fun _ => 0)), .inl (E.2.2.2.2 0, 74, .inl (fun _ => 0)), .inl (E.2.2.2.2 0, 200, .inl (fun _ => 0)), .inl (E.2.2.2.2 0, 200, .inl (fun _ => 0)), .inl (E.2.2.2.2 2, 144, .inl (ltF)), .inl (E.2.2.2.2 0, 200, .inl (fun _ => 0)), .inl (E.2.2.2.2 0, 24, .inl (fun _ => 0)), .inl (E.2.2.2.2 0, 370, .inl (fun _ => 0)), .inl (E.2.2.2.2 0, 4, .inl (fun _ => 0)), .inl (E.2.2.2.2 0, 4, .inl (fun _ => 0)), .inl (E.2.2.2.2 0, 16, .inl (fun _ => 0)), .inl (E.2.2.2.2 0, 12, .inl (fun _ => 0))]) H locs) => ?_)
  refine lv_aload_n F.1 F.2.1 zX12_init_987 rfl (lv_at hl 0 rfl) ?_
  refine lv_iconst F.1 F.2.1 zX12_init_988 kc4 ?_
  refine T_newI F P hL rfl kacI rfl (by decide) (Nat.le_of_ble_eq_true rfl) (Nat.le_of_ble_eq_true rfl) zX12_init_989 (fun H (P : PK E s (cs.set o (.inr (12, [.ref (eb E + (L + 0)), .ref (eb E + (L + 1)), .ref (eb E + (L + 2)), .int 0, .ref (eb E + (L + 3)), .ref (eb E + (L + 4)), .int 0, .ref (eb E + (L + 5)), .int 0, .int 0, .int 0, .int 0, .int 0, .int 0, .ref (eb E + (L + 6)), .ref (eb E + (L + 7)), .int 0, .int 0, .ref (eb E + (L + 8)), .ref (eb E + (L + 9)), .ref (eb E + (L + 10)), .int 0, .int 0, .int 0, .int 0, .ref (eb E + (L + 11)), .int 0, .ref (eb E + (L + 12)), .int 0, .null, .null, .null, .null, .null, .null, .int 0, .int 0, .int 0])) ++ [.inl (E.2.2.2.2 0, 322, .inl (fun _ => 0)), .inl (E.2.2.2.2 0, 322, .inl (fun _ => 0)), .inl (E.2.2.2.2 0, 74, .inl (fun _ => 0)), .inl (E.2.2.2.2 0, 200, .inl (fun _ => 0)), .inl (E.2.2.2.2 0, 200, .inl (fun _ => 0)), .inl (E.2.2.2.2 2, 144, .inl (ltF)), .inl (E.2.2.2.2 0, 200, .inl (fun _ => 0)), .inl (E.2.2.2.2 0, 24, .inl (fun _ => 0)), .inl (E.2.2.2.2 0, 370, .inl (fun _ => 0)), .inl (E.2.2.2.2 0, 4, .inl (fun _ => 0)), .inl (E.2.2.2.2 0, 4, .inl (fun _ => 0)), .inl (E.2.2.2.2 0, 16, .inl (fun _ => 0)), .inl (E.2.2.2.2 0, 12, .inl (fun _ => 0)), .inl (E.2.2.2.2 0, 4, .inl (fun _ => 0))]) H locs) => ?_)
  refine lv_dup F.1 F.2.1 zX12_init_991 rfl ?_
  refine lv_iconst F.1 F.2.1 zX12_init_992 kc0 ?_
  refine lv_iconst F.1 F.2.1 zX12_init_993 kcm1 ?_
  refine T_iast F P hL rfl rfl (by decide) (by decide) zX12_init_994 (fun H locs (P : PK E s (cs.set o (.inr (12, [.ref (eb E + (L + 0)), .ref (eb E + (L + 1)), .ref (eb E + (L + 2)), .int 0, .ref (eb E + (L + 3)), .ref (eb E + (L + 4)), .int 0, .ref (eb E + (L + 5)), .int 0, .int 0, .int 0, .int 0, .int 0, .int 0, .ref (eb E + (L + 6)), .ref (eb E + (L + 7)), .int 0, .int 0, .ref (eb E + (L + 8)), .ref (eb E + (L + 9)), .ref (eb E + (L + 10)), .int 0, .int 0, .int 0, .int 0, .ref (eb E + (L + 11)), .int 0, .ref (eb E + (L + 12)), .int 0, .null, .null, .null, .null, .null, .null, .int 0, .int 0, .int 0])) ++ [.inl (E.2.2.2.2 0, 322, .inl (fun _ => 0)), .inl (E.2.2.2.2 0, 322, .inl (fun _ => 0)), .inl (E.2.2.2.2 0, 74, .inl (fun _ => 0)), .inl (E.2.2.2.2 0, 200, .inl (fun _ => 0)), .inl (E.2.2.2.2 0, 200, .inl (fun _ => 0)), .inl (E.2.2.2.2 2, 144, .inl (ltF)), .inl (E.2.2.2.2 0, 200, .inl (fun _ => 0)), .inl (E.2.2.2.2 0, 24, .inl (fun _ => 0)), .inl (E.2.2.2.2 0, 370, .inl (fun _ => 0)), .inl (E.2.2.2.2 0, 4, .inl (fun _ => 0)), .inl (E.2.2.2.2 0, 4, .inl (fun _ => 0)), .inl (E.2.2.2.2 0, 16, .inl (fun _ => 0)), .inl (E.2.2.2.2 0, 12, .inl (fun _ => 0)), .inl (E.2.2.2.2 0, 4, .inl (upd (fun _ => 0) 0 ((-1 : Int32))))]) H locs) => ?_)
  refine lv_dup F.1 F.2.1 zX12_init_995 rfl ?_
  refine lv_iconst F.1 F.2.1 zX12_init_996 kc1 ?_
  refine lv_iconst F.1 F.2.1 zX12_init_997 kcm1 ?_
  refine T_iast F P hL rfl rfl (by decide) (by decide) zX12_init_998 (fun H locs (P : PK E s (cs.set o (.inr (12, [.ref (eb E + (L + 0)), .ref (eb E + (L + 1)), .ref (eb E + (L + 2)), .int 0, .ref (eb E + (L + 3)), .ref (eb E + (L + 4)), .int 0, .ref (eb E + (L + 5)), .int 0, .int 0, .int 0, .int 0, .int 0, .int 0, .ref (eb E + (L + 6)), .ref (eb E + (L + 7)), .int 0, .int 0, .ref (eb E + (L + 8)), .ref (eb E + (L + 9)), .ref (eb E + (L + 10)), .int 0, .int 0, .int 0, .int 0, .ref (eb E + (L + 11)), .int 0, .ref (eb E + (L + 12)), .int 0, .null, .null, .null, .null, .null, .null, .int 0, .int 0, .int 0])) ++ [.inl (E.2.2.2.2 0, 322, .inl (fun _ => 0)), .inl (E.2.2.2.2 0, 322, .inl (fun _ => 0)), .inl (E.2.2.2.2 0, 74, .inl (fun _ => 0)), .inl (E.2.2.2.2 0, 200, .inl (fun _ => 0)), .inl (E.2.2.2.2 0, 200, .inl (fun _ => 0)), .inl (E.2.2.2.2 2, 144, .inl (ltF)), .inl (E.2.2.2.2 0, 200, .inl (fun _ => 0)), .inl (E.2.2.2.2 0, 24, .inl (fun _ => 0)), .inl (E.2.2.2.2 0, 370, .inl (fun _ => 0)), .inl (E.2.2.2.2 0, 4, .inl (fun _ => 0)), .inl (E.2.2.2.2 0, 4, .inl (fun _ => 0)), .inl (E.2.2.2.2 0, 16, .inl (fun _ => 0)), .inl (E.2.2.2.2 0, 12, .inl (fun _ => 0)), .inl (E.2.2.2.2 0, 4, .inl (upd (upd (fun _ => 0) 0 ((-1 : Int32))) 1 ((-1 : Int32))))]) H locs) => ?_)
  refine lv_dup F.1 F.2.1 zX12_init_999 rfl ?_
  refine lv_iconst F.1 F.2.1 zX12_init_1000 kc2 ?_
  refine lv_iconst F.1 F.2.1 zX12_init_1001 kcm1 ?_
  refine T_iast F P hL rfl rfl (by decide) (by decide) zX12_init_1002 (fun H locs (P : PK E s (cs.set o (.inr (12, [.ref (eb E + (L + 0)), .ref (eb E + (L + 1)), .ref (eb E + (L + 2)), .int 0, .ref (eb E + (L + 3)), .ref (eb E + (L + 4)), .int 0, .ref (eb E + (L + 5)), .int 0, .int 0, .int 0, .int 0, .int 0, .int 0, .ref (eb E + (L + 6)), .ref (eb E + (L + 7)), .int 0, .int 0, .ref (eb E + (L + 8)), .ref (eb E + (L + 9)), .ref (eb E + (L + 10)), .int 0, .int 0, .int 0, .int 0, .ref (eb E + (L + 11)), .int 0, .ref (eb E + (L + 12)), .int 0, .null, .null, .null, .null, .null, .null, .int 0, .int 0, .int 0])) ++ [.inl (E.2.2.2.2 0, 322, .inl (fun _ => 0)), .inl (E.2.2.2.2 0, 322, .inl (fun _ => 0)), .inl (E.2.2.2.2 0, 74, .inl (fun _ => 0)), .inl (E.2.2.2.2 0, 200, .inl (fun _ => 0)), .inl (E.2.2.2.2 0, 200, .inl (fun _ => 0)), .inl (E.2.2.2.2 2, 144, .inl (ltF)), .inl (E.2.2.2.2 0, 200, .inl (fun _ => 0)), .inl (E.2.2.2.2 0, 24, .inl (fun _ => 0)), .inl (E.2.2.2.2 0, 370, .inl (fun _ => 0)), .inl (E.2.2.2.2 0, 4, .inl (fun _ => 0)), .inl (E.2.2.2.2 0, 4, .inl (fun _ => 0)), .inl (E.2.2.2.2 0, 16, .inl (fun _ => 0)), .inl (E.2.2.2.2 0, 12, .inl (fun _ => 0)), .inl (E.2.2.2.2 0, 4, .inl (upd (upd (upd (fun _ => 0) 0 ((-1 : Int32))) 1 ((-1 : Int32))) 2 ((-1 : Int32))))]) H locs) => ?_)
  refine lv_dup F.1 F.2.1 zX12_init_1003 rfl ?_
  refine lv_iconst F.1 F.2.1 zX12_init_1004 kc3 ?_
  refine lv_iconst F.1 F.2.1 zX12_init_1005 kcm1 ?_
  refine T_iast F P hL rfl rfl (by decide) (by decide) zX12_init_1006 (fun H locs (P : PK E s (cs.set o (.inr (12, [.ref (eb E + (L + 0)), .ref (eb E + (L + 1)), .ref (eb E + (L + 2)), .int 0, .ref (eb E + (L + 3)), .ref (eb E + (L + 4)), .int 0, .ref (eb E + (L + 5)), .int 0, .int 0, .int 0, .int 0, .int 0, .int 0, .ref (eb E + (L + 6)), .ref (eb E + (L + 7)), .int 0, .int 0, .ref (eb E + (L + 8)), .ref (eb E + (L + 9)), .ref (eb E + (L + 10)), .int 0, .int 0, .int 0, .int 0, .ref (eb E + (L + 11)), .int 0, .ref (eb E + (L + 12)), .int 0, .null, .null, .null, .null, .null, .null, .int 0, .int 0, .int 0])) ++ [.inl (E.2.2.2.2 0, 322, .inl (fun _ => 0)), .inl (E.2.2.2.2 0, 322, .inl (fun _ => 0)), .inl (E.2.2.2.2 0, 74, .inl (fun _ => 0)), .inl (E.2.2.2.2 0, 200, .inl (fun _ => 0)), .inl (E.2.2.2.2 0, 200, .inl (fun _ => 0)), .inl (E.2.2.2.2 2, 144, .inl (ltF)), .inl (E.2.2.2.2 0, 200, .inl (fun _ => 0)), .inl (E.2.2.2.2 0, 24, .inl (fun _ => 0)), .inl (E.2.2.2.2 0, 370, .inl (fun _ => 0)), .inl (E.2.2.2.2 0, 4, .inl (fun _ => 0)), .inl (E.2.2.2.2 0, 4, .inl (fun _ => 0)), .inl (E.2.2.2.2 0, 16, .inl (fun _ => 0)), .inl (E.2.2.2.2 0, 12, .inl (fun _ => 0)), .inl (E.2.2.2.2 0, 4, .inl (upd (upd (upd (upd (fun _ => 0) 0 ((-1 : Int32))) 1 ((-1 : Int32))) 2 ((-1 : Int32))) 3 ((-1 : Int32))))]) H locs) => ?_)
  refine T_put F P ho hin kpX12_50 rfl rfl (Nat.le_of_ble_eq_true rfl) zX12_init_1007 (fun H locs (P : PK E s (cs.set o (.inr (12, [.ref (eb E + (L + 0)), .ref (eb E + (L + 1)), .ref (eb E + (L + 2)), .int 0, .ref (eb E + (L + 3)), .ref (eb E + (L + 4)), .int 0, .ref (eb E + (L + 5)), .int 0, .int 0, .int 0, .int 0, .int 0, .int 0, .ref (eb E + (L + 6)), .ref (eb E + (L + 7)), .int 0, .int 0, .ref (eb E + (L + 8)), .ref (eb E + (L + 9)), .ref (eb E + (L + 10)), .int 0, .int 0, .int 0, .int 0, .ref (eb E + (L + 11)), .int 0, .ref (eb E + (L + 12)), .int 0, .ref (eb E + (L + 13)), .null, .null, .null, .null, .null, .int 0, .int 0, .int 0])) ++ [.inl (E.2.2.2.2 0, 322, .inl (fun _ => 0)), .inl (E.2.2.2.2 0, 322, .inl (fun _ => 0)), .inl (E.2.2.2.2 0, 74, .inl (fun _ => 0)), .inl (E.2.2.2.2 0, 200, .inl (fun _ => 0)), .inl (E.2.2.2.2 0, 200, .inl (fun _ => 0)), .inl (E.2.2.2.2 2, 144, .inl (ltF)), .inl (E.2.2.2.2 0, 200, .inl (fun _ => 0)), .inl (E.2.2.2.2 0, 24, .inl (fun _ => 0)), .inl (E.2.2.2.2 0, 370, .inl (fun _ => 0)), .inl (E.2.2.2.2 0, 4, .inl (fun _ => 0)), .inl (E.2.2.2.2 0, 4, .inl (fun _ => 0)), .inl (E.2.2.2.2 0, 16, .inl (fun _ => 0)), .inl (E.2.2.2.2 0, 12, .inl (fun _ => 0)), .inl (E.2.2.2.2 0, 4, .inl (upd (upd (upd (upd (fun _ => 0) 0 ((-1 : Int32))) 1 ((-1 : Int32))) 2 ((-1 : Int32))) 3 ((-1 : Int32))))]) H locs) => ?_)
  refine lv_aload_n F.1 F.2.1 zX12_init_1010 rfl (lv_at hl 0 rfl) ?_
  refine lv_iconst F.1 F.2.1 zX12_init_1011 kc4 ?_
  refine T_newI F P hL rfl kacI rfl (by decide) (Nat.le_of_ble_eq_true rfl) (Nat.le_of_ble_eq_true rfl) zX12_init_1012 (fun H (P : PK E s (cs.set o (.inr (12, [.ref (eb E + (L + 0)), .ref (eb E + (L + 1)), .ref (eb E + (L + 2)), .int 0, .ref (eb E + (L + 3)), .ref (eb E + (L + 4)), .int 0, .ref (eb E + (L + 5)), .int 0, .int 0, .int 0, .int 0, .int 0, .int 0, .ref (eb E + (L + 6)), .ref (eb E + (L + 7)), .int 0, .int 0, .ref (eb E + (L + 8)), .ref (eb E + (L + 9)), .ref (eb E + (L + 10)), .int 0, .int 0, .int 0, .int 0, .ref (eb E + (L + 11)), .int 0, .ref (eb E + (L + 12)), .int 0, .ref (eb E + (L + 13)), .null, .null, .null, .null, .null, .int 0, .int 0, .int 0])) ++ [.inl (E.2.2.2.2 0, 322, .inl (fun _ => 0)), .inl (E.2.2.2.2 0, 322, .inl (fun _ => 0)), .inl (E.2.2.2.2 0, 74, .inl (fun _ => 0)), .inl (E.2.2.2.2 0, 200, .inl (fun _ => 0)), .inl (E.2.2.2.2 0, 200, .inl (fun _ => 0)), .inl (E.2.2.2.2 2, 144, .inl (ltF)), .inl (E.2.2.2.2 0, 200, .inl (fun _ => 0)), .inl (E.2.2.2.2 0, 24, .inl (fun _ => 0)), .inl (E.2.2.2.2 0, 370, .inl (fun _ => 0)), .inl (E.2.2.2.2 0, 4, .inl (fun _ => 0)), .inl (E.2.2.2.2 0, 4, .inl (fun _ => 0)), .inl (E.2.2.2.2 0, 16, .inl (fun _ => 0)), .inl (E.2.2.2.2 0, 12, .inl (fun _ => 0)), .inl (E.2.2.2.2 0, 4, .inl (upd (upd (upd (upd (fun _ => 0) 0 ((-1 : Int32))) 1 ((-1 : Int32))) 2 ((-1 : Int32))) 3 ((-1 : Int32)))), .inl (E.2.2.2.2 0, 4, .inl (fun _ => 0))]) H locs) => ?_)
  refine T_put F P ho hin kpX12_53 rfl rfl (Nat.le_of_ble_eq_true rfl) zX12_init_1014 (fun H locs (P : PK E s (cs.set o (.inr (12, [.ref (eb E + (L + 0)), .ref (eb E + (L + 1)), .ref (eb E + (L + 2)), .int 0, .ref (eb E + (L + 3)), .ref (eb E + (L + 4)), .int 0, .ref (eb E + (L + 5)), .int 0, .int 0, .int 0, .int 0, .int 0, .int 0, .ref (eb E + (L + 6)), .ref (eb E + (L + 7)), .int 0, .int 0, .ref (eb E + (L + 8)), .ref (eb E + (L + 9)), .ref (eb E + (L + 10)), .int 0, .int 0, .int 0, .int 0, .ref (eb E + (L + 11)), .int 0, .ref (eb E + (L + 12)), .int 0, .ref (eb E + (L + 13)), .ref (eb E + (L + 14)), .null, .null, .null, .null, .int 0, .int 0, .int 0])) ++ [.inl (E.2.2.2.2 0, 322, .inl (fun _ => 0)), .inl (E.2.2.2.2 0, 322, .inl (fun _ => 0)), .inl (E.2.2.2.2 0, 74, .inl (fun _ => 0)), .inl (E.2.2.2.2 0, 200, .inl (fun _ => 0)), .inl (E.2.2.2.2 0, 200, .inl (fun _ => 0)), .inl (E.2.2.2.2 2, 144, .inl (ltF)), .inl (E.2.2.2.2 0, 200, .inl (fun _ => 0)), .inl (E.2.2.2.2 0, 24, .inl (fun _ => 0)), .inl (E.2.2.2.2 0, 370, .inl (fun _ => 0)), .inl (E.2.2.2.2 0, 4, .inl (fun _ => 0)), .inl (E.2.2.2.2 0, 4, .inl (fun _ => 0)), .inl (E.2.2.2.2 0, 16, .inl (fun _ => 0)), .inl (E.2.2.2.2 0, 12, .inl (fun _ => 0)), .inl (E.2.2.2.2 0, 4, .inl (upd (upd (upd (upd (fun _ => 0) 0 ((-1 : Int32))) 1 ((-1 : Int32))) 2 ((-1 : Int32))) 3 ((-1 : Int32)))), .inl (E.2.2.2.2 0, 4, .inl (fun _ => 0))]) H locs) => ?_)
  refine lv_aload_n F.1 F.2.1 zX12_init_1017 rfl (lv_at hl 0 rfl) ?_
  refine lv_sipush F.1 F.2.1 zX12_init_1018 ks160 ?_
  refine T_newI F P hL rfl kacI rfl (by decide) (Nat.le_of_ble_eq_true rfl) (Nat.le_of_ble_eq_true rfl) zX12_init_1021 (fun H (P : PK E s (cs.set o (.inr (12, [.ref (eb E + (L + 0)), .ref (eb E + (L + 1)), .ref (eb E + (L + 2)), .int 0, .ref (eb E + (L + 3)), .ref (eb E + (L + 4)), .int 0, .ref (eb E + (L + 5)), .int 0, .int 0, .int 0, .int 0, .int 0, .int 0, .ref (eb E + (L + 6)), .ref (eb E + (L + 7)), .int 0, .int 0, .ref (eb E + (L + 8)), .ref (eb E + (L + 9)), .ref (eb E + (L + 10)), .int 0, .int 0, .int 0, .int 0, .ref (eb E + (L + 11)), .int 0, .ref (eb E + (L + 12)), .int 0, .ref (eb E + (L + 13)), .ref (eb E + (L + 14)), .null, .null, .null, .null, .int 0, .int 0, .int 0])) ++ [.inl (E.2.2.2.2 0, 322, .inl (fun _ => 0)), .inl (E.2.2.2.2 0, 322, .inl (fun _ => 0)), .inl (E.2.2.2.2 0, 74, .inl (fun _ => 0)), .inl (E.2.2.2.2 0, 200, .inl (fun _ => 0)), .inl (E.2.2.2.2 0, 200, .inl (fun _ => 0)), .inl (E.2.2.2.2 2, 144, .inl (ltF)), .inl (E.2.2.2.2 0, 200, .inl (fun _ => 0)), .inl (E.2.2.2.2 0, 24, .inl (fun _ => 0)), .inl (E.2.2.2.2 0, 370, .inl (fun _ => 0)), .inl (E.2.2.2.2 0, 4, .inl (fun _ => 0)), .inl (E.2.2.2.2 0, 4, .inl (fun _ => 0)), .inl (E.2.2.2.2 0, 16, .inl (fun _ => 0)), .inl (E.2.2.2.2 0, 12, .inl (fun _ => 0)), .inl (E.2.2.2.2 0, 4, .inl (upd (upd (upd (upd (fun _ => 0) 0 ((-1 : Int32))) 1 ((-1 : Int32))) 2 ((-1 : Int32))) 3 ((-1 : Int32)))), .inl (E.2.2.2.2 0, 4, .inl (fun _ => 0)), .inl (E.2.2.2.2 0, 160, .inl (fun _ => 0))]) H locs) => ?_)
  refine T_put F P ho hin kpX12_56 rfl rfl (Nat.le_of_ble_eq_true rfl) zX12_init_1023 (fun H locs (P : PK E s (cs.set o (.inr (12, [.ref (eb E + (L + 0)), .ref (eb E + (L + 1)), .ref (eb E + (L + 2)), .int 0, .ref (eb E + (L + 3)), .ref (eb E + (L + 4)), .int 0, .ref (eb E + (L + 5)), .int 0, .int 0, .int 0, .int 0, .int 0, .int 0, .ref (eb E + (L + 6)), .ref (eb E + (L + 7)), .int 0, .int 0, .ref (eb E + (L + 8)), .ref (eb E + (L + 9)), .ref (eb E + (L + 10)), .int 0, .int 0, .int 0, .int 0, .ref (eb E + (L + 11)), .int 0, .ref (eb E + (L + 12)), .int 0, .ref (eb E + (L + 13)), .ref (eb E + (L + 14)), .ref (eb E + (L + 15)), .null, .null, .null, .int 0, .int 0, .int 0])) ++ [.inl (E.2.2.2.2 0, 322, .inl (fun _ => 0)), .inl (E.2.2.2.2 0, 322, .inl (fun _ => 0)), .inl (E.2.2.2.2 0, 74, .inl (fun _ => 0)), .inl (E.2.2.2.2 0, 200, .inl (fun _ => 0)), .inl (E.2.2.2.2 0, 200, .inl (fun _ => 0)), .inl (E.2.2.2.2 2, 144, .inl (ltF)), .inl (E.2.2.2.2 0, 200, .inl (fun _ => 0)), .inl (E.2.2.2.2 0, 24, .inl (fun _ => 0)), .inl (E.2.2.2.2 0, 370, .inl (fun _ => 0)), .inl (E.2.2.2.2 0, 4, .inl (fun _ => 0)), .inl (E.2.2.2.2 0, 4, .inl (fun _ => 0)), .inl (E.2.2.2.2 0, 16, .inl (fun _ => 0)), .inl (E.2.2.2.2 0, 12, .inl (fun _ => 0)), .inl (E.2.2.2.2 0, 4, .inl (upd (upd (upd (upd (fun _ => 0) 0 ((-1 : Int32))) 1 ((-1 : Int32))) 2 ((-1 : Int32))) 3 ((-1 : Int32)))), .inl (E.2.2.2.2 0, 4, .inl (fun _ => 0)), .inl (E.2.2.2.2 0, 160, .inl (fun _ => 0))]) H locs) => ?_)
  refine lv_aload_n F.1 F.2.1 zX12_init_1026 rfl (lv_at hl 0 rfl) ?_
  refine lv_iconst F.1 F.2.1 zX12_init_1027 kc4 ?_
  refine T_newI F P hL rfl kacI rfl (by decide) (Nat.le_of_ble_eq_true rfl) (Nat.le_of_ble_eq_true rfl) zX12_init_1028 (fun H (P : PK E s (cs.set o (.inr (12, [.ref (eb E + (L + 0)), .ref (eb E + (L + 1)), .ref (eb E + (L + 2)), .int 0, .ref (eb E + (L + 3)), .ref (eb E + (L + 4)), .int 0, .ref (eb E + (L + 5)), .int 0, .int 0, .int 0, .int 0, .int 0, .int 0, .ref (eb E + (L + 6)), .ref (eb E + (L + 7)), .int 0, .int 0, .ref (eb E + (L + 8)), .ref (eb E + (L + 9)), .ref (eb E + (L + 10)), .int 0, .int 0, .int 0, .int 0, .ref (eb E + (L + 11)), .int 0, .ref (eb E + (L + 12)), .int 0, .ref (eb E + (L + 13)), .ref (eb E + (L + 14)), .ref (eb E + (L + 15)), .null, .null, .null, .int 0, .int 0, .int 0])) ++ [.inl (E.2.2.2.2 0, 322, .inl (fun _ => 0)), .inl (E.2.2.2.2 0, 322, .inl (fun _ => 0)), .inl (E.2.2.2.2 0, 74, .inl (fun _ => 0)), .inl (E.2.2.2.2 0, 200, .inl (fun _ => 0)), .inl (E.2.2.2.2 0, 200, .inl (fun _ => 0)), .inl (E.2.2.2.2 2, 144, .inl (ltF)), .inl (E.2.2.2.2 0, 200, .inl (fun _ => 0)), .inl (E.2.2.2.2 0, 24, .inl (fun _ => 0)), .inl (E.2.2.2.2 0, 370, .inl (fun _ => 0)), .inl (E.2.2.2.2 0, 4, .inl (fun _ => 0)), .inl (E.2.2.2.2 0, 4, .inl (fun _ => 0)), .inl (E.2.2.2.2 0, 16, .inl (fun _ => 0)), .inl (E.2.2.2.2 0, 12, .inl (fun _ => 0)), .inl (E.2.2.2.2 0, 4, .inl (upd (upd (upd (upd (fun _ => 0) 0 ((-1 : Int32))) 1 ((-1 : Int32))) 2 ((-1 : Int32))) 3 ((-1 : Int32)))), .inl (E.2.2.2.2 0, 4, .inl (fun _ => 0)), .inl (E.2.2.2.2 0, 160, .inl (fun _ => 0)), .inl (E.2.2.2.2 0, 4, .inl (fun _ => 0))]) H locs) => ?_)
  refine lv_dup F.1 F.2.1 zX12_init_1030 rfl ?_
  refine lv_iconst F.1 F.2.1 zX12_init_1031 kc0 ?_
  refine lv_iconst F.1 F.2.1 zX12_init_1032 kcm1 ?_
  refine T_iast F P hL rfl rfl (by decide) (by decide) zX12_init_1033 (fun H locs (P : PK E s (cs.set o (.inr (12, [.ref (eb E + (L + 0)), .ref (eb E + (L + 1)), .ref (eb E + (L + 2)), .int 0, .ref (eb E + (L + 3)), .ref (eb E + (L + 4)), .int 0, .ref (eb E + (L + 5)), .int 0, .int 0, .int 0, .int 0, .int 0, .int 0, .ref (eb E + (L + 6)), .ref (eb E + (L + 7)), .int 0, .int 0, .ref (eb E + (L + 8)), .ref (eb E + (L + 9)), .ref (eb E + (L + 10)), .int 0, .int 0, .int 0, .int 0, .ref (eb E + (L + 11)), .int 0, .ref (eb E + (L + 12)), .int 0, .ref (eb E + (L + 13)), .ref (eb E + (L + 14)), .ref (eb E + (L + 15)), .null, .null, .null, .int 0, .int 0, .int 0])) ++ [.inl (E.2.2.2.2 0, 322, .inl (fun _ => 0)), .inl (E.2.2.2.2 0, 322, .inl (fun _ => 0)), .inl (E.2.2.2.2 0, 74, .inl (fun _ => 0)), .inl (E.2.2.2.2 0, 200, .inl (fun _ => 0)), .inl (E.2.2.2.2 0, 200, .inl (fun _ => 0)), .inl (E.2.2.2.2 2, 144, .inl (ltF)), .inl (E.2.2.2.2 0, 200, .inl (fun _ => 0)), .inl (E.2.2.2.2 0, 24, .inl (fun _ => 0)), .inl (E.2.2.2.2 0, 370, .inl (fun _ => 0)), .inl (E.2.2.2.2 0, 4, .inl (fun _ => 0)), .inl (E.2.2.2.2 0, 4, .inl (fun _ => 0)), .inl (E.2.2.2.2 0, 16, .inl (fun _ => 0)), .inl (E.2.2.2.2 0, 12, .inl (fun _ => 0)), .inl (E.2.2.2.2 0, 4, .inl (upd (upd (upd (upd (fun _ => 0) 0 ((-1 : Int32))) 1 ((-1 : Int32))) 2 ((-1 : Int32))) 3 ((-1 : Int32)))), .inl (E.2.2.2.2 0, 4, .inl (fun _ => 0)), .inl (E.2.2.2.2 0, 160, .inl (fun _ => 0)), .inl (E.2.2.2.2 0, 4, .inl (upd (fun _ => 0) 0 ((-1 : Int32))))]) H locs) => ?_)
  refine lv_dup F.1 F.2.1 zX12_init_1034 rfl ?_
  refine lv_iconst F.1 F.2.1 zX12_init_1035 kc1 ?_
  refine lv_iconst F.1 F.2.1 zX12_init_1036 kcm1 ?_
  refine T_iast F P hL rfl rfl (by decide) (by decide) zX12_init_1037 (fun H locs (P : PK E s (cs.set o (.inr (12, [.ref (eb E + (L + 0)), .ref (eb E + (L + 1)), .ref (eb E + (L + 2)), .int 0, .ref (eb E + (L + 3)), .ref (eb E + (L + 4)), .int 0, .ref (eb E + (L + 5)), .int 0, .int 0, .int 0, .int 0, .int 0, .int 0, .ref (eb E + (L + 6)), .ref (eb E + (L + 7)), .int 0, .int 0, .ref (eb E + (L + 8)), .ref (eb E + (L + 9)), .ref (eb E + (L + 10)), .int 0, .int 0, .int 0, .int 0, .ref (eb E + (L + 11)), .int 0, .ref (eb E + (L + 12)), .int 0, .ref (eb E + (L + 13)), .ref (eb E + (L + 14)), .ref (eb E + (L + 15)), .null, .null, .null, .int 0, .int 0, .int 0])) ++ [.inl (E.2.2.2.2 0, 322, .inl (fun _ => 0)), .inl (E.2.2.2.2 0, 322, .inl (fun _ => 0)), .inl (E.2.2.2.2 0, 74, .inl (fun _ => 0)), .inl (E.2.2.2.2 0, 200, .inl (fun _ => 0)), .inl (E.2.2.2.2 0, 200, .inl (fun _ => 0)), .inl (E.2.2.2.2 2, 144, .inl (ltF)), .inl (E.2.2.2.2 0, 200, .inl (fun _ => 0)), .inl (E.2.2.2.2 0, 24, .inl (fun _ => 0)), .inl (E.2.2.2.2 0, 370, .inl (fun _ => 0)), .inl (E.2.2.2.2 0, 4, .inl (fun _ => 0)), .inl (E.2.2.2.2 0, 4, .inl (fun _ => 0)), .inl (E.2.2.2.2 0, 16, .inl (fun _ => 0)), .inl (E.2.2.2.2 0, 12, .inl (fun _ => 0)), .inl (E.2.2.2.2 0, 4, .inl (upd (upd (upd (upd (fun _ => 0) 0 ((-1 : Int32))) 1 ((-1 : Int32))) 2 ((-1 : Int32))) 3 ((-1 : Int32)))), .inl (E.2.2.2.2 0, 4, .inl (fun _ => 0)), .inl (E.2.2.2.2 0, 160, .inl (fun _ => 0)), .inl (E.2.2.2.2 0, 4, .inl (upd (upd (fun _ => 0) 0 ((-1 : Int32))) 1 ((-1 : Int32))))]) H locs) => ?_)
  refine lv_dup F.1 F.2.1 zX12_init_1038 rfl ?_
  refine lv_iconst F.1 F.2.1 zX12_init_1039 kc2 ?_
  refine lv_iconst F.1 F.2.1 zX12_init_1040 kcm1 ?_
  refine T_iast F P hL rfl rfl (by decide) (by decide) zX12_init_1041 (fun H locs (P : PK E s (cs.set o (.inr (12, [.ref (eb E + (L + 0)), .ref (eb E + (L + 1)), .ref (eb E + (L + 2)), .int 0, .ref (eb E + (L + 3)), .ref (eb E + (L + 4)), .int 0, .ref (eb E + (L + 5)), .int 0, .int 0, .int 0, .int 0, .int 0, .int 0, .ref (eb E + (L + 6)), .ref (eb E + (L + 7)), .int 0, .int 0, .ref (eb E + (L + 8)), .ref (eb E + (L + 9)), .ref (eb E + (L + 10)), .int 0, .int 0, .int 0, .int 0, .ref (eb E + (L + 11)), .int 0, .ref (eb E + (L + 12)), .int 0, .ref (eb E + (L + 13)), .ref (eb E + (L + 14)), .ref (eb E + (L + 15)), .null, .null, .null, .int 0, .int 0, .int 0])) ++ [.inl (E.2.2.2.2 0, 322, .inl (fun _ => 0)), .inl (E.2.2.2.2 0, 322, .inl (fun _ => 0)), .inl (E.2.2.2.2 0, 74, .inl (fun _ => 0)), .inl (E.2.2.2.2 0, 200, .inl (fun _ => 0)), .inl (E.2.2.2.2 0, 200, .inl (fun _ => 0)), .inl (E.2.2.2.2 2, 144, .inl (ltF)), .inl (E.2.2.2.2 0, 200, .inl (fun _ => 0)), .inl (E.2.2.2.2 0, 24, .inl (fun _ => 0)), .inl (E.2.2.2.2 0, 370, .inl (fun _ => 0)), .inl (E.2.2.2.2 0, 4, .inl (fun _ => 0)), .inl (E.2.2.2.2 0, 4, .inl (fun _ => 0)), .inl (E.2.2.2.2 0, 16, .inl (fun _ => 0)), .inl (E.2.2.2.2 0, 12, .inl (fun _ => 0)), .inl (E.2.2.2.2 0, 4, .inl (upd (upd (upd (upd (fun _ => 0) 0 ((-1 : Int32))) 1 ((-1 : Int32))) 2 ((-1 : Int32))) 3 ((-1 : Int32)))), .inl (E.2.2.2.2 0, 4, .inl (fun _ => 0)), .inl (E.2.2.2.2 0, 160, .inl (fun _ => 0)), .inl (E.2.2.2.2 0, 4, .inl (upd (upd (upd (fun _ => 0) 0 ((-1 : Int32))) 1 ((-1 : Int32))) 2 ((-1 : Int32))))]) H locs) => ?_)
  refine lv_dup F.1 F.2.1 zX12_init_1042 rfl ?_
  refine lv_iconst F.1 F.2.1 zX12_init_1043 kc3 ?_
  refine lv_iconst F.1 F.2.1 zX12_init_1044 kcm1 ?_
  refine T_iast F P hL rfl rfl (by decide) (by decide) zX12_init_1045 (fun H locs (P : PK E s (cs.set o (.inr (12, [.ref (eb E + (L + 0)), .ref (eb E + (L + 1)), .ref (eb E + (L + 2)), .int 0, .ref (eb E + (L + 3)), .ref (eb E + (L + 4)), .int 0, .ref (eb E + (L + 5)), .int 0, .int 0, .int 0, .int 0, .int 0, .int 0, .ref (eb E + (L + 6)), .ref (eb E + (L + 7)), .int 0, .int 0, .ref (eb E + (L + 8)), .ref (eb E + (L + 9)), .ref (eb E + (L + 10)), .int 0, .int 0, .int 0, .int 0, .ref (eb E + (L + 11)), .int 0, .ref (eb E + (L + 12)), .int 0, .ref (eb E + (L + 13)), .ref (eb E + (L + 14)), .ref (eb E + (L + 15)), .null, .null, .null, .int 0, .int 0, .int 0])) ++ [.inl (E.2.2.2.2 0, 322, .inl (fun _ => 0)), .inl (E.2.2.2.2 0, 322, .inl (fun _ => 0)), .inl (E.2.2.2.2 0, 74, .inl (fun _ => 0)), .inl (E.2.2.2.2 0, 200, .inl (fun _ => 0)), .inl (E.2.2.2.2 0, 200, .inl (fun _ => 0)), .inl (E.2.2.2.2 2, 144, .inl (ltF)), .inl (E.2.2.2.2 0, 200, .inl (fun _ => 0)), .inl (E.2.2.2.2 0, 24, .inl (fun _ => 0)), .inl (E.2.2.2.2 0, 370, .inl (fun _ => 0)), .inl (E.2.2.2.2 0, 4, .inl (fun _ => 0)), .inl (E.2.2.2.2 0, 4, .inl (fun _ => 0)), .inl (E.2.2.2.2 0, 16, .inl (fun _ => 0)), .inl (E.2.2.2.2 0, 12, .inl (fun _ => 0)), .inl (E.2.2.2.2 0, 4, .inl (upd (upd (upd (upd (fun _ => 0) 0 ((-1 : Int32))) 1 ((-1 : Int32))) 2 ((-1 : Int32))) 3 ((-1 : Int32)))), .inl (E.2.2.2.2 0, 4, .inl (fun _ => 0)), .inl (E.2.2.2.2 0, 160, .inl (fun _ => 0)), .inl (E.2.2.2.2 0, 4, .inl (upd (upd (upd (upd (fun _ => 0) 0 ((-1 : Int32))) 1 ((-1 : Int32))) 2 ((-1 : Int32))) 3 ((-1 : Int32))))]) H locs) => ?_)
  refine T_put F P ho hin kpX12_59 rfl rfl (Nat.le_of_ble_eq_true rfl) zX12_init_1046 (fun H locs (P : PK E s (cs.set o (.inr (12, [.ref (eb E + (L + 0)), .ref (eb E + (L + 1)), .ref (eb E + (L + 2)), .int 0, .ref (eb E + (L + 3)), .ref (eb E + (L + 4)), .int 0, .ref (eb E + (L + 5)), .int 0, .int 0, .int 0, .int 0, .int 0, .int 0, .ref (eb E + (L + 6)), .ref (eb E + (L + 7)), .int 0, .int 0, .ref (eb E + (L + 8)), .ref (eb E + (L + 9)), .ref (eb E + (L + 10)), .int 0, .int 0, .int 0, .int 0, .ref (eb E + (L + 11)), .int 0, .ref (eb E + (L + 12)), .int 0, .ref (eb E + (L + 13)), .ref (eb E + (L + 14)), .ref (eb E + (L + 15)), .ref (eb E + (L + 16)), .null, .null, .int 0, .int 0, .int 0])) ++ [.inl (E.2.2.2.2 0, 322, .inl (fun _ => 0)), .inl (E.2.2.2.2 0, 322, .inl (fun _ => 0)), .inl (E.2.2.2.2 0, 74, .inl (fun _ => 0)), .inl (E.2.2.2.2 0, 200, .inl (fun _ => 0)), .inl (E.2.2.2.2 0, 200, .inl (fun _ => 0)), .inl (E.2.2.2.2 2, 144, .inl (ltF)), .inl (E.2.2.2.2 0, 200, .inl (fun _ => 0)), .inl (E.2.2.2.2 0, 24, .inl (fun _ => 0)), .inl (E.2.2.2.2 0, 370, .inl (fun _ => 0)), .inl (E.2.2.2.2 0, 4, .inl (fun _ => 0)), .inl (E.2.2.2.2 0, 4, .inl (fun _ => 0)), .inl (E.2.2.2.2 0, 16, .inl (fun _ => 0)), .inl (E.2.2.2.2 0, 12, .inl (fun _ => 0)), .inl (E.2.2.2.2 0, 4, .inl (upd (upd (upd (upd (fun _ => 0) 0 ((-1 : Int32))) 1 ((-1 : Int32))) 2 ((-1 : Int32))) 3 ((-1 : Int32)))), .inl (E.2.2.2.2 0, 4, .inl (fun _ => 0)), .inl (E.2.2.2.2 0, 160, .inl (fun _ => 0)), .inl (E.2.2.2.2 0, 4, .inl (upd (upd (upd (upd (fun _ => 0) 0 ((-1 : Int32))) 1 ((-1 : Int32))) 2 ((-1 : Int32))) 3 ((-1 : Int32))))]) H locs) => ?_)
  refine lv_aload_n F.1 F.2.1 zX12_init_1049 rfl (lv_at hl 0 rfl) ?_
  refine lv_iconst F.1 F.2.1 zX12_init_1050 kc4 ?_
  refine T_newI F P hL rfl kacI rfl (by decide) (Nat.le_of_ble_eq_true rfl) (Nat.le_of_ble_eq_true rfl) zX12_init_1051 (fun H (P : PK E s (cs.set o (.inr (12, [.ref (eb E + (L + 0)), .ref (eb E + (L + 1)), .ref (eb E + (L + 2)), .int 0, .ref (eb E + (L + 3)), .ref (eb E + (L + 4)), .int 0, .ref (eb E + (L + 5)), .int 0, .int 0, .int 0, .int 0, .int 0, .int 0, .ref (eb E + (L + 6)), .ref (eb E + (L + 7)), .int 0, .int 0, .ref (eb E + (L + 8)), .ref (eb E + (L + 9)), .ref (eb E + (L + 10)), .int 0, .int 0, .int 0, .int 0, .ref (eb E + (L + 11)), .int 0, .ref (eb E + (L + 12)), .int 0, .ref (eb E + (L + 13)), .ref (eb E + (L + 14)), .ref (eb E + (L + 15)), .ref (eb E + (L + 16)), .null, .null, .int 0, .int 0, .int 0])) ++ [.inl (E.2.2.2.2 0, 322, .inl (fun _ => 0)), .inl (E.2.2.2.2 0, 322, .inl (fun _ => 0)), .inl (E.2.2.2.2 0, 74, .inl (fun _ => 0)), .inl (E.2.2.2.2 0, 200, .inl (fun _ => 0)), .inl (E.2.2.2.2 0, 200, .inl (fun _ => 0)), .inl (E.2.2.2.2 2, 144, .inl (ltF)), .inl (E.2.2.2.2 0, 200, .inl (fun _ => 0)), .inl (E.2.2.2.2 0, 24, .inl (fun _ => 0)), .inl (E.2.2.2.2 0, 370, .inl (fun _ => 0)), .inl (E.2.2.2.2 0, 4, .inl (fun _ => 0)), .inl (E.2.2.2.2 0, 4, .inl (fun _ => 0)), .inl (E.2.2.2.2 0, 16, .inl (fun _ => 0)), .inl (E.2.2.2.2 0, 12, .inl (fun _ => 0)), .inl (E.2.2.2.2 0, 4, .inl (upd (upd (upd (upd (fun _ => 0) 0 ((-1 : Int32))) 1 ((-1 : Int32))) 2 ((-1 : Int32))) 3 ((-1 : Int32)))), .inl (E.2.2.2.2 0, 4, .inl (fun _ => 0)), .inl (E.2.2.2.2 0, 160, .inl (fun _ => 0)), .inl (E.2.2.2.2 0, 4, .inl (upd (upd (upd (upd (fun _ => 0) 0 ((-1 : Int32))) 1 ((-1 : Int32))) 2 ((-1 : Int32))) 3 ((-1 : Int32)))), .inl (E.2.2.2.2 0, 4, .inl (fun _ => 0))]) H locs) => ?_)
  refine T_put F P ho hin kpX12_62 rfl rfl (Nat.le_of_ble_eq_true rfl) zX12_init_1053 (fun H locs (P : PK E s (cs.set o (.inr (12, [.ref (eb E + (L + 0)), .ref (eb E + (L + 1)), .ref (eb E + (L + 2)), .int 0, .ref (eb E + (L + 3)), .ref (eb E + (L + 4)), .int 0, .ref (eb E + (L + 5)), .int 0, .int 0, .int 0, .int 0, .int 0, .int 0, .ref (eb E + (L + 6)), .ref (eb E + (L + 7)), .int 0, .int 0, .ref (eb E + (L + 8)), .ref (eb E + (L + 9)), .ref (eb E + (L + 10)), .int 0, .int 0, .int 0, .int 0, .ref (eb E + (L + 11)), .int 0, .ref (eb E + (L + 12)), .int 0, .ref (eb E + (L + 13)), .ref (eb E + (L + 14)), .ref (eb E + (L + 15)), .ref (eb E + (L + 16)), .ref (eb E + (L + 17)), .null, .int 0, .int 0, .int 0])) ++ [.inl (E.2.2.2.2 0, 322, .inl (fun _ => 0)), .inl (E.2.2.2.2 0, 322, .inl (fun _ => 0)), .inl (E.2.2.2.2 0, 74, .inl (fun _ => 0)), .inl (E.2.2.2.2 0, 200, .inl (fun _ => 0)), .inl (E.2.2.2.2 0, 200, .inl (fun _ => 0)), .inl (E.2.2.2.2 2, 144, .inl (ltF)), .inl (E.2.2.2.2 0, 200, .inl (fun _ => 0)), .inl (E.2.2.2.2 0, 24, .inl (fun _ => 0)), .inl (E.2.2.2.2 0, 370, .inl (fun _ => 0)), .inl (E.2.2.2.2 0, 4, .inl (fun _ => 0)), .inl (E.2.2.2.2 0, 4, .inl (fun _ => 0)), .inl (E.2.2.2.2 0, 16, .inl (fun _ => 0)), .inl (E.2.2.2.2 0, 12, .inl (fun _ => 0)), .inl (E.2.2.2.2 0, 4, .inl (upd (upd (upd (upd (fun _ => 0) 0 ((-1 : Int32))) 1 ((-1 : Int32))) 2 ((-1 : Int32))) 3 ((-1 : Int32)))), .inl (E.2.2.2.2 0, 4, .inl (fun _ => 0)), .inl (E.2.2.2.2 0, 160, .inl (fun _ => 0)), .inl (E.2.2.2.2 0, 4, .inl (upd (upd (upd (upd (fun _ => 0) 0 ((-1 : Int32))) 1 ((-1 : Int32))) 2 ((-1 : Int32))) 3 ((-1 : Int32)))), .inl (E.2.2.2.2 0, 4, .inl (fun _ => 0))]) H locs) => ?_)
  refine lv_aload_n F.1 F.2.1 zX12_init_1056 rfl (lv_at hl 0 rfl) ?_
  refine lv_bipush F.1 F.2.1 zX12_init_1057 kb30 ?_
  refine T_newI F P hL rfl kacI rfl (by decide) (Nat.le_of_ble_eq_true rfl) (Nat.le_of_ble_eq_true rfl) zX12_init_1059 (fun H (P : PK E s (cs.set o (.inr (12, [.ref (eb E + (L + 0)), .ref (eb E + (L + 1)), .ref (eb E + (L + 2)), .int 0, .ref (eb E + (L + 3)), .ref (eb E + (L + 4)), .int 0, .ref (eb E + (L + 5)), .int 0, .int 0, .int 0, .int 0, .int 0, .int 0, .ref (eb E + (L + 6)), .ref (eb E + (L + 7)), .int 0, .int 0, .ref (eb E + (L + 8)), .ref (eb E + (L + 9)), .ref (eb E + (L + 10)), .int 0, .int 0, .int 0, .int 0, .ref (eb E + (L + 11)), .int 0, .ref (eb E + (L + 12)), .int 0, .ref (eb E + (L + 13)), .ref (eb E + (L + 14)), .ref (eb E + (L + 15)), .ref (eb E + (L + 16)), .ref (eb E + (L + 17)), .null, .int 0, .int 0, .int 0])) ++ [.inl (E.2.2.2.2 0, 322, .inl (fun _ => 0)), .inl (E.2.2.2.2 0, 322, .inl (fun _ => 0)), .inl (E.2.2.2.2 0, 74, .inl (fun _ => 0)), .inl (E.2.2.2.2 0, 200, .inl (fun _ => 0)), .inl (E.2.2.2.2 0, 200, .inl (fun _ => 0)), .inl (E.2.2.2.2 2, 144, .inl (ltF)), .inl (E.2.2.2.2 0, 200, .inl (fun _ => 0)), .inl (E.2.2.2.2 0, 24, .inl (fun _ => 0)), .inl (E.2.2.2.2 0, 370, .inl (fun _ => 0)), .inl (E.2.2.2.2 0, 4, .inl (fun _ => 0)), .inl (E.2.2.2.2 0, 4, .inl (fun _ => 0)), .inl (E.2.2.2.2 0, 16, .inl (fun _ => 0)), .inl (E.2.2.2.2 0, 12, .inl (fun _ => 0)), .inl (E.2.2.2.2 0, 4, .inl (upd (upd (upd (upd (fun _ => 0) 0 ((-1 : Int32))) 1 ((-1 : Int32))) 2 ((-1 : Int32))) 3 ((-1 : Int32)))), .inl (E.2.2.2.2 0, 4, .inl (fun _ => 0)), .inl (E.2.2.2.2 0, 160, .inl (fun _ => 0)), .inl (E.2.2.2.2 0, 4, .inl (upd (upd (upd (upd (fun _ => 0) 0 ((-1 : Int32))) 1 ((-1 : Int32))) 2 ((-1 : Int32))) 3 ((-1 : Int32)))), .inl (E.2.2.2.2 0, 4, .inl (fun _ => 0)), .inl (E.2.2.2.2 0, 30, .inl (fun _ => 0))]) H locs) => ?_)
  refine T_put F P ho hin kpX12_65 rfl rfl (Nat.le_of_ble_eq_true rfl) zX12_init_1061 (fun H locs (P : PK E s (cs.set o (.inr (12, [.ref (eb E + (L + 0)), .ref (eb E + (L + 1)), .ref (eb E + (L + 2)), .int 0, .ref (eb E + (L + 3)), .ref (eb E + (L + 4)), .int 0, .ref (eb E + (L + 5)), .int 0, .int 0, .int 0, .int 0, .int 0, .int 0, .ref (eb E + (L + 6)), .ref (eb E + (L + 7)), .int 0, .int 0, .ref (eb E + (L + 8)), .ref (eb E + (L + 9)), .ref (eb E + (L + 10)), .int 0, .int 0, .int 0, .int 0, .ref (eb E + (L + 11)), .int 0, .ref (eb E + (L + 12)), .int 0, .ref (eb E + (L + 13)), .ref (eb E + (L + 14)), .ref (eb E + (L + 15)), .ref (eb E + (L + 16)), .ref (eb E + (L + 17)), .ref (eb E + (L + 18)), .int 0, .int 0, .int 0])) ++ [.inl (E.2.2.2.2 0, 322, .inl (fun _ => 0)), .inl (E.2.2.2.2 0, 322, .inl (fun _ => 0)), .inl (E.2.2.2.2 0, 74, .inl (fun _ => 0)), .inl (E.2.2.2.2 0, 200, .inl (fun _ => 0)), .inl (E.2.2.2.2 0, 200, .inl (fun _ => 0)), .inl (E.2.2.2.2 2, 144, .inl (ltF)), .inl (E.2.2.2.2 0, 200, .inl (fun _ => 0)), .inl (E.2.2.2.2 0, 24, .inl (fun _ => 0)), .inl (E.2.2.2.2 0, 370, .inl (fun _ => 0)), .inl (E.2.2.2.2 0, 4, .inl (fun _ => 0)), .inl (E.2.2.2.2 0, 4, .inl (fun _ => 0)), .inl (E.2.2.2.2 0, 16, .inl (fun _ => 0)), .inl (E.2.2.2.2 0, 12, .inl (fun _ => 0)), .inl (E.2.2.2.2 0, 4, .inl (upd (upd (upd (upd (fun _ => 0) 0 ((-1 : Int32))) 1 ((-1 : Int32))) 2 ((-1 : Int32))) 3 ((-1 : Int32)))), .inl (E.2.2.2.2 0, 4, .inl (fun _ => 0)), .inl (E.2.2.2.2 0, 160, .inl (fun _ => 0)), .inl (E.2.2.2.2 0, 4, .inl (upd (upd (upd (upd (fun _ => 0) 0 ((-1 : Int32))) 1 ((-1 : Int32))) 2 ((-1 : Int32))) 3 ((-1 : Int32)))), .inl (E.2.2.2.2 0, 4, .inl (fun _ => 0)), .inl (E.2.2.2.2 0, 30, .inl (fun _ => 0))]) H locs) => ?_)
  have P : PK E s (cs.set o (.inr (12, [.ref (eb E + (L + 0)), .ref (eb E + (L + 1)), .ref (eb E + (L + 2)), .int 0, .ref (eb E + (L + 3)), .ref (eb E + (L + 4)), .int 0, .ref (eb E + (L + 5)), .int 0, .int 0, .int 0, .int 0, .int 0, .int 0, .ref (eb E + (L + 6)), .ref (eb E + (L + 7)), .int 0, .int 0, .ref (eb E + (L + 8)), .ref (eb E + (L + 9)), .ref (eb E + (L + 10)), .int 0, .int 0, .int 0, .int 0, .ref (eb E + (L + 11)), .int 0, .ref (eb E + (L + 12)), .int 0, .ref (eb E + (L + 13)), .ref (eb E + (L + 14)), .ref (eb E + (L + 15)), .ref (eb E + (L + 16)), .ref (eb E + (L + 17)), .ref (eb E + (L + 18)), .int 0, .int 0, .int 0])) ++ ([.inl (E.2.2.2.2 0, 322, .inl (fun _ => 0)), .inl (E.2.2.2.2 0, 322, .inl (fun _ => 0)), .inl (E.2.2.2.2 0, 74, .inl (fun _ => 0)), .inl (E.2.2.2.2 0, 200, .inl (fun _ => 0)), .inl (E.2.2.2.2 0, 200, .inl (fun _ => 0)), .inl (E.2.2.2.2 2, 144, .inl (ltF)), .inl (E.2.2.2.2 0, 200, .inl (fun _ => 0)), .inl (E.2.2.2.2 0, 24, .inl (fun _ => 0)), .inl (E.2.2.2.2 0, 370, .inl (fun _ => 0)), .inl (E.2.2.2.2 0, 4, .inl (fun _ => 0)), .inl (E.2.2.2.2 0, 4, .inl (fun _ => 0)), .inl (E.2.2.2.2 0, 16, .inl (fun _ => 0)), .inl (E.2.2.2.2 0, 12, .inl (fun _ => 0)), .inl (E.2.2.2.2 0, 4, .inl (upd (upd (upd (upd (fun _ => 0) 0 ((-1 : Int32))) 1 ((-1 : Int32))) 2 ((-1 : Int32))) 3 ((-1 : Int32)))), .inl (E.2.2.2.2 0, 4, .inl (fun _ => 0)), .inl (E.2.2.2.2 0, 160, .inl (fun _ => 0)), .inl (E.2.2.2.2 0, 4, .inl (upd (upd (upd (upd (fun _ => 0) 0 ((-1 : Int32))) 1 ((-1 : Int32))) 2 ((-1 : Int32))) 3 ((-1 : Int32)))), .inl (E.2.2.2.2 0, 4, .inl (fun _ => 0)), .inl (E.2.2.2.2 0, 30, .inl (fun _ => 0))] : List va_E).set 0 (.inl (E.2.2.2.2 0, 322, .inl (fun _ => 0)))) H locs := P
  have ha : 0 < ([.inl (E.2.2.2.2 0, 322, .inl (fun _ => 0)), .inl (E.2.2.2.2 0, 322, .inl (fun _ => 0)), .inl (E.2.2.2.2 0, 74, .inl (fun _ => 0)), .inl (E.2.2.2.2 0, 200, .inl (fun _ => 0)), .inl (E.2.2.2.2 0, 200, .inl (fun _ => 0)), .inl (E.2.2.2.2 2, 144, .inl (ltF)), .inl (E.2.2.2.2 0, 200, .inl (fun _ => 0)), .inl (E.2.2.2.2 0, 24, .inl (fun _ => 0)), .inl (E.2.2.2.2 0, 370, .inl (fun _ => 0)), .inl (E.2.2.2.2 0, 4, .inl (fun _ => 0)), .inl (E.2.2.2.2 0, 4, .inl (fun _ => 0)), .inl (E.2.2.2.2 0, 16, .inl (fun _ => 0)), .inl (E.2.2.2.2 0, 12, .inl (fun _ => 0)), .inl (E.2.2.2.2 0, 4, .inl (upd (upd (upd (upd (fun _ => 0) 0 ((-1 : Int32))) 1 ((-1 : Int32))) 2 ((-1 : Int32))) 3 ((-1 : Int32)))), .inl (E.2.2.2.2 0, 4, .inl (fun _ => 0)), .inl (E.2.2.2.2 0, 160, .inl (fun _ => 0)), .inl (E.2.2.2.2 0, 4, .inl (upd (upd (upd (upd (fun _ => 0) 0 ((-1 : Int32))) 1 ((-1 : Int32))) 2 ((-1 : Int32))) 3 ((-1 : Int32)))), .inl (E.2.2.2.2 0, 4, .inl (fun _ => 0)), .inl (E.2.2.2.2 0, 30, .inl (fun _ => 0))] : List va_E).length := (Nat.le_of_ble_eq_true rfl)
  refine lv_aload_n F.1 F.2.1 zX12_init_1064 rfl (lv_at hl 0 rfl) ?_
  refine T_get F P ho flX12_9 rfl zX12_init_1065 ?_
  refine lv_iconst F.1 F.2.1 zX12_init_1068 kc1 ?_
  refine lv_bipush F.1 F.2.1 zX12_init_1069 kb12 ?_
  refine T_iast2 F P hL ha rfl (by decide) (by decide) zX12_init_1071 (fun H locs P => ?_)
  refine lv_aload_n F.1 F.2.1 zX12_init_1072 rfl (lv_at hl 0 rfl) ?_
  refine T_get F P ho flX12_9 rfl zX12_init_1073 ?_
  refine lv_iconst F.1 F.2.1 zX12_init_1076 kc4 ?_
  refine lv_bipush F.1 F.2.1 zX12_init_1077 kb60 ?_
  refine T_iast2 F P hL ha rfl (by decide) (by decide) zX12_init_1079 (fun H locs P => ?_)
  refine lv_aload_n F.1 F.2.1 zX12_init_1080 rfl (lv_at hl 0 rfl) ?_
  refine T_get F P ho flX12_9 rfl zX12_init_1081 ?_
  refine lv_iconst F.1 F.2.1 zX12_init_1084 kc5 ?_
  refine lv_iconst F.1 F.2.1 zX12_init_1085 kc1 ?_
  refine T_iast2 F P hL ha rfl (by decide) (by decide) zX12_init_1086 (fun H locs P => ?_)
  refine lv_iconst F.1 F.2.1 zX12_init_1087 kc0 ?_
  refine lv_istore_n F.1 F.2.1 (lv' := [(1, .int (nI 0)), (0, .ref (eb E + o))]) zX12_init_1088 rfl hl (by decide) rfl (fun ls hl => ?_)
  refine lv_iload_n F.1 F.2.1 zX12_init_1089 rfl (lv_at hl 0 rfl) ?_
  refine lv_bipush F.1 F.2.1 zX12_init_1090 kb16 ?_
  refine lv_icmp_ge F.1 F.2.1 (tgt := 1111) zX12_init_1092 (by decide) (fun q => absurd q (by decide +kernel)) (fun _ => ?_)
  refine lv_aload_n F.1 F.2.1 zX12_init_1095 rfl (lv_at hl 1 rfl) ?_
  refine T_get F P ho flX12_9 rfl zX12_init_1096 ?_
  refine lv_bipush F.1 F.2.1 zX12_init_1099 kb10 ?_
  refine lv_iload_n F.1 F.2.1 zX12_init_1101 rfl (lv_at hl 0 rfl) ?_
  refine lv_iadd F.1 F.2.1 zX12_init_1102 ?_
  rw [show nI 10 + nI 0 = nI 10 by decide +kernel]
  refine lv_iconst F.1 F.2.1 zX12_init_1103 kc4 ?_
  refine T_iast2 F P hL ha rfl (by decide) (by decide) zX12_init_1104 (fun H locs P => ?_)
  refine lv_iinc F.1 F.2.1 (v := nI 1) (lv' := [(1, .int (nI 1)), (0, .ref (eb E + o))]) zX12_init_1105 hl (k := 0) rfl (by decide +kernel) (by decide) rfl (fun ls hl => ?_)
  refine lv_goto F.1 F.2.1 (tgt := 1089) zX12_init_1108 (by decide) ?_
  refine lv_iload_n F.1 F.2.1 zX12_init_1089 rfl (lv_at hl 0 rfl) ?_
  refine lv_bipush F.1 F.2.1 zX12_init_1090 kb16 ?_
  refine lv_icmp_ge F.1 F.2.1 (tgt := 1111) zX12_init_1092 (by decide) (fun q => absurd q (by decide +kernel)) (fun _ => ?_)
  refine lv_aload_n F.1 F.2.1 zX12_init_1095 rfl (lv_at hl 1 rfl) ?_
  refine T_get F P ho flX12_9 rfl zX12_init_1096 ?_
  refine lv_bipush F.1 F.2.1 zX12_init_1099 kb10 ?_
  refine lv_iload_n F.1 F.2.1 zX12_init_1101 rfl (lv_at hl 0 rfl) ?_
  refine lv_iadd F.1 F.2.1 zX12_init_1102 ?_
  rw [show nI 10 + nI 1 = nI 11 by decide +kernel]
  refine lv_iconst F.1 F.2.1 zX12_init_1103 kc4 ?_
  refine T_iast2 F P hL ha rfl (by decide) (by decide) zX12_init_1104 (fun H locs P => ?_)
  refine lv_iinc F.1 F.2.1 (v := nI 2) (lv' := [(1, .int (nI 2)), (0, .ref (eb E + o))]) zX12_init_1105 hl (k := 0) rfl (by decide +kernel) (by decide) rfl (fun ls hl => ?_)
  refine lv_goto F.1 F.2.1 (tgt := 1089) zX12_init_1108 (by decide) ?_
  refine lv_iload_n F.1 F.2.1 zX12_init_1089 rfl (lv_at hl 0 rfl) ?_
  refine lv_bipush F.1 F.2.1 zX12_init_1090 kb16 ?_
  refine lv_icmp_ge F.1 F.2.1 (tgt := 1111) zX12_init_1092 (by decide) (fun q => absurd q (by decide +kernel)) (fun _ => ?_)
  refine lv_aload_n F.1 F.2.1 zX12_init_1095 rfl (lv_at hl 1 rfl) ?_
  refine T_get F P ho flX12_9 rfl zX12_init_1096 ?_
  refine lv_bipush F.1 F.2.1 zX12_init_1099 kb10 ?_
  refine lv_iload_n F.1 F.2.1 zX12_init_1101 rfl (lv_at hl 0 rfl) ?_
  refine lv_iadd F.1 F.2.1 zX12_init_1102 ?_
  rw [show nI 10 + nI 2 = nI 12 by decide +kernel]
  refine lv_iconst F.1 F.2.1 zX12_init_1103 kc4 ?_
  refine T_iast2 F P hL ha rfl (by decide) (by decide) zX12_init_1104 (fun H locs P => ?_)
  refine lv_iinc F.1 F.2.1 (v := nI 3) (lv' := [(1, .int (nI 3)), (0, .ref (eb E + o))]) zX12_init_1105 hl (k := 0) rfl (by decide +kernel) (by decide) rfl (fun ls hl => ?_)
  refine lv_goto F.1 F.2.1 (tgt := 1089) zX12_init_1108 (by decide) ?_
  refine lv_iload_n F.1 F.2.1 zX12_init_1089 rfl (lv_at hl 0 rfl) ?_
  refine lv_bipush F.1 F.2.1 zX12_init_1090 kb16 ?_
  refine lv_icmp_ge F.1 F.2.1 (tgt := 1111) zX12_init_1092 (by decide) (fun q => absurd q (by decide +kernel)) (fun _ => ?_)
  refine lv_aload_n F.1 F.2.1 zX12_init_1095 rfl (lv_at hl 1 rfl) ?_
  refine T_get F P ho flX12_9 rfl zX12_init_1096 ?_
  refine lv_bipush F.1 F.2.1 zX12_init_1099 kb10 ?_
  refine lv_iload_n F.1 F.2.1 zX12_init_1101 rfl (lv_at hl 0 rfl) ?_
  refine lv_iadd F.1 F.2.1 zX12_init_1102 ?_
  rw [show nI 10 + nI 3 = nI 13 by decide +kernel]
  refine lv_iconst F.1 F.2.1 zX12_init_1103 kc4 ?_
  refine T_iast2 F P hL ha rfl (by decide) (by decide) zX12_init_1104 (fun H locs P => ?_)
  refine lv_iinc F.1 F.2.1 (v := nI 4) (lv' := [(1, .int (nI 4)), (0, .ref (eb E + o))]) zX12_init_1105 hl (k := 0) rfl (by decide +kernel) (by decide) rfl (fun ls hl => ?_)
  refine lv_goto F.1 F.2.1 (tgt := 1089) zX12_init_1108 (by decide) ?_
  refine lv_iload_n F.1 F.2.1 zX12_init_1089 rfl (lv_at hl 0 rfl) ?_
  refine lv_bipush F.1 F.2.1 zX12_init_1090 kb16 ?_
  refine lv_icmp_ge F.1 F.2.1 (tgt := 1111) zX12_init_1092 (by decide) (fun q => absurd q (by decide +kernel)) (fun _ => ?_)
  refine lv_aload_n F.1 F.2.1 zX12_init_1095 rfl (lv_at hl 1 rfl) ?_
  refine T_get F P ho flX12_9 rfl zX12_init_1096 ?_
  refine lv_bipush F.1 F.2.1 zX12_init_1099 kb10 ?_
  refine lv_iload_n F.1 F.2.1 zX12_init_1101 rfl (lv_at hl 0 rfl) ?_
  refine lv_iadd F.1 F.2.1 zX12_init_1102 ?_
  rw [show nI 10 + nI 4 = nI 14 by decide +kernel]
  refine lv_iconst F.1 F.2.1 zX12_init_1103 kc4 ?_
  refine T_iast2 F P hL ha rfl (by decide) (by decide) zX12_init_1104 (fun H locs P => ?_)
  refine lv_iinc F.1 F.2.1 (v := nI 5) (lv' := [(1, .int (nI 5)), (0, .ref (eb E + o))]) zX12_init_1105 hl (k := 0) rfl (by decide +kernel) (by decide) rfl (fun ls hl => ?_)
  refine lv_goto F.1 F.2.1 (tgt := 1089) zX12_init_1108 (by decide) ?_
  refine lv_iload_n F.1 F.2.1 zX12_init_1089 rfl (lv_at hl 0 rfl) ?_
  refine lv_bipush F.1 F.2.1 zX12_init_1090 kb16 ?_
  refine lv_icmp_ge F.1 F.2.1 (tgt := 1111) zX12_init_1092 (by decide) (fun q => absurd q (by decide +kernel)) (fun _ => ?_)
  refine lv_aload_n F.1 F.2.1 zX12_init_1095 rfl (lv_at hl 1 rfl) ?_
  refine T_get F P ho flX12_9 rfl zX12_init_1096 ?_
  refine lv_bipush F.1 F.2.1 zX12_init_1099 kb10 ?_
  refine lv_iload_n F.1 F.2.1 zX12_init_1101 rfl (lv_at hl 0 rfl) ?_
  refine lv_iadd F.1 F.2.1 zX12_init_1102 ?_
  rw [show nI 10 + nI 5 = nI 15 by decide +kernel]
  refine lv_iconst F.1 F.2.1 zX12_init_1103 kc4 ?_
  refine T_iast2 F P hL ha rfl (by decide) (by decide) zX12_init_1104 (fun H locs P => ?_)
  refine lv_iinc F.1 F.2.1 (v := nI 6) (lv' := [(1, .int (nI 6)), (0, .ref (eb E + o))]) zX12_init_1105 hl (k := 0) rfl (by decide +kernel) (by decide) rfl (fun ls hl => ?_)
  refine lv_goto F.1 F.2.1 (tgt := 1089) zX12_init_1108 (by decide) ?_
  refine lv_iload_n F.1 F.2.1 zX12_init_1089 rfl (lv_at hl 0 rfl) ?_
  refine lv_bipush F.1 F.2.1 zX12_init_1090 kb16 ?_
  refine lv_icmp_ge F.1 F.2.1 (tgt := 1111) zX12_init_1092 (by decide) (fun q => absurd q (by decide +kernel)) (fun _ => ?_)
  refine lv_aload_n F.1 F.2.1 zX12_init_1095 rfl (lv_at hl 1 rfl) ?_
  refine T_get F P ho flX12_9 rfl zX12_init_1096 ?_
  refine lv_bipush F.1 F.2.1 zX12_init_1099 kb10 ?_
  refine lv_iload_n F.1 F.2.1 zX12_init_1101 rfl (lv_at hl 0 rfl) ?_
  refine lv_iadd F.1 F.2.1 zX12_init_1102 ?_
  rw [show nI 10 + nI 6 = nI 16 by decide +kernel]
  refine lv_iconst F.1 F.2.1 zX12_init_1103 kc4 ?_
  refine T_iast2 F P hL ha rfl (by decide) (by decide) zX12_init_1104 (fun H locs P => ?_)
  refine lv_iinc F.1 F.2.1 (v := nI 7) (lv' := [(1, .int (nI 7)), (0, .ref (eb E + o))]) zX12_init_1105 hl (k := 0) rfl (by decide +kernel) (by decide) rfl (fun ls hl => ?_)
  refine lv_goto F.1 F.2.1 (tgt := 1089) zX12_init_1108 (by decide) ?_
  refine lv_iload_n F.1 F.2.1 zX12_init_1089 rfl (lv_at hl 0 rfl) ?_
  refine lv_bipush F.1 F.2.1 zX12_init_1090 kb16 ?_
  refine lv_icmp_ge F.1 F.2.1 (tgt := 1111) zX12_init_1092 (by decide) (fun q => absurd q (by decide +kernel)) (fun _ => ?_)
  refine lv_aload_n F.1 F.2.1 zX12_init_1095 rfl (lv_at hl 1 rfl) ?_
  refine T_get F P ho flX12_9 rfl zX12_init_1096 ?_
  refine lv_bipush F.1 F.2.1 zX12_init_1099 kb10 ?_
  refine lv_iload_n F.1 F.2.1 zX12_init_1101 rfl (lv_at hl 0 rfl) ?_
  refine lv_iadd F.1 F.2.1 zX12_init_1102 ?_
  rw [show nI 10 + nI 7 = nI 17 by decide +kernel]
  refine lv_iconst F.1 F.2.1 zX12_init_1103 kc4 ?_
  refine T_iast2 F P hL ha rfl (by decide) (by decide) zX12_init_1104 (fun H locs P => ?_)
  refine lv_iinc F.1 F.2.1 (v := nI 8) (lv' := [(1, .int (nI 8)), (0, .ref (eb E + o))]) zX12_init_1105 hl (k := 0) rfl (by decide +kernel) (by decide) rfl (fun ls hl => ?_)
  refine lv_goto F.1 F.2.1 (tgt := 1089) zX12_init_1108 (by decide) ?_
  refine lv_iload_n F.1 F.2.1 zX12_init_1089 rfl (lv_at hl 0 rfl) ?_
  refine lv_bipush F.1 F.2.1 zX12_init_1090 kb16 ?_
  refine lv_icmp_ge F.1 F.2.1 (tgt := 1111) zX12_init_1092 (by decide) (fun q => absurd q (by decide +kernel)) (fun _ => ?_)
  refine lv_aload_n F.1 F.2.1 zX12_init_1095 rfl (lv_at hl 1 rfl) ?_
  refine T_get F P ho flX12_9 rfl zX12_init_1096 ?_
  refine lv_bipush F.1 F.2.1 zX12_init_1099 kb10 ?_
  refine lv_iload_n F.1 F.2.1 zX12_init_1101 rfl (lv_at hl 0 rfl) ?_
  refine lv_iadd F.1 F.2.1 zX12_init_1102 ?_
  rw [show nI 10 + nI 8 = nI 18 by decide +kernel]
  refine lv_iconst F.1 F.2.1 zX12_init_1103 kc4 ?_
  refine T_iast2 F P hL ha rfl (by decide) (by decide) zX12_init_1104 (fun H locs P => ?_)
  refine lv_iinc F.1 F.2.1 (v := nI 9) (lv' := [(1, .int (nI 9)), (0, .ref (eb E + o))]) zX12_init_1105 hl (k := 0) rfl (by decide +kernel) (by decide) rfl (fun ls hl => ?_)
  refine lv_goto F.1 F.2.1 (tgt := 1089) zX12_init_1108 (by decide) ?_
  refine lv_iload_n F.1 F.2.1 zX12_init_1089 rfl (lv_at hl 0 rfl) ?_
  refine lv_bipush F.1 F.2.1 zX12_init_1090 kb16 ?_
  refine lv_icmp_ge F.1 F.2.1 (tgt := 1111) zX12_init_1092 (by decide) (fun q => absurd q (by decide +kernel)) (fun _ => ?_)
  refine lv_aload_n F.1 F.2.1 zX12_init_1095 rfl (lv_at hl 1 rfl) ?_
  refine T_get F P ho flX12_9 rfl zX12_init_1096 ?_
  refine lv_bipush F.1 F.2.1 zX12_init_1099 kb10 ?_
  refine lv_iload_n F.1 F.2.1 zX12_init_1101 rfl (lv_at hl 0 rfl) ?_
  refine lv_iadd F.1 F.2.1 zX12_init_1102 ?_
  rw [show nI 10 + nI 9 = nI 19 by decide +kernel]
  refine lv_iconst F.1 F.2.1 zX12_init_1103 kc4 ?_
  refine T_iast2 F P hL ha rfl (by decide) (by decide) zX12_init_1104 (fun H locs P => ?_)
  refine lv_iinc F.1 F.2.1 (v := nI 10) (lv' := [(1, .int (nI 10)), (0, .ref (eb E + o))]) zX12_init_1105 hl (k := 0) rfl (by decide +kernel) (by decide) rfl (fun ls hl => ?_)
  refine lv_goto F.1 F.2.1 (tgt := 1089) zX12_init_1108 (by decide) ?_
  refine lv_iload_n F.1 F.2.1 zX12_init_1089 rfl (lv_at hl 0 rfl) ?_
  refine lv_bipush F.1 F.2.1 zX12_init_1090 kb16 ?_
  refine lv_icmp_ge F.1 F.2.1 (tgt := 1111) zX12_init_1092 (by decide) (fun q => absurd q (by decide +kernel)) (fun _ => ?_)
  refine lv_aload_n F.1 F.2.1 zX12_init_1095 rfl (lv_at hl 1 rfl) ?_
  refine T_get F P ho flX12_9 rfl zX12_init_1096 ?_
  refine lv_bipush F.1 F.2.1 zX12_init_1099 kb10 ?_
  refine lv_iload_n F.1 F.2.1 zX12_init_1101 rfl (lv_at hl 0 rfl) ?_
  refine lv_iadd F.1 F.2.1 zX12_init_1102 ?_
  rw [show nI 10 + nI 10 = nI 20 by decide +kernel]
  refine lv_iconst F.1 F.2.1 zX12_init_1103 kc4 ?_
  refine T_iast2 F P hL ha rfl (by decide) (by decide) zX12_init_1104 (fun H locs P => ?_)
  refine lv_iinc F.1 F.2.1 (v := nI 11) (lv' := [(1, .int (nI 11)), (0, .ref (eb E + o))]) zX12_init_1105 hl (k := 0) rfl (by decide +kernel) (by decide) rfl (fun ls hl => ?_)
  refine lv_goto F.1 F.2.1 (tgt := 1089) zX12_init_1108 (by decide) ?_
  refine lv_iload_n F.1 F.2.1 zX12_init_1089 rfl (lv_at hl 0 rfl) ?_
  refine lv_bipush F.1 F.2.1 zX12_init_1090 kb16 ?_
  refine lv_icmp_ge F.1 F.2.1 (tgt := 1111) zX12_init_1092 (by decide) (fun q => absurd q (by decide +kernel)) (fun _ => ?_)
  refine lv_aload_n F.1 F.2.1 zX12_init_1095 rfl (lv_at hl 1 rfl) ?_
  refine T_get F P ho flX12_9 rfl zX12_init_1096 ?_
  refine lv_bipush F.1 F.2.1 zX12_init_1099 kb10 ?_
  refine lv_iload_n F.1 F.2.1 zX12_init_1101 rfl (lv_at hl 0 rfl) ?_
  refine lv_iadd F.1 F.2.1 zX12_init_1102 ?_
  rw [show nI 10 + nI 11 = nI 21 by decide +kernel]
  refine lv_iconst F.1 F.2.1 zX12_init_1103 kc4 ?_
  refine T_iast2 F P hL ha rfl (by decide) (by decide) zX12_init_1104 (fun H locs P => ?_)
  refine lv_iinc F.1 F.2.1 (v := nI 12) (lv' := [(1, .int (nI 12)), (0, .ref (eb E + o))]) zX12_init_1105 hl (k := 0) rfl (by decide +kernel) (by decide) rfl (fun ls hl => ?_)
  refine lv_goto F.1 F.2.1 (tgt := 1089) zX12_init_1108 (by decide) ?_
  refine lv_iload_n F.1 F.2.1 zX12_init_1089 rfl (lv_at hl 0 rfl) ?_
  refine lv_bipush F.1 F.2.1 zX12_init_1090 kb16 ?_
  refine lv_icmp_ge F.1 F.2.1 (tgt := 1111) zX12_init_1092 (by decide) (fun q => absurd q (by decide +kernel)) (fun _ => ?_)
  refine lv_aload_n F.1 F.2.1 zX12_init_1095 rfl (lv_at hl 1 rfl) ?_
  refine T_get F P ho flX12_9 rfl zX12_init_1096 ?_
  refine lv_bipush F.1 F.2.1 zX12_init_1099 kb10 ?_
  refine lv_iload_n F.1 F.2.1 zX12_init_1101 rfl (lv_at hl 0 rfl) ?_
  refine lv_iadd F.1 F.2.1 zX12_init_1102 ?_
  rw [show nI 10 + nI 12 = nI 22 by decide +kernel]
  refine lv_iconst F.1 F.2.1 zX12_init_1103 kc4 ?_
  refine T_iast2 F P hL ha rfl (by decide) (by decide) zX12_init_1104 (fun H locs P => ?_)
  refine lv_iinc F.1 F.2.1 (v := nI 13) (lv' := [(1, .int (nI 13)), (0, .ref (eb E + o))]) zX12_init_1105 hl (k := 0) rfl (by decide +kernel) (by decide) rfl (fun ls hl => ?_)
  refine lv_goto F.1 F.2.1 (tgt := 1089) zX12_init_1108 (by decide) ?_
  refine lv_iload_n F.1 F.2.1 zX12_init_1089 rfl (lv_at hl 0 rfl) ?_
  refine lv_bipush F.1 F.2.1 zX12_init_1090 kb16 ?_
  refine lv_icmp_ge F.1 F.2.1 (tgt := 1111) zX12_init_1092 (by decide) (fun q => absurd q (by decide +kernel)) (fun _ => ?_)
  refine lv_aload_n F.1 F.2.1 zX12_init_1095 rfl (lv_at hl 1 rfl) ?_
  refine T_get F P ho flX12_9 rfl zX12_init_1096 ?_
  refine lv_bipush F.1 F.2.1 zX12_init_1099 kb10 ?_
  refine lv_iload_n F.1 F.2.1 zX12_init_1101 rfl (lv_at hl 0 rfl) ?_
  refine lv_iadd F.1 F.2.1 zX12_init_1102 ?_
  rw [show nI 10 + nI 13 = nI 23 by decide +kernel]
  refine lv_iconst F.1 F.2.1 zX12_init_1103 kc4 ?_
  refine T_iast2 F P hL ha rfl (by decide) (by decide) zX12_init_1104 (fun H locs P => ?_)
  refine lv_iinc F.1 F.2.1 (v := nI 14) (lv' := [(1, .int (nI 14)), (0, .ref (eb E + o))]) zX12_init_1105 hl (k := 0) rfl (by decide +kernel) (by decide) rfl (fun ls hl => ?_)
  refine lv_goto F.1 F.2.1 (tgt := 1089) zX12_init_1108 (by decide) ?_
  refine lv_iload_n F.1 F.2.1 zX12_init_1089 rfl (lv_at hl 0 rfl) ?_
  refine lv_bipush F.1 F.2.1 zX12_init_1090 kb16 ?_
  refine lv_icmp_ge F.1 F.2.1 (tgt := 1111) zX12_init_1092 (by decide) (fun q => absurd q (by decide +kernel)) (fun _ => ?_)
  refine lv_aload_n F.1 F.2.1 zX12_init_1095 rfl (lv_at hl 1 rfl) ?_
  refine T_get F P ho flX12_9 rfl zX12_init_1096 ?_
  refine lv_bipush F.1 F.2.1 zX12_init_1099 kb10 ?_
  refine lv_iload_n F.1 F.2.1 zX12_init_1101 rfl (lv_at hl 0 rfl) ?_
  refine lv_iadd F.1 F.2.1 zX12_init_1102 ?_
  rw [show nI 10 + nI 14 = nI 24 by decide +kernel]
  refine lv_iconst F.1 F.2.1 zX12_init_1103 kc4 ?_
  refine T_iast2 F P hL ha rfl (by decide) (by decide) zX12_init_1104 (fun H locs P => ?_)
  refine lv_iinc F.1 F.2.1 (v := nI 15) (lv' := [(1, .int (nI 15)), (0, .ref (eb E + o))]) zX12_init_1105 hl (k := 0) rfl (by decide +kernel) (by decide) rfl (fun ls hl => ?_)
  refine lv_goto F.1 F.2.1 (tgt := 1089) zX12_init_1108 (by decide) ?_
  refine lv_iload_n F.1 F.2.1 zX12_init_1089 rfl (lv_at hl 0 rfl) ?_
  refine lv_bipush F.1 F.2.1 zX12_init_1090 kb16 ?_
  refine lv_icmp_ge F.1 F.2.1 (tgt := 1111) zX12_init_1092 (by decide) (fun q => absurd q (by decide +kernel)) (fun _ => ?_)
  refine lv_aload_n F.1 F.2.1 zX12_init_1095 rfl (lv_at hl 1 rfl) ?_
  refine T_get F P ho flX12_9 rfl zX12_init_1096 ?_
  refine lv_bipush F.1 F.2.1 zX12_init_1099 kb10 ?_
  refine lv_iload_n F.1 F.2.1 zX12_init_1101 rfl (lv_at hl 0 rfl) ?_
  refine lv_iadd F.1 F.2.1 zX12_init_1102 ?_
  rw [show nI 10 + nI 15 = nI 25 by decide +kernel]
  refine lv_iconst F.1 F.2.1 zX12_init_1103 kc4 ?_
  refine T_iast2 F P hL ha rfl (by decide) (by decide) zX12_init_1104 (fun H locs P => ?_)
  refine lv_iinc F.1 F.2.1 (v := nI 16) (lv' := [(1, .int (nI 16)), (0, .ref (eb E + o))]) zX12_init_1105 hl (k := 0) rfl (by decide +kernel) (by decide) rfl (fun ls hl => ?_)
  refine lv_goto F.1 F.2.1 (tgt := 1089) zX12_init_1108 (by decide) ?_
  refine lv_iload_n F.1 F.2.1 zX12_init_1089 rfl (lv_at hl 0 rfl) ?_
  refine lv_bipush F.1 F.2.1 zX12_init_1090 kb16 ?_
  refine lv_icmp_ge F.1 F.2.1 (tgt := 1111) zX12_init_1092 (by decide) (fun _ => ?_) (fun q => absurd (by decide +kernel) q)
  refine lv_iconst F.1 F.2.1 zX12_init_1111 kc0 ?_
  refine lv_istore_n F.1 F.2.1 (lv' := [(1, .int (nI 0)), (0, .ref (eb E + o))]) zX12_init_1112 rfl hl (by decide) rfl (fun ls hl => ?_)
  refine lv_iload_n F.1 F.2.1 zX12_init_1113 rfl (lv_at hl 0 rfl) ?_
  refine lv_bipush F.1 F.2.1 zX12_init_1114 kb6 ?_
  refine lv_icmp_ge F.1 F.2.1 (tgt := 1135) zX12_init_1116 (by decide) (fun q => absurd q (by decide +kernel)) (fun _ => ?_)
  refine lv_aload_n F.1 F.2.1 zX12_init_1119 rfl (lv_at hl 1 rfl) ?_
  refine T_get F P ho flX12_9 rfl zX12_init_1120 ?_
  refine lv_bipush F.1 F.2.1 zX12_init_1123 kb32 ?_
  refine lv_iload_n F.1 F.2.1 zX12_init_1125 rfl (lv_at hl 0 rfl) ?_
  refine lv_iadd F.1 F.2.1 zX12_init_1126 ?_
  rw [show nI 32 + nI 0 = nI 32 by decide +kernel]
  refine lv_iconst F.1 F.2.1 zX12_init_1127 kc3 ?_
  refine T_iast2 F P hL ha rfl (by decide) (by decide) zX12_init_1128 (fun H locs P => ?_)
  refine lv_iinc F.1 F.2.1 (v := nI 1) (lv' := [(1, .int (nI 1)), (0, .ref (eb E + o))]) zX12_init_1129 hl (k := 0) rfl (by decide +kernel) (by decide) rfl (fun ls hl => ?_)
  refine lv_goto F.1 F.2.1 (tgt := 1113) zX12_init_1132 (by decide) ?_
  refine lv_iload_n F.1 F.2.1 zX12_init_1113 rfl (lv_at hl 0 rfl) ?_
  refine lv_bipush F.1 F.2.1 zX12_init_1114 kb6 ?_
  refine lv_icmp_ge F.1 F.2.1 (tgt := 1135) zX12_init_1116 (by decide) (fun q => absurd q (by decide +kernel)) (fun _ => ?_)
  refine lv_aload_n F.1 F.2.1 zX12_init_1119 rfl (lv_at hl 1 rfl) ?_
  refine T_get F P ho flX12_9 rfl zX12_init_1120 ?_
  refine lv_bipush F.1 F.2.1 zX12_init_1123 kb32 ?_
  refine lv_iload_n F.1 F.2.1 zX12_init_1125 rfl (lv_at hl 0 rfl) ?_
  refine lv_iadd F.1 F.2.1 zX12_init_1126 ?_
  rw [show nI 32 + nI 1 = nI 33 by decide +kernel]
  refine lv_iconst F.1 F.2.1 zX12_init_1127 kc3 ?_
  refine T_iast2 F P hL ha rfl (by decide) (by decide) zX12_init_1128 (fun H locs P => ?_)
  refine lv_iinc F.1 F.2.1 (v := nI 2) (lv' := [(1, .int (nI 2)), (0, .ref (eb E + o))]) zX12_init_1129 hl (k := 0) rfl (by decide +kernel) (by decide) rfl (fun ls hl => ?_)
  refine lv_goto F.1 F.2.1 (tgt := 1113) zX12_init_1132 (by decide) ?_
  refine lv_iload_n F.1 F.2.1 zX12_init_1113 rfl (lv_at hl 0 rfl) ?_
  refine lv_bipush F.1 F.2.1 zX12_init_1114 kb6 ?_
  refine lv_icmp_ge F.1 F.2.1 (tgt := 1135) zX12_init_1116 (by decide) (fun q => absurd q (by decide +kernel)) (fun _ => ?_)
  refine lv_aload_n F.1 F.2.1 zX12_init_1119 rfl (lv_at hl 1 rfl) ?_
  refine T_get F P ho flX12_9 rfl zX12_init_1120 ?_
  refine lv_bipush F.1 F.2.1 zX12_init_1123 kb32 ?_
  refine lv_iload_n F.1 F.2.1 zX12_init_1125 rfl (lv_at hl 0 rfl) ?_
  refine lv_iadd F.1 F.2.1 zX12_init_1126 ?_
  rw [show nI 32 + nI 2 = nI 34 by decide +kernel]
  refine lv_iconst F.1 F.2.1 zX12_init_1127 kc3 ?_
  refine T_iast2 F P hL ha rfl (by decide) (by decide) zX12_init_1128 (fun H locs P => ?_)
  refine lv_iinc F.1 F.2.1 (v := nI 3) (lv' := [(1, .int (nI 3)), (0, .ref (eb E + o))]) zX12_init_1129 hl (k := 0) rfl (by decide +kernel) (by decide) rfl (fun ls hl => ?_)
  refine lv_goto F.1 F.2.1 (tgt := 1113) zX12_init_1132 (by decide) ?_
  refine lv_iload_n F.1 F.2.1 zX12_init_1113 rfl (lv_at hl 0 rfl) ?_
  refine lv_bipush F.1 F.2.1 zX12_init_1114 kb6 ?_
  refine lv_icmp_ge F.1 F.2.1 (tgt := 1135) zX12_init_1116 (by decide) (fun q => absurd q (by decide +kernel)) (fun _ => ?_)
  refine lv_aload_n F.1 F.2.1 zX12_init_1119 rfl (lv_at hl 1 rfl) ?_
  refine T_get F P ho flX12_9 rfl zX12_init_1120 ?_
  refine lv_bipush F.1 F.2.1 zX12_init_1123 kb32 ?_
  refine lv_iload_n F.1 F.2.1 zX12_init_1125 rfl (lv_at hl 0 rfl) ?_
  refine lv_iadd F.1 F.2.1 zX12_init_1126 ?_
  rw [show nI 32 + nI 3 = nI 35 by decide +kernel]
  refine lv_iconst F.1 F.2.1 zX12_init_1127 kc3 ?_
  refine T_iast2 F P hL ha rfl (by decide) (by decide) zX12_init_1128 (fun H locs P => ?_)
  refine lv_iinc F.1 F.2.1 (v := nI 4) (lv' := [(1, .int (nI 4)), (0, .ref (eb E + o))]) zX12_init_1129 hl (k := 0) rfl (by decide +kernel) (by decide) rfl (fun ls hl => ?_)
  refine lv_goto F.1 F.2.1 (tgt := 1113) zX12_init_1132 (by decide) ?_
  refine lv_iload_n F.1 F.2.1 zX12_init_1113 rfl (lv_at hl 0 rfl) ?_
  refine lv_bipush F.1 F.2.1 zX12_init_1114 kb6 ?_
  refine lv_icmp_ge F.1 F.2.1 (tgt := 1135) zX12_init_1116 (by decide) (fun q => absurd q (by decide +kernel)) (fun _ => ?_)
  refine lv_aload_n F.1 F.2.1 zX12_init_1119 rfl (lv_at hl 1 rfl) ?_
  refine T_get F P ho flX12_9 rfl zX12_init_1120 ?_
  refine lv_bipush F.1 F.2.1 zX12_init_1123 kb32 ?_
  refine lv_iload_n F.1 F.2.1 zX12_init_1125 rfl (lv_at hl 0 rfl) ?_
  refine lv_iadd F.1 F.2.1 zX12_init_1126 ?_
  rw [show nI 32 + nI 4 = nI 36 by decide +kernel]
  refine lv_iconst F.1 F.2.1 zX12_init_1127 kc3 ?_
  refine T_iast2 F P hL ha rfl (by decide) (by decide) zX12_init_1128 (fun H locs P => ?_)
  refine lv_iinc F.1 F.2.1 (v := nI 5) (lv' := [(1, .int (nI 5)), (0, .ref (eb E + o))]) zX12_init_1129 hl (k := 0) rfl (by decide +kernel) (by decide) rfl (fun ls hl => ?_)
  refine lv_goto F.1 F.2.1 (tgt := 1113) zX12_init_1132 (by decide) ?_
  refine lv_iload_n F.1 F.2.1 zX12_init_1113 rfl (lv_at hl 0 rfl) ?_
  refine lv_bipush F.1 F.2.1 zX12_init_1114 kb6 ?_
  refine lv_icmp_ge F.1 F.2.1 (tgt := 1135) zX12_init_1116 (by decide) (fun q => absurd q (by decide +kernel)) (fun _ => ?_)
  refine lv_aload_n F.1 F.2.1 zX12_init_1119 rfl (lv_at hl 1 rfl) ?_
  refine T_get F P ho flX12_9 rfl zX12_init_1120 ?_
  refine lv_bipush F.1 F.2.1 zX12_init_1123 kb32 ?_
  refine lv_iload_n F.1 F.2.1 zX12_init_1125 rfl (lv_at hl 0 rfl) ?_
  refine lv_iadd F.1 F.2.1 zX12_init_1126 ?_
  rw [show nI 32 + nI 5 = nI 37 by decide +kernel]
  refine lv_iconst F.1 F.2.1 zX12_init_1127 kc3 ?_
  refine T_iast2 F P hL ha rfl (by decide) (by decide) zX12_init_1128 (fun H locs P => ?_)
  refine lv_iinc F.1 F.2.1 (v := nI 6) (lv' := [(1, .int (nI 6)), (0, .ref (eb E + o))]) zX12_init_1129 hl (k := 0) rfl (by decide +kernel) (by decide) rfl (fun ls hl => ?_)
  refine lv_goto F.1 F.2.1 (tgt := 1113) zX12_init_1132 (by decide) ?_
  refine lv_iload_n F.1 F.2.1 zX12_init_1113 rfl (lv_at hl 0 rfl) ?_
  refine lv_bipush F.1 F.2.1 zX12_init_1114 kb6 ?_
  refine lv_icmp_ge F.1 F.2.1 (tgt := 1135) zX12_init_1116 (by decide) (fun _ => ?_) (fun q => absurd (by decide +kernel) q)
  exact K_ret F P rfl rfl zX12_init_1135
