def m_okN (m : Nat) : Bool := m_has (mPl m).2.2.2 (.initialized (mY m).cls) &&
  (bif mSt m then m_has (mPl m).2.1 (.static (mY m)) else m_has (mPl m).2.1 (.instanceMethod (mY m)) && (decide ((mY m).name = "<init>") || m_has (mPl m).2.2.1 (.selects (mY m).cls (mY m) (mY m)))) &&
  decide ((mY m).cls ≠ "java/lang/invoke/MethodHandle") && decide ((mY m).cls ≠ "java/lang/invoke/VarHandle") && decide ((parseMethodDescriptor (mY m).desc).map (fun d => d.parameters.length) = some (mN m)) && plainName (mY m).cls
def m_okC (m : Nat) : Prop := Cond.code (mY m) (mB m) (mL m) (mRt m) ∈ gT
theorem m_okC_of {m k i : Nat} (h : (m_tb k)[i]? = some (Cond.code (mY m) (mB m) (mL m) (mRt m))) (hg : goodWord (Cond.code (mY m) (mB m) (mL m) (mRt m)) = true) : m_okC m := List.mem_filter.mpr ⟨m_tb_in (List.mem_of_getElem? h), hg⟩
theorem okm_0 : ([0, 1, 2, 3, 4, 5, 6, 7, 8, 9, 10, 11, 12, 13, 14, 15, 16, 17, 18, 19] : List Nat).all m_okN = true := by decide +kernel
theorem okm_1 : ([20, 21, 22, 23, 24, 25, 26, 27, 28, 29, 30, 31, 32, 33, 34, 35, 36, 37, 38, 39] : List Nat).all m_okN = true := by decide +kernel
theorem okm_2 : ([40, 41, 42, 43, 44, 45, 46, 47, 48, 49, 50, 51, 52, 53, 54, 55, 56, 57, 58, 59] : List Nat).all m_okN = true := by decide +kernel
theorem okm_3 : ([60, 61, 62, 63, 64, 65, 66, 67, 68, 69, 70, 71, 72, 73, 74, 75, 76, 77, 78, 79] : List Nat).all m_okN = true := by decide +kernel
theorem okm_4 : ([80, 81, 82, 83, 84, 85, 86, 87, 88, 89, 90, 91, 92, 93, 94, 95, 96, 97, 99, 100] : List Nat).all m_okN = true := by decide +kernel
theorem okm_5 : ([101, 102, 103, 104, 105, 106, 107, 108, 109, 110, 111, 112, 113, 114, 115, 116, 117, 118, 119, 120] : List Nat).all m_okN = true := by decide +kernel
theorem okm_6 : ([121, 122, 123, 124, 125, 126, 127, 128, 129, 130, 131, 132, 133, 134, 135, 136, 137, 138, 139, 140] : List Nat).all m_okN = true := by decide +kernel
theorem okm_7 : ([141, 142, 143, 144, 145, 146, 147, 148, 149, 150, 151, 152, 153, 154, 155, 156, 157, 158, 159, 160] : List Nat).all m_okN = true := by decide +kernel
theorem okm_8 : ([161, 162, 163, 164, 165, 166, 167, 168, 169, 170, 171, 172, 173, 174, 175, 176, 177, 178, 179, 180] : List Nat).all m_okN = true := by decide +kernel
theorem okm_9 : ([181, 182, 183, 184, 185, 186, 187, 188, 189, 190, 191, 192, 193, 194, 195, 196, 197, 198, 199, 200] : List Nat).all m_okN = true := by decide +kernel
theorem okm_10 : ([201, 202, 203, 204, 205, 206, 207, 208, 209, 210, 211, 212, 213, 214, 215, 216, 217, 218, 219, 220] : List Nat).all m_okN = true := by decide +kernel
theorem okm_11 : ([221, 222, 223, 224, 225, 226, 227, 228, 229, 230, 231, 232, 233, 234, 235, 236, 237, 238, 239, 240] : List Nat).all m_okN = true := by decide +kernel
theorem okm_12 : ([241, 242, 243, 244, 245, 246, 247, 248, 249, 250, 251, 252, 253, 254, 255, 256, 257, 258] : List Nat).all m_okN = true := by decide +kernel
theorem okc_0 : m_okC 0 := m_okC_of (k := 1) (i := 48) rfl rfl
theorem okc_1 : m_okC 1 := m_okC_of (k := 1) (i := 42) rfl rfl
theorem okc_2 : m_okC 2 := m_okC_of (k := 1) (i := 152) rfl rfl
theorem okc_3 : m_okC 3 := m_okC_of (k := 1) (i := 146) rfl rfl
theorem okc_4 : m_okC 4 := m_okC_of (k := 1) (i := 36) rfl rfl
theorem okc_5 : m_okC 5 := m_okC_of (k := 2) (i := 85) rfl rfl
theorem okc_6 : m_okC 6 := m_okC_of (k := 2) (i := 168) rfl rfl
theorem okc_7 : m_okC 7 := m_okC_of (k := 2) (i := 206) rfl rfl
theorem okc_8 : m_okC 8 := m_okC_of (k := 3) (i := 0) rfl rfl
theorem okc_9 : m_okC 9 := m_okC_of (k := 1) (i := 28) rfl rfl
theorem okc_10 : m_okC 10 := m_okC_of (k := 5) (i := 236) rfl rfl
theorem okc_11 : m_okC 11 := m_okC_of (k := 6) (i := 3) rfl rfl
theorem okc_12 : m_okC 12 := m_okC_of (k := 6) (i := 11) rfl rfl
theorem okc_13 : m_okC 13 := m_okC_of (k := 6) (i := 15) rfl rfl
theorem okc_14 : m_okC 14 := m_okC_of (k := 6) (i := 7) rfl rfl
theorem okc_15 : m_okC 15 := m_okC_of (k := 6) (i := 0) rfl rfl
theorem okc_16 : m_okC 16 := m_okC_of (k := 5) (i := 231) rfl rfl
theorem okc_17 : m_okC 17 := m_okC_of (k := 3) (i := 69) rfl rfl
theorem okc_18 : m_okC 18 := m_okC_of (k := 3) (i := 65) rfl rfl
theorem okc_19 : m_okC 19 := m_okC_of (k := 7) (i := 39) rfl rfl
theorem okc_20 : m_okC 20 := m_okC_of (k := 3) (i := 85) rfl rfl
theorem okc_21 : m_okC 21 := m_okC_of (k := 3) (i := 81) rfl rfl
theorem okc_22 : m_okC 22 := m_okC_of (k := 3) (i := 100) rfl rfl
theorem okc_23 : m_okC 23 := m_okC_of (k := 3) (i := 108) rfl rfl
theorem okc_24 : m_okC 24 := m_okC_of (k := 3) (i := 104) rfl rfl
theorem okc_25 : m_okC 25 := m_okC_of (k := 3) (i := 112) rfl rfl
theorem okc_26 : m_okC 26 := m_okC_of (k := 3) (i := 116) rfl rfl
theorem okc_27 : m_okC 27 := m_okC_of (k := 3) (i := 120) rfl rfl
theorem okc_28 : m_okC 28 := m_okC_of (k := 3) (i := 124) rfl rfl
theorem okc_29 : m_okC 29 := m_okC_of (k := 3) (i := 96) rfl rfl
theorem okc_30 : m_okC 30 := m_okC_of (k := 3) (i := 89) rfl rfl
theorem okc_31 : m_okC 31 := m_okC_of (k := 3) (i := 136) rfl rfl
theorem okc_32 : m_okC 32 := m_okC_of (k := 3) (i := 141) rfl rfl
theorem okc_33 : m_okC 33 := m_okC_of (k := 3) (i := 145) rfl rfl
theorem okc_34 : m_okC 34 := m_okC_of (k := 3) (i := 149) rfl rfl
theorem okc_35 : m_okC 35 := m_okC_of (k := 3) (i := 132) rfl rfl
theorem okc_36 : m_okC 36 := m_okC_of (k := 3) (i := 153) rfl rfl
theorem okc_37 : m_okC 37 := m_okC_of (k := 3) (i := 161) rfl rfl
theorem okc_38 : m_okC 38 := m_okC_of (k := 3) (i := 157) rfl rfl
theorem okc_39 : m_okC 39 := m_okC_of (k := 3) (i := 165) rfl rfl
theorem okc_40 : m_okC 40 := m_okC_of (k := 3) (i := 169) rfl rfl
theorem okc_41 : m_okC 41 := m_okC_of (k := 3) (i := 173) rfl rfl
theorem okc_42 : m_okC 42 := m_okC_of (k := 3) (i := 177) rfl rfl
theorem okc_43 : m_okC 43 := m_okC_of (k := 3) (i := 186) rfl rfl
theorem okc_44 : m_okC 44 := m_okC_of (k := 3) (i := 197) rfl rfl
theorem okc_45 : m_okC 45 := m_okC_of (k := 3) (i := 201) rfl rfl
theorem okc_46 : m_okC 46 := m_okC_of (k := 3) (i := 194) rfl rfl
theorem okc_47 : m_okC 47 := m_okC_of (k := 3) (i := 209) rfl rfl
theorem okc_48 : m_okC 48 := m_okC_of (k := 3) (i := 213) rfl rfl
theorem okc_49 : m_okC 49 := m_okC_of (k := 3) (i := 217) rfl rfl
theorem okc_50 : m_okC 50 := m_okC_of (k := 3) (i := 205) rfl rfl
theorem okc_51 : m_okC 51 := m_okC_of (k := 3) (i := 221) rfl rfl
theorem okc_52 : m_okC 52 := m_okC_of (k := 3) (i := 190) rfl rfl
theorem okc_53 : m_okC 53 := m_okC_of (k := 3) (i := 182) rfl rfl
theorem okc_54 : m_okC 54 := m_okC_of (k := 3) (i := 128) rfl rfl
theorem okc_55 : m_okC 55 := m_okC_of (k := 3) (i := 77) rfl rfl
theorem okc_56 : m_okC 56 := m_okC_of (k := 3) (i := 226) rfl rfl
theorem okc_57 : m_okC 57 := m_okC_of (k := 3) (i := 230) rfl rfl
theorem okc_58 : m_okC 58 := m_okC_of (k := 3) (i := 73) rfl rfl
theorem okc_59 : m_okC 59 := m_okC_of (k := 7) (i := 51) rfl rfl
theorem okc_60 : m_okC 60 := m_okC_of (k := 7) (i := 55) rfl rfl
theorem okc_61 : m_okC 61 := m_okC_of (k := 7) (i := 59) rfl rfl
theorem okc_62 : m_okC 62 := m_okC_of (k := 7) (i := 63) rfl rfl
theorem okc_63 : m_okC 63 := m_okC_of (k := 7) (i := 68) rfl rfl
theorem okc_64 : m_okC 64 := m_okC_of (k := 7) (i := 47) rfl rfl
theorem okc_65 : m_okC 65 := m_okC_of (k := 7) (i := 76) rfl rfl
theorem okc_66 : m_okC 66 := m_okC_of (k := 7) (i := 83) rfl rfl
theorem okc_67 : m_okC 67 := m_okC_of (k := 7) (i := 90) rfl rfl
theorem okc_68 : m_okC 68 := m_okC_of (k := 7) (i := 87) rfl rfl
theorem okc_69 : m_okC 69 := m_okC_of (k := 7) (i := 98) rfl rfl
theorem okc_70 : m_okC 70 := m_okC_of (k := 7) (i := 94) rfl rfl
theorem okc_71 : m_okC 71 := m_okC_of (k := 7) (i := 80) rfl rfl
theorem okc_72 : m_okC 72 := m_okC_of (k := 7) (i := 106) rfl rfl
theorem okc_73 : m_okC 73 := m_okC_of (k := 7) (i := 102) rfl rfl
theorem okc_74 : m_okC 74 := m_okC_of (k := 7) (i := 110) rfl rfl
theorem okc_75 : m_okC 75 := m_okC_of (k := 7) (i := 114) rfl rfl
theorem okc_76 : m_okC 76 := m_okC_of (k := 7) (i := 118) rfl rfl
theorem okc_77 : m_okC 77 := m_okC_of (k := 7) (i := 130) rfl rfl
theorem okc_78 : m_okC 78 := m_okC_of (k := 7) (i := 134) rfl rfl
theorem okc_79 : m_okC 79 := m_okC_of (k := 7) (i := 138) rfl rfl
theorem okc_80 : m_okC 80 := m_okC_of (k := 7) (i := 142) rfl rfl
theorem okc_81 : m_okC 81 := m_okC_of (k := 7) (i := 146) rfl rfl
theorem okc_82 : m_okC 82 := m_okC_of (k := 7) (i := 126) rfl rfl
theorem okc_83 : m_okC 83 := m_okC_of (k := 7) (i := 157) rfl rfl
theorem okc_84 : m_okC 84 := m_okC_of (k := 7) (i := 161) rfl rfl
theorem okc_85 : m_okC 85 := m_okC_of (k := 7) (i := 154) rfl rfl
theorem okc_86 : m_okC 86 := m_okC_of (k := 7) (i := 150) rfl rfl
theorem okc_87 : m_okC 87 := m_okC_of (k := 7) (i := 122) rfl rfl
theorem okc_88 : m_okC 88 := m_okC_of (k := 7) (i := 72) rfl rfl
theorem okc_89 : m_okC 89 := m_okC_of (k := 7) (i := 43) rfl rfl
theorem okc_90 : m_okC 90 := m_okC_of (k := 3) (i := 234) rfl rfl
theorem okc_91 : m_okC 91 := m_okC_of (k := 7) (i := 165) rfl rfl
theorem okc_92 : m_okC 92 := m_okC_of (k := 3) (i := 238) rfl rfl
theorem okc_93 : m_okC 93 := m_okC_of (k := 7) (i := 169) rfl rfl
theorem okc_94 : m_okC 94 := m_okC_of (k := 4) (i := 15) rfl rfl
theorem okc_95 : m_okC 95 := m_okC_of (k := 4) (i := 61) rfl rfl
theorem okc_96 : m_okC 96 := m_okC_of (k := 4) (i := 57) rfl rfl
theorem okc_97 : m_okC 97 := m_okC_of (k := 5) (i := 143) rfl rfl
theorem okc_99 : m_okC 99 := m_okC_of (k := 7) (i := 177) rfl rfl
theorem okc_100 : m_okC 100 := m_okC_of (k := 7) (i := 181) rfl rfl
theorem okc_101 : m_okC 101 := m_okC_of (k := 7) (i := 185) rfl rfl
theorem okc_102 : m_okC 102 := m_okC_of (k := 7) (i := 173) rfl rfl
theorem okc_103 : m_okC 103 := m_okC_of (k := 7) (i := 35) rfl rfl
theorem okc_104 : m_okC 104 := m_okC_of (k := 4) (i := 7) rfl rfl
theorem okc_105 : m_okC 105 := m_okC_of (k := 4) (i := 3) rfl rfl
theorem okc_106 : m_okC 106 := m_okC_of (k := 7) (i := 193) rfl rfl
theorem okc_107 : m_okC 107 := m_okC_of (k := 7) (i := 189) rfl rfl
theorem okc_108 : m_okC 108 := m_okC_of (k := 4) (i := 11) rfl rfl
theorem okc_109 : m_okC 109 := m_okC_of (k := 7) (i := 197) rfl rfl
theorem okc_110 : m_okC 110 := m_okC_of (k := 4) (i := 25) rfl rfl
theorem okc_111 : m_okC 111 := m_okC_of (k := 4) (i := 39) rfl rfl
theorem okc_112 : m_okC 112 := m_okC_of (k := 4) (i := 36) rfl rfl
theorem okc_113 : m_okC 113 := m_okC_of (k := 4) (i := 32) rfl rfl
theorem okc_114 : m_okC 114 := m_okC_of (k := 4) (i := 20) rfl rfl
theorem okc_115 : m_okC 115 := m_okC_of (k := 7) (i := 211) rfl rfl
theorem okc_116 : m_okC 116 := m_okC_of (k := 7) (i := 215) rfl rfl
theorem okc_117 : m_okC 117 := m_okC_of (k := 7) (i := 207) rfl rfl
theorem okc_118 : m_okC 118 := m_okC_of (k := 7) (i := 227) rfl rfl
theorem okc_119 : m_okC 119 := m_okC_of (k := 7) (i := 233) rfl rfl
theorem okc_120 : m_okC 120 := m_okC_of (k := 7) (i := 236) rfl rfl
theorem okc_121 : m_okC 121 := m_okC_of (k := 7) (i := 223) rfl rfl
theorem okc_122 : m_okC 122 := m_okC_of (k := 7) (i := 219) rfl rfl
theorem okc_123 : m_okC 123 := m_okC_of (k := 7) (i := 202) rfl rfl
theorem okc_124 : m_okC 124 := m_okC_of (k := 4) (i := 53) rfl rfl
theorem okc_125 : m_okC 125 := m_okC_of (k := 4) (i := 65) rfl rfl
theorem okc_126 : m_okC 126 := m_okC_of (k := 4) (i := 49) rfl rfl
theorem okc_127 : m_okC 127 := m_okC_of (k := 8) (i := 8) rfl rfl
theorem okc_128 : m_okC 128 := m_okC_of (k := 8) (i := 4) rfl rfl
theorem okc_129 : m_okC 129 := m_okC_of (k := 8) (i := 12) rfl rfl
theorem okc_130 : m_okC 130 := m_okC_of (k := 8) (i := 0) rfl rfl
theorem okc_131 : m_okC 131 := m_okC_of (k := 4) (i := 74) rfl rfl
theorem okc_132 : m_okC 132 := m_okC_of (k := 4) (i := 69) rfl rfl
theorem okc_133 : m_okC 133 := m_okC_of (k := 8) (i := 20) rfl rfl
theorem okc_134 : m_okC 134 := m_okC_of (k := 8) (i := 16) rfl rfl
theorem okc_135 : m_okC 135 := m_okC_of (k := 4) (i := 78) rfl rfl
theorem okc_136 : m_okC 136 := m_okC_of (k := 8) (i := 24) rfl rfl
theorem okc_137 : m_okC 137 := m_okC_of (k := 4) (i := 86) rfl rfl
theorem okc_138 : m_okC 138 := m_okC_of (k := 4) (i := 82) rfl rfl
theorem okc_139 : m_okC 139 := m_okC_of (k := 8) (i := 32) rfl rfl
theorem okc_140 : m_okC 140 := m_okC_of (k := 8) (i := 28) rfl rfl
theorem okc_141 : m_okC 141 := m_okC_of (k := 4) (i := 98) rfl rfl
theorem okc_142 : m_okC 142 := m_okC_of (k := 4) (i := 107) rfl rfl
theorem okc_143 : m_okC 143 := m_okC_of (k := 4) (i := 103) rfl rfl
theorem okc_144 : m_okC 144 := m_okC_of (k := 4) (i := 114) rfl rfl
theorem okc_145 : m_okC 145 := m_okC_of (k := 4) (i := 126) rfl rfl
theorem okc_146 : m_okC 146 := m_okC_of (k := 4) (i := 136) rfl rfl
theorem okc_147 : m_okC 147 := m_okC_of (k := 4) (i := 118) rfl rfl
theorem okc_148 : m_okC 148 := m_okC_of (k := 4) (i := 141) rfl rfl
theorem okc_149 : m_okC 149 := m_okC_of (k := 4) (i := 147) rfl rfl
theorem okc_150 : m_okC 150 := m_okC_of (k := 4) (i := 155) rfl rfl
theorem okc_151 : m_okC 151 := m_okC_of (k := 4) (i := 94) rfl rfl
theorem okc_152 : m_okC 152 := m_okC_of (k := 4) (i := 90) rfl rfl
theorem okc_153 : m_okC 153 := m_okC_of (k := 8) (i := 48) rfl rfl
theorem okc_154 : m_okC 154 := m_okC_of (k := 8) (i := 44) rfl rfl
theorem okc_155 : m_okC 155 := m_okC_of (k := 8) (i := 60) rfl rfl
theorem okc_156 : m_okC 156 := m_okC_of (k := 8) (i := 64) rfl rfl
theorem okc_157 : m_okC 157 := m_okC_of (k := 8) (i := 56) rfl rfl
theorem okc_158 : m_okC 158 := m_okC_of (k := 8) (i := 68) rfl rfl
theorem okc_159 : m_okC 159 := m_okC_of (k := 8) (i := 75) rfl rfl
theorem okc_160 : m_okC 160 := m_okC_of (k := 8) (i := 72) rfl rfl
theorem okc_161 : m_okC 161 := m_okC_of (k := 8) (i := 83) rfl rfl
theorem okc_162 : m_okC 162 := m_okC_of (k := 8) (i := 79) rfl rfl
theorem okc_163 : m_okC 163 := m_okC_of (k := 8) (i := 40) rfl rfl
theorem okc_164 : m_okC 164 := m_okC_of (k := 8) (i := 36) rfl rfl
theorem okc_165 : m_okC 165 := m_okC_of (k := 4) (i := 171) rfl rfl
theorem okc_166 : m_okC 166 := m_okC_of (k := 4) (i := 167) rfl rfl
theorem okc_167 : m_okC 167 := m_okC_of (k := 4) (i := 176) rfl rfl
theorem okc_168 : m_okC 168 := m_okC_of (k := 4) (i := 180) rfl rfl
theorem okc_169 : m_okC 169 := m_okC_of (k := 4) (i := 163) rfl rfl
theorem okc_170 : m_okC 170 := m_okC_of (k := 8) (i := 91) rfl rfl
theorem okc_171 : m_okC 171 := m_okC_of (k := 8) (i := 95) rfl rfl
theorem okc_172 : m_okC 172 := m_okC_of (k := 8) (i := 99) rfl rfl
theorem okc_173 : m_okC 173 := m_okC_of (k := 8) (i := 87) rfl rfl
theorem okc_174 : m_okC 174 := m_okC_of (k := 4) (i := 188) rfl rfl
theorem okc_175 : m_okC 175 := m_okC_of (k := 4) (i := 184) rfl rfl
theorem okc_176 : m_okC 176 := m_okC_of (k := 8) (i := 107) rfl rfl
theorem okc_177 : m_okC 177 := m_okC_of (k := 8) (i := 103) rfl rfl
theorem okc_178 : m_okC 178 := m_okC_of (k := 4) (i := 192) rfl rfl
theorem okc_179 : m_okC 179 := m_okC_of (k := 8) (i := 111) rfl rfl
theorem okc_180 : m_okC 180 := m_okC_of (k := 4) (i := 199) rfl rfl
theorem okc_181 : m_okC 181 := m_okC_of (k := 4) (i := 210) rfl rfl
theorem okc_182 : m_okC 182 := m_okC_of (k := 4) (i := 206) rfl rfl
theorem okc_183 : m_okC 183 := m_okC_of (k := 4) (i := 196) rfl rfl
theorem okc_184 : m_okC 184 := m_okC_of (k := 8) (i := 118) rfl rfl
theorem okc_185 : m_okC 185 := m_okC_of (k := 8) (i := 121) rfl rfl
theorem okc_186 : m_okC 186 := m_okC_of (k := 8) (i := 125) rfl rfl
theorem okc_187 : m_okC 187 := m_okC_of (k := 8) (i := 115) rfl rfl
theorem okc_188 : m_okC 188 := m_okC_of (k := 4) (i := 218) rfl rfl
theorem okc_189 : m_okC 189 := m_okC_of (k := 8) (i := 129) rfl rfl
theorem okc_190 : m_okC 190 := m_okC_of (k := 4) (i := 226) rfl rfl
theorem okc_191 : m_okC 191 := m_okC_of (k := 4) (i := 222) rfl rfl
theorem okc_192 : m_okC 192 := m_okC_of (k := 8) (i := 133) rfl rfl
theorem okc_193 : m_okC 193 := m_okC_of (k := 4) (i := 230) rfl rfl
theorem okc_194 : m_okC 194 := m_okC_of (k := 8) (i := 137) rfl rfl
theorem okc_195 : m_okC 195 := m_okC_of (k := 4) (i := 238) rfl rfl
theorem okc_196 : m_okC 196 := m_okC_of (k := 4) (i := 234) rfl rfl
theorem okc_197 : m_okC 197 := m_okC_of (k := 8) (i := 141) rfl rfl
theorem okc_198 : m_okC 198 := m_okC_of (k := 5) (i := 2) rfl rfl
theorem okc_199 : m_okC 199 := m_okC_of (k := 8) (i := 145) rfl rfl
theorem okc_200 : m_okC 200 := m_okC_of (k := 5) (i := 6) rfl rfl
theorem okc_201 : m_okC 201 := m_okC_of (k := 8) (i := 149) rfl rfl
theorem okc_202 : m_okC 202 := m_okC_of (k := 5) (i := 14) rfl rfl
theorem okc_203 : m_okC 203 := m_okC_of (k := 5) (i := 21) rfl rfl
theorem okc_204 : m_okC 204 := m_okC_of (k := 5) (i := 18) rfl rfl
theorem okc_205 : m_okC 205 := m_okC_of (k := 5) (i := 10) rfl rfl
theorem okc_206 : m_okC 206 := m_okC_of (k := 8) (i := 181) rfl rfl
theorem okc_207 : m_okC 207 := m_okC_of (k := 8) (i := 188) rfl rfl
theorem okc_208 : m_okC 208 := m_okC_of (k := 8) (i := 185) rfl rfl
theorem okc_209 : m_okC 209 := m_okC_of (k := 8) (i := 177) rfl rfl
theorem okc_210 : m_okC 210 := m_okC_of (k := 5) (i := 25) rfl rfl
theorem okc_211 : m_okC 211 := m_okC_of (k := 8) (i := 192) rfl rfl
theorem okc_212 : m_okC 212 := m_okC_of (k := 5) (i := 29) rfl rfl
theorem okc_213 : m_okC 213 := m_okC_of (k := 8) (i := 153) rfl rfl
theorem okc_214 : m_okC 214 := m_okC_of (k := 5) (i := 34) rfl rfl
theorem okc_215 : m_okC 215 := m_okC_of (k := 8) (i := 157) rfl rfl
theorem okc_216 : m_okC 216 := m_okC_of (k := 5) (i := 38) rfl rfl
theorem okc_217 : m_okC 217 := m_okC_of (k := 8) (i := 161) rfl rfl
theorem okc_218 : m_okC 218 := m_okC_of (k := 5) (i := 42) rfl rfl
theorem okc_219 : m_okC 219 := m_okC_of (k := 8) (i := 165) rfl rfl
theorem okc_220 : m_okC 220 := m_okC_of (k := 5) (i := 47) rfl rfl
theorem okc_221 : m_okC 221 := m_okC_of (k := 8) (i := 169) rfl rfl
theorem okc_222 : m_okC 222 := m_okC_of (k := 5) (i := 51) rfl rfl
theorem okc_223 : m_okC 223 := m_okC_of (k := 8) (i := 173) rfl rfl
theorem okc_224 : m_okC 224 := m_okC_of (k := 5) (i := 59) rfl rfl
theorem okc_225 : m_okC 225 := m_okC_of (k := 5) (i := 55) rfl rfl
theorem okc_226 : m_okC 226 := m_okC_of (k := 8) (i := 200) rfl rfl
theorem okc_227 : m_okC 227 := m_okC_of (k := 8) (i := 196) rfl rfl
theorem okc_228 : m_okC 228 := m_okC_of (k := 5) (i := 67) rfl rfl
theorem okc_229 : m_okC 229 := m_okC_of (k := 5) (i := 63) rfl rfl
theorem okc_230 : m_okC 230 := m_okC_of (k := 8) (i := 204) rfl rfl
theorem okc_231 : m_okC 231 := m_okC_of (k := 5) (i := 71) rfl rfl
theorem okc_232 : m_okC 232 := m_okC_of (k := 8) (i := 208) rfl rfl
theorem okc_233 : m_okC 233 := m_okC_of (k := 5) (i := 83) rfl rfl
theorem okc_234 : m_okC 234 := m_okC_of (k := 5) (i := 79) rfl rfl
theorem okc_235 : m_okC 235 := m_okC_of (k := 5) (i := 92) rfl rfl
theorem okc_236 : m_okC 236 := m_okC_of (k := 5) (i := 97) rfl rfl
theorem okc_237 : m_okC 237 := m_okC_of (k := 5) (i := 88) rfl rfl
theorem okc_238 : m_okC 238 := m_okC_of (k := 5) (i := 75) rfl rfl
theorem okc_239 : m_okC 239 := m_okC_of (k := 8) (i := 216) rfl rfl
theorem okc_240 : m_okC 240 := m_okC_of (k := 8) (i := 224) rfl rfl
theorem okc_241 : m_okC 241 := m_okC_of (k := 8) (i := 220) rfl rfl
theorem okc_242 : m_okC 242 := m_okC_of (k := 8) (i := 212) rfl rfl
theorem okc_243 : m_okC 243 := m_okC_of (k := 5) (i := 101) rfl rfl
theorem okc_244 : m_okC 244 := m_okC_of (k := 8) (i := 228) rfl rfl
theorem okc_245 : m_okC 245 := m_okC_of (k := 5) (i := 109) rfl rfl
theorem okc_246 : m_okC 246 := m_okC_of (k := 5) (i := 105) rfl rfl
theorem okc_247 : m_okC 247 := m_okC_of (k := 8) (i := 232) rfl rfl
theorem okc_248 : m_okC 248 := m_okC_of (k := 5) (i := 117) rfl rfl
theorem okc_249 : m_okC 249 := m_okC_of (k := 5) (i := 113) rfl rfl
theorem okc_250 : m_okC 250 := m_okC_of (k := 9) (i := 0) rfl rfl
theorem okc_251 : m_okC 251 := m_okC_of (k := 8) (i := 236) rfl rfl
theorem okc_252 : m_okC 252 := m_okC_of (k := 5) (i := 121) rfl rfl
theorem okc_253 : m_okC 253 := m_okC_of (k := 9) (i := 4) rfl rfl
theorem okc_254 : m_okC 254 := m_okC_of (k := 5) (i := 125) rfl rfl
theorem okc_255 : m_okC 255 := m_okC_of (k := 9) (i := 8) rfl rfl
theorem okc_256 : m_okC 256 := m_okC_of (k := 5) (i := 133) rfl rfl
theorem okc_257 : m_okC 257 := m_okC_of (k := 5) (i := 129) rfl rfl
theorem okc_258 : m_okC 258 := m_okC_of (k := 9) (i := 12) rfl rfl
theorem ok_to {P : Nat → Prop} {m k : Nat} (h : m = k) (hp : P k) : P m := h ▸ hp
theorem okM_all (m : Nat) (h : m < 260) (hl : ¬ m = 259) (hn : ¬ m = 98) : m_okN m = true ∧ m_okC m := by
  rcases Nat.lt_or_ge m 130 with h1 | h1
  · rcases Nat.lt_or_ge m 65 with h2 | h2
    · rcases Nat.lt_or_ge m 32 with h3 | h3
      · rcases Nat.lt_or_ge m 16 with h4 | h4
        · rcases Nat.lt_or_ge m 8 with h5 | h5
          · rcases Nat.lt_or_ge m 4 with h6 | h6
            · rcases Nat.lt_or_ge m 2 with h7 | h7
              · rcases Nat.lt_or_ge m 1 with h8 | h8
                · exact ok_to (P := fun m => m_okN m = true ∧ m_okC m) (show m = 0 by omega) ⟨List.all_eq_true.mp okm_0 0 (by decide), okc_0⟩
                · exact ok_to (P := fun m => m_okN m = true ∧ m_okC m) (show m = 1 by omega) ⟨List.all_eq_true.mp okm_0 1 (by decide), okc_1⟩
              · rcases Nat.lt_or_ge m 3 with h8 | h8
                · exact ok_to (P := fun m => m_okN m = true ∧ m_okC m) (show m = 2 by omega) ⟨List.all_eq_true.mp okm_0 2 (by decide), okc_2⟩
                · exact ok_to (P := fun m => m_okN m = true ∧ m_okC m) (show m = 3 by omega) ⟨List.all_eq_true.mp okm_0 3 (by decide), okc_3⟩
            · rcases Nat.lt_or_ge m 6 with h7 | h7
              · rcases Nat.lt_or_ge m 5 with h8 | h8
                · exact ok_to (P := fun m => m_okN m = true ∧ m_okC m) (show m = 4 by omega) ⟨List.all_eq_true.mp okm_0 4 (by decide), okc_4⟩
                · exact ok_to (P := fun m => m_okN m = true ∧ m_okC m) (show m = 5 by omega) ⟨List.all_eq_true.mp okm_0 5 (by decide), okc_5⟩
              · rcases Nat.lt_or_ge m 7 with h8 | h8
                · exact ok_to (P := fun m => m_okN m = true ∧ m_okC m) (show m = 6 by omega) ⟨List.all_eq_true.mp okm_0 6 (by decide), okc_6⟩
                · exact ok_to (P := fun m => m_okN m = true ∧ m_okC m) (show m = 7 by omega) ⟨List.all_eq_true.mp okm_0 7 (by decide), okc_7⟩
          · rcases Nat.lt_or_ge m 12 with h6 | h6
            · rcases Nat.lt_or_ge m 10 with h7 | h7
              · rcases Nat.lt_or_ge m 9 with h8 | h8
                · exact ok_to (P := fun m => m_okN m = true ∧ m_okC m) (show m = 8 by omega) ⟨List.all_eq_true.mp okm_0 8 (by decide), okc_8⟩
                · exact ok_to (P := fun m => m_okN m = true ∧ m_okC m) (show m = 9 by omega) ⟨List.all_eq_true.mp okm_0 9 (by decide), okc_9⟩
              · rcases Nat.lt_or_ge m 11 with h8 | h8
                · exact ok_to (P := fun m => m_okN m = true ∧ m_okC m) (show m = 10 by omega) ⟨List.all_eq_true.mp okm_0 10 (by decide), okc_10⟩
                · exact ok_to (P := fun m => m_okN m = true ∧ m_okC m) (show m = 11 by omega) ⟨List.all_eq_true.mp okm_0 11 (by decide), okc_11⟩
            · rcases Nat.lt_or_ge m 14 with h7 | h7
              · rcases Nat.lt_or_ge m 13 with h8 | h8
                · exact ok_to (P := fun m => m_okN m = true ∧ m_okC m) (show m = 12 by omega) ⟨List.all_eq_true.mp okm_0 12 (by decide), okc_12⟩
                · exact ok_to (P := fun m => m_okN m = true ∧ m_okC m) (show m = 13 by omega) ⟨List.all_eq_true.mp okm_0 13 (by decide), okc_13⟩
              · rcases Nat.lt_or_ge m 15 with h8 | h8
                · exact ok_to (P := fun m => m_okN m = true ∧ m_okC m) (show m = 14 by omega) ⟨List.all_eq_true.mp okm_0 14 (by decide), okc_14⟩
                · exact ok_to (P := fun m => m_okN m = true ∧ m_okC m) (show m = 15 by omega) ⟨List.all_eq_true.mp okm_0 15 (by decide), okc_15⟩
        · rcases Nat.lt_or_ge m 24 with h5 | h5
          · rcases Nat.lt_or_ge m 20 with h6 | h6
            · rcases Nat.lt_or_ge m 18 with h7 | h7
              · rcases Nat.lt_or_ge m 17 with h8 | h8
                · exact ok_to (P := fun m => m_okN m = true ∧ m_okC m) (show m = 16 by omega) ⟨List.all_eq_true.mp okm_0 16 (by decide), okc_16⟩
                · exact ok_to (P := fun m => m_okN m = true ∧ m_okC m) (show m = 17 by omega) ⟨List.all_eq_true.mp okm_0 17 (by decide), okc_17⟩
              · rcases Nat.lt_or_ge m 19 with h8 | h8
                · exact ok_to (P := fun m => m_okN m = true ∧ m_okC m) (show m = 18 by omega) ⟨List.all_eq_true.mp okm_0 18 (by decide), okc_18⟩
                · exact ok_to (P := fun m => m_okN m = true ∧ m_okC m) (show m = 19 by omega) ⟨List.all_eq_true.mp okm_0 19 (by decide), okc_19⟩
            · rcases Nat.lt_or_ge m 22 with h7 | h7
              · rcases Nat.lt_or_ge m 21 with h8 | h8
                · exact ok_to (P := fun m => m_okN m = true ∧ m_okC m) (show m = 20 by omega) ⟨List.all_eq_true.mp okm_1 20 (by decide), okc_20⟩
                · exact ok_to (P := fun m => m_okN m = true ∧ m_okC m) (show m = 21 by omega) ⟨List.all_eq_true.mp okm_1 21 (by decide), okc_21⟩
              · rcases Nat.lt_or_ge m 23 with h8 | h8
                · exact ok_to (P := fun m => m_okN m = true ∧ m_okC m) (show m = 22 by omega) ⟨List.all_eq_true.mp okm_1 22 (by decide), okc_22⟩
                · exact ok_to (P := fun m => m_okN m = true ∧ m_okC m) (show m = 23 by omega) ⟨List.all_eq_true.mp okm_1 23 (by decide), okc_23⟩
          · rcases Nat.lt_or_ge m 28 with h6 | h6
            · rcases Nat.lt_or_ge m 26 with h7 | h7
              · rcases Nat.lt_or_ge m 25 with h8 | h8
                · exact ok_to (P := fun m => m_okN m = true ∧ m_okC m) (show m = 24 by omega) ⟨List.all_eq_true.mp okm_1 24 (by decide), okc_24⟩
                · exact ok_to (P := fun m => m_okN m = true ∧ m_okC m) (show m = 25 by omega) ⟨List.all_eq_true.mp okm_1 25 (by decide), okc_25⟩
              · rcases Nat.lt_or_ge m 27 with h8 | h8
                · exact ok_to (P := fun m => m_okN m = true ∧ m_okC m) (show m = 26 by omega) ⟨List.all_eq_true.mp okm_1 26 (by decide), okc_26⟩
                · exact ok_to (P := fun m => m_okN m = true ∧ m_okC m) (show m = 27 by omega) ⟨List.all_eq_true.mp okm_1 27 (by decide), okc_27⟩
            · rcases Nat.lt_or_ge m 30 with h7 | h7
              · rcases Nat.lt_or_ge m 29 with h8 | h8
                · exact ok_to (P := fun m => m_okN m = true ∧ m_okC m) (show m = 28 by omega) ⟨List.all_eq_true.mp okm_1 28 (by decide), okc_28⟩
                · exact ok_to (P := fun m => m_okN m = true ∧ m_okC m) (show m = 29 by omega) ⟨List.all_eq_true.mp okm_1 29 (by decide), okc_29⟩
              · rcases Nat.lt_or_ge m 31 with h8 | h8
                · exact ok_to (P := fun m => m_okN m = true ∧ m_okC m) (show m = 30 by omega) ⟨List.all_eq_true.mp okm_1 30 (by decide), okc_30⟩
                · exact ok_to (P := fun m => m_okN m = true ∧ m_okC m) (show m = 31 by omega) ⟨List.all_eq_true.mp okm_1 31 (by decide), okc_31⟩
      · rcases Nat.lt_or_ge m 48 with h4 | h4
        · rcases Nat.lt_or_ge m 40 with h5 | h5
          · rcases Nat.lt_or_ge m 36 with h6 | h6
            · rcases Nat.lt_or_ge m 34 with h7 | h7
              · rcases Nat.lt_or_ge m 33 with h8 | h8
                · exact ok_to (P := fun m => m_okN m = true ∧ m_okC m) (show m = 32 by omega) ⟨List.all_eq_true.mp okm_1 32 (by decide), okc_32⟩
                · exact ok_to (P := fun m => m_okN m = true ∧ m_okC m) (show m = 33 by omega) ⟨List.all_eq_true.mp okm_1 33 (by decide), okc_33⟩
              · rcases Nat.lt_or_ge m 35 with h8 | h8
                · exact ok_to (P := fun m => m_okN m = true ∧ m_okC m) (show m = 34 by omega) ⟨List.all_eq_true.mp okm_1 34 (by decide), okc_34⟩
                · exact ok_to (P := fun m => m_okN m = true ∧ m_okC m) (show m = 35 by omega) ⟨List.all_eq_true.mp okm_1 35 (by decide), okc_35⟩
            · rcases Nat.lt_or_ge m 38 with h7 | h7
              · rcases Nat.lt_or_ge m 37 with h8 | h8
                · exact ok_to (P := fun m => m_okN m = true ∧ m_okC m) (show m = 36 by omega) ⟨List.all_eq_true.mp okm_1 36 (by decide), okc_36⟩
                · exact ok_to (P := fun m => m_okN m = true ∧ m_okC m) (show m = 37 by omega) ⟨List.all_eq_true.mp okm_1 37 (by decide), okc_37⟩
              · rcases Nat.lt_or_ge m 39 with h8 | h8
                · exact ok_to (P := fun m => m_okN m = true ∧ m_okC m) (show m = 38 by omega) ⟨List.all_eq_true.mp okm_1 38 (by decide), okc_38⟩
                · exact ok_to (P := fun m => m_okN m = true ∧ m_okC m) (show m = 39 by omega) ⟨List.all_eq_true.mp okm_1 39 (by decide), okc_39⟩
          · rcases Nat.lt_or_ge m 44 with h6 | h6
            · rcases Nat.lt_or_ge m 42 with h7 | h7
              · rcases Nat.lt_or_ge m 41 with h8 | h8
                · exact ok_to (P := fun m => m_okN m = true ∧ m_okC m) (show m = 40 by omega) ⟨List.all_eq_true.mp okm_2 40 (by decide), okc_40⟩
                · exact ok_to (P := fun m => m_okN m = true ∧ m_okC m) (show m = 41 by omega) ⟨List.all_eq_true.mp okm_2 41 (by decide), okc_41⟩
              · rcases Nat.lt_or_ge m 43 with h8 | h8
                · exact ok_to (P := fun m => m_okN m = true ∧ m_okC m) (show m = 42 by omega) ⟨List.all_eq_true.mp okm_2 42 (by decide), okc_42⟩
                · exact ok_to (P := fun m => m_okN m = true ∧ m_okC m) (show m = 43 by omega) ⟨List.all_eq_true.mp okm_2 43 (by decide), okc_43⟩
            · rcases Nat.lt_or_ge m 46 with h7 | h7
              · rcases Nat.lt_or_ge m 45 with h8 | h8
                · exact ok_to (P := fun m => m_okN m = true ∧ m_okC m) (show m = 44 by omega) ⟨List.all_eq_true.mp okm_2 44 (by decide), okc_44⟩
                · exact ok_to (P := fun m => m_okN m = true ∧ m_okC m) (show m = 45 by omega) ⟨List.all_eq_true.mp okm_2 45 (by decide), okc_45⟩
              · rcases Nat.lt_or_ge m 47 with h8 | h8
                · exact ok_to (P := fun m => m_okN m = true ∧ m_okC m) (show m = 46 by omega) ⟨List.all_eq_true.mp okm_2 46 (by decide), okc_46⟩
                · exact ok_to (P := fun m => m_okN m = true ∧ m_okC m) (show m = 47 by omega) ⟨List.all_eq_true.mp okm_2 47 (by decide), okc_47⟩
        · rcases Nat.lt_or_ge m 56 with h5 | h5
          · rcases Nat.lt_or_ge m 52 with h6 | h6
            · rcases Nat.lt_or_ge m 50 with h7 | h7
              · rcases Nat.lt_or_ge m 49 with h8 | h8
                · exact ok_to (P := fun m => m_okN m = true ∧ m_okC m) (show m = 48 by omega) ⟨List.all_eq_true.mp okm_2 48 (by decide), okc_48⟩
                · exact ok_to (P := fun m => m_okN m = true ∧ m_okC m) (show m = 49 by omega) ⟨List.all_eq_true.mp okm_2 49 (by decide), okc_49⟩
              · rcases Nat.lt_or_ge m 51 with h8 | h8
                · exact ok_to (P := fun m => m_okN m = true ∧ m_okC m) (show m = 50 by omega) ⟨List.all_eq_true.mp okm_2 50 (by decide), okc_50⟩
                · exact ok_to (P := fun m => m_okN m = true ∧ m_okC m) (show m = 51 by omega) ⟨List.all_eq_true.mp okm_2 51 (by decide), okc_51⟩
            · rcases Nat.lt_or_ge m 54 with h7 | h7
              · rcases Nat.lt_or_ge m 53 with h8 | h8
                · exact ok_to (P := fun m => m_okN m = true ∧ m_okC m) (show m = 52 by omega) ⟨List.all_eq_true.mp okm_2 52 (by decide), okc_52⟩
                · exact ok_to (P := fun m => m_okN m = true ∧ m_okC m) (show m = 53 by omega) ⟨List.all_eq_true.mp okm_2 53 (by decide), okc_53⟩
              · rcases Nat.lt_or_ge m 55 with h8 | h8
                · exact ok_to (P := fun m => m_okN m = true ∧ m_okC m) (show m = 54 by omega) ⟨List.all_eq_true.mp okm_2 54 (by decide), okc_54⟩
                · exact ok_to (P := fun m => m_okN m = true ∧ m_okC m) (show m = 55 by omega) ⟨List.all_eq_true.mp okm_2 55 (by decide), okc_55⟩
          · rcases Nat.lt_or_ge m 60 with h6 | h6
            · rcases Nat.lt_or_ge m 58 with h7 | h7
              · rcases Nat.lt_or_ge m 57 with h8 | h8
                · exact ok_to (P := fun m => m_okN m = true ∧ m_okC m) (show m = 56 by omega) ⟨List.all_eq_true.mp okm_2 56 (by decide), okc_56⟩
                · exact ok_to (P := fun m => m_okN m = true ∧ m_okC m) (show m = 57 by omega) ⟨List.all_eq_true.mp okm_2 57 (by decide), okc_57⟩
              · rcases Nat.lt_or_ge m 59 with h8 | h8
                · exact ok_to (P := fun m => m_okN m = true ∧ m_okC m) (show m = 58 by omega) ⟨List.all_eq_true.mp okm_2 58 (by decide), okc_58⟩
                · exact ok_to (P := fun m => m_okN m = true ∧ m_okC m) (show m = 59 by omega) ⟨List.all_eq_true.mp okm_2 59 (by decide), okc_59⟩
            · rcases Nat.lt_or_ge m 62 with h7 | h7
              · rcases Nat.lt_or_ge m 61 with h8 | h8
                · exact ok_to (P := fun m => m_okN m = true ∧ m_okC m) (show m = 60 by omega) ⟨List.all_eq_true.mp okm_3 60 (by decide), okc_60⟩
                · exact ok_to (P := fun m => m_okN m = true ∧ m_okC m) (show m = 61 by omega) ⟨List.all_eq_true.mp okm_3 61 (by decide), okc_61⟩
              · rcases Nat.lt_or_ge m 63 with h8 | h8
                · exact ok_to (P := fun m => m_okN m = true ∧ m_okC m) (show m = 62 by omega) ⟨List.all_eq_true.mp okm_3 62 (by decide), okc_62⟩
                · rcases Nat.lt_or_ge m 64 with h9 | h9
                  · exact ok_to (P := fun m => m_okN m = true ∧ m_okC m) (show m = 63 by omega) ⟨List.all_eq_true.mp okm_3 63 (by decide), okc_63⟩
                  · exact ok_to (P := fun m => m_okN m = true ∧ m_okC m) (show m = 64 by omega) ⟨List.all_eq_true.mp okm_3 64 (by decide), okc_64⟩
    · rcases Nat.lt_or_ge m 97 with h3 | h3
      · rcases Nat.lt_or_ge m 81 with h4 | h4
        · rcases Nat.lt_or_ge m 73 with h5 | h5
          · rcases Nat.lt_or_ge m 69 with h6 | h6
            · rcases Nat.lt_or_ge m 67 with h7 | h7
              · rcases Nat.lt_or_ge m 66 with h8 | h8
                · exact ok_to (P := fun m => m_okN m = true ∧ m_okC m) (show m = 65 by omega) ⟨List.all_eq_true.mp okm_3 65 (by decide), okc_65⟩
                · exact ok_to (P := fun m => m_okN m = true ∧ m_okC m) (show m = 66 by omega) ⟨List.all_eq_true.mp okm_3 66 (by decide), okc_66⟩
              · rcases Nat.lt_or_ge m 68 with h8 | h8
                · exact ok_to (P := fun m => m_okN m = true ∧ m_okC m) (show m = 67 by omega) ⟨List.all_eq_true.mp okm_3 67 (by decide), okc_67⟩
                · exact ok_to (P := fun m => m_okN m = true ∧ m_okC m) (show m = 68 by omega) ⟨List.all_eq_true.mp okm_3 68 (by decide), okc_68⟩
            · rcases Nat.lt_or_ge m 71 with h7 | h7
              · rcases Nat.lt_or_ge m 70 with h8 | h8
                · exact ok_to (P := fun m => m_okN m = true ∧ m_okC m) (show m = 69 by omega) ⟨List.all_eq_true.mp okm_3 69 (by decide), okc_69⟩
                · exact ok_to (P := fun m => m_okN m = true ∧ m_okC m) (show m = 70 by omega) ⟨List.all_eq_true.mp okm_3 70 (by decide), okc_70⟩
              · rcases Nat.lt_or_ge m 72 with h8 | h8
                · exact ok_to (P := fun m => m_okN m = true ∧ m_okC m) (show m = 71 by omega) ⟨List.all_eq_true.mp okm_3 71 (by decide), okc_71⟩
                · exact ok_to (P := fun m => m_okN m = true ∧ m_okC m) (show m = 72 by omega) ⟨List.all_eq_true.mp okm_3 72 (by decide), okc_72⟩
          · rcases Nat.lt_or_ge m 77 with h6 | h6
            · rcases Nat.lt_or_ge m 75 with h7 | h7
              · rcases Nat.lt_or_ge m 74 with h8 | h8
                · exact ok_to (P := fun m => m_okN m = true ∧ m_okC m) (show m = 73 by omega) ⟨List.all_eq_true.mp okm_3 73 (by decide), okc_73⟩
                · exact ok_to (P := fun m => m_okN m = true ∧ m_okC m) (show m = 74 by omega) ⟨List.all_eq_true.mp okm_3 74 (by decide), okc_74⟩
              · rcases Nat.lt_or_ge m 76 with h8 | h8
                · exact ok_to (P := fun m => m_okN m = true ∧ m_okC m) (show m = 75 by omega) ⟨List.all_eq_true.mp okm_3 75 (by decide), okc_75⟩
                · exact ok_to (P := fun m => m_okN m = true ∧ m_okC m) (show m = 76 by omega) ⟨List.all_eq_true.mp okm_3 76 (by decide), okc_76⟩
            · rcases Nat.lt_or_ge m 79 with h7 | h7
              · rcases Nat.lt_or_ge m 78 with h8 | h8
                · exact ok_to (P := fun m => m_okN m = true ∧ m_okC m) (show m = 77 by omega) ⟨List.all_eq_true.mp okm_3 77 (by decide), okc_77⟩
                · exact ok_to (P := fun m => m_okN m = true ∧ m_okC m) (show m = 78 by omega) ⟨List.all_eq_true.mp okm_3 78 (by decide), okc_78⟩
              · rcases Nat.lt_or_ge m 80 with h8 | h8
                · exact ok_to (P := fun m => m_okN m = true ∧ m_okC m) (show m = 79 by omega) ⟨List.all_eq_true.mp okm_3 79 (by decide), okc_79⟩
                · exact ok_to (P := fun m => m_okN m = true ∧ m_okC m) (show m = 80 by omega) ⟨List.all_eq_true.mp okm_4 80 (by decide), okc_80⟩
        · rcases Nat.lt_or_ge m 89 with h5 | h5
          · rcases Nat.lt_or_ge m 85 with h6 | h6
            · rcases Nat.lt_or_ge m 83 with h7 | h7
              · rcases Nat.lt_or_ge m 82 with h8 | h8
                · exact ok_to (P := fun m => m_okN m = true ∧ m_okC m) (show m = 81 by omega) ⟨List.all_eq_true.mp okm_4 81 (by decide), okc_81⟩
                · exact ok_to (P := fun m => m_okN m = true ∧ m_okC m) (show m = 82 by omega) ⟨List.all_eq_true.mp okm_4 82 (by decide), okc_82⟩
              · rcases Nat.lt_or_ge m 84 with h8 | h8
                · exact ok_to (P := fun m => m_okN m = true ∧ m_okC m) (show m = 83 by omega) ⟨List.all_eq_true.mp okm_4 83 (by decide), okc_83⟩
                · exact ok_to (P := fun m => m_okN m = true ∧ m_okC m) (show m = 84 by omega) ⟨List.all_eq_true.mp okm_4 84 (by decide), okc_84⟩
            · rcases Nat.lt_or_ge m 87 with h7 | h7
              · rcases Nat.lt_or_ge m 86 with h8 | h8
                · exact ok_to (P := fun m => m_okN m = true ∧ m_okC m) (show m = 85 by omega) ⟨List.all_eq_true.mp okm_4 85 (by decide), okc_85⟩
                · exact ok_to (P := fun m => m_okN m = true ∧ m_okC m) (show m = 86 by omega) ⟨List.all_eq_true.mp okm_4 86 (by decide), okc_86⟩
              · rcases Nat.lt_or_ge m 88 with h8 | h8
                · exact ok_to (P := fun m => m_okN m = true ∧ m_okC m) (show m = 87 by omega) ⟨List.all_eq_true.mp okm_4 87 (by decide), okc_87⟩
                · exact ok_to (P := fun m => m_okN m = true ∧ m_okC m) (show m = 88 by omega) ⟨List.all_eq_true.mp okm_4 88 (by decide), okc_88⟩
          · rcases Nat.lt_or_ge m 93 with h6 | h6
            · rcases Nat.lt_or_ge m 91 with h7 | h7
              · rcases Nat.lt_or_ge m 90 with h8 | h8
                · exact ok_to (P := fun m => m_okN m = true ∧ m_okC m) (show m = 89 by omega) ⟨List.all_eq_true.mp okm_4 89 (by decide), okc_89⟩
                · exact ok_to (P := fun m => m_okN m = true ∧ m_okC m) (show m = 90 by omega) ⟨List.all_eq_true.mp okm_4 90 (by decide), okc_90⟩
              · rcases Nat.lt_or_ge m 92 with h8 | h8
                · exact ok_to (P := fun m => m_okN m = true ∧ m_okC m) (show m = 91 by omega) ⟨List.all_eq_true.mp okm_4 91 (by decide), okc_91⟩
                · exact ok_to (P := fun m => m_okN m = true ∧ m_okC m) (show m = 92 by omega) ⟨List.all_eq_true.mp okm_4 92 (by decide), okc_92⟩
            · rcases Nat.lt_or_ge m 95 with h7 | h7
              · rcases Nat.lt_or_ge m 94 with h8 | h8
                · exact ok_to (P := fun m => m_okN m = true ∧ m_okC m) (show m = 93 by omega) ⟨List.all_eq_true.mp okm_4 93 (by decide), okc_93⟩
                · exact ok_to (P := fun m => m_okN m = true ∧ m_okC m) (show m = 94 by omega) ⟨List.all_eq_true.mp okm_4 94 (by decide), okc_94⟩
              · rcases Nat.lt_or_ge m 96 with h8 | h8
                · exact ok_to (P := fun m => m_okN m = true ∧ m_okC m) (show m = 95 by omega) ⟨List.all_eq_true.mp okm_4 95 (by decide), okc_95⟩
                · exact ok_to (P := fun m => m_okN m = true ∧ m_okC m) (show m = 96 by omega) ⟨List.all_eq_true.mp okm_4 96 (by decide), okc_96⟩
      · rcases Nat.lt_or_ge m 113 with h4 | h4
        · rcases Nat.lt_or_ge m 105 with h5 | h5
          · rcases Nat.lt_or_ge m 101 with h6 | h6
            · rcases Nat.lt_or_ge m 99 with h7 | h7
              · rcases Nat.lt_or_ge m 98 with h8 | h8
                · exact ok_to (P := fun m => m_okN m = true ∧ m_okC m) (show m = 97 by omega) ⟨List.all_eq_true.mp okm_4 97 (by decide), okc_97⟩
                · exact absurd (show m = 98 by omega) hn
              · rcases Nat.lt_or_ge m 100 with h8 | h8
                · exact ok_to (P := fun m => m_okN m = true ∧ m_okC m) (show m = 99 by omega) ⟨List.all_eq_true.mp okm_4 99 (by decide), okc_99⟩
                · exact ok_to (P := fun m => m_okN m = true ∧ m_okC m) (show m = 100 by omega) ⟨List.all_eq_true.mp okm_4 100 (by decide), okc_100⟩
            · rcases Nat.lt_or_ge m 103 with h7 | h7
              · rcases Nat.lt_or_ge m 102 with h8 | h8
                · exact ok_to (P := fun m => m_okN m = true ∧ m_okC m) (show m = 101 by omega) ⟨List.all_eq_true.mp okm_5 101 (by decide), okc_101⟩
                · exact ok_to (P := fun m => m_okN m = true ∧ m_okC m) (show m = 102 by omega) ⟨List.all_eq_true.mp okm_5 102 (by decide), okc_102⟩
              · rcases Nat.lt_or_ge m 104 with h8 | h8
                · exact ok_to (P := fun m => m_okN m = true ∧ m_okC m) (show m = 103 by omega) ⟨List.all_eq_true.mp okm_5 103 (by decide), okc_103⟩
                · exact ok_to (P := fun m => m_okN m = true ∧ m_okC m) (show m = 104 by omega) ⟨List.all_eq_true.mp okm_5 104 (by decide), okc_104⟩
          · rcases Nat.lt_or_ge m 109 with h6 | h6
            · rcases Nat.lt_or_ge m 107 with h7 | h7
              · rcases Nat.lt_or_ge m 106 with h8 | h8
                · exact ok_to (P := fun m => m_okN m = true ∧ m_okC m) (show m = 105 by omega) ⟨List.all_eq_true.mp okm_5 105 (by decide), okc_105⟩
                · exact ok_to (P := fun m => m_okN m = true ∧ m_okC m) (show m = 106 by omega) ⟨List.all_eq_true.mp okm_5 106 (by decide), okc_106⟩
              · rcases Nat.lt_or_ge m 108 with h8 | h8
                · exact ok_to (P := fun m => m_okN m = true ∧ m_okC m) (show m = 107 by omega) ⟨List.all_eq_true.mp okm_5 107 (by decide), okc_107⟩
                · exact ok_to (P := fun m => m_okN m = true ∧ m_okC m) (show m = 108 by omega) ⟨List.all_eq_true.mp okm_5 108 (by decide), okc_108⟩
            · rcases Nat.lt_or_ge m 111 with h7 | h7
              · rcases Nat.lt_or_ge m 110 with h8 | h8
                · exact ok_to (P := fun m => m_okN m = true ∧ m_okC m) (show m = 109 by omega) ⟨List.all_eq_true.mp okm_5 109 (by decide), okc_109⟩
                · exact ok_to (P := fun m => m_okN m = true ∧ m_okC m) (show m = 110 by omega) ⟨List.all_eq_true.mp okm_5 110 (by decide), okc_110⟩
              · rcases Nat.lt_or_ge m 112 with h8 | h8
                · exact ok_to (P := fun m => m_okN m = true ∧ m_okC m) (show m = 111 by omega) ⟨List.all_eq_true.mp okm_5 111 (by decide), okc_111⟩
                · exact ok_to (P := fun m => m_okN m = true ∧ m_okC m) (show m = 112 by omega) ⟨List.all_eq_true.mp okm_5 112 (by decide), okc_112⟩
        · rcases Nat.lt_or_ge m 121 with h5 | h5
          · rcases Nat.lt_or_ge m 117 with h6 | h6
            · rcases Nat.lt_or_ge m 115 with h7 | h7
              · rcases Nat.lt_or_ge m 114 with h8 | h8
                · exact ok_to (P := fun m => m_okN m = true ∧ m_okC m) (show m = 113 by omega) ⟨List.all_eq_true.mp okm_5 113 (by decide), okc_113⟩
                · exact ok_to (P := fun m => m_okN m = true ∧ m_okC m) (show m = 114 by omega) ⟨List.all_eq_true.mp okm_5 114 (by decide), okc_114⟩
              · rcases Nat.lt_or_ge m 116 with h8 | h8
                · exact ok_to (P := fun m => m_okN m = true ∧ m_okC m) (show m = 115 by omega) ⟨List.all_eq_true.mp okm_5 115 (by decide), okc_115⟩
                · exact ok_to (P := fun m => m_okN m = true ∧ m_okC m) (show m = 116 by omega) ⟨List.all_eq_true.mp okm_5 116 (by decide), okc_116⟩
            · rcases Nat.lt_or_ge m 119 with h7 | h7
              · rcases Nat.lt_or_ge m 118 with h8 | h8
                · exact ok_to (P := fun m => m_okN m = true ∧ m_okC m) (show m = 117 by omega) ⟨List.all_eq_true.mp okm_5 117 (by decide), okc_117⟩
                · exact ok_to (P := fun m => m_okN m = true ∧ m_okC m) (show m = 118 by omega) ⟨List.all_eq_true.mp okm_5 118 (by decide), okc_118⟩
              · rcases Nat.lt_or_ge m 120 with h8 | h8
                · exact ok_to (P := fun m => m_okN m = true ∧ m_okC m) (show m = 119 by omega) ⟨List.all_eq_true.mp okm_5 119 (by decide), okc_119⟩
                · exact ok_to (P := fun m => m_okN m = true ∧ m_okC m) (show m = 120 by omega) ⟨List.all_eq_true.mp okm_5 120 (by decide), okc_120⟩
          · rcases Nat.lt_or_ge m 125 with h6 | h6
            · rcases Nat.lt_or_ge m 123 with h7 | h7
              · rcases Nat.lt_or_ge m 122 with h8 | h8
                · exact ok_to (P := fun m => m_okN m = true ∧ m_okC m) (show m = 121 by omega) ⟨List.all_eq_true.mp okm_6 121 (by decide), okc_121⟩
                · exact ok_to (P := fun m => m_okN m = true ∧ m_okC m) (show m = 122 by omega) ⟨List.all_eq_true.mp okm_6 122 (by decide), okc_122⟩
              · rcases Nat.lt_or_ge m 124 with h8 | h8
                · exact ok_to (P := fun m => m_okN m = true ∧ m_okC m) (show m = 123 by omega) ⟨List.all_eq_true.mp okm_6 123 (by decide), okc_123⟩
                · exact ok_to (P := fun m => m_okN m = true ∧ m_okC m) (show m = 124 by omega) ⟨List.all_eq_true.mp okm_6 124 (by decide), okc_124⟩
            · rcases Nat.lt_or_ge m 127 with h7 | h7
              · rcases Nat.lt_or_ge m 126 with h8 | h8
                · exact ok_to (P := fun m => m_okN m = true ∧ m_okC m) (show m = 125 by omega) ⟨List.all_eq_true.mp okm_6 125 (by decide), okc_125⟩
                · exact ok_to (P := fun m => m_okN m = true ∧ m_okC m) (show m = 126 by omega) ⟨List.all_eq_true.mp okm_6 126 (by decide), okc_126⟩
              · rcases Nat.lt_or_ge m 128 with h8 | h8
                · exact ok_to (P := fun m => m_okN m = true ∧ m_okC m) (show m = 127 by omega) ⟨List.all_eq_true.mp okm_6 127 (by decide), okc_127⟩
                · rcases Nat.lt_or_ge m 129 with h9 | h9
                  · exact ok_to (P := fun m => m_okN m = true ∧ m_okC m) (show m = 128 by omega) ⟨List.all_eq_true.mp okm_6 128 (by decide), okc_128⟩
                  · exact ok_to (P := fun m => m_okN m = true ∧ m_okC m) (show m = 129 by omega) ⟨List.all_eq_true.mp okm_6 129 (by decide), okc_129⟩
  · rcases Nat.lt_or_ge m 195 with h2 | h2
    · rcases Nat.lt_or_ge m 162 with h3 | h3
      · rcases Nat.lt_or_ge m 146 with h4 | h4
        · rcases Nat.lt_or_ge m 138 with h5 | h5
          · rcases Nat.lt_or_ge m 134 with h6 | h6
            · rcases Nat.lt_or_ge m 132 with h7 | h7
              · rcases Nat.lt_or_ge m 131 with h8 | h8
                · exact ok_to (P := fun m => m_okN m = true ∧ m_okC m) (show m = 130 by omega) ⟨List.all_eq_true.mp okm_6 130 (by decide), okc_130⟩
                · exact ok_to (P := fun m => m_okN m = true ∧ m_okC m) (show m = 131 by omega) ⟨List.all_eq_true.mp okm_6 131 (by decide), okc_131⟩
              · rcases Nat.lt_or_ge m 133 with h8 | h8
                · exact ok_to (P := fun m => m_okN m = true ∧ m_okC m) (show m = 132 by omega) ⟨List.all_eq_true.mp okm_6 132 (by decide), okc_132⟩
                · exact ok_to (P := fun m => m_okN m = true ∧ m_okC m) (show m = 133 by omega) ⟨List.all_eq_true.mp okm_6 133 (by decide), okc_133⟩
            · rcases Nat.lt_or_ge m 136 with h7 | h7
              · rcases Nat.lt_or_ge m 135 with h8 | h8
                · exact ok_to (P := fun m => m_okN m = true ∧ m_okC m) (show m = 134 by omega) ⟨List.all_eq_true.mp okm_6 134 (by decide), okc_134⟩
                · exact ok_to (P := fun m => m_okN m = true ∧ m_okC m) (show m = 135 by omega) ⟨List.all_eq_true.mp okm_6 135 (by decide), okc_135⟩
              · rcases Nat.lt_or_ge m 137 with h8 | h8
                · exact ok_to (P := fun m => m_okN m = true ∧ m_okC m) (show m = 136 by omega) ⟨List.all_eq_true.mp okm_6 136 (by decide), okc_136⟩
                · exact ok_to (P := fun m => m_okN m = true ∧ m_okC m) (show m = 137 by omega) ⟨List.all_eq_true.mp okm_6 137 (by decide), okc_137⟩
          · rcases Nat.lt_or_ge m 142 with h6 | h6
            · rcases Nat.lt_or_ge m 140 with h7 | h7
              · rcases Nat.lt_or_ge m 139 with h8 | h8
                · exact ok_to (P := fun m => m_okN m = true ∧ m_okC m) (show m = 138 by omega) ⟨List.all_eq_true.mp okm_6 138 (by decide), okc_138⟩
                · exact ok_to (P := fun m => m_okN m = true ∧ m_okC m) (show m = 139 by omega) ⟨List.all_eq_true.mp okm_6 139 (by decide), okc_139⟩
              · rcases Nat.lt_or_ge m 141 with h8 | h8
                · exact ok_to (P := fun m => m_okN m = true ∧ m_okC m) (show m = 140 by omega) ⟨List.all_eq_true.mp okm_6 140 (by decide), okc_140⟩
                · exact ok_to (P := fun m => m_okN m = true ∧ m_okC m) (show m = 141 by omega) ⟨List.all_eq_true.mp okm_7 141 (by decide), okc_141⟩
            · rcases Nat.lt_or_ge m 144 with h7 | h7
              · rcases Nat.lt_or_ge m 143 with h8 | h8
                · exact ok_to (P := fun m => m_okN m = true ∧ m_okC m) (show m = 142 by omega) ⟨List.all_eq_true.mp okm_7 142 (by decide), okc_142⟩
                · exact ok_to (P := fun m => m_okN m = true ∧ m_okC m) (show m = 143 by omega) ⟨List.all_eq_true.mp okm_7 143 (by decide), okc_143⟩
              · rcases Nat.lt_or_ge m 145 with h8 | h8
                · exact ok_to (P := fun m => m_okN m = true ∧ m_okC m) (show m = 144 by omega) ⟨List.all_eq_true.mp okm_7 144 (by decide), okc_144⟩
                · exact ok_to (P := fun m => m_okN m = true ∧ m_okC m) (show m = 145 by omega) ⟨List.all_eq_true.mp okm_7 145 (by decide), okc_145⟩
        · rcases Nat.lt_or_ge m 154 with h5 | h5
          · rcases Nat.lt_or_ge m 150 with h6 | h6
            · rcases Nat.lt_or_ge m 148 with h7 | h7
              · rcases Nat.lt_or_ge m 147 with h8 | h8
                · exact ok_to (P := fun m => m_okN m = true ∧ m_okC m) (show m = 146 by omega) ⟨List.all_eq_true.mp okm_7 146 (by decide), okc_146⟩
                · exact ok_to (P := fun m => m_okN m = true ∧ m_okC m) (show m = 147 by omega) ⟨List.all_eq_true.mp okm_7 147 (by decide), okc_147⟩
              · rcases Nat.lt_or_ge m 149 with h8 | h8
                · exact ok_to (P := fun m => m_okN m = true ∧ m_okC m) (show m = 148 by omega) ⟨List.all_eq_true.mp okm_7 148 (by decide), okc_148⟩
                · exact ok_to (P := fun m => m_okN m = true ∧ m_okC m) (show m = 149 by omega) ⟨List.all_eq_true.mp okm_7 149 (by decide), okc_149⟩
            · rcases Nat.lt_or_ge m 152 with h7 | h7
              · rcases Nat.lt_or_ge m 151 with h8 | h8
                · exact ok_to (P := fun m => m_okN m = true ∧ m_okC m) (show m = 150 by omega) ⟨List.all_eq_true.mp okm_7 150 (by decide), okc_150⟩
                · exact ok_to (P := fun m => m_okN m = true ∧ m_okC m) (show m = 151 by omega) ⟨List.all_eq_true.mp okm_7 151 (by decide), okc_151⟩
              · rcases Nat.lt_or_ge m 153 with h8 | h8
                · exact ok_to (P := fun m => m_okN m = true ∧ m_okC m) (show m = 152 by omega) ⟨List.all_eq_true.mp okm_7 152 (by decide), okc_152⟩
                · exact ok_to (P := fun m => m_okN m = true ∧ m_okC m) (show m = 153 by omega) ⟨List.all_eq_true.mp okm_7 153 (by decide), okc_153⟩
          · rcases Nat.lt_or_ge m 158 with h6 | h6
            · rcases Nat.lt_or_ge m 156 with h7 | h7
              · rcases Nat.lt_or_ge m 155 with h8 | h8
                · exact ok_to (P := fun m => m_okN m = true ∧ m_okC m) (show m = 154 by omega) ⟨List.all_eq_true.mp okm_7 154 (by decide), okc_154⟩
                · exact ok_to (P := fun m => m_okN m = true ∧ m_okC m) (show m = 155 by omega) ⟨List.all_eq_true.mp okm_7 155 (by decide), okc_155⟩
              · rcases Nat.lt_or_ge m 157 with h8 | h8
                · exact ok_to (P := fun m => m_okN m = true ∧ m_okC m) (show m = 156 by omega) ⟨List.all_eq_true.mp okm_7 156 (by decide), okc_156⟩
                · exact ok_to (P := fun m => m_okN m = true ∧ m_okC m) (show m = 157 by omega) ⟨List.all_eq_true.mp okm_7 157 (by decide), okc_157⟩
            · rcases Nat.lt_or_ge m 160 with h7 | h7
              · rcases Nat.lt_or_ge m 159 with h8 | h8
                · exact ok_to (P := fun m => m_okN m = true ∧ m_okC m) (show m = 158 by omega) ⟨List.all_eq_true.mp okm_7 158 (by decide), okc_158⟩
                · exact ok_to (P := fun m => m_okN m = true ∧ m_okC m) (show m = 159 by omega) ⟨List.all_eq_true.mp okm_7 159 (by decide), okc_159⟩
              · rcases Nat.lt_or_ge m 161 with h8 | h8
                · exact ok_to (P := fun m => m_okN m = true ∧ m_okC m) (show m = 160 by omega) ⟨List.all_eq_true.mp okm_7 160 (by decide), okc_160⟩
                · exact ok_to (P := fun m => m_okN m = true ∧ m_okC m) (show m = 161 by omega) ⟨List.all_eq_true.mp okm_8 161 (by decide), okc_161⟩
      · rcases Nat.lt_or_ge m 178 with h4 | h4
        · rcases Nat.lt_or_ge m 170 with h5 | h5
          · rcases Nat.lt_or_ge m 166 with h6 | h6
            · rcases Nat.lt_or_ge m 164 with h7 | h7
              · rcases Nat.lt_or_ge m 163 with h8 | h8
                · exact ok_to (P := fun m => m_okN m = true ∧ m_okC m) (show m = 162 by omega) ⟨List.all_eq_true.mp okm_8 162 (by decide), okc_162⟩
                · exact ok_to (P := fun m => m_okN m = true ∧ m_okC m) (show m = 163 by omega) ⟨List.all_eq_true.mp okm_8 163 (by decide), okc_163⟩
              · rcases Nat.lt_or_ge m 165 with h8 | h8
                · exact ok_to (P := fun m => m_okN m = true ∧ m_okC m) (show m = 164 by omega) ⟨List.all_eq_true.mp okm_8 164 (by decide), okc_164⟩
                · exact ok_to (P := fun m => m_okN m = true ∧ m_okC m) (show m = 165 by omega) ⟨List.all_eq_true.mp okm_8 165 (by decide), okc_165⟩
            · rcases Nat.lt_or_ge m 168 with h7 | h7
              · rcases Nat.lt_or_ge m 167 with h8 | h8
                · exact ok_to (P := fun m => m_okN m = true ∧ m_okC m) (show m = 166 by omega) ⟨List.all_eq_true.mp okm_8 166 (by decide), okc_166⟩
                · exact ok_to (P := fun m => m_okN m = true ∧ m_okC m) (show m = 167 by omega) ⟨List.all_eq_true.mp okm_8 167 (by decide), okc_167⟩
              · rcases Nat.lt_or_ge m 169 with h8 | h8
                · exact ok_to (P := fun m => m_okN m = true ∧ m_okC m) (show m = 168 by omega) ⟨List.all_eq_true.mp okm_8 168 (by decide), okc_168⟩
                · exact ok_to (P := fun m => m_okN m = true ∧ m_okC m) (show m = 169 by omega) ⟨List.all_eq_true.mp okm_8 169 (by decide), okc_169⟩
          · rcases Nat.lt_or_ge m 174 with h6 | h6
            · rcases Nat.lt_or_ge m 172 with h7 | h7
              · rcases Nat.lt_or_ge m 171 with h8 | h8
                · exact ok_to (P := fun m => m_okN m = true ∧ m_okC m) (show m = 170 by omega) ⟨List.all_eq_true.mp okm_8 170 (by decide), okc_170⟩
                · exact ok_to (P := fun m => m_okN m = true ∧ m_okC m) (show m = 171 by omega) ⟨List.all_eq_true.mp okm_8 171 (by decide), okc_171⟩
              · rcases Nat.lt_or_ge m 173 with h8 | h8
                · exact ok_to (P := fun m => m_okN m = true ∧ m_okC m) (show m = 172 by omega) ⟨List.all_eq_true.mp okm_8 172 (by decide), okc_172⟩
                · exact ok_to (P := fun m => m_okN m = true ∧ m_okC m) (show m = 173 by omega) ⟨List.all_eq_true.mp okm_8 173 (by decide), okc_173⟩
            · rcases Nat.lt_or_ge m 176 with h7 | h7
              · rcases Nat.lt_or_ge m 175 with h8 | h8
                · exact ok_to (P := fun m => m_okN m = true ∧ m_okC m) (show m = 174 by omega) ⟨List.all_eq_true.mp okm_8 174 (by decide), okc_174⟩
                · exact ok_to (P := fun m => m_okN m = true ∧ m_okC m) (show m = 175 by omega) ⟨List.all_eq_true.mp okm_8 175 (by decide), okc_175⟩
              · rcases Nat.lt_or_ge m 177 with h8 | h8
                · exact ok_to (P := fun m => m_okN m = true ∧ m_okC m) (show m = 176 by omega) ⟨List.all_eq_true.mp okm_8 176 (by decide), okc_176⟩
                · exact ok_to (P := fun m => m_okN m = true ∧ m_okC m) (show m = 177 by omega) ⟨List.all_eq_true.mp okm_8 177 (by decide), okc_177⟩
        · rcases Nat.lt_or_ge m 186 with h5 | h5
          · rcases Nat.lt_or_ge m 182 with h6 | h6
            · rcases Nat.lt_or_ge m 180 with h7 | h7
              · rcases Nat.lt_or_ge m 179 with h8 | h8
                · exact ok_to (P := fun m => m_okN m = true ∧ m_okC m) (show m = 178 by omega) ⟨List.all_eq_true.mp okm_8 178 (by decide), okc_178⟩
                · exact ok_to (P := fun m => m_okN m = true ∧ m_okC m) (show m = 179 by omega) ⟨List.all_eq_true.mp okm_8 179 (by decide), okc_179⟩
              · rcases Nat.lt_or_ge m 181 with h8 | h8
                · exact ok_to (P := fun m => m_okN m = true ∧ m_okC m) (show m = 180 by omega) ⟨List.all_eq_true.mp okm_8 180 (by decide), okc_180⟩
                · exact ok_to (P := fun m => m_okN m = true ∧ m_okC m) (show m = 181 by omega) ⟨List.all_eq_true.mp okm_9 181 (by decide), okc_181⟩
            · rcases Nat.lt_or_ge m 184 with h7 | h7
              · rcases Nat.lt_or_ge m 183 with h8 | h8
                · exact ok_to (P := fun m => m_okN m = true ∧ m_okC m) (show m = 182 by omega) ⟨List.all_eq_true.mp okm_9 182 (by decide), okc_182⟩
                · exact ok_to (P := fun m => m_okN m = true ∧ m_okC m) (show m = 183 by omega) ⟨List.all_eq_true.mp okm_9 183 (by decide), okc_183⟩
              · rcases Nat.lt_or_ge m 185 with h8 | h8
                · exact ok_to (P := fun m => m_okN m = true ∧ m_okC m) (show m = 184 by omega) ⟨List.all_eq_true.mp okm_9 184 (by decide), okc_184⟩
                · exact ok_to (P := fun m => m_okN m = true ∧ m_okC m) (show m = 185 by omega) ⟨List.all_eq_true.mp okm_9 185 (by decide), okc_185⟩
          · rcases Nat.lt_or_ge m 190 with h6 | h6
            · rcases Nat.lt_or_ge m 188 with h7 | h7
              · rcases Nat.lt_or_ge m 187 with h8 | h8
                · exact ok_to (P := fun m => m_okN m = true ∧ m_okC m) (show m = 186 by omega) ⟨List.all_eq_true.mp okm_9 186 (by decide), okc_186⟩
                · exact ok_to (P := fun m => m_okN m = true ∧ m_okC m) (show m = 187 by omega) ⟨List.all_eq_true.mp okm_9 187 (by decide), okc_187⟩
              · rcases Nat.lt_or_ge m 189 with h8 | h8
                · exact ok_to (P := fun m => m_okN m = true ∧ m_okC m) (show m = 188 by omega) ⟨List.all_eq_true.mp okm_9 188 (by decide), okc_188⟩
                · exact ok_to (P := fun m => m_okN m = true ∧ m_okC m) (show m = 189 by omega) ⟨List.all_eq_true.mp okm_9 189 (by decide), okc_189⟩
            · rcases Nat.lt_or_ge m 192 with h7 | h7
              · rcases Nat.lt_or_ge m 191 with h8 | h8
                · exact ok_to (P := fun m => m_okN m = true ∧ m_okC m) (show m = 190 by omega) ⟨List.all_eq_true.mp okm_9 190 (by decide), okc_190⟩
                · exact ok_to (P := fun m => m_okN m = true ∧ m_okC m) (show m = 191 by omega) ⟨List.all_eq_true.mp okm_9 191 (by decide), okc_191⟩
              · rcases Nat.lt_or_ge m 193 with h8 | h8
                · exact ok_to (P := fun m => m_okN m = true ∧ m_okC m) (show m = 192 by omega) ⟨List.all_eq_true.mp okm_9 192 (by decide), okc_192⟩
                · rcases Nat.lt_or_ge m 194 with h9 | h9
                  · exact ok_to (P := fun m => m_okN m = true ∧ m_okC m) (show m = 193 by omega) ⟨List.all_eq_true.mp okm_9 193 (by decide), okc_193⟩
                  · exact ok_to (P := fun m => m_okN m = true ∧ m_okC m) (show m = 194 by omega) ⟨List.all_eq_true.mp okm_9 194 (by decide), okc_194⟩
    · rcases Nat.lt_or_ge m 227 with h3 | h3
      · rcases Nat.lt_or_ge m 211 with h4 | h4
        · rcases Nat.lt_or_ge m 203 with h5 | h5
          · rcases Nat.lt_or_ge m 199 with h6 | h6
            · rcases Nat.lt_or_ge m 197 with h7 | h7
              · rcases Nat.lt_or_ge m 196 with h8 | h8
                · exact ok_to (P := fun m => m_okN m = true ∧ m_okC m) (show m = 195 by omega) ⟨List.all_eq_true.mp okm_9 195 (by decide), okc_195⟩
                · exact ok_to (P := fun m => m_okN m = true ∧ m_okC m) (show m = 196 by omega) ⟨List.all_eq_true.mp okm_9 196 (by decide), okc_196⟩
              · rcases Nat.lt_or_ge m 198 with h8 | h8
                · exact ok_to (P := fun m => m_okN m = true ∧ m_okC m) (show m = 197 by omega) ⟨List.all_eq_true.mp okm_9 197 (by decide), okc_197⟩
                · exact ok_to (P := fun m => m_okN m = true ∧ m_okC m) (show m = 198 by omega) ⟨List.all_eq_true.mp okm_9 198 (by decide), okc_198⟩
            · rcases Nat.lt_or_ge m 201 with h7 | h7
              · rcases Nat.lt_or_ge m 200 with h8 | h8
                · exact ok_to (P := fun m => m_okN m = true ∧ m_okC m) (show m = 199 by omega) ⟨List.all_eq_true.mp okm_9 199 (by decide), okc_199⟩
                · exact ok_to (P := fun m => m_okN m = true ∧ m_okC m) (show m = 200 by omega) ⟨List.all_eq_true.mp okm_9 200 (by decide), okc_200⟩
              · rcases Nat.lt_or_ge m 202 with h8 | h8
                · exact ok_to (P := fun m => m_okN m = true ∧ m_okC m) (show m = 201 by omega) ⟨List.all_eq_true.mp okm_10 201 (by decide), okc_201⟩
                · exact ok_to (P := fun m => m_okN m = true ∧ m_okC m) (show m = 202 by omega) ⟨List.all_eq_true.mp okm_10 202 (by decide), okc_202⟩
          · rcases Nat.lt_or_ge m 207 with h6 | h6
            · rcases Nat.lt_or_ge m 205 with h7 | h7
              · rcases Nat.lt_or_ge m 204 with h8 | h8
                · exact ok_to (P := fun m => m_okN m = true ∧ m_okC m) (show m = 203 by omega) ⟨List.all_eq_true.mp okm_10 203 (by decide), okc_203⟩
                · exact ok_to (P := fun m => m_okN m = true ∧ m_okC m) (show m = 204 by omega) ⟨List.all_eq_true.mp okm_10 204 (by decide), okc_204⟩
              · rcases Nat.lt_or_ge m 206 with h8 | h8
                · exact ok_to (P := fun m => m_okN m = true ∧ m_okC m) (show m = 205 by omega) ⟨List.all_eq_true.mp okm_10 205 (by decide), okc_205⟩
                · exact ok_to (P := fun m => m_okN m = true ∧ m_okC m) (show m = 206 by omega) ⟨List.all_eq_true.mp okm_10 206 (by decide), okc_206⟩
            · rcases Nat.lt_or_ge m 209 with h7 | h7
              · rcases Nat.lt_or_ge m 208 with h8 | h8
                · exact ok_to (P := fun m => m_okN m = true ∧ m_okC m) (show m = 207 by omega) ⟨List.all_eq_true.mp okm_10 207 (by decide), okc_207⟩
                · exact ok_to (P := fun m => m_okN m = true ∧ m_okC m) (show m = 208 by omega) ⟨List.all_eq_true.mp okm_10 208 (by decide), okc_208⟩
              · rcases Nat.lt_or_ge m 210 with h8 | h8
                · exact ok_to (P := fun m => m_okN m = true ∧ m_okC m) (show m = 209 by omega) ⟨List.all_eq_true.mp okm_10 209 (by decide), okc_209⟩
                · exact ok_to (P := fun m => m_okN m = true ∧ m_okC m) (show m = 210 by omega) ⟨List.all_eq_true.mp okm_10 210 (by decide), okc_210⟩
        · rcases Nat.lt_or_ge m 219 with h5 | h5
          · rcases Nat.lt_or_ge m 215 with h6 | h6
            · rcases Nat.lt_or_ge m 213 with h7 | h7
              · rcases Nat.lt_or_ge m 212 with h8 | h8
                · exact ok_to (P := fun m => m_okN m = true ∧ m_okC m) (show m = 211 by omega) ⟨List.all_eq_true.mp okm_10 211 (by decide), okc_211⟩
                · exact ok_to (P := fun m => m_okN m = true ∧ m_okC m) (show m = 212 by omega) ⟨List.all_eq_true.mp okm_10 212 (by decide), okc_212⟩
              · rcases Nat.lt_or_ge m 214 with h8 | h8
                · exact ok_to (P := fun m => m_okN m = true ∧ m_okC m) (show m = 213 by omega) ⟨List.all_eq_true.mp okm_10 213 (by decide), okc_213⟩
                · exact ok_to (P := fun m => m_okN m = true ∧ m_okC m) (show m = 214 by omega) ⟨List.all_eq_true.mp okm_10 214 (by decide), okc_214⟩
            · rcases Nat.lt_or_ge m 217 with h7 | h7
              · rcases Nat.lt_or_ge m 216 with h8 | h8
                · exact ok_to (P := fun m => m_okN m = true ∧ m_okC m) (show m = 215 by omega) ⟨List.all_eq_true.mp okm_10 215 (by decide), okc_215⟩
                · exact ok_to (P := fun m => m_okN m = true ∧ m_okC m) (show m = 216 by omega) ⟨List.all_eq_true.mp okm_10 216 (by decide), okc_216⟩
              · rcases Nat.lt_or_ge m 218 with h8 | h8
                · exact ok_to (P := fun m => m_okN m = true ∧ m_okC m) (show m = 217 by omega) ⟨List.all_eq_true.mp okm_10 217 (by decide), okc_217⟩
                · exact ok_to (P := fun m => m_okN m = true ∧ m_okC m) (show m = 218 by omega) ⟨List.all_eq_true.mp okm_10 218 (by decide), okc_218⟩
          · rcases Nat.lt_or_ge m 223 with h6 | h6
            · rcases Nat.lt_or_ge m 221 with h7 | h7
              · rcases Nat.lt_or_ge m 220 with h8 | h8
                · exact ok_to (P := fun m => m_okN m = true ∧ m_okC m) (show m = 219 by omega) ⟨List.all_eq_true.mp okm_10 219 (by decide), okc_219⟩
                · exact ok_to (P := fun m => m_okN m = true ∧ m_okC m) (show m = 220 by omega) ⟨List.all_eq_true.mp okm_10 220 (by decide), okc_220⟩
              · rcases Nat.lt_or_ge m 222 with h8 | h8
                · exact ok_to (P := fun m => m_okN m = true ∧ m_okC m) (show m = 221 by omega) ⟨List.all_eq_true.mp okm_11 221 (by decide), okc_221⟩
                · exact ok_to (P := fun m => m_okN m = true ∧ m_okC m) (show m = 222 by omega) ⟨List.all_eq_true.mp okm_11 222 (by decide), okc_222⟩
            · rcases Nat.lt_or_ge m 225 with h7 | h7
              · rcases Nat.lt_or_ge m 224 with h8 | h8
                · exact ok_to (P := fun m => m_okN m = true ∧ m_okC m) (show m = 223 by omega) ⟨List.all_eq_true.mp okm_11 223 (by decide), okc_223⟩
                · exact ok_to (P := fun m => m_okN m = true ∧ m_okC m) (show m = 224 by omega) ⟨List.all_eq_true.mp okm_11 224 (by decide), okc_224⟩
              · rcases Nat.lt_or_ge m 226 with h8 | h8
                · exact ok_to (P := fun m => m_okN m = true ∧ m_okC m) (show m = 225 by omega) ⟨List.all_eq_true.mp okm_11 225 (by decide), okc_225⟩
                · exact ok_to (P := fun m => m_okN m = true ∧ m_okC m) (show m = 226 by omega) ⟨List.all_eq_true.mp okm_11 226 (by decide), okc_226⟩
      · rcases Nat.lt_or_ge m 243 with h4 | h4
        · rcases Nat.lt_or_ge m 235 with h5 | h5
          · rcases Nat.lt_or_ge m 231 with h6 | h6
            · rcases Nat.lt_or_ge m 229 with h7 | h7
              · rcases Nat.lt_or_ge m 228 with h8 | h8
                · exact ok_to (P := fun m => m_okN m = true ∧ m_okC m) (show m = 227 by omega) ⟨List.all_eq_true.mp okm_11 227 (by decide), okc_227⟩
                · exact ok_to (P := fun m => m_okN m = true ∧ m_okC m) (show m = 228 by omega) ⟨List.all_eq_true.mp okm_11 228 (by decide), okc_228⟩
              · rcases Nat.lt_or_ge m 230 with h8 | h8
                · exact ok_to (P := fun m => m_okN m = true ∧ m_okC m) (show m = 229 by omega) ⟨List.all_eq_true.mp okm_11 229 (by decide), okc_229⟩
                · exact ok_to (P := fun m => m_okN m = true ∧ m_okC m) (show m = 230 by omega) ⟨List.all_eq_true.mp okm_11 230 (by decide), okc_230⟩
            · rcases Nat.lt_or_ge m 233 with h7 | h7
              · rcases Nat.lt_or_ge m 232 with h8 | h8
                · exact ok_to (P := fun m => m_okN m = true ∧ m_okC m) (show m = 231 by omega) ⟨List.all_eq_true.mp okm_11 231 (by decide), okc_231⟩
                · exact ok_to (P := fun m => m_okN m = true ∧ m_okC m) (show m = 232 by omega) ⟨List.all_eq_true.mp okm_11 232 (by decide), okc_232⟩
              · rcases Nat.lt_or_ge m 234 with h8 | h8
                · exact ok_to (P := fun m => m_okN m = true ∧ m_okC m) (show m = 233 by omega) ⟨List.all_eq_true.mp okm_11 233 (by decide), okc_233⟩
                · exact ok_to (P := fun m => m_okN m = true ∧ m_okC m) (show m = 234 by omega) ⟨List.all_eq_true.mp okm_11 234 (by decide), okc_234⟩
          · rcases Nat.lt_or_ge m 239 with h6 | h6
            · rcases Nat.lt_or_ge m 237 with h7 | h7
              · rcases Nat.lt_or_ge m 236 with h8 | h8
                · exact ok_to (P := fun m => m_okN m = true ∧ m_okC m) (show m = 235 by omega) ⟨List.all_eq_true.mp okm_11 235 (by decide), okc_235⟩
                · exact ok_to (P := fun m => m_okN m = true ∧ m_okC m) (show m = 236 by omega) ⟨List.all_eq_true.mp okm_11 236 (by decide), okc_236⟩
              · rcases Nat.lt_or_ge m 238 with h8 | h8
                · exact ok_to (P := fun m => m_okN m = true ∧ m_okC m) (show m = 237 by omega) ⟨List.all_eq_true.mp okm_11 237 (by decide), okc_237⟩
                · exact ok_to (P := fun m => m_okN m = true ∧ m_okC m) (show m = 238 by omega) ⟨List.all_eq_true.mp okm_11 238 (by decide), okc_238⟩
            · rcases Nat.lt_or_ge m 241 with h7 | h7
              · rcases Nat.lt_or_ge m 240 with h8 | h8
                · exact ok_to (P := fun m => m_okN m = true ∧ m_okC m) (show m = 239 by omega) ⟨List.all_eq_true.mp okm_11 239 (by decide), okc_239⟩
                · exact ok_to (P := fun m => m_okN m = true ∧ m_okC m) (show m = 240 by omega) ⟨List.all_eq_true.mp okm_11 240 (by decide), okc_240⟩
              · rcases Nat.lt_or_ge m 242 with h8 | h8
                · exact ok_to (P := fun m => m_okN m = true ∧ m_okC m) (show m = 241 by omega) ⟨List.all_eq_true.mp okm_12 241 (by decide), okc_241⟩
                · exact ok_to (P := fun m => m_okN m = true ∧ m_okC m) (show m = 242 by omega) ⟨List.all_eq_true.mp okm_12 242 (by decide), okc_242⟩
        · rcases Nat.lt_or_ge m 251 with h5 | h5
          · rcases Nat.lt_or_ge m 247 with h6 | h6
            · rcases Nat.lt_or_ge m 245 with h7 | h7
              · rcases Nat.lt_or_ge m 244 with h8 | h8
                · exact ok_to (P := fun m => m_okN m = true ∧ m_okC m) (show m = 243 by omega) ⟨List.all_eq_true.mp okm_12 243 (by decide), okc_243⟩
                · exact ok_to (P := fun m => m_okN m = true ∧ m_okC m) (show m = 244 by omega) ⟨List.all_eq_true.mp okm_12 244 (by decide), okc_244⟩
              · rcases Nat.lt_or_ge m 246 with h8 | h8
                · exact ok_to (P := fun m => m_okN m = true ∧ m_okC m) (show m = 245 by omega) ⟨List.all_eq_true.mp okm_12 245 (by decide), okc_245⟩
                · exact ok_to (P := fun m => m_okN m = true ∧ m_okC m) (show m = 246 by omega) ⟨List.all_eq_true.mp okm_12 246 (by decide), okc_246⟩
            · rcases Nat.lt_or_ge m 249 with h7 | h7
              · rcases Nat.lt_or_ge m 248 with h8 | h8
                · exact ok_to (P := fun m => m_okN m = true ∧ m_okC m) (show m = 247 by omega) ⟨List.all_eq_true.mp okm_12 247 (by decide), okc_247⟩
                · exact ok_to (P := fun m => m_okN m = true ∧ m_okC m) (show m = 248 by omega) ⟨List.all_eq_true.mp okm_12 248 (by decide), okc_248⟩
              · rcases Nat.lt_or_ge m 250 with h8 | h8
                · exact ok_to (P := fun m => m_okN m = true ∧ m_okC m) (show m = 249 by omega) ⟨List.all_eq_true.mp okm_12 249 (by decide), okc_249⟩
                · exact ok_to (P := fun m => m_okN m = true ∧ m_okC m) (show m = 250 by omega) ⟨List.all_eq_true.mp okm_12 250 (by decide), okc_250⟩
          · rcases Nat.lt_or_ge m 255 with h6 | h6
            · rcases Nat.lt_or_ge m 253 with h7 | h7
              · rcases Nat.lt_or_ge m 252 with h8 | h8
                · exact ok_to (P := fun m => m_okN m = true ∧ m_okC m) (show m = 251 by omega) ⟨List.all_eq_true.mp okm_12 251 (by decide), okc_251⟩
                · exact ok_to (P := fun m => m_okN m = true ∧ m_okC m) (show m = 252 by omega) ⟨List.all_eq_true.mp okm_12 252 (by decide), okc_252⟩
              · rcases Nat.lt_or_ge m 254 with h8 | h8
                · exact ok_to (P := fun m => m_okN m = true ∧ m_okC m) (show m = 253 by omega) ⟨List.all_eq_true.mp okm_12 253 (by decide), okc_253⟩
                · exact ok_to (P := fun m => m_okN m = true ∧ m_okC m) (show m = 254 by omega) ⟨List.all_eq_true.mp okm_12 254 (by decide), okc_254⟩
            · rcases Nat.lt_or_ge m 257 with h7 | h7
              · rcases Nat.lt_or_ge m 256 with h8 | h8
                · exact ok_to (P := fun m => m_okN m = true ∧ m_okC m) (show m = 255 by omega) ⟨List.all_eq_true.mp okm_12 255 (by decide), okc_255⟩
                · exact ok_to (P := fun m => m_okN m = true ∧ m_okC m) (show m = 256 by omega) ⟨List.all_eq_true.mp okm_12 256 (by decide), okc_256⟩
              · rcases Nat.lt_or_ge m 258 with h8 | h8
                · exact ok_to (P := fun m => m_okN m = true ∧ m_okC m) (show m = 257 by omega) ⟨List.all_eq_true.mp okm_12 257 (by decide), okc_257⟩
                · rcases Nat.lt_or_ge m 259 with h9 | h9
                  · exact ok_to (P := fun m => m_okN m = true ∧ m_okC m) (show m = 258 by omega) ⟨List.all_eq_true.mp okm_12 258 (by decide), okc_258⟩
                  · exact absurd (show m = 259 by omega) hl
theorem okL_all (m : Nat) (h : m < 260) (hn : ¬ m = 98) : m_okL m (mcd m) = true := by
  rcases Nat.lt_or_ge m 130 with h1 | h1
  · rcases Nat.lt_or_ge m 65 with h2 | h2
    · rcases Nat.lt_or_ge m 32 with h3 | h3
      · rcases Nat.lt_or_ge m 16 with h4 | h4
        · rcases Nat.lt_or_ge m 8 with h5 | h5
          · rcases Nat.lt_or_ge m 4 with h6 | h6
            · rcases Nat.lt_or_ge m 2 with h7 | h7
              · rcases Nat.lt_or_ge m 1 with h8 | h8
                · exact ok_to (P := fun m => m_okL m (mcd m) = true) (show m = 0 by omega) ok_Tokens_init
                · exact ok_to (P := fun m => m_okL m (mcd m) = true) (show m = 1 by omega) ok_LawReader_init
              · rcases Nat.lt_or_ge m 3 with h8 | h8
                · exact ok_to (P := fun m => m_okL m (mcd m) = true) (show m = 2 by omega) ok_Laws_init
                · exact ok_to (P := fun m => m_okL m (mcd m) = true) (show m = 3 by omega) ok_Plan_init
            · rcases Nat.lt_or_ge m 6 with h7 | h7
              · rcases Nat.lt_or_ge m 5 with h8 | h8
                · exact ok_to (P := fun m => m_okL m (mcd m) = true) (show m = 4 by omega) ok_LineReader_init
                · exact ok_to (P := fun m => m_okL m (mcd m) = true) (show m = 5 by omega) ok_Day_init
              · rcases Nat.lt_or_ge m 7 with h8 | h8
                · exact ok_to (P := fun m => m_okL m (mcd m) = true) (show m = 6 by omega) ok_Way_init
                · exact ok_to (P := fun m => m_okL m (mcd m) = true) (show m = 7 by omega) ok_Seen_init
          · rcases Nat.lt_or_ge m 12 with h6 | h6
            · rcases Nat.lt_or_ge m 10 with h7 | h7
              · rcases Nat.lt_or_ge m 9 with h8 | h8
                · exact ok_to (P := fun m => m_okL m (mcd m) = true) (show m = 8 by omega) ok_Log_init
                · exact ok_to (P := fun m => m_okL m (mcd m) = true) (show m = 9 by omega) ok_C_init
              · rcases Nat.lt_or_ge m 11 with h8 | h8
                · exact ok_to (P := fun m => m_okL m (mcd m) = true) (show m = 10 by omega) ok_M_plain
                · exact ok_to (P := fun m => m_okL m (mcd m) = true) (show m = 11 by omega) ok_M_copies
            · rcases Nat.lt_or_ge m 14 with h7 | h7
              · rcases Nat.lt_or_ge m 13 with h8 | h8
                · exact ok_to (P := fun m => m_okL m (mcd m) = true) (show m = 12 by omega) ok_M_atFirst
                · exact ok_to (P := fun m => m_okL m (mcd m) = true) (show m = 13 by omega) ok_M_plainTried
              · rcases Nat.lt_or_ge m 15 with h8 | h8
                · exact ok_to (P := fun m => m_okL m (mcd m) = true) (show m = 14 by omega) ok_M_begin
                · exact ok_to (P := fun m => m_okL m (mcd m) = true) (show m = 15 by omega) ok_M_keepText
        · rcases Nat.lt_or_ge m 24 with h5 | h5
          · rcases Nat.lt_or_ge m 20 with h6 | h6
            · rcases Nat.lt_or_ge m 18 with h7 | h7
              · rcases Nat.lt_or_ge m 17 with h8 | h8
                · exact ok_to (P := fun m => m_okL m (mcd m) = true) (show m = 16 by omega) ok_M_init
                · exact ok_to (P := fun m => m_okL m (mcd m) = true) (show m = 17 by omega) ok_C_tapeFour
              · rcases Nat.lt_or_ge m 19 with h8 | h8
                · exact ok_to (P := fun m => m_okL m (mcd m) = true) (show m = 18 by omega) ok_C_feed
                · exact ok_to (P := fun m => m_okL m (mcd m) = true) (show m = 19 by omega) ok_M_feed
            · rcases Nat.lt_or_ge m 22 with h7 | h7
              · rcases Nat.lt_or_ge m 21 with h8 | h8
                · exact ok_to (P := fun m => m_okL m (mcd m) = true) (show m = 20 by omega) ok_Laws_clear
                · exact ok_to (P := fun m => m_okL m (mcd m) = true) (show m = 21 by omega) ok_Plan_clear
              · rcases Nat.lt_or_ge m 23 with h8 | h8
                · exact ok_to (P := fun m => m_okL m (mcd m) = true) (show m = 22 by omega) ok_Tokens_isLetter
                · exact ok_to (P := fun m => m_okL m (mcd m) = true) (show m = 23 by omega) ok_Tokens_wordKind
          · rcases Nat.lt_or_ge m 28 with h6 | h6
            · rcases Nat.lt_or_ge m 26 with h7 | h7
              · rcases Nat.lt_or_ge m 25 with h8 | h8
                · exact ok_to (P := fun m => m_okL m (mcd m) = true) (show m = 24 by omega) ok_Tokens_readWord
                · exact ok_to (P := fun m => m_okL m (mcd m) = true) (show m = 25 by omega) ok_Tokens_isDigit
              · rcases Nat.lt_or_ge m 27 with h8 | h8
                · exact ok_to (P := fun m => m_okL m (mcd m) = true) (show m = 26 by omega) ok_Tokens_readNumber
                · exact ok_to (P := fun m => m_okL m (mcd m) = true) (show m = 27 by omega) ok_Tokens_signKind
            · rcases Nat.lt_or_ge m 30 with h7 | h7
              · rcases Nat.lt_or_ge m 29 with h8 | h8
                · exact ok_to (P := fun m => m_okL m (mcd m) = true) (show m = 28 by omega) ok_Tokens_lengthenSign
                · exact ok_to (P := fun m => m_okL m (mcd m) = true) (show m = 29 by omega) ok_Tokens_advance
              · rcases Nat.lt_or_ge m 31 with h8 | h8
                · exact ok_to (P := fun m => m_okL m (mcd m) = true) (show m = 30 by omega) ok_Tokens_begin
                · exact ok_to (P := fun m => m_okL m (mcd m) = true) (show m = 31 by omega) ok_LineReader_fails
      · rcases Nat.lt_or_ge m 48 with h4 | h4
        · rcases Nat.lt_or_ge m 40 with h5 | h5
          · rcases Nat.lt_or_ge m 36 with h6 | h6
            · rcases Nat.lt_or_ge m 34 with h7 | h7
              · rcases Nat.lt_or_ge m 33 with h8 | h8
                · exact ok_to (P := fun m => m_okL m (mcd m) = true) (show m = 32 by omega) ok_Plan_numberOf
                · exact ok_to (P := fun m => m_okL m (mcd m) = true) (show m = 33 by omega) ok_LineReader_readsNumber
              · rcases Nat.lt_or_ge m 35 with h8 | h8
                · exact ok_to (P := fun m => m_okL m (mcd m) = true) (show m = 34 by omega) ok_LineReader_skipsMinus
                · exact ok_to (P := fun m => m_okL m (mcd m) = true) (show m = 35 by omega) ok_LineReader_readsMan
            · rcases Nat.lt_or_ge m 38 with h7 | h7
              · rcases Nat.lt_or_ge m 37 with h8 | h8
                · exact ok_to (P := fun m => m_okL m (mcd m) = true) (show m = 36 by omega) ok_LineReader_readsEnd
                · exact ok_to (P := fun m => m_okL m (mcd m) = true) (show m = 37 by omega) ok_LineReader_readsPerson
              · rcases Nat.lt_or_ge m 39 with h8 | h8
                · exact ok_to (P := fun m => m_okL m (mcd m) = true) (show m = 38 by omega) ok_LineReader_readsRing
                · exact ok_to (P := fun m => m_okL m (mcd m) = true) (show m = 39 by omega) ok_LineReader_readsMeet
          · rcases Nat.lt_or_ge m 44 with h6 | h6
            · rcases Nat.lt_or_ge m 42 with h7 | h7
              · rcases Nat.lt_or_ge m 41 with h8 | h8
                · exact ok_to (P := fun m => m_okL m (mcd m) = true) (show m = 40 by omega) ok_LineReader_readsCold
                · exact ok_to (P := fun m => m_okL m (mcd m) = true) (show m = 41 by omega) ok_LineReader_readsCrowd
              · rcases Nat.lt_or_ge m 43 with h8 | h8
                · exact ok_to (P := fun m => m_okL m (mcd m) = true) (show m = 42 by omega) ok_LineReader_readsSeed
                · exact ok_to (P := fun m => m_okL m (mcd m) = true) (show m = 43 by omega) ok_Laws_isTold
            · rcases Nat.lt_or_ge m 46 with h7 | h7
              · rcases Nat.lt_or_ge m 45 with h8 | h8
                · exact ok_to (P := fun m => m_okL m (mcd m) = true) (show m = 44 by omega) ok_LawReader_levelOf
                · exact ok_to (P := fun m => m_okL m (mcd m) = true) (show m = 45 by omega) ok_Laws_add
              · rcases Nat.lt_or_ge m 47 with h8 | h8
                · exact ok_to (P := fun m => m_okL m (mcd m) = true) (show m = 46 by omega) ok_LawReader_unpile
                · exact ok_to (P := fun m => m_okL m (mcd m) = true) (show m = 47 by omega) ok_LawReader_pileUp
        · rcases Nat.lt_or_ge m 56 with h5 | h5
          · rcases Nat.lt_or_ge m 52 with h6 | h6
            · rcases Nat.lt_or_ge m 50 with h7 | h7
              · rcases Nat.lt_or_ge m 49 with h8 | h8
                · exact ok_to (P := fun m => m_okL m (mcd m) = true) (show m = 48 by omega) ok_LawReader_topLevel
                · exact ok_to (P := fun m => m_okL m (mcd m) = true) (show m = 49 by omega) ok_LawReader_pilesKnot
              · rcases Nat.lt_or_ge m 51 with h8 | h8
                · exact ok_to (P := fun m => m_okL m (mcd m) = true) (show m = 50 by omega) ok_LawReader_takesValue
                · exact ok_to (P := fun m => m_okL m (mcd m) = true) (show m = 51 by omega) ok_LawReader_takesSign
            · rcases Nat.lt_or_ge m 54 with h7 | h7
              · rcases Nat.lt_or_ge m 53 with h8 | h8
                · exact ok_to (P := fun m => m_okL m (mcd m) = true) (show m = 52 by omega) ok_LawReader_readsLaw
                · exact ok_to (P := fun m => m_okL m (mcd m) = true) (show m = 53 by omega) ok_LineReader_readsLaw
              · rcases Nat.lt_or_ge m 55 with h8 | h8
                · exact ok_to (P := fun m => m_okL m (mcd m) = true) (show m = 54 by omega) ok_LineReader_readsLine
                · exact ok_to (P := fun m => m_okL m (mcd m) = true) (show m = 55 by omega) ok_LineReader_readsAll
          · rcases Nat.lt_or_ge m 60 with h6 | h6
            · rcases Nat.lt_or_ge m 58 with h7 | h7
              · rcases Nat.lt_or_ge m 57 with h8 | h8
                · exact ok_to (P := fun m => m_okL m (mcd m) = true) (show m = 56 by omega) ok_Day_begin
                · exact ok_to (P := fun m => m_okL m (mcd m) = true) (show m = 57 by omega) ok_Seen_forget
              · rcases Nat.lt_or_ge m 59 with h8 | h8
                · exact ok_to (P := fun m => m_okL m (mcd m) = true) (show m = 58 by omega) ok_C_text
                · exact ok_to (P := fun m => m_okL m (mcd m) = true) (show m = 59 by omega) ok_M_isSmall
            · rcases Nat.lt_or_ge m 62 with h7 | h7
              · rcases Nat.lt_or_ge m 61 with h8 | h8
                · exact ok_to (P := fun m => m_okL m (mcd m) = true) (show m = 60 by omega) ok_M_wordAt
                · exact ok_to (P := fun m => m_okL m (mcd m) = true) (show m = 61 by omega) ok_M_packed
              · rcases Nat.lt_or_ge m 63 with h8 | h8
                · exact ok_to (P := fun m => m_okL m (mcd m) = true) (show m = 62 by omega) ok_M_isDigit
                · rcases Nat.lt_or_ge m 64 with h9 | h9
                  · exact ok_to (P := fun m => m_okL m (mcd m) = true) (show m = 63 by omega) ok_M_signToken
                  · exact ok_to (P := fun m => m_okL m (mcd m) = true) (show m = 64 by omega) ok_M_token
    · rcases Nat.lt_or_ge m 97 with h3 | h3
      · rcases Nat.lt_or_ge m 81 with h4 | h4
        · rcases Nat.lt_or_ge m 73 with h5 | h5
          · rcases Nat.lt_or_ge m 69 with h6 | h6
            · rcases Nat.lt_or_ge m 67 with h7 | h7
              · rcases Nat.lt_or_ge m 66 with h8 | h8
                · exact ok_to (P := fun m => m_okL m (mcd m) = true) (show m = 65 by omega) ok_M_wrong
                · exact ok_to (P := fun m => m_okL m (mcd m) = true) (show m = 66 by omega) ok_M_find
              · rcases Nat.lt_or_ge m 68 with h8 | h8
                · exact ok_to (P := fun m => m_okL m (mcd m) = true) (show m = 67 by omega) ok_M_isIn
                · exact ok_to (P := fun m => m_okL m (mcd m) = true) (show m = 68 by omega) ok_M_number
            · rcases Nat.lt_or_ge m 71 with h7 | h7
              · rcases Nat.lt_or_ge m 70 with h8 | h8
                · exact ok_to (P := fun m => m_okL m (mcd m) = true) (show m = 69 by omega) ok_M_isSign
                · exact ok_to (P := fun m => m_okL m (mcd m) = true) (show m = 70 by omega) ok_M_signed
              · rcases Nat.lt_or_ge m 72 with h8 | h8
                · exact ok_to (P := fun m => m_okL m (mcd m) = true) (show m = 71 by omega) ok_M_manLine
                · exact ok_to (P := fun m => m_okL m (mcd m) = true) (show m = 72 by omega) ok_M_manThere
          · rcases Nat.lt_or_ge m 77 with h6 | h6
            · rcases Nat.lt_or_ge m 75 with h7 | h7
              · rcases Nat.lt_or_ge m 74 with h8 | h8
                · exact ok_to (P := fun m => m_okL m (mcd m) = true) (show m = 73 by omega) ok_M_ringLine
                · exact ok_to (P := fun m => m_okL m (mcd m) = true) (show m = 74 by omega) ok_M_meetLine
              · rcases Nat.lt_or_ge m 76 with h8 | h8
                · exact ok_to (P := fun m => m_okL m (mcd m) = true) (show m = 75 by omega) ok_M_coldLine
                · exact ok_to (P := fun m => m_okL m (mcd m) = true) (show m = 76 by omega) ok_M_onceLine
            · rcases Nat.lt_or_ge m 79 with h7 | h7
              · rcases Nat.lt_or_ge m 78 with h8 | h8
                · exact ok_to (P := fun m => m_okL m (mcd m) = true) (show m = 77 by omega) ok_M_waitsFor
                · exact ok_to (P := fun m => m_okL m (mcd m) = true) (show m = 78 by omega) ok_M_isKey
              · rcases Nat.lt_or_ge m 80 with h8 | h8
                · exact ok_to (P := fun m => m_okL m (mcd m) = true) (show m = 79 by omega) ok_M_isCounted
                · exact ok_to (P := fun m => m_okL m (mcd m) = true) (show m = 80 by omega) ok_M_nameMet
        · rcases Nat.lt_or_ge m 89 with h5 | h5
          · rcases Nat.lt_or_ge m 85 with h6 | h6
            · rcases Nat.lt_or_ge m 83 with h7 | h7
              · rcases Nat.lt_or_ge m 82 with h8 | h8
                · exact ok_to (P := fun m => m_okL m (mcd m) = true) (show m = 81 by omega) ok_M_grown
                · exact ok_to (P := fun m => m_okL m (mcd m) = true) (show m = 82 by omega) ok_M_leafRead
              · rcases Nat.lt_or_ge m 84 with h8 | h8
                · exact ok_to (P := fun m => m_okL m (mcd m) = true) (show m = 83 by omega) ok_M_rank
                · exact ok_to (P := fun m => m_okL m (mcd m) = true) (show m = 84 by omega) ok_M_dropHeld
            · rcases Nat.lt_or_ge m 87 with h7 | h7
              · rcases Nat.lt_or_ge m 86 with h8 | h8
                · exact ok_to (P := fun m => m_okL m (mcd m) = true) (show m = 85 by omega) ok_M_bind
                · exact ok_to (P := fun m => m_okL m (mcd m) = true) (show m = 86 by omega) ok_M_signs
              · rcases Nat.lt_or_ge m 88 with h8 | h8
                · exact ok_to (P := fun m => m_okL m (mcd m) = true) (show m = 87 by omega) ok_M_sumRead
                · exact ok_to (P := fun m => m_okL m (mcd m) = true) (show m = 88 by omega) ok_M_lineRead
          · rcases Nat.lt_or_ge m 93 with h6 | h6
            · rcases Nat.lt_or_ge m 91 with h7 | h7
              · rcases Nat.lt_or_ge m 90 with h8 | h8
                · exact ok_to (P := fun m => m_okL m (mcd m) = true) (show m = 89 by omega) ok_M_text
                · exact ok_to (P := fun m => m_okL m (mcd m) = true) (show m = 90 by omega) ok_C_fault
              · rcases Nat.lt_or_ge m 92 with h8 | h8
                · exact ok_to (P := fun m => m_okL m (mcd m) = true) (show m = 91 by omega) ok_M_fault
                · exact ok_to (P := fun m => m_okL m (mcd m) = true) (show m = 92 by omega) ok_C_named
            · rcases Nat.lt_or_ge m 95 with h7 | h7
              · rcases Nat.lt_or_ge m 94 with h8 | h8
                · exact ok_to (P := fun m => m_okL m (mcd m) = true) (show m = 93 by omega) ok_M_named
                · exact ok_to (P := fun m => m_okL m (mcd m) = true) (show m = 94 by omega) ok_C_isPerson
              · rcases Nat.lt_or_ge m 96 with h8 | h8
                · exact ok_to (P := fun m => m_okL m (mcd m) = true) (show m = 95 by omega) ok_Day_placeOf
                · exact ok_to (P := fun m => m_okL m (mcd m) = true) (show m = 96 by omega) ok_Day_modeOf
      · rcases Nat.lt_or_ge m 113 with h4 | h4
        · rcases Nat.lt_or_ge m 105 with h5 | h5
          · rcases Nat.lt_or_ge m 101 with h6 | h6
            · rcases Nat.lt_or_ge m 99 with h7 | h7
              · rcases Nat.lt_or_ge m 98 with h8 | h8
                · exact ok_to (P := fun m => m_okL m (mcd m) = true) (show m = 97 by omega) ok_C_man
                · exact absurd (show m = 98 by omega) hn
              · rcases Nat.lt_or_ge m 100 with h8 | h8
                · exact ok_to (P := fun m => m_okL m (mcd m) = true) (show m = 99 by omega) ok_M_isMan
                · exact ok_to (P := fun m => m_okL m (mcd m) = true) (show m = 100 by omega) ok_M_fails
            · rcases Nat.lt_or_ge m 103 with h7 | h7
              · rcases Nat.lt_or_ge m 102 with h8 | h8
                · exact ok_to (P := fun m => m_okL m (mcd m) = true) (show m = 101 by omega) ok_M_placeOf
                · exact ok_to (P := fun m => m_okL m (mcd m) = true) (show m = 102 by omega) ok_M_man
              · rcases Nat.lt_or_ge m 104 with h8 | h8
                · exact ok_to (P := fun m => m_okL m (mcd m) = true) (show m = 103 by omega) ok_M_thrown
                · exact ok_to (P := fun m => m_okL m (mcd m) = true) (show m = 104 by omega) ok_C_isMeeting
          · rcases Nat.lt_or_ge m 109 with h6 | h6
            · rcases Nat.lt_or_ge m 107 with h7 | h7
              · rcases Nat.lt_or_ge m 106 with h8 | h8
                · exact ok_to (P := fun m => m_okL m (mcd m) = true) (show m = 105 by omega) ok_C_meeting
                · exact ok_to (P := fun m => m_okL m (mcd m) = true) (show m = 106 by omega) ok_M_isMeeting
              · rcases Nat.lt_or_ge m 108 with h8 | h8
                · exact ok_to (P := fun m => m_okL m (mcd m) = true) (show m = 107 by omega) ok_M_meeting
                · exact ok_to (P := fun m => m_okL m (mcd m) = true) (show m = 108 by omega) ok_C_shows
            · rcases Nat.lt_or_ge m 111 with h7 | h7
              · rcases Nat.lt_or_ge m 110 with h8 | h8
                · exact ok_to (P := fun m => m_okL m (mcd m) = true) (show m = 109 by omega) ok_M_shows
                · exact ok_to (P := fun m => m_okL m (mcd m) = true) (show m = 110 by omega) ok_Way_follow
              · rcases Nat.lt_or_ge m 112 with h8 | h8
                · exact ok_to (P := fun m => m_okL m (mcd m) = true) (show m = 111 by omega) ok_Laws_joined
                · exact ok_to (P := fun m => m_okL m (mcd m) = true) (show m = 112 by omega) ok_Laws_valueOf
        · rcases Nat.lt_or_ge m 121 with h5 | h5
          · rcases Nat.lt_or_ge m 117 with h6 | h6
            · rcases Nat.lt_or_ge m 115 with h7 | h7
              · rcases Nat.lt_or_ge m 114 with h8 | h8
                · exact ok_to (P := fun m => m_okL m (mcd m) = true) (show m = 113 by omega) ok_Way_lawOf
                · exact ok_to (P := fun m => m_okL m (mcd m) = true) (show m = 114 by omega) ok_C_law
              · rcases Nat.lt_or_ge m 116 with h8 | h8
                · exact ok_to (P := fun m => m_okL m (mcd m) = true) (show m = 115 by omega) ok_M_waitsOf
                · exact ok_to (P := fun m => m_okL m (mcd m) = true) (show m = 116 by omega) ok_M_rateIn
            · rcases Nat.lt_or_ge m 119 with h7 | h7
              · rcases Nat.lt_or_ge m 118 with h8 | h8
                · exact ok_to (P := fun m => m_okL m (mcd m) = true) (show m = 117 by omega) ok_M_layNames
                · exact ok_to (P := fun m => m_okL m (mcd m) = true) (show m = 118 by omega) ok_M_bounded
              · rcases Nat.lt_or_ge m 120 with h8 | h8
                · exact ok_to (P := fun m => m_okL m (mcd m) = true) (show m = 119 by omega) ok_M_times
                · exact ok_to (P := fun m => m_okL m (mcd m) = true) (show m = 120 by omega) ok_M_compares
          · rcases Nat.lt_or_ge m 125 with h6 | h6
            · rcases Nat.lt_or_ge m 123 with h7 | h7
              · rcases Nat.lt_or_ge m 122 with h8 | h8
                · exact ok_to (P := fun m => m_okL m (mcd m) = true) (show m = 121 by omega) ok_M_valueOf
                · exact ok_to (P := fun m => m_okL m (mcd m) = true) (show m = 122 by omega) ok_M_lawOf
              · rcases Nat.lt_or_ge m 124 with h8 | h8
                · exact ok_to (P := fun m => m_okL m (mcd m) = true) (show m = 123 by omega) ok_M_law
                · exact ok_to (P := fun m => m_okL m (mcd m) = true) (show m = 124 by omega) ok_Day_takesIn
            · rcases Nat.lt_or_ge m 127 with h7 | h7
              · rcases Nat.lt_or_ge m 126 with h8 | h8
                · exact ok_to (P := fun m => m_okL m (mcd m) = true) (show m = 125 by omega) ok_Log_note
                · exact ok_to (P := fun m => m_okL m (mcd m) = true) (show m = 126 by omega) ok_C_ring
              · rcases Nat.lt_or_ge m 128 with h8 | h8
                · exact ok_to (P := fun m => m_okL m (mcd m) = true) (show m = 127 by omega) ok_M_put
                · rcases Nat.lt_or_ge m 129 with h9 | h9
                  · exact ok_to (P := fun m => m_okL m (mcd m) = true) (show m = 128 by omega) ok_M_remember
                  · exact ok_to (P := fun m => m_okL m (mcd m) = true) (show m = 129 by omega) ok_M_joins
  · rcases Nat.lt_or_ge m 195 with h2 | h2
    · rcases Nat.lt_or_ge m 162 with h3 | h3
      · rcases Nat.lt_or_ge m 146 with h4 | h4
        · rcases Nat.lt_or_ge m 138 with h5 | h5
          · rcases Nat.lt_or_ge m 134 with h6 | h6
            · rcases Nat.lt_or_ge m 132 with h7 | h7
              · rcases Nat.lt_or_ge m 131 with h8 | h8
                · exact ok_to (P := fun m => m_okL m (mcd m) = true) (show m = 130 by omega) ok_M_ring
                · exact ok_to (P := fun m => m_okL m (mcd m) = true) (show m = 131 by omega) ok_Day_takeOut
              · rcases Nat.lt_or_ge m 133 with h8 | h8
                · exact ok_to (P := fun m => m_okL m (mcd m) = true) (show m = 132 by omega) ok_C_hangUp
                · exact ok_to (P := fun m => m_okL m (mcd m) = true) (show m = 133 by omega) ok_M_leaves
            · rcases Nat.lt_or_ge m 136 with h7 | h7
              · rcases Nat.lt_or_ge m 135 with h8 | h8
                · exact ok_to (P := fun m => m_okL m (mcd m) = true) (show m = 134 by omega) ok_M_hangUp
                · exact ok_to (P := fun m => m_okL m (mcd m) = true) (show m = 135 by omega) ok_C_set
              · rcases Nat.lt_or_ge m 137 with h8 | h8
                · exact ok_to (P := fun m => m_okL m (mcd m) = true) (show m = 136 by omega) ok_M_set
                · exact ok_to (P := fun m => m_okL m (mcd m) = true) (show m = 137 by omega) ok_Day_isOneThere
          · rcases Nat.lt_or_ge m 142 with h6 | h6
            · rcases Nat.lt_or_ge m 140 with h7 | h7
              · rcases Nat.lt_or_ge m 139 with h8 | h8
                · exact ok_to (P := fun m => m_okL m (mcd m) = true) (show m = 138 by omega) ok_C_putOff
                · exact ok_to (P := fun m => m_okL m (mcd m) = true) (show m = 139 by omega) ok_M_isOpen
              · rcases Nat.lt_or_ge m 141 with h8 | h8
                · exact ok_to (P := fun m => m_okL m (mcd m) = true) (show m = 140 by omega) ok_M_putOff
                · exact ok_to (P := fun m => m_okL m (mcd m) = true) (show m = 141 by omega) ok_Way_takeRings
            · rcases Nat.lt_or_ge m 144 with h7 | h7
              · rcases Nat.lt_or_ge m 143 with h8 | h8
                · exact ok_to (P := fun m => m_okL m (mcd m) = true) (show m = 142 by omega) ok_Day_drawNumber
                · exact ok_to (P := fun m => m_okL m (mcd m) = true) (show m = 143 by omega) ok_Way_isStrangerRinging
              · rcases Nat.lt_or_ge m 145 with h8 | h8
                · exact ok_to (P := fun m => m_okL m (mcd m) = true) (show m = 144 by omega) ok_Day_takesStranger
                · exact ok_to (P := fun m => m_okL m (mcd m) = true) (show m = 145 by omega) ok_C_within
        · rcases Nat.lt_or_ge m 154 with h5 | h5
          · rcases Nat.lt_or_ge m 150 with h6 | h6
            · rcases Nat.lt_or_ge m 148 with h7 | h7
              · rcases Nat.lt_or_ge m 147 with h8 | h8
                · exact ok_to (P := fun m => m_okL m (mcd m) = true) (show m = 146 by omega) ok_Way_isCold
                · exact ok_to (P := fun m => m_okL m (mcd m) = true) (show m = 147 by omega) ok_Way_startTalk
              · rcases Nat.lt_or_ge m 149 with h8 | h8
                · exact ok_to (P := fun m => m_okL m (mcd m) = true) (show m = 148 by omega) ok_Way_goOnTalking
                · exact ok_to (P := fun m => m_okL m (mcd m) = true) (show m = 149 by omega) ok_Way_driftAll
            · rcases Nat.lt_or_ge m 152 with h7 | h7
              · rcases Nat.lt_or_ge m 151 with h8 | h8
                · exact ok_to (P := fun m => m_okL m (mcd m) = true) (show m = 150 by omega) ok_Way_meet
                · exact ok_to (P := fun m => m_okL m (mcd m) = true) (show m = 151 by omega) ok_Way_passMinute
              · rcases Nat.lt_or_ge m 153 with h8 | h8
                · exact ok_to (P := fun m => m_okL m (mcd m) = true) (show m = 152 by omega) ok_C_go
                · exact ok_to (P := fun m => m_okL m (mcd m) = true) (show m = 153 by omega) ok_M_number1
          · rcases Nat.lt_or_ge m 158 with h6 | h6
            · rcases Nat.lt_or_ge m 156 with h7 | h7
              · rcases Nat.lt_or_ge m 155 with h8 | h8
                · exact ok_to (P := fun m => m_okL m (mcd m) = true) (show m = 154 by omega) ok_M_isStranger
                · exact ok_to (P := fun m => m_okL m (mcd m) = true) (show m = 155 by omega) ok_M_boundLaw
              · rcases Nat.lt_or_ge m 157 with h8 | h8
                · exact ok_to (P := fun m => m_okL m (mcd m) = true) (show m = 156 by omega) ok_M_isCold
                · exact ok_to (P := fun m => m_okL m (mcd m) = true) (show m = 157 by omega) ok_M_begins
            · rcases Nat.lt_or_ge m 160 with h7 | h7
              · rcases Nat.lt_or_ge m 159 with h8 | h8
                · exact ok_to (P := fun m => m_okL m (mcd m) = true) (show m = 158 by omega) ok_M_isTold
                · exact ok_to (P := fun m => m_okL m (mcd m) = true) (show m = 159 by omega) ok_M_within
              · rcases Nat.lt_or_ge m 161 with h8 | h8
                · exact ok_to (P := fun m => m_okL m (mcd m) = true) (show m = 160 by omega) ok_M_drifts
                · exact ok_to (P := fun m => m_okL m (mcd m) = true) (show m = 161 by omega) ok_M_comes
      · rcases Nat.lt_or_ge m 178 with h4 | h4
        · rcases Nat.lt_or_ge m 170 with h5 | h5
          · rcases Nat.lt_or_ge m 166 with h6 | h6
            · rcases Nat.lt_or_ge m 164 with h7 | h7
              · rcases Nat.lt_or_ge m 163 with h8 | h8
                · exact ok_to (P := fun m => m_okL m (mcd m) = true) (show m = 162 by omega) ok_M_meets
                · exact ok_to (P := fun m => m_okL m (mcd m) = true) (show m = 163 by omega) ok_M_minuteGoes
              · rcases Nat.lt_or_ge m 165 with h8 | h8
                · exact ok_to (P := fun m => m_okL m (mcd m) = true) (show m = 164 by omega) ok_M_go
                · exact ok_to (P := fun m => m_okL m (mcd m) = true) (show m = 165 by omega) ok_Day_copy
            · rcases Nat.lt_or_ge m 168 with h7 | h7
              · rcases Nat.lt_or_ge m 167 with h8 | h8
                · exact ok_to (P := fun m => m_okL m (mcd m) = true) (show m = 166 by omega) ok_C_startTrial
                · exact ok_to (P := fun m => m_okL m (mcd m) = true) (show m = 167 by omega) ok_C_passTrial
              · rcases Nat.lt_or_ge m 169 with h8 | h8
                · exact ok_to (P := fun m => m_okL m (mcd m) = true) (show m = 168 by omega) ok_Day_howMany
                · exact ok_to (P := fun m => m_okL m (mcd m) = true) (show m = 169 by omega) ok_C_ahead
          · rcases Nat.lt_or_ge m 174 with h6 | h6
            · rcases Nat.lt_or_ge m 172 with h7 | h7
              · rcases Nat.lt_or_ge m 171 with h8 | h8
                · exact ok_to (P := fun m => m_okL m (mcd m) = true) (show m = 170 by omega) ok_M_layTried
                · exact ok_to (P := fun m => m_okL m (mcd m) = true) (show m = 171 by omega) ok_M_goMany
              · rcases Nat.lt_or_ge m 173 with h8 | h8
                · exact ok_to (P := fun m => m_okL m (mcd m) = true) (show m = 172 by omega) ok_M_are
                · exact ok_to (P := fun m => m_okL m (mcd m) = true) (show m = 173 by omega) ok_M_ahead
            · rcases Nat.lt_or_ge m 176 with h7 | h7
              · rcases Nat.lt_or_ge m 175 with h8 | h8
                · exact ok_to (P := fun m => m_okL m (mcd m) = true) (show m = 174 by omega) ok_C_minutesTillTold
                · exact ok_to (P := fun m => m_okL m (mcd m) = true) (show m = 175 by omega) ok_C_delay
              · rcases Nat.lt_or_ge m 177 with h8 | h8
                · exact ok_to (P := fun m => m_okL m (mcd m) = true) (show m = 176 by omega) ok_M_toldBy
                · exact ok_to (P := fun m => m_okL m (mcd m) = true) (show m = 177 by omega) ok_M_delay
        · rcases Nat.lt_or_ge m 186 with h5 | h5
          · rcases Nat.lt_or_ge m 182 with h6 | h6
            · rcases Nat.lt_or_ge m 180 with h7 | h7
              · rcases Nat.lt_or_ge m 179 with h8 | h8
                · exact ok_to (P := fun m => m_okL m (mcd m) = true) (show m = 178 by omega) ok_C_bestRing
                · exact ok_to (P := fun m => m_okL m (mcd m) = true) (show m = 179 by omega) ok_M_bestRing
              · rcases Nat.lt_or_ge m 181 with h8 | h8
                · exact ok_to (P := fun m => m_okL m (mcd m) = true) (show m = 180 by omega) ok_J_bitCount
                · exact ok_to (P := fun m => m_okL m (mcd m) = true) (show m = 181 by omega) ok_Day_spread
            · rcases Nat.lt_or_ge m 184 with h7 | h7
              · rcases Nat.lt_or_ge m 183 with h8 | h8
                · exact ok_to (P := fun m => m_okL m (mcd m) = true) (show m = 182 by omega) ok_C_spreadIfRinging
                · exact ok_to (P := fun m => m_okL m (mcd m) = true) (show m = 183 by omega) ok_C_near
              · rcases Nat.lt_or_ge m 185 with h8 | h8
                · exact ok_to (P := fun m => m_okL m (mcd m) = true) (show m = 184 by omega) ok_M_manyOf
                · exact ok_to (P := fun m => m_okL m (mcd m) = true) (show m = 185 by omega) ok_M_isOf
          · rcases Nat.lt_or_ge m 190 with h6 | h6
            · rcases Nat.lt_or_ge m 188 with h7 | h7
              · rcases Nat.lt_or_ge m 187 with h8 | h8
                · exact ok_to (P := fun m => m_okL m (mcd m) = true) (show m = 186 by omega) ok_M_spread
                · exact ok_to (P := fun m => m_okL m (mcd m) = true) (show m = 187 by omega) ok_M_near
              · rcases Nat.lt_or_ge m 189 with h8 | h8
                · exact ok_to (P := fun m => m_okL m (mcd m) = true) (show m = 188 by omega) ok_C_liars
                · exact ok_to (P := fun m => m_okL m (mcd m) = true) (show m = 189 by omega) ok_M_liars
            · rcases Nat.lt_or_ge m 192 with h7 | h7
              · rcases Nat.lt_or_ge m 191 with h8 | h8
                · exact ok_to (P := fun m => m_okL m (mcd m) = true) (show m = 190 by omega) ok_Day_howManySlower
                · exact ok_to (P := fun m => m_okL m (mcd m) = true) (show m = 191 by omega) ok_C_median
              · rcases Nat.lt_or_ge m 193 with h8 | h8
                · exact ok_to (P := fun m => m_okL m (mcd m) = true) (show m = 192 by omega) ok_M_median
                · rcases Nat.lt_or_ge m 194 with h9 | h9
                  · exact ok_to (P := fun m => m_okL m (mcd m) = true) (show m = 193 by omega) ok_C_agree
                  · exact ok_to (P := fun m => m_okL m (mcd m) = true) (show m = 194 by omega) ok_M_agree
    · rcases Nat.lt_or_ge m 227 with h3 | h3
      · rcases Nat.lt_or_ge m 211 with h4 | h4
        · rcases Nat.lt_or_ge m 203 with h5 | h5
          · rcases Nat.lt_or_ge m 199 with h6 | h6
            · rcases Nat.lt_or_ge m 197 with h7 | h7
              · rcases Nat.lt_or_ge m 196 with h8 | h8
                · exact ok_to (P := fun m => m_okL m (mcd m) = true) (show m = 195 by omega) ok_C_isKeptInTrial
                · exact ok_to (P := fun m => m_okL m (mcd m) = true) (show m = 196 by omega) ok_C_needs
              · rcases Nat.lt_or_ge m 198 with h8 | h8
                · exact ok_to (P := fun m => m_okL m (mcd m) = true) (show m = 197 by omega) ok_M_needs
                · exact ok_to (P := fun m => m_okL m (mcd m) = true) (show m = 198 by omega) ok_C_certain
            · rcases Nat.lt_or_ge m 201 with h7 | h7
              · rcases Nat.lt_or_ge m 200 with h8 | h8
                · exact ok_to (P := fun m => m_okL m (mcd m) = true) (show m = 199 by omega) ok_M_certain
                · exact ok_to (P := fun m => m_okL m (mcd m) = true) (show m = 200 by omega) ok_C_latest
              · rcases Nat.lt_or_ge m 202 with h8 | h8
                · exact ok_to (P := fun m => m_okL m (mcd m) = true) (show m = 201 by omega) ok_M_latest
                · exact ok_to (P := fun m => m_okL m (mcd m) = true) (show m = 202 by omega) ok_C_areTwo
          · rcases Nat.lt_or_ge m 207 with h6 | h6
            · rcases Nat.lt_or_ge m 205 with h7 | h7
              · rcases Nat.lt_or_ge m 204 with h8 | h8
                · exact ok_to (P := fun m => m_okL m (mcd m) = true) (show m = 203 by omega) ok_C_gain
                · exact ok_to (P := fun m => m_okL m (mcd m) = true) (show m = 204 by omega) ok_C_isRest
              · rcases Nat.lt_or_ge m 206 with h8 | h8
                · exact ok_to (P := fun m => m_okL m (mcd m) = true) (show m = 205 by omega) ok_C_rests
                · exact ok_to (P := fun m => m_okL m (mcd m) = true) (show m = 206 by omega) ok_M_areTwo
            · rcases Nat.lt_or_ge m 209 with h7 | h7
              · rcases Nat.lt_or_ge m 208 with h8 | h8
                · exact ok_to (P := fun m => m_okL m (mcd m) = true) (show m = 207 by omega) ok_M_hasBy
                · exact ok_to (P := fun m => m_okL m (mcd m) = true) (show m = 208 by omega) ok_M_restAt
              · rcases Nat.lt_or_ge m 210 with h8 | h8
                · exact ok_to (P := fun m => m_okL m (mcd m) = true) (show m = 209 by omega) ok_M_rests
                · exact ok_to (P := fun m => m_okL m (mcd m) = true) (show m = 210 by omega) ok_C_rest
        · rcases Nat.lt_or_ge m 219 with h5 | h5
          · rcases Nat.lt_or_ge m 215 with h6 | h6
            · rcases Nat.lt_or_ge m 213 with h7 | h7
              · rcases Nat.lt_or_ge m 212 with h8 | h8
                · exact ok_to (P := fun m => m_okL m (mcd m) = true) (show m = 211 by omega) ok_M_rest
                · exact ok_to (P := fun m => m_okL m (mcd m) = true) (show m = 212 by omega) ok_C_apart
              · rcases Nat.lt_or_ge m 214 with h8 | h8
                · exact ok_to (P := fun m => m_okL m (mcd m) = true) (show m = 213 by omega) ok_M_apart
                · exact ok_to (P := fun m => m_okL m (mcd m) = true) (show m = 214 by omega) ok_C_quiet
            · rcases Nat.lt_or_ge m 217 with h7 | h7
              · rcases Nat.lt_or_ge m 216 with h8 | h8
                · exact ok_to (P := fun m => m_okL m (mcd m) = true) (show m = 215 by omega) ok_M_quiet
                · exact ok_to (P := fun m => m_okL m (mcd m) = true) (show m = 216 by omega) ok_C_firstMissed
              · rcases Nat.lt_or_ge m 218 with h8 | h8
                · exact ok_to (P := fun m => m_okL m (mcd m) = true) (show m = 217 by omega) ok_M_firstMissed
                · exact ok_to (P := fun m => m_okL m (mcd m) = true) (show m = 218 by omega) ok_C_longest
          · rcases Nat.lt_or_ge m 223 with h6 | h6
            · rcases Nat.lt_or_ge m 221 with h7 | h7
              · rcases Nat.lt_or_ge m 220 with h8 | h8
                · exact ok_to (P := fun m => m_okL m (mcd m) = true) (show m = 219 by omega) ok_M_longest
                · exact ok_to (P := fun m => m_okL m (mcd m) = true) (show m = 220 by omega) ok_C_queue
              · rcases Nat.lt_or_ge m 222 with h8 | h8
                · exact ok_to (P := fun m => m_okL m (mcd m) = true) (show m = 221 by omega) ok_M_queue
                · exact ok_to (P := fun m => m_okL m (mcd m) = true) (show m = 222 by omega) ok_C_there
            · rcases Nat.lt_or_ge m 225 with h7 | h7
              · rcases Nat.lt_or_ge m 224 with h8 | h8
                · exact ok_to (P := fun m => m_okL m (mcd m) = true) (show m = 223 by omega) ok_M_there
                · exact ok_to (P := fun m => m_okL m (mcd m) = true) (show m = 224 by omega) ok_Seen_addSight
              · rcases Nat.lt_or_ge m 226 with h8 | h8
                · exact ok_to (P := fun m => m_okL m (mcd m) = true) (show m = 225 by omega) ok_C_see
                · exact ok_to (P := fun m => m_okL m (mcd m) = true) (show m = 226 by omega) ok_M_noted
      · rcases Nat.lt_or_ge m 243 with h4 | h4
        · rcases Nat.lt_or_ge m 235 with h5 | h5
          · rcases Nat.lt_or_ge m 231 with h6 | h6
            · rcases Nat.lt_or_ge m 229 with h7 | h7
              · rcases Nat.lt_or_ge m 228 with h8 | h8
                · exact ok_to (P := fun m => m_okL m (mcd m) = true) (show m = 227 by omega) ok_M_see
                · exact ok_to (P := fun m => m_okL m (mcd m) = true) (show m = 228 by omega) ok_Seen_addStrike
              · rcases Nat.lt_or_ge m 230 with h8 | h8
                · exact ok_to (P := fun m => m_okL m (mcd m) = true) (show m = 229 by omega) ok_C_strike
                · exact ok_to (P := fun m => m_okL m (mcd m) = true) (show m = 230 by omega) ok_M_strike
            · rcases Nat.lt_or_ge m 233 with h7 | h7
              · rcases Nat.lt_or_ge m 232 with h8 | h8
                · exact ok_to (P := fun m => m_okL m (mcd m) = true) (show m = 231 by omega) ok_C_known
                · exact ok_to (P := fun m => m_okL m (mcd m) = true) (show m = 232 by omega) ok_M_known
              · rcases Nat.lt_or_ge m 234 with h8 | h8
                · exact ok_to (P := fun m => m_okL m (mcd m) = true) (show m = 233 by omega) ok_Seen_knownBy
                · exact ok_to (P := fun m => m_okL m (mcd m) = true) (show m = 234 by omega) ok_Seen_judge
          · rcases Nat.lt_or_ge m 239 with h6 | h6
            · rcases Nat.lt_or_ge m 237 with h7 | h7
              · rcases Nat.lt_or_ge m 236 with h8 | h8
                · exact ok_to (P := fun m => m_okL m (mcd m) = true) (show m = 235 by omega) ok_Seen_lastMinute
                · exact ok_to (P := fun m => m_okL m (mcd m) = true) (show m = 236 by omega) ok_Seen_isSo
              · rcases Nat.lt_or_ge m 238 with h8 | h8
                · exact ok_to (P := fun m => m_okL m (mcd m) = true) (show m = 237 by omega) ok_C_isAllSeenSo
                · exact ok_to (P := fun m => m_okL m (mcd m) = true) (show m = 238 by omega) ok_C_rates
            · rcases Nat.lt_or_ge m 241 with h7 | h7
              · rcases Nat.lt_or_ge m 240 with h8 | h8
                · exact ok_to (P := fun m => m_okL m (mcd m) = true) (show m = 239 by omega) ok_M_knownBy
                · exact ok_to (P := fun m => m_okL m (mcd m) = true) (show m = 240 by omega) ok_M_isSo
              · rcases Nat.lt_or_ge m 242 with h8 | h8
                · exact ok_to (P := fun m => m_okL m (mcd m) = true) (show m = 241 by omega) ok_M_fits
                · exact ok_to (P := fun m => m_okL m (mcd m) = true) (show m = 242 by omega) ok_M_rates
        · rcases Nat.lt_or_ge m 251 with h5 | h5
          · rcases Nat.lt_or_ge m 247 with h6 | h6
            · rcases Nat.lt_or_ge m 245 with h7 | h7
              · rcases Nat.lt_or_ge m 244 with h8 | h8
                · exact ok_to (P := fun m => m_okL m (mcd m) = true) (show m = 243 by omega) ok_C_chance
                · exact ok_to (P := fun m => m_okL m (mcd m) = true) (show m = 244 by omega) ok_M_chance
              · rcases Nat.lt_or_ge m 246 with h8 | h8
                · exact ok_to (P := fun m => m_okL m (mcd m) = true) (show m = 245 by omega) ok_Way_change
                · exact ok_to (P := fun m => m_okL m (mcd m) = true) (show m = 246 by omega) ok_C_tried
            · rcases Nat.lt_or_ge m 249 with h7 | h7
              · rcases Nat.lt_or_ge m 248 with h8 | h8
                · exact ok_to (P := fun m => m_okL m (mcd m) = true) (show m = 247 by omega) ok_M_tried
                · exact ok_to (P := fun m => m_okL m (mcd m) = true) (show m = 248 by omega) ok_Day_putIn
              · rcases Nat.lt_or_ge m 250 with h8 | h8
                · exact ok_to (P := fun m => m_okL m (mcd m) = true) (show m = 249 by omega) ok_C_undo
                · exact ok_to (P := fun m => m_okL m (mcd m) = true) (show m = 250 by omega) ok_M_take
          · rcases Nat.lt_or_ge m 255 with h6 | h6
            · rcases Nat.lt_or_ge m 253 with h7 | h7
              · rcases Nat.lt_or_ge m 252 with h8 | h8
                · exact ok_to (P := fun m => m_okL m (mcd m) = true) (show m = 251 by omega) ok_M_undo
                · exact ok_to (P := fun m => m_okL m (mcd m) = true) (show m = 252 by omega) ok_C_keep
              · rcases Nat.lt_or_ge m 254 with h8 | h8
                · exact ok_to (P := fun m => m_okL m (mcd m) = true) (show m = 253 by omega) ok_M_keep
                · exact ok_to (P := fun m => m_okL m (mcd m) = true) (show m = 254 by omega) ok_C_back
            · rcases Nat.lt_or_ge m 257 with h7 | h7
              · rcases Nat.lt_or_ge m 256 with h8 | h8
                · exact ok_to (P := fun m => m_okL m (mcd m) = true) (show m = 255 by omega) ok_M_back
                · exact ok_to (P := fun m => m_okL m (mcd m) = true) (show m = 256 by omega) ok_Day_toldInAll
              · rcases Nat.lt_or_ge m 258 with h8 | h8
                · exact ok_to (P := fun m => m_okL m (mcd m) = true) (show m = 257 by omega) ok_C_count
                · rcases Nat.lt_or_ge m 259 with h9 | h9
                  · exact ok_to (P := fun m => m_okL m (mcd m) = true) (show m = 258 by omega) ok_M_count
                  · exact ok_to (P := fun m => m_okL m (mcd m) = true) (show m = 259 by omega) ok_L_law
