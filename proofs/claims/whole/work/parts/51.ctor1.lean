/-! THE CONSTRUCTORS (written by wip/whole/grow.py) -/
def sx_0 : sT := (fun _ _ => 0, fun _ _ => none)
theorem sh_0 : shX.2.2 0 = (3, 10, 0) := rfl
theorem sh_1 : shX.2.2 1 = (3, 8, 0) := rfl
theorem sh_2 : shX.2.2 2 = (1, 0, 160) := rfl
theorem sh_3 : shX.2.2 3 = (1, 0, 160) := rfl
theorem sh_4 : shX.2.2 4 = (1, 0, 160) := rfl
theorem sh_5 : shX.2.2 5 = (1, 0, 160) := rfl
theorem sh_6 : shX.2.2 6 = (1, 0, 160) := rfl
theorem sh_7 : shX.2.2 7 = (1, 0, 2048) := rfl
theorem sh_8 : shX.2.2 8 = (1, 0, 136) := rfl
theorem sh_9 : shX.2.2 9 = (3, 7, 0) := rfl
theorem sh_10 : shX.2.2 10 = (1, 0, 68) := rfl
theorem sh_11 : shX.2.2 11 = (3, 2, 0) := rfl
theorem sh_12 : shX.2.2 12 = (3, 6, 0) := rfl
theorem sh_13 : shX.2.2 13 = (1, 0, 1984) := rfl
theorem sh_14 : shX.2.2 14 = (1, 0, 31) := rfl
theorem sh_15 : shX.2.2 15 = (1, 0, 192) := rfl
theorem sh_16 : shX.2.2 16 = (3, 7, 0) := rfl
theorem sh_17 : shX.2.2 17 = (1, 0, 68) := rfl
theorem sh_18 : shX.2.2 18 = (2, 5, 2) := rfl
theorem sh_19 : shX.2.2 19 = (3, 5, 0) := rfl
theorem sh_20 : shX.2.2 20 = (3, 7, 0) := rfl
theorem sh_21 : shX.2.2 21 = (1, 0, 30) := rfl
theorem sh_22 : shX.2.2 22 = (3, 7, 0) := rfl
theorem sh_23 : shX.2.2 23 = (1, 0, 4960) := rfl
theorem sh_24 : shX.2.2 24 = (1, 0, 31) := rfl
theorem sh_25 : shX.2.2 25 = (1, 0, 93) := rfl
theorem sh_26 : shX.2.2 26 = (1, 0, 94) := rfl
theorem sh_27 : shX.2.2 27 = (1, 0, 961) := rfl
theorem sh_28 : shX.2.2 28 = (3, 5, 0) := rfl
theorem sh_29 : shX.2.2 29 = (3, 7, 0) := rfl
theorem sh_30 : shX.2.2 30 = (1, 0, 30) := rfl
theorem sh_31 : shX.2.2 31 = (3, 7, 0) := rfl
theorem sh_32 : shX.2.2 32 = (1, 0, 4960) := rfl
theorem sh_33 : shX.2.2 33 = (1, 0, 31) := rfl
theorem sh_34 : shX.2.2 34 = (1, 0, 93) := rfl
theorem sh_35 : shX.2.2 35 = (1, 0, 94) := rfl
theorem sh_36 : shX.2.2 36 = (1, 0, 961) := rfl
theorem sh_37 : shX.2.2 37 = (3, 1, 0) := rfl
theorem sh_38 : shX.2.2 38 = (1, 0, 300) := rfl
theorem sh_39 : shX.2.2 39 = (1, 0, 300) := rfl
theorem sh_40 : shX.2.2 40 = (1, 0, 300) := rfl
theorem sh_41 : shX.2.2 41 = (1, 0, 300) := rfl
theorem sh_42 : shX.2.2 42 = (1, 0, 300) := rfl
theorem sh_43 : shX.2.2 43 = (1, 0, 9300) := rfl
theorem sh_44 : shX.2.2 44 = (3, 7, 0) := rfl
theorem sh_45 : shX.2.2 45 = (1, 0, 300) := rfl
theorem sh_46 : shX.2.2 46 = (1, 0, 300) := rfl
theorem sh_47 : shX.2.2 47 = (3, 4, 0) := rfl
theorem sh_48 : shX.2.2 48 = (1, 0, 300) := rfl
theorem sh_49 : shX.2.2 49 = (1, 0, 300) := rfl
theorem sh_50 : shX.2.2 50 = (1, 0, 300) := rfl
theorem sh_51 : shX.2.2 51 = (1, 0, 31) := rfl
theorem sh_52 : shX.2.2 52 = (1, 0, 31) := rfl
theorem sh_53 : shX.2.2 53 = (1, 0, 300) := rfl
theorem sh_54 : shX.2.2 54 = (1, 0, 31) := rfl
theorem sh_55 : shX.2.2 55 = (3, 0, 0) := rfl
theorem sh_56 : shX.2.2 56 = (3, 9, 0) := rfl
theorem sh_57 : shX.2.2 57 = (1, 0, 512) := rfl
theorem sh_58 : shX.2.2 58 = (1, 0, 512) := rfl
theorem sh_59 : shX.2.2 59 = (1, 0, 512) := rfl
theorem sh_60 : shX.2.2 60 = (1, 0, 512) := rfl
theorem sh_61 : shX.2.2 61 = (3, 3, 0) := rfl
theorem sh_62 : shX.2.2 62 = (3, 7, 0) := rfl
theorem sh_63 : shX.2.2 63 = (1, 0, 60) := rfl
theorem sh_64 : shX.2.2 64 = (2, 5, 2) := rfl
theorem sh_65 : shX.2.2 65 = (3, 5, 0) := rfl
theorem sh_66 : shX.2.2 66 = (3, 7, 0) := rfl
theorem sh_67 : shX.2.2 67 = (1, 0, 30) := rfl
theorem sh_68 : shX.2.2 68 = (3, 7, 0) := rfl
theorem sh_69 : shX.2.2 69 = (1, 0, 4960) := rfl
theorem sh_70 : shX.2.2 70 = (1, 0, 31) := rfl
theorem sh_71 : shX.2.2 71 = (1, 0, 93) := rfl
theorem sh_72 : shX.2.2 72 = (1, 0, 94) := rfl
theorem sh_73 : shX.2.2 73 = (1, 0, 961) := rfl
theorem sh_74 : shX.2.2 74 = (3, 5, 0) := rfl
theorem sh_75 : shX.2.2 75 = (3, 7, 0) := rfl
theorem sh_76 : shX.2.2 76 = (1, 0, 30) := rfl
theorem sh_77 : shX.2.2 77 = (3, 7, 0) := rfl
theorem sh_78 : shX.2.2 78 = (1, 0, 4960) := rfl
theorem sh_79 : shX.2.2 79 = (1, 0, 31) := rfl
theorem sh_80 : shX.2.2 80 = (1, 0, 93) := rfl
theorem sh_81 : shX.2.2 81 = (1, 0, 94) := rfl
theorem sh_82 : shX.2.2 82 = (1, 0, 961) := rfl
theorem sh_83 : shX.2.2 83 = (2, 7, 4) := rfl
theorem sh_84 : shX.2.2 84 = (3, 1, 0) := rfl
theorem sh_85 : shX.2.2 85 = (1, 0, 300) := rfl
theorem sh_86 : shX.2.2 86 = (1, 0, 300) := rfl
theorem sh_87 : shX.2.2 87 = (1, 0, 300) := rfl
theorem sh_88 : shX.2.2 88 = (1, 0, 300) := rfl
theorem sh_89 : shX.2.2 89 = (1, 0, 300) := rfl
theorem sh_90 : shX.2.2 90 = (1, 0, 9300) := rfl
theorem sh_91 : shX.2.2 91 = (3, 7, 0) := rfl
theorem sh_92 : shX.2.2 92 = (1, 0, 300) := rfl
theorem sh_93 : shX.2.2 93 = (1, 0, 300) := rfl
theorem sh_94 : shX.2.2 94 = (3, 7, 0) := rfl
theorem sh_95 : shX.2.2 95 = (1, 0, 30) := rfl
theorem sh_96 : shX.2.2 96 = (3, 7, 0) := rfl
theorem sh_97 : shX.2.2 97 = (1, 0, 30) := rfl
theorem sh_98 : shX.2.2 98 = (3, 7, 0) := rfl
theorem sh_99 : shX.2.2 99 = (1, 0, 30) := rfl
theorem sh_100 : shX.2.2 100 = (3, 7, 0) := rfl
theorem sh_101 : shX.2.2 101 = (1, 0, 30) := rfl
theorem sh_102 : shX.2.2 102 = (2, 3, 2) := rfl
theorem sh_103 : shX.2.2 103 = (3, 3, 0) := rfl
theorem sh_104 : shX.2.2 104 = (3, 7, 0) := rfl
theorem sh_105 : shX.2.2 105 = (1, 0, 60) := rfl
theorem sh_106 : shX.2.2 106 = (2, 5, 2) := rfl
theorem sh_107 : shX.2.2 107 = (3, 5, 0) := rfl
theorem sh_108 : shX.2.2 108 = (3, 7, 0) := rfl
theorem sh_109 : shX.2.2 109 = (1, 0, 30) := rfl
theorem sh_110 : shX.2.2 110 = (3, 7, 0) := rfl
theorem sh_111 : shX.2.2 111 = (1, 0, 4960) := rfl
theorem sh_112 : shX.2.2 112 = (1, 0, 31) := rfl
theorem sh_113 : shX.2.2 113 = (1, 0, 93) := rfl
theorem sh_114 : shX.2.2 114 = (1, 0, 94) := rfl
theorem sh_115 : shX.2.2 115 = (1, 0, 961) := rfl
theorem sh_116 : shX.2.2 116 = (3, 5, 0) := rfl
theorem sh_117 : shX.2.2 117 = (3, 7, 0) := rfl
theorem sh_118 : shX.2.2 118 = (1, 0, 30) := rfl
theorem sh_119 : shX.2.2 119 = (3, 7, 0) := rfl
theorem sh_120 : shX.2.2 120 = (1, 0, 4960) := rfl
theorem sh_121 : shX.2.2 121 = (1, 0, 31) := rfl
theorem sh_122 : shX.2.2 122 = (1, 0, 93) := rfl
theorem sh_123 : shX.2.2 123 = (1, 0, 94) := rfl
theorem sh_124 : shX.2.2 124 = (1, 0, 961) := rfl
theorem sh_125 : shX.2.2 125 = (2, 7, 4) := rfl
theorem sh_126 : shX.2.2 126 = (3, 1, 0) := rfl
theorem sh_127 : shX.2.2 127 = (1, 0, 300) := rfl
theorem sh_128 : shX.2.2 128 = (1, 0, 300) := rfl
theorem sh_129 : shX.2.2 129 = (1, 0, 300) := rfl
theorem sh_130 : shX.2.2 130 = (1, 0, 300) := rfl
theorem sh_131 : shX.2.2 131 = (1, 0, 300) := rfl
theorem sh_132 : shX.2.2 132 = (1, 0, 9300) := rfl
theorem sh_133 : shX.2.2 133 = (3, 7, 0) := rfl
theorem sh_134 : shX.2.2 134 = (1, 0, 300) := rfl
theorem sh_135 : shX.2.2 135 = (1, 0, 300) := rfl
theorem sh_136 : shX.2.2 136 = (3, 7, 0) := rfl
theorem sh_137 : shX.2.2 137 = (1, 0, 30) := rfl
theorem sh_138 : shX.2.2 138 = (3, 7, 0) := rfl
theorem sh_139 : shX.2.2 139 = (1, 0, 30) := rfl
theorem sh_140 : shX.2.2 140 = (3, 7, 0) := rfl
theorem sh_141 : shX.2.2 141 = (1, 0, 30) := rfl
theorem sh_142 : shX.2.2 142 = (3, 7, 0) := rfl
theorem sh_143 : shX.2.2 143 = (1, 0, 30) := rfl
theorem sh_144 : shX.2.2 144 = (3, 3, 0) := rfl
theorem sh_145 : shX.2.2 145 = (3, 7, 0) := rfl
theorem sh_146 : shX.2.2 146 = (1, 0, 60) := rfl
theorem sh_147 : shX.2.2 147 = (2, 5, 2) := rfl
theorem sh_148 : shX.2.2 148 = (3, 5, 0) := rfl
theorem sh_149 : shX.2.2 149 = (3, 7, 0) := rfl
theorem sh_150 : shX.2.2 150 = (1, 0, 30) := rfl
theorem sh_151 : shX.2.2 151 = (3, 7, 0) := rfl
theorem sh_152 : shX.2.2 152 = (1, 0, 4960) := rfl
theorem sh_153 : shX.2.2 153 = (1, 0, 31) := rfl
theorem sh_154 : shX.2.2 154 = (1, 0, 93) := rfl
theorem sh_155 : shX.2.2 155 = (1, 0, 94) := rfl
theorem sh_156 : shX.2.2 156 = (1, 0, 961) := rfl
theorem sh_157 : shX.2.2 157 = (3, 5, 0) := rfl
theorem sh_158 : shX.2.2 158 = (3, 7, 0) := rfl
theorem sh_159 : shX.2.2 159 = (1, 0, 30) := rfl
theorem sh_160 : shX.2.2 160 = (3, 7, 0) := rfl
theorem sh_161 : shX.2.2 161 = (1, 0, 4960) := rfl
theorem sh_162 : shX.2.2 162 = (1, 0, 31) := rfl
theorem sh_163 : shX.2.2 163 = (1, 0, 93) := rfl
theorem sh_164 : shX.2.2 164 = (1, 0, 94) := rfl
theorem sh_165 : shX.2.2 165 = (1, 0, 961) := rfl
theorem sh_166 : shX.2.2 166 = (2, 7, 4) := rfl
theorem sh_167 : shX.2.2 167 = (3, 1, 0) := rfl
theorem sh_168 : shX.2.2 168 = (1, 0, 300) := rfl
theorem sh_169 : shX.2.2 169 = (1, 0, 300) := rfl
theorem sh_170 : shX.2.2 170 = (1, 0, 300) := rfl
theorem sh_171 : shX.2.2 171 = (1, 0, 300) := rfl
theorem sh_172 : shX.2.2 172 = (1, 0, 300) := rfl
theorem sh_173 : shX.2.2 173 = (1, 0, 9300) := rfl
theorem sh_174 : shX.2.2 174 = (3, 7, 0) := rfl
theorem sh_175 : shX.2.2 175 = (1, 0, 300) := rfl
theorem sh_176 : shX.2.2 176 = (1, 0, 300) := rfl
theorem sh_177 : shX.2.2 177 = (3, 7, 0) := rfl
theorem sh_178 : shX.2.2 178 = (1, 0, 30) := rfl
theorem sh_179 : shX.2.2 179 = (3, 7, 0) := rfl
theorem sh_180 : shX.2.2 180 = (1, 0, 30) := rfl
theorem sh_181 : shX.2.2 181 = (3, 7, 0) := rfl
theorem sh_182 : shX.2.2 182 = (1, 0, 30) := rfl
theorem sh_183 : shX.2.2 183 = (3, 7, 0) := rfl
theorem sh_184 : shX.2.2 184 = (1, 0, 30) := rfl
theorem sh_185 : shX.2.2 185 = (1, 1, 2) := rfl
theorem sh_186 : shX.2.2 186 = (3, 11, 0) := rfl
theorem sh_187 : shX.2.2 187 = (1, 0, 42882) := rfl
theorem sh_188 : shX.2.2 188 = (1, 0, 60) := rfl
theorem sh_189 : shX.2.2 189 = (1, 1, 2) := rfl
theorem sh_190 : shX.2.2 190 = (1, 0, 1500) := rfl
theorem sh_191 : shX.2.2 191 = (1, 0, 1500) := rfl
theorem sh_192 : shX.2.2 192 = (1, 0, 1500) := rfl
theorem sh_193 : shX.2.2 193 = (1, 0, 1500) := rfl
theorem sh_194 : shX.2.2 194 = (1, 0, 1500) := rfl
theorem sh_195 : shX.2.2 195 = (1, 0, 24000) := rfl
theorem sh_196 : shX.2.2 196 = (1, 1, 1500) := rfl
theorem sh_197 : shX.2.2 197 = (1, 0, 4500) := rfl
theorem sh_198 : shX.2.2 198 = (1, 0, 4500) := rfl
theorem sh_199 : shX.2.2 199 = (1, 0, 48000) := rfl
theorem sh_200 : shX.2.2 200 = (1, 0, 400) := rfl
theorem sh_201 : shX.2.2 201 = (1, 0, 400) := rfl
theorem sh_202 : shX.2.2 202 = (1, 0, 960) := rfl
theorem sh_203 : shX.2.2 203 = (1, 0, 960) := rfl
theorem sh_204 : shX.2.2 204 = (1, 0, 32) := rfl
theorem sh_205 : shX.2.2 205 = (1, 0, 32) := rfl
theorem sh_206 : shX.2.2 206 = (1, 0, 2000) := rfl
theorem sh_207 : shX.2.2 207 = (1, 0, 600) := rfl
theorem sh_208 : shX.2.2 208 = (1, 0, 1500) := rfl
theorem sh_209 : shX.2.2 209 = (1, 0, 200) := rfl
theorem sh_210 : shX.2.2 210 = (1, 0, 62) := rfl
theorem sh_211 : shX.2.2 211 = (1, 0, 2) := rfl
theorem sh_212 : shX.2.2 212 = (1, 0, 186) := rfl
theorem sh_213 : shX.2.2 213 = (1, 0, 5766) := rfl
theorem sh_214 : shX.2.2 214 = (1, 0, 186) := rfl
theorem sh_215 : shX.2.2 215 = (1, 0, 301) := rfl
theorem sh_216 : shX.2.2 216 = (1, 0, 301) := rfl
theorem sh_217 : shX.2.2 217 = (1, 0, 301) := rfl
theorem sh_218 : shX.2.2 218 = (1, 0, 8) := rfl
def sx_1 : sT := pV (pV (pV (pV (pV (pV (pR (pR (pR (pR (pR (pR (pR (sx_0) 1 0 (some 2)) 1 1 (some 3)) 1 2 (some 4)) 1 3 (some 5)) 1 4 (some 6)) 1 5 (some 7)) 1 6 (some 8)) 5 0 (-1 : Int32)) 5 1 (0 : Int32)) 5 2 (1 : Int32)) 5 3 (1 : Int32)) 5 4 (1 : Int32)) 1 7 (5 : Int32)
theorem kc_1 {L : Nat} {xs : Nat → Int32} {d : Nat} {K : Option Int32 → Nat → Nat → sT → Prop} (h : K none 9 3005 sx_1) : tH L xs 2 21 (d + 0) 79 0 [.ref 1, .null] [] sx_0 K := by
  refine h_aload (p_79_0 _ _) rfl ?_
  refine h_init (p_79_1 _ _) (Nat.le_of_ble_eq_true rfl) ?_
  refine h_aload (p_79_4 _ _) rfl ?_
  refine h_push (p_79_5 _ _) ?_
  refine h_newa (k := 160) (n1 := 3) (m1 := 181) (p_79_8 _ _) sh_2 (by decide) (by decide) rfl rfl ?_
  refine h_putr (p_79_10 _ _) isI_8_0 sh_1 (by decide) ?_
  refine h_aload (p_79_13 _ _) rfl ?_
  refine h_push (p_79_14 _ _) ?_
  refine h_newa (k := 160) (n1 := 4) (m1 := 341) (p_79_17 _ _) sh_3 (by decide) (by decide) rfl rfl ?_
  refine h_putr (p_79_19 _ _) isI_8_1 sh_1 (by decide) ?_
  refine h_aload (p_79_22 _ _) rfl ?_
  refine h_push (p_79_23 _ _) ?_
  refine h_newa (k := 160) (n1 := 5) (m1 := 501) (p_79_26 _ _) sh_4 (by decide) (by decide) rfl rfl ?_
  refine h_putr (p_79_28 _ _) isI_8_2 sh_1 (by decide) ?_
  refine h_aload (p_79_31 _ _) rfl ?_
  refine h_push (p_79_32 _ _) ?_
  refine h_newa (k := 160) (n1 := 6) (m1 := 661) (p_79_35 _ _) sh_5 (by decide) (by decide) rfl rfl ?_
  refine h_putr (p_79_37 _ _) isI_8_3 sh_1 (by decide) ?_
  refine h_aload (p_79_40 _ _) rfl ?_
  refine h_push (p_79_41 _ _) ?_
  refine h_newa (k := 160) (n1 := 7) (m1 := 821) (p_79_44 _ _) sh_6 (by decide) (by decide) rfl rfl ?_
  refine h_putr (p_79_46 _ _) isI_8_4 sh_1 (by decide) ?_
  refine h_aload (p_79_49 _ _) rfl ?_
  refine h_push (p_79_50 _ _) ?_
  refine h_newa (k := 2048) (n1 := 8) (m1 := 2869) (p_79_53 _ _) sh_7 (by decide) (by decide) rfl rfl ?_
  refine h_putr (p_79_55 _ _) isI_8_5 sh_1 (by decide) ?_
  refine h_aload (p_79_58 _ _) rfl ?_
  refine h_push (p_79_59 _ _) ?_
  refine h_newa (k := 136) (n1 := 9) (m1 := 3005) (p_79_62 _ _) sh_8 (by decide) (by decide) rfl rfl ?_
  refine h_putr (p_79_64 _ _) isI_8_6 sh_1 (by decide) ?_
  refine h_aload (p_79_67 _ _) rfl ?_
  refine h_getr (a := 5) (p_79_68 _ _) isI_8_3 sh_1 (by decide +kernel) ?_
  refine h_push (p_79_71 _ _) ?_
  refine h_push (p_79_72 _ _) ?_
  refine h_ast (k := 0) (p_79_73 _ _) sh_5 (by decide) (by decide) (by decide) ?_
  refine h_aload (p_79_74 _ _) rfl ?_
  refine h_getr (a := 5) (p_79_75 _ _) isI_8_3 sh_1 (by decide +kernel) ?_
  refine h_push (p_79_78 _ _) ?_
  refine h_push (p_79_79 _ _) ?_
  refine h_ast (k := 1) (p_79_80 _ _) sh_5 (by decide) (by decide) (by decide) ?_
  refine h_push (p_79_81 _ _) ?_
  refine h_istore (ls1 := [.ref 1, .int (2 : Int32)]) (p_79_82 _ _) (Nat.le_of_ble_eq_true rfl) rfl rfl ?_
  refine h_iload (p_79_83 _ _) rfl ?_
  refine h_push (p_79_84 _ _) ?_
  refine h_cmpF (p_79_85 _ _) (by decide) ?_
  refine h_aload (p_79_88 _ _) rfl ?_
  refine h_getr (a := 5) (p_79_89 _ _) isI_8_3 sh_1 (by decide +kernel) ?_
  refine h_iload (p_79_92 _ _) rfl ?_
  refine h_push (p_79_93 _ _) ?_
  refine h_ast (k := 2) (p_79_94 _ _) sh_5 (by decide) (by decide) (by decide) ?_
  refine h_iinc (x1 := (3 : Int32)) (ls1 := [.ref 1, .int (3 : Int32)]) (p_79_95 _ _) rfl rfl (by decide) rfl ?_
  refine h_goto (p_79_98 _ _) ?_
  refine h_iload (p_79_83 _ _) rfl ?_
  refine h_push (p_79_84 _ _) ?_
  refine h_cmpF (p_79_85 _ _) (by decide) ?_
  refine h_aload (p_79_88 _ _) rfl ?_
  refine h_getr (a := 5) (p_79_89 _ _) isI_8_3 sh_1 (by decide +kernel) ?_
  refine h_iload (p_79_92 _ _) rfl ?_
  refine h_push (p_79_93 _ _) ?_
  refine h_ast (k := 3) (p_79_94 _ _) sh_5 (by decide) (by decide) (by decide) ?_
  refine h_iinc (x1 := (4 : Int32)) (ls1 := [.ref 1, .int (4 : Int32)]) (p_79_95 _ _) rfl rfl (by decide) rfl ?_
  refine h_goto (p_79_98 _ _) ?_
  refine h_iload (p_79_83 _ _) rfl ?_
  refine h_push (p_79_84 _ _) ?_
  refine h_cmpF (p_79_85 _ _) (by decide) ?_
  refine h_aload (p_79_88 _ _) rfl ?_
  refine h_getr (a := 5) (p_79_89 _ _) isI_8_3 sh_1 (by decide +kernel) ?_
  refine h_iload (p_79_92 _ _) rfl ?_
  refine h_push (p_79_93 _ _) ?_
  refine h_ast (k := 4) (p_79_94 _ _) sh_5 (by decide) (by decide) (by decide) ?_
  refine h_iinc (x1 := (5 : Int32)) (ls1 := [.ref 1, .int (5 : Int32)]) (p_79_95 _ _) rfl rfl (by decide) rfl ?_
  refine h_goto (p_79_98 _ _) ?_
  refine h_iload (p_79_83 _ _) rfl ?_
  refine h_push (p_79_84 _ _) ?_
  refine h_cmpT (p_79_85 _ _) (by decide) ?_
  refine h_aload (p_79_101 _ _) rfl ?_
  refine h_push (p_79_102 _ _) ?_
  refine h_puti (p_79_103 _ _) isI_8_7 sh_1 (by decide) ?_
  exact h_ret0 (p_79_106 _ _) h
def sx_2 : sT := pR (sx_1) 9 0 (some 10)
theorem kc_2 {L : Nat} {xs : Nat → Int32} {d : Nat} {K : Option Int32 → Nat → Nat → sT → Prop} (h : K none 11 3075 sx_2) : tH L xs 10 3007 (d + 0) 70 0 [.ref 9, .int (68 : Int32)] [] sx_1 K := by
  refine h_aload (p_70_0 _ _) rfl ?_
  refine h_init (p_70_1 _ _) (Nat.le_of_ble_eq_true rfl) ?_
  refine h_aload (p_70_4 _ _) rfl ?_
  refine h_iload (p_70_5 _ _) rfl ?_
  refine h_push (p_70_6 _ _) ?_
  refine h_mm (w := (68 : Int32)) (p_70_7 _ _) (Nat.le_of_ble_eq_true rfl) (by decide) ?_
  refine h_newa (k := 68) (n1 := 11) (m1 := 3075) (p_70_10 _ _) sh_10 (by decide) (by decide) rfl rfl ?_
  refine h_putr (p_70_12 _ _) isI_7_0 sh_9 (by decide) ?_
  exact h_ret0 (p_70_15 _ _) h
def sx_3 : sT := pR (sx_2) 0 5 (some 9)
def sx_4 : sT := pR (pR (pV (sx_3) 11 4 (-1 : Int32)) 11 0 (some 1)) 11 1 (some 9)
theorem kc_3 {L : Nat} {xs : Nat → Int32} {d : Nat} {K : Option Int32 → Nat → Nat → sT → Prop} (h : K none 12 3080 sx_4) : tH L xs 12 3080 (d + 0) 21 0 [.ref 11, .ref 1, .ref 9] [] sx_3 K := by
  refine h_aload (p_21_0 _ _) rfl ?_
  refine h_init (p_21_1 _ _) (Nat.le_of_ble_eq_true rfl) ?_
  refine h_aload (p_21_4 _ _) rfl ?_
  refine h_push (p_21_5 _ _) ?_
  refine h_puti (p_21_6 _ _) isI_2_4 sh_11 (by decide) ?_
  refine h_aload (p_21_9 _ _) rfl ?_
  refine h_aload (p_21_10 _ _) rfl ?_
  refine h_putr (p_21_11 _ _) isI_2_0 sh_11 (by decide) ?_
  refine h_aload (p_21_14 _ _) rfl ?_
  refine h_aload (p_21_15 _ _) rfl ?_
  refine h_putr (p_21_16 _ _) isI_2_1 sh_11 (by decide) ?_
  exact h_ret0 (p_21_19 _ _) h
def sx_5 : sT := pR (sx_4) 0 0 (some 11)
def sx_6 : sT := pR (pR (pR (sx_5) 12 1 (some 13)) 12 2 (some 14)) 12 3 (some 15)
def sx_7 : sT := pR (sx_6) 16 0 (some 17)
theorem kc_4 {L : Nat} {xs : Nat → Int32} {d : Nat} {K : Option Int32 → Nat → Nat → sT → Prop} (h : K none 18 5365 sx_7) : tH L xs 17 5297 (d + 0) 70 0 [.ref 16, .int (68 : Int32)] [] sx_6 K := by
  refine h_aload (p_70_0 _ _) rfl ?_
  refine h_init (p_70_1 _ _) (Nat.le_of_ble_eq_true rfl) ?_
  refine h_aload (p_70_4 _ _) rfl ?_
  refine h_iload (p_70_5 _ _) rfl ?_
  refine h_push (p_70_6 _ _) ?_
  refine h_mm (w := (68 : Int32)) (p_70_7 _ _) (Nat.le_of_ble_eq_true rfl) (by decide) ?_
  refine h_newa (k := 68) (n1 := 18) (m1 := 5365) (p_70_10 _ _) sh_17 (by decide) (by decide) rfl rfl ?_
  refine h_putr (p_70_12 _ _) isI_7_0 sh_16 (by decide) ?_
  exact h_ret0 (p_70_15 _ _) h
def sx_8 : sT := pR (pR (sx_7) 12 4 (some 16)) 12 0 (some 1)
theorem kc_5 {L : Nat} {xs : Nat → Int32} {d : Nat} {K : Option Int32 → Nat → Nat → sT → Prop} (h : K none 18 5365 sx_8) : tH L xs 13 3088 (d + 1) 59 0 [.ref 12, .ref 1] [] sx_5 K := by
  refine h_aload (p_59_0 _ _) rfl ?_
  refine h_init (p_59_1 _ _) (Nat.le_of_ble_eq_true rfl) ?_
  refine h_aload (p_59_4 _ _) rfl ?_
  refine h_push (p_59_5 _ _) ?_
  refine h_newa (k := 1984) (n1 := 14) (m1 := 5072) (p_59_8 _ _) sh_13 (by decide) (by decide) rfl rfl ?_
  refine h_putr (p_59_10 _ _) isI_6_1 sh_12 (by decide) ?_
  refine h_aload (p_59_13 _ _) rfl ?_
  refine h_push (p_59_14 _ _) ?_
  refine h_newa (k := 31) (n1 := 15) (m1 := 5103) (p_59_16 _ _) sh_14 (by decide) (by decide) rfl rfl ?_
  refine h_putr (p_59_18 _ _) isI_6_2 sh_12 (by decide) ?_
  refine h_aload (p_59_21 _ _) rfl ?_
  refine h_push (p_59_22 _ _) ?_
  refine h_newa (k := 192) (n1 := 16) (m1 := 5295) (p_59_25 _ _) sh_15 (by decide) (by decide) rfl rfl ?_
  refine h_putr (p_59_27 _ _) isI_6_3 sh_12 (by decide) ?_
  refine h_aload (p_59_30 _ _) rfl ?_
  refine h_new (n1 := 17) (m1 := 5297) (p_59_31 _ _) sh_16 fl_7 rfl rfl ?_
  refine h_dup (p_59_34 _ _) ?_
  refine h_push (p_59_35 _ _) ?_
  refine h_call (z := 70) (i := 16) (as := [.int (68 : Int32)]) (rest := [.ref 16, .ref 12]) (p_59_37 _ _) mK_70 mL_70 rfl rfl (Nat.le_of_ble_eq_true rfl) rfl (Nat.le_of_ble_eq_true rfl) sh_16 (kc_4 (d := d + 0) ⟨rfl, ?_⟩)
  refine h_putr (p_59_40 _ _) isI_6_4 sh_12 (by decide) ?_
  refine h_aload (p_59_43 _ _) rfl ?_
  refine h_aload (p_59_44 _ _) rfl ?_
  refine h_putr (p_59_45 _ _) isI_6_0 sh_12 (by decide) ?_
  exact h_ret0 (p_59_48 _ _) h
def sx_9 : sT := pR (sx_8) 0 1 (some 12)
def sx_10 : sT := pR (sx_9) 20 0 (some 21)
theorem kc_6 {L : Nat} {xs : Nat → Int32} {d : Nat} {K : Option Int32 → Nat → Nat → sT → Prop} (h : K none 22 5410 sx_10) : tH L xs 21 5380 (d + 0) 70 0 [.ref 20, .int (30 : Int32)] [] sx_9 K := by
  refine h_aload (p_70_0 _ _) rfl ?_
  refine h_init (p_70_1 _ _) (Nat.le_of_ble_eq_true rfl) ?_
  refine h_aload (p_70_4 _ _) rfl ?_
  refine h_iload (p_70_5 _ _) rfl ?_
  refine h_push (p_70_6 _ _) ?_
  refine h_mm (w := (30 : Int32)) (p_70_7 _ _) (Nat.le_of_ble_eq_true rfl) (by decide) ?_
  refine h_newa (k := 30) (n1 := 22) (m1 := 5410) (p_70_10 _ _) sh_21 (by decide) (by decide) rfl rfl ?_
  refine h_putr (p_70_12 _ _) isI_7_0 sh_20 (by decide) ?_
  exact h_ret0 (p_70_15 _ _) h
def sx_11 : sT := pR (sx_10) 19 0 (some 20)
def sx_12 : sT := pR (sx_11) 22 0 (some 23)
theorem kc_7 {L : Nat} {xs : Nat → Int32} {d : Nat} {K : Option Int32 → Nat → Nat → sT → Prop} (h : K none 24 10372 sx_12) : tH L xs 23 5412 (d + 0) 70 0 [.ref 22, .int (4960 : Int32)] [] sx_11 K := by
  refine h_aload (p_70_0 _ _) rfl ?_
  refine h_init (p_70_1 _ _) (Nat.le_of_ble_eq_true rfl) ?_
  refine h_aload (p_70_4 _ _) rfl ?_
  refine h_iload (p_70_5 _ _) rfl ?_
  refine h_push (p_70_6 _ _) ?_
  refine h_mm (w := (4960 : Int32)) (p_70_7 _ _) (Nat.le_of_ble_eq_true rfl) (by decide) ?_
  refine h_newa (k := 4960) (n1 := 24) (m1 := 10372) (p_70_10 _ _) sh_23 (by decide) (by decide) rfl rfl ?_
  refine h_putr (p_70_12 _ _) isI_7_0 sh_22 (by decide) ?_
  exact h_ret0 (p_70_15 _ _) h
def sx_13 : sT := pR (pR (pR (pR (pR (sx_12) 19 1 (some 22)) 19 2 (some 24)) 19 3 (some 25)) 19 4 (some 26)) 19 5 (some 27)
theorem kc_8 {L : Nat} {xs : Nat → Int32} {d : Nat} {K : Option Int32 → Nat → Nat → sT → Prop} (h : K none 28 11551 sx_13) : tH L xs 20 5378 (d + 1) 38 0 [.ref 19] [] sx_9 K := by
  refine h_aload (p_38_0 _ _) rfl ?_
  refine h_init (p_38_1 _ _) (Nat.le_of_ble_eq_true rfl) ?_
  refine h_aload (p_38_4 _ _) rfl ?_
  refine h_new (n1 := 21) (m1 := 5380) (p_38_5 _ _) sh_20 fl_7 rfl rfl ?_
  refine h_dup (p_38_8 _ _) ?_
  refine h_push (p_38_9 _ _) ?_
  refine h_call (z := 70) (i := 20) (as := [.int (30 : Int32)]) (rest := [.ref 20, .ref 19]) (p_38_11 _ _) mK_70 mL_70 rfl rfl (Nat.le_of_ble_eq_true rfl) rfl (Nat.le_of_ble_eq_true rfl) sh_20 (kc_6 (d := d + 0) ⟨rfl, ?_⟩)
  refine h_putr (p_38_14 _ _) isI_5_0 sh_19 (by decide) ?_
  refine h_aload (p_38_17 _ _) rfl ?_
  refine h_new (n1 := 23) (m1 := 5412) (p_38_18 _ _) sh_22 fl_7 rfl rfl ?_
  refine h_dup (p_38_21 _ _) ?_
  refine h_push (p_38_22 _ _) ?_
  refine h_call (z := 70) (i := 22) (as := [.int (4960 : Int32)]) (rest := [.ref 22, .ref 19]) (p_38_25 _ _) mK_70 mL_70 rfl rfl (Nat.le_of_ble_eq_true rfl) rfl (Nat.le_of_ble_eq_true rfl) sh_22 (kc_7 (d := d + 0) ⟨rfl, ?_⟩)
  refine h_putr (p_38_28 _ _) isI_5_1 sh_19 (by decide) ?_
  refine h_aload (p_38_31 _ _) rfl ?_
  refine h_push (p_38_32 _ _) ?_
  refine h_newa (k := 31) (n1 := 25) (m1 := 10403) (p_38_34 _ _) sh_24 (by decide) (by decide) rfl rfl ?_
  refine h_putr (p_38_36 _ _) isI_5_2 sh_19 (by decide) ?_
  refine h_aload (p_38_39 _ _) rfl ?_
  refine h_push (p_38_40 _ _) ?_
  refine h_newa (k := 93) (n1 := 26) (m1 := 10496) (p_38_42 _ _) sh_25 (by decide) (by decide) rfl rfl ?_
  refine h_putr (p_38_44 _ _) isI_5_3 sh_19 (by decide) ?_
  refine h_aload (p_38_47 _ _) rfl ?_
  refine h_push (p_38_48 _ _) ?_
  refine h_newa (k := 94) (n1 := 27) (m1 := 10590) (p_38_50 _ _) sh_26 (by decide) (by decide) rfl rfl ?_
  refine h_putr (p_38_52 _ _) isI_5_4 sh_19 (by decide) ?_
  refine h_aload (p_38_55 _ _) rfl ?_
  refine h_push (p_38_56 _ _) ?_
  refine h_newa (k := 961) (n1 := 28) (m1 := 11551) (p_38_59 _ _) sh_27 (by decide) (by decide) rfl rfl ?_
  refine h_putr (p_38_61 _ _) isI_5_5 sh_19 (by decide) ?_
  exact h_ret0 (p_38_64 _ _) h
def sx_14 : sT := pR (sx_13) 18 0 (some 19)
def sx_15 : sT := pR (sx_14) 29 0 (some 30)
theorem kc_9 {L : Nat} {xs : Nat → Int32} {d : Nat} {K : Option Int32 → Nat → Nat → sT → Prop} (h : K none 31 11594 sx_15) : tH L xs 30 11564 (d + 0) 70 0 [.ref 29, .int (30 : Int32)] [] sx_14 K := by
  refine h_aload (p_70_0 _ _) rfl ?_
  refine h_init (p_70_1 _ _) (Nat.le_of_ble_eq_true rfl) ?_
  refine h_aload (p_70_4 _ _) rfl ?_
  refine h_iload (p_70_5 _ _) rfl ?_
  refine h_push (p_70_6 _ _) ?_
  refine h_mm (w := (30 : Int32)) (p_70_7 _ _) (Nat.le_of_ble_eq_true rfl) (by decide) ?_
  refine h_newa (k := 30) (n1 := 31) (m1 := 11594) (p_70_10 _ _) sh_30 (by decide) (by decide) rfl rfl ?_
  refine h_putr (p_70_12 _ _) isI_7_0 sh_29 (by decide) ?_
  exact h_ret0 (p_70_15 _ _) h
def sx_16 : sT := pR (sx_15) 28 0 (some 29)
def sx_17 : sT := pR (sx_16) 31 0 (some 32)
theorem kc_10 {L : Nat} {xs : Nat → Int32} {d : Nat} {K : Option Int32 → Nat → Nat → sT → Prop} (h : K none 33 16556 sx_17) : tH L xs 32 11596 (d + 0) 70 0 [.ref 31, .int (4960 : Int32)] [] sx_16 K := by
  refine h_aload (p_70_0 _ _) rfl ?_
  refine h_init (p_70_1 _ _) (Nat.le_of_ble_eq_true rfl) ?_
  refine h_aload (p_70_4 _ _) rfl ?_
  refine h_iload (p_70_5 _ _) rfl ?_
  refine h_push (p_70_6 _ _) ?_
  refine h_mm (w := (4960 : Int32)) (p_70_7 _ _) (Nat.le_of_ble_eq_true rfl) (by decide) ?_
  refine h_newa (k := 4960) (n1 := 33) (m1 := 16556) (p_70_10 _ _) sh_32 (by decide) (by decide) rfl rfl ?_
  refine h_putr (p_70_12 _ _) isI_7_0 sh_31 (by decide) ?_
  exact h_ret0 (p_70_15 _ _) h
def sx_18 : sT := pR (pR (pR (pR (pR (sx_17) 28 1 (some 31)) 28 2 (some 33)) 28 3 (some 34)) 28 4 (some 35)) 28 5 (some 36)
theorem kc_11 {L : Nat} {xs : Nat → Int32} {d : Nat} {K : Option Int32 → Nat → Nat → sT → Prop} (h : K none 37 17735 sx_18) : tH L xs 29 11562 (d + 1) 38 0 [.ref 28] [] sx_14 K := by
  refine h_aload (p_38_0 _ _) rfl ?_
  refine h_init (p_38_1 _ _) (Nat.le_of_ble_eq_true rfl) ?_
  refine h_aload (p_38_4 _ _) rfl ?_
  refine h_new (n1 := 30) (m1 := 11564) (p_38_5 _ _) sh_29 fl_7 rfl rfl ?_
  refine h_dup (p_38_8 _ _) ?_
  refine h_push (p_38_9 _ _) ?_
  refine h_call (z := 70) (i := 29) (as := [.int (30 : Int32)]) (rest := [.ref 29, .ref 28]) (p_38_11 _ _) mK_70 mL_70 rfl rfl (Nat.le_of_ble_eq_true rfl) rfl (Nat.le_of_ble_eq_true rfl) sh_29 (kc_9 (d := d + 0) ⟨rfl, ?_⟩)
  refine h_putr (p_38_14 _ _) isI_5_0 sh_28 (by decide) ?_
  refine h_aload (p_38_17 _ _) rfl ?_
  refine h_new (n1 := 32) (m1 := 11596) (p_38_18 _ _) sh_31 fl_7 rfl rfl ?_
  refine h_dup (p_38_21 _ _) ?_
  refine h_push (p_38_22 _ _) ?_
  refine h_call (z := 70) (i := 31) (as := [.int (4960 : Int32)]) (rest := [.ref 31, .ref 28]) (p_38_25 _ _) mK_70 mL_70 rfl rfl (Nat.le_of_ble_eq_true rfl) rfl (Nat.le_of_ble_eq_true rfl) sh_31 (kc_10 (d := d + 0) ⟨rfl, ?_⟩)
  refine h_putr (p_38_28 _ _) isI_5_1 sh_28 (by decide) ?_
  refine h_aload (p_38_31 _ _) rfl ?_
  refine h_push (p_38_32 _ _) ?_
  refine h_newa (k := 31) (n1 := 34) (m1 := 16587) (p_38_34 _ _) sh_33 (by decide) (by decide) rfl rfl ?_
  refine h_putr (p_38_36 _ _) isI_5_2 sh_28 (by decide) ?_
  refine h_aload (p_38_39 _ _) rfl ?_
  refine h_push (p_38_40 _ _) ?_
  refine h_newa (k := 93) (n1 := 35) (m1 := 16680) (p_38_42 _ _) sh_34 (by decide) (by decide) rfl rfl ?_
  refine h_putr (p_38_44 _ _) isI_5_3 sh_28 (by decide) ?_
  refine h_aload (p_38_47 _ _) rfl ?_
  refine h_push (p_38_48 _ _) ?_
  refine h_newa (k := 94) (n1 := 36) (m1 := 16774) (p_38_50 _ _) sh_35 (by decide) (by decide) rfl rfl ?_
  refine h_putr (p_38_52 _ _) isI_5_4 sh_28 (by decide) ?_
  refine h_aload (p_38_55 _ _) rfl ?_
  refine h_push (p_38_56 _ _) ?_
  refine h_newa (k := 961) (n1 := 37) (m1 := 17735) (p_38_59 _ _) sh_36 (by decide) (by decide) rfl rfl ?_
  refine h_putr (p_38_61 _ _) isI_5_5 sh_28 (by decide) ?_
  exact h_ret0 (p_38_64 _ _) h
def sx_19 : sT := pR (pR (sx_18) 18 1 (some 28)) 0 6 (some 18)
def sx_20 : sT := pR (pR (pR (pR (pR (pR (sx_19) 37 0 (some 38)) 37 1 (some 39)) 37 2 (some 40)) 37 3 (some 41)) 37 4 (some 42)) 37 5 (some 43)
def sx_21 : sT := pR (sx_20) 44 0 (some 45)
theorem kc_12 {L : Nat} {xs : Nat → Int32} {d : Nat} {K : Option Int32 → Nat → Nat → sT → Prop} (h : K none 46 28849 sx_21) : tH L xs 45 28549 (d + 0) 70 0 [.ref 44, .int (300 : Int32)] [] sx_20 K := by
  refine h_aload (p_70_0 _ _) rfl ?_
  refine h_init (p_70_1 _ _) (Nat.le_of_ble_eq_true rfl) ?_
  refine h_aload (p_70_4 _ _) rfl ?_
  refine h_iload (p_70_5 _ _) rfl ?_
  refine h_push (p_70_6 _ _) ?_
  refine h_mm (w := (300 : Int32)) (p_70_7 _ _) (Nat.le_of_ble_eq_true rfl) (by decide) ?_
  refine h_newa (k := 300) (n1 := 46) (m1 := 28849) (p_70_10 _ _) sh_45 (by decide) (by decide) rfl rfl ?_
  refine h_putr (p_70_12 _ _) isI_7_0 sh_44 (by decide) ?_
  exact h_ret0 (p_70_15 _ _) h
def sx_22 : sT := pR (pR (sx_21) 37 6 (some 44)) 37 7 (some 46)
theorem kc_13 {L : Nat} {xs : Nat → Int32} {d : Nat} {K : Option Int32 → Nat → Nat → sT → Prop} (h : K none 47 29149 sx_22) : tH L xs 38 17747 (d + 1) 8 0 [.ref 37] [] sx_19 K := by
  refine h_aload (p_8_0 _ _) rfl ?_
  refine h_init (p_8_1 _ _) (Nat.le_of_ble_eq_true rfl) ?_
  refine h_aload (p_8_4 _ _) rfl ?_
  refine h_push (p_8_5 _ _) ?_
  refine h_newa (k := 300) (n1 := 39) (m1 := 18047) (p_8_8 _ _) sh_38 (by decide) (by decide) rfl rfl ?_
  refine h_putr (p_8_10 _ _) isI_1_0 sh_37 (by decide) ?_
  refine h_aload (p_8_13 _ _) rfl ?_
  refine h_push (p_8_14 _ _) ?_
  refine h_newa (k := 300) (n1 := 40) (m1 := 18347) (p_8_17 _ _) sh_39 (by decide) (by decide) rfl rfl ?_
  refine h_putr (p_8_19 _ _) isI_1_1 sh_37 (by decide) ?_
  refine h_aload (p_8_22 _ _) rfl ?_
  refine h_push (p_8_23 _ _) ?_
  refine h_newa (k := 300) (n1 := 41) (m1 := 18647) (p_8_26 _ _) sh_40 (by decide) (by decide) rfl rfl ?_
  refine h_putr (p_8_28 _ _) isI_1_2 sh_37 (by decide) ?_
  refine h_aload (p_8_31 _ _) rfl ?_
  refine h_push (p_8_32 _ _) ?_
  refine h_newa (k := 300) (n1 := 42) (m1 := 18947) (p_8_35 _ _) sh_41 (by decide) (by decide) rfl rfl ?_
  refine h_putr (p_8_37 _ _) isI_1_3 sh_37 (by decide) ?_
  refine h_aload (p_8_40 _ _) rfl ?_
  refine h_push (p_8_41 _ _) ?_
  refine h_newa (k := 300) (n1 := 43) (m1 := 19247) (p_8_44 _ _) sh_42 (by decide) (by decide) rfl rfl ?_
  refine h_putr (p_8_46 _ _) isI_1_4 sh_37 (by decide) ?_
  refine h_aload (p_8_49 _ _) rfl ?_
  refine h_push (p_8_50 _ _) ?_
  refine h_newa (k := 9300) (n1 := 44) (m1 := 28547) (p_8_53 _ _) sh_43 (by decide) (by decide) rfl rfl ?_
  refine h_putr (p_8_55 _ _) isI_1_5 sh_37 (by decide) ?_
  refine h_aload (p_8_58 _ _) rfl ?_
  refine h_new (n1 := 45) (m1 := 28549) (p_8_59 _ _) sh_44 fl_7 rfl rfl ?_
  refine h_dup (p_8_62 _ _) ?_
  refine h_push (p_8_63 _ _) ?_
  refine h_call (z := 70) (i := 44) (as := [.int (300 : Int32)]) (rest := [.ref 44, .ref 37]) (p_8_66 _ _) mK_70 mL_70 rfl rfl (Nat.le_of_ble_eq_true rfl) rfl (Nat.le_of_ble_eq_true rfl) sh_44 (kc_12 (d := d + 0) ⟨rfl, ?_⟩)
  refine h_putr (p_8_69 _ _) isI_1_6 sh_37 (by decide) ?_
  refine h_aload (p_8_72 _ _) rfl ?_
  refine h_push (p_8_73 _ _) ?_
  refine h_newa (k := 300) (n1 := 47) (m1 := 29149) (p_8_76 _ _) sh_46 (by decide) (by decide) rfl rfl ?_
  refine h_putr (p_8_78 _ _) isI_1_7 sh_37 (by decide) ?_
  exact h_ret0 (p_8_81 _ _) h
def sx_23 : sT := pR (sx_22) 0 7 (some 37)
def sx_24 : sT := pR (pR (pR (pR (pR (pR (pR (pR (pR (pR (sx_23) 47 0 (some 48)) 47 1 (some 49)) 47 2 (some 50)) 47 3 (some 51)) 47 4 (some 52)) 47 5 (some 53)) 47 6 (some 54)) 47 7 (some 19)) 47 8 (some 28)) 47 9 (some 37)
theorem kc_14 {L : Nat} {xs : Nat → Int32} {d : Nat} {K : Option Int32 → Nat → Nat → sT → Prop} (h : K none 55 30452 sx_24) : tH L xs 48 29159 (d + 0) 31 0 [.ref 47, .ref 19, .ref 28, .ref 37] [] sx_23 K := by
  refine h_aload (p_31_0 _ _) rfl ?_
  refine h_init (p_31_1 _ _) (Nat.le_of_ble_eq_true rfl) ?_
  refine h_aload (p_31_4 _ _) rfl ?_
  refine h_push (p_31_5 _ _) ?_
  refine h_newa (k := 300) (n1 := 49) (m1 := 29459) (p_31_8 _ _) sh_48 (by decide) (by decide) rfl rfl ?_
  refine h_putr (p_31_10 _ _) isI_4_0 sh_47 (by decide) ?_
  refine h_aload (p_31_13 _ _) rfl ?_
  refine h_push (p_31_14 _ _) ?_
  refine h_newa (k := 300) (n1 := 50) (m1 := 29759) (p_31_17 _ _) sh_49 (by decide) (by decide) rfl rfl ?_
  refine h_putr (p_31_19 _ _) isI_4_1 sh_47 (by decide) ?_
  refine h_aload (p_31_22 _ _) rfl ?_
  refine h_push (p_31_23 _ _) ?_
  refine h_newa (k := 300) (n1 := 51) (m1 := 30059) (p_31_26 _ _) sh_50 (by decide) (by decide) rfl rfl ?_
  refine h_putr (p_31_28 _ _) isI_4_2 sh_47 (by decide) ?_
  refine h_aload (p_31_31 _ _) rfl ?_
  refine h_push (p_31_32 _ _) ?_
  refine h_newa (k := 31) (n1 := 52) (m1 := 30090) (p_31_34 _ _) sh_51 (by decide) (by decide) rfl rfl ?_
  refine h_putr (p_31_36 _ _) isI_4_3 sh_47 (by decide) ?_
  refine h_aload (p_31_39 _ _) rfl ?_
  refine h_push (p_31_40 _ _) ?_
  refine h_newa (k := 31) (n1 := 53) (m1 := 30121) (p_31_42 _ _) sh_52 (by decide) (by decide) rfl rfl ?_
  refine h_putr (p_31_44 _ _) isI_4_4 sh_47 (by decide) ?_
  refine h_aload (p_31_47 _ _) rfl ?_
  refine h_push (p_31_48 _ _) ?_
  refine h_newa (k := 300) (n1 := 54) (m1 := 30421) (p_31_51 _ _) sh_53 (by decide) (by decide) rfl rfl ?_
  refine h_putr (p_31_53 _ _) isI_4_5 sh_47 (by decide) ?_
  refine h_aload (p_31_56 _ _) rfl ?_
  refine h_push (p_31_57 _ _) ?_
  refine h_newa (k := 31) (n1 := 55) (m1 := 30452) (p_31_59 _ _) sh_54 (by decide) (by decide) rfl rfl ?_
  refine h_putr (p_31_61 _ _) isI_4_6 sh_47 (by decide) ?_
  refine h_aload (p_31_64 _ _) rfl ?_
  refine h_aload (p_31_65 _ _) rfl ?_
  refine h_putr (p_31_66 _ _) isI_4_7 sh_47 (by decide) ?_
  refine h_aload (p_31_69 _ _) rfl ?_
  refine h_aload (p_31_70 _ _) rfl ?_
  refine h_putr (p_31_71 _ _) isI_4_8 sh_47 (by decide) ?_
  refine h_aload (p_31_74 _ _) rfl ?_
  refine h_aload (p_31_75 _ _) rfl ?_
  refine h_putr (p_31_76 _ _) isI_4_9 sh_47 (by decide) ?_
  exact h_ret0 (p_31_79 _ _) h
def sx_25 : sT := pR (sx_24) 0 2 (some 47)
def sx_26 : sT := pR (pR (pR (pV (pV (pV (sx_25) 55 3 (-2 : Int32)) 55 5 (-1 : Int32)) 55 6 (-1 : Int32)) 55 0 (some 19)) 55 1 (some 28)) 55 2 (some 37)
theorem kc_15 {L : Nat} {xs : Nat → Int32} {d : Nat} {K : Option Int32 → Nat → Nat → sT → Prop} (h : K none 56 30459 sx_26) : tH L xs 56 30459 (d + 0) 0 0 [.ref 55, .ref 19, .ref 28, .ref 37] [] sx_25 K := by
  refine h_aload (p_0_0 _ _) rfl ?_
  refine h_init (p_0_1 _ _) (Nat.le_of_ble_eq_true rfl) ?_
  refine h_aload (p_0_4 _ _) rfl ?_
  refine h_push (p_0_5 _ _) ?_
  refine h_puti (p_0_7 _ _) isI_0_3 sh_55 (by decide) ?_
  refine h_aload (p_0_10 _ _) rfl ?_
  refine h_push (p_0_11 _ _) ?_
  refine h_puti (p_0_12 _ _) isI_0_5 sh_55 (by decide) ?_
  refine h_aload (p_0_15 _ _) rfl ?_
  refine h_push (p_0_16 _ _) ?_
  refine h_puti (p_0_17 _ _) isI_0_6 sh_55 (by decide) ?_
  refine h_aload (p_0_20 _ _) rfl ?_
  refine h_aload (p_0_21 _ _) rfl ?_
  refine h_putr (p_0_22 _ _) isI_0_0 sh_55 (by decide) ?_
  refine h_aload (p_0_25 _ _) rfl ?_
  refine h_aload (p_0_26 _ _) rfl ?_
  refine h_putr (p_0_27 _ _) isI_0_1 sh_55 (by decide) ?_
  refine h_aload (p_0_30 _ _) rfl ?_
  refine h_aload (p_0_31 _ _) rfl ?_
  refine h_putr (p_0_32 _ _) isI_0_2 sh_55 (by decide) ?_
  exact h_ret0 (p_0_35 _ _) h
def sx_27 : sT := pR (sx_26) 0 3 (some 55)
def sx_28 : sT := pR (pR (pR (pR (pR (pR (sx_27) 56 0 (some 57)) 56 1 (some 58)) 56 2 (some 59)) 56 3 (some 60)) 56 4 (some 19)) 56 5 (some 28)
theorem kc_16 {L : Nat} {xs : Nat → Int32} {d : Nat} {K : Option Int32 → Nat → Nat → sT → Prop} (h : K none 61 32514 sx_28) : tH L xs 57 30466 (d + 0) 102 0 [.ref 56, .ref 19, .ref 28] [] sx_27 K := by
  refine h_aload (p_102_0 _ _) rfl ?_
  refine h_init (p_102_1 _ _) (Nat.le_of_ble_eq_true rfl) ?_
  refine h_aload (p_102_4 _ _) rfl ?_
  refine h_push (p_102_5 _ _) ?_
  refine h_newa (k := 512) (n1 := 58) (m1 := 30978) (p_102_8 _ _) sh_57 (by decide) (by decide) rfl rfl ?_
  refine h_putr (p_102_10 _ _) isI_9_0 sh_56 (by decide) ?_
  refine h_aload (p_102_13 _ _) rfl ?_
  refine h_push (p_102_14 _ _) ?_
  refine h_newa (k := 512) (n1 := 59) (m1 := 31490) (p_102_17 _ _) sh_58 (by decide) (by decide) rfl rfl ?_
  refine h_putr (p_102_19 _ _) isI_9_1 sh_56 (by decide) ?_
  refine h_aload (p_102_22 _ _) rfl ?_
  refine h_push (p_102_23 _ _) ?_
  refine h_newa (k := 512) (n1 := 60) (m1 := 32002) (p_102_26 _ _) sh_59 (by decide) (by decide) rfl rfl ?_
  refine h_putr (p_102_28 _ _) isI_9_2 sh_56 (by decide) ?_
  refine h_aload (p_102_31 _ _) rfl ?_
  refine h_push (p_102_32 _ _) ?_
  refine h_newa (k := 512) (n1 := 61) (m1 := 32514) (p_102_35 _ _) sh_60 (by decide) (by decide) rfl rfl ?_
  refine h_putr (p_102_37 _ _) isI_9_3 sh_56 (by decide) ?_
  refine h_aload (p_102_40 _ _) rfl ?_
  refine h_aload (p_102_41 _ _) rfl ?_
  refine h_putr (p_102_42 _ _) isI_9_4 sh_56 (by decide) ?_
  refine h_aload (p_102_45 _ _) rfl ?_
  refine h_aload (p_102_46 _ _) rfl ?_
  refine h_putr (p_102_47 _ _) isI_9_5 sh_56 (by decide) ?_
  exact h_ret0 (p_102_50 _ _) h
def sx_29 : sT := pR (sx_28) 0 4 (some 56)
def sx_30 : sT := pR (sx_29) 62 0 (some 63)
theorem kc_17 {L : Nat} {xs : Nat → Int32} {d : Nat} {K : Option Int32 → Nat → Nat → sT → Prop} (h : K none 64 32581 sx_30) : tH L xs 63 32521 (d + 0) 70 0 [.ref 62, .int (60 : Int32)] [] sx_29 K := by
  refine h_aload (p_70_0 _ _) rfl ?_
  refine h_init (p_70_1 _ _) (Nat.le_of_ble_eq_true rfl) ?_
  refine h_aload (p_70_4 _ _) rfl ?_
  refine h_iload (p_70_5 _ _) rfl ?_
  refine h_push (p_70_6 _ _) ?_
  refine h_mm (w := (60 : Int32)) (p_70_7 _ _) (Nat.le_of_ble_eq_true rfl) (by decide) ?_
  refine h_newa (k := 60) (n1 := 64) (m1 := 32581) (p_70_10 _ _) sh_63 (by decide) (by decide) rfl rfl ?_
  refine h_putr (p_70_12 _ _) isI_7_0 sh_62 (by decide) ?_
  exact h_ret0 (p_70_15 _ _) h
def sx_31 : sT := pR (sx_30) 61 0 (some 62)
def sx_32 : sT := pR (sx_31) 66 0 (some 67)
theorem kc_18 {L : Nat} {xs : Nat → Int32} {d : Nat} {K : Option Int32 → Nat → Nat → sT → Prop} (h : K none 68 32626 sx_32) : tH L xs 67 32596 (d + 0) 70 0 [.ref 66, .int (30 : Int32)] [] sx_31 K := by
  refine h_aload (p_70_0 _ _) rfl ?_
  refine h_init (p_70_1 _ _) (Nat.le_of_ble_eq_true rfl) ?_
  refine h_aload (p_70_4 _ _) rfl ?_
  refine h_iload (p_70_5 _ _) rfl ?_
  refine h_push (p_70_6 _ _) ?_
  refine h_mm (w := (30 : Int32)) (p_70_7 _ _) (Nat.le_of_ble_eq_true rfl) (by decide) ?_
  refine h_newa (k := 30) (n1 := 68) (m1 := 32626) (p_70_10 _ _) sh_67 (by decide) (by decide) rfl rfl ?_
  refine h_putr (p_70_12 _ _) isI_7_0 sh_66 (by decide) ?_
  exact h_ret0 (p_70_15 _ _) h
def sx_33 : sT := pR (sx_32) 65 0 (some 66)
def sx_34 : sT := pR (sx_33) 68 0 (some 69)
theorem kc_19 {L : Nat} {xs : Nat → Int32} {d : Nat} {K : Option Int32 → Nat → Nat → sT → Prop} (h : K none 70 37588 sx_34) : tH L xs 69 32628 (d + 0) 70 0 [.ref 68, .int (4960 : Int32)] [] sx_33 K := by
  refine h_aload (p_70_0 _ _) rfl ?_
  refine h_init (p_70_1 _ _) (Nat.le_of_ble_eq_true rfl) ?_
  refine h_aload (p_70_4 _ _) rfl ?_
  refine h_iload (p_70_5 _ _) rfl ?_
  refine h_push (p_70_6 _ _) ?_
  refine h_mm (w := (4960 : Int32)) (p_70_7 _ _) (Nat.le_of_ble_eq_true rfl) (by decide) ?_
  refine h_newa (k := 4960) (n1 := 70) (m1 := 37588) (p_70_10 _ _) sh_69 (by decide) (by decide) rfl rfl ?_
  refine h_putr (p_70_12 _ _) isI_7_0 sh_68 (by decide) ?_
  exact h_ret0 (p_70_15 _ _) h
def sx_35 : sT := pR (pR (pR (pR (pR (sx_34) 65 1 (some 68)) 65 2 (some 70)) 65 3 (some 71)) 65 4 (some 72)) 65 5 (some 73)
theorem kc_20 {L : Nat} {xs : Nat → Int32} {d : Nat} {K : Option Int32 → Nat → Nat → sT → Prop} (h : K none 74 38767 sx_35) : tH L xs 66 32594 (d + 1) 38 0 [.ref 65] [] sx_31 K := by
  refine h_aload (p_38_0 _ _) rfl ?_
  refine h_init (p_38_1 _ _) (Nat.le_of_ble_eq_true rfl) ?_
  refine h_aload (p_38_4 _ _) rfl ?_
  refine h_new (n1 := 67) (m1 := 32596) (p_38_5 _ _) sh_66 fl_7 rfl rfl ?_
  refine h_dup (p_38_8 _ _) ?_
  refine h_push (p_38_9 _ _) ?_
  refine h_call (z := 70) (i := 66) (as := [.int (30 : Int32)]) (rest := [.ref 66, .ref 65]) (p_38_11 _ _) mK_70 mL_70 rfl rfl (Nat.le_of_ble_eq_true rfl) rfl (Nat.le_of_ble_eq_true rfl) sh_66 (kc_18 (d := d + 0) ⟨rfl, ?_⟩)
  refine h_putr (p_38_14 _ _) isI_5_0 sh_65 (by decide) ?_
  refine h_aload (p_38_17 _ _) rfl ?_
  refine h_new (n1 := 69) (m1 := 32628) (p_38_18 _ _) sh_68 fl_7 rfl rfl ?_
  refine h_dup (p_38_21 _ _) ?_
  refine h_push (p_38_22 _ _) ?_
  refine h_call (z := 70) (i := 68) (as := [.int (4960 : Int32)]) (rest := [.ref 68, .ref 65]) (p_38_25 _ _) mK_70 mL_70 rfl rfl (Nat.le_of_ble_eq_true rfl) rfl (Nat.le_of_ble_eq_true rfl) sh_68 (kc_19 (d := d + 0) ⟨rfl, ?_⟩)
  refine h_putr (p_38_28 _ _) isI_5_1 sh_65 (by decide) ?_
  refine h_aload (p_38_31 _ _) rfl ?_
  refine h_push (p_38_32 _ _) ?_
  refine h_newa (k := 31) (n1 := 71) (m1 := 37619) (p_38_34 _ _) sh_70 (by decide) (by decide) rfl rfl ?_
  refine h_putr (p_38_36 _ _) isI_5_2 sh_65 (by decide) ?_
  refine h_aload (p_38_39 _ _) rfl ?_
  refine h_push (p_38_40 _ _) ?_
  refine h_newa (k := 93) (n1 := 72) (m1 := 37712) (p_38_42 _ _) sh_71 (by decide) (by decide) rfl rfl ?_
  refine h_putr (p_38_44 _ _) isI_5_3 sh_65 (by decide) ?_
  refine h_aload (p_38_47 _ _) rfl ?_
  refine h_push (p_38_48 _ _) ?_
  refine h_newa (k := 94) (n1 := 73) (m1 := 37806) (p_38_50 _ _) sh_72 (by decide) (by decide) rfl rfl ?_
  refine h_putr (p_38_52 _ _) isI_5_4 sh_65 (by decide) ?_
  refine h_aload (p_38_55 _ _) rfl ?_
  refine h_push (p_38_56 _ _) ?_
  refine h_newa (k := 961) (n1 := 74) (m1 := 38767) (p_38_59 _ _) sh_73 (by decide) (by decide) rfl rfl ?_
  refine h_putr (p_38_61 _ _) isI_5_5 sh_65 (by decide) ?_
  exact h_ret0 (p_38_64 _ _) h
def sx_36 : sT := pR (sx_35) 64 0 (some 65)
def sx_37 : sT := pR (sx_36) 75 0 (some 76)
theorem kc_21 {L : Nat} {xs : Nat → Int32} {d : Nat} {K : Option Int32 → Nat → Nat → sT → Prop} (h : K none 77 38810 sx_37) : tH L xs 76 38780 (d + 0) 70 0 [.ref 75, .int (30 : Int32)] [] sx_36 K := by
  refine h_aload (p_70_0 _ _) rfl ?_
  refine h_init (p_70_1 _ _) (Nat.le_of_ble_eq_true rfl) ?_
  refine h_aload (p_70_4 _ _) rfl ?_
  refine h_iload (p_70_5 _ _) rfl ?_
  refine h_push (p_70_6 _ _) ?_
  refine h_mm (w := (30 : Int32)) (p_70_7 _ _) (Nat.le_of_ble_eq_true rfl) (by decide) ?_
  refine h_newa (k := 30) (n1 := 77) (m1 := 38810) (p_70_10 _ _) sh_76 (by decide) (by decide) rfl rfl ?_
  refine h_putr (p_70_12 _ _) isI_7_0 sh_75 (by decide) ?_
  exact h_ret0 (p_70_15 _ _) h
def sx_38 : sT := pR (sx_37) 74 0 (some 75)
def sx_39 : sT := pR (sx_38) 77 0 (some 78)
theorem kc_22 {L : Nat} {xs : Nat → Int32} {d : Nat} {K : Option Int32 → Nat → Nat → sT → Prop} (h : K none 79 43772 sx_39) : tH L xs 78 38812 (d + 0) 70 0 [.ref 77, .int (4960 : Int32)] [] sx_38 K := by
  refine h_aload (p_70_0 _ _) rfl ?_
  refine h_init (p_70_1 _ _) (Nat.le_of_ble_eq_true rfl) ?_
  refine h_aload (p_70_4 _ _) rfl ?_
  refine h_iload (p_70_5 _ _) rfl ?_
  refine h_push (p_70_6 _ _) ?_
  refine h_mm (w := (4960 : Int32)) (p_70_7 _ _) (Nat.le_of_ble_eq_true rfl) (by decide) ?_
  refine h_newa (k := 4960) (n1 := 79) (m1 := 43772) (p_70_10 _ _) sh_78 (by decide) (by decide) rfl rfl ?_
  refine h_putr (p_70_12 _ _) isI_7_0 sh_77 (by decide) ?_
  exact h_ret0 (p_70_15 _ _) h
def sx_40 : sT := pR (pR (pR (pR (pR (sx_39) 74 1 (some 77)) 74 2 (some 79)) 74 3 (some 80)) 74 4 (some 81)) 74 5 (some 82)
theorem kc_23 {L : Nat} {xs : Nat → Int32} {d : Nat} {K : Option Int32 → Nat → Nat → sT → Prop} (h : K none 83 44951 sx_40) : tH L xs 75 38778 (d + 1) 38 0 [.ref 74] [] sx_36 K := by
  refine h_aload (p_38_0 _ _) rfl ?_
  refine h_init (p_38_1 _ _) (Nat.le_of_ble_eq_true rfl) ?_
  refine h_aload (p_38_4 _ _) rfl ?_
  refine h_new (n1 := 76) (m1 := 38780) (p_38_5 _ _) sh_75 fl_7 rfl rfl ?_
  refine h_dup (p_38_8 _ _) ?_
  refine h_push (p_38_9 _ _) ?_
  refine h_call (z := 70) (i := 75) (as := [.int (30 : Int32)]) (rest := [.ref 75, .ref 74]) (p_38_11 _ _) mK_70 mL_70 rfl rfl (Nat.le_of_ble_eq_true rfl) rfl (Nat.le_of_ble_eq_true rfl) sh_75 (kc_21 (d := d + 0) ⟨rfl, ?_⟩)
  refine h_putr (p_38_14 _ _) isI_5_0 sh_74 (by decide) ?_
  refine h_aload (p_38_17 _ _) rfl ?_
  refine h_new (n1 := 78) (m1 := 38812) (p_38_18 _ _) sh_77 fl_7 rfl rfl ?_
  refine h_dup (p_38_21 _ _) ?_
  refine h_push (p_38_22 _ _) ?_
  refine h_call (z := 70) (i := 77) (as := [.int (4960 : Int32)]) (rest := [.ref 77, .ref 74]) (p_38_25 _ _) mK_70 mL_70 rfl rfl (Nat.le_of_ble_eq_true rfl) rfl (Nat.le_of_ble_eq_true rfl) sh_77 (kc_22 (d := d + 0) ⟨rfl, ?_⟩)
  refine h_putr (p_38_28 _ _) isI_5_1 sh_74 (by decide) ?_
  refine h_aload (p_38_31 _ _) rfl ?_
  refine h_push (p_38_32 _ _) ?_
  refine h_newa (k := 31) (n1 := 80) (m1 := 43803) (p_38_34 _ _) sh_79 (by decide) (by decide) rfl rfl ?_
  refine h_putr (p_38_36 _ _) isI_5_2 sh_74 (by decide) ?_
  refine h_aload (p_38_39 _ _) rfl ?_
  refine h_push (p_38_40 _ _) ?_
  refine h_newa (k := 93) (n1 := 81) (m1 := 43896) (p_38_42 _ _) sh_80 (by decide) (by decide) rfl rfl ?_
  refine h_putr (p_38_44 _ _) isI_5_3 sh_74 (by decide) ?_
  refine h_aload (p_38_47 _ _) rfl ?_
  refine h_push (p_38_48 _ _) ?_
  refine h_newa (k := 94) (n1 := 82) (m1 := 43990) (p_38_50 _ _) sh_81 (by decide) (by decide) rfl rfl ?_
  refine h_putr (p_38_52 _ _) isI_5_4 sh_74 (by decide) ?_
  refine h_aload (p_38_55 _ _) rfl ?_
  refine h_push (p_38_56 _ _) ?_
  refine h_newa (k := 961) (n1 := 83) (m1 := 44951) (p_38_59 _ _) sh_82 (by decide) (by decide) rfl rfl ?_
  refine h_putr (p_38_61 _ _) isI_5_5 sh_74 (by decide) ?_
  exact h_ret0 (p_38_64 _ _) h
def sx_41 : sT := pR (pR (pR (sx_40) 64 1 (some 74)) 61 1 (some 64)) 61 2 (some 83)
def sx_42 : sT := pR (pR (pR (pR (pR (pR (sx_41) 84 0 (some 85)) 84 1 (some 86)) 84 2 (some 87)) 84 3 (some 88)) 84 4 (some 89)) 84 5 (some 90)
def sx_43 : sT := pR (sx_42) 91 0 (some 92)
theorem kc_24 {L : Nat} {xs : Nat → Int32} {d : Nat} {K : Option Int32 → Nat → Nat → sT → Prop} (h : K none 93 56069 sx_43) : tH L xs 92 55769 (d + 0) 70 0 [.ref 91, .int (300 : Int32)] [] sx_42 K := by
  refine h_aload (p_70_0 _ _) rfl ?_
  refine h_init (p_70_1 _ _) (Nat.le_of_ble_eq_true rfl) ?_
  refine h_aload (p_70_4 _ _) rfl ?_
  refine h_iload (p_70_5 _ _) rfl ?_
  refine h_push (p_70_6 _ _) ?_
  refine h_mm (w := (300 : Int32)) (p_70_7 _ _) (Nat.le_of_ble_eq_true rfl) (by decide) ?_
  refine h_newa (k := 300) (n1 := 93) (m1 := 56069) (p_70_10 _ _) sh_92 (by decide) (by decide) rfl rfl ?_
  refine h_putr (p_70_12 _ _) isI_7_0 sh_91 (by decide) ?_
  exact h_ret0 (p_70_15 _ _) h
def sx_44 : sT := pR (pR (sx_43) 84 6 (some 91)) 84 7 (some 93)
theorem kc_25 {L : Nat} {xs : Nat → Int32} {d : Nat} {K : Option Int32 → Nat → Nat → sT → Prop} (h : K none 94 56369 sx_44) : tH L xs 85 44967 (d + 1) 8 0 [.ref 84] [] sx_41 K := by
  refine h_aload (p_8_0 _ _) rfl ?_
  refine h_init (p_8_1 _ _) (Nat.le_of_ble_eq_true rfl) ?_
  refine h_aload (p_8_4 _ _) rfl ?_
  refine h_push (p_8_5 _ _) ?_
  refine h_newa (k := 300) (n1 := 86) (m1 := 45267) (p_8_8 _ _) sh_85 (by decide) (by decide) rfl rfl ?_
  refine h_putr (p_8_10 _ _) isI_1_0 sh_84 (by decide) ?_
  refine h_aload (p_8_13 _ _) rfl ?_
  refine h_push (p_8_14 _ _) ?_
  refine h_newa (k := 300) (n1 := 87) (m1 := 45567) (p_8_17 _ _) sh_86 (by decide) (by decide) rfl rfl ?_
  refine h_putr (p_8_19 _ _) isI_1_1 sh_84 (by decide) ?_
  refine h_aload (p_8_22 _ _) rfl ?_
  refine h_push (p_8_23 _ _) ?_
  refine h_newa (k := 300) (n1 := 88) (m1 := 45867) (p_8_26 _ _) sh_87 (by decide) (by decide) rfl rfl ?_
  refine h_putr (p_8_28 _ _) isI_1_2 sh_84 (by decide) ?_
  refine h_aload (p_8_31 _ _) rfl ?_
  refine h_push (p_8_32 _ _) ?_
  refine h_newa (k := 300) (n1 := 89) (m1 := 46167) (p_8_35 _ _) sh_88 (by decide) (by decide) rfl rfl ?_
  refine h_putr (p_8_37 _ _) isI_1_3 sh_84 (by decide) ?_
  refine h_aload (p_8_40 _ _) rfl ?_
  refine h_push (p_8_41 _ _) ?_
  refine h_newa (k := 300) (n1 := 90) (m1 := 46467) (p_8_44 _ _) sh_89 (by decide) (by decide) rfl rfl ?_
  refine h_putr (p_8_46 _ _) isI_1_4 sh_84 (by decide) ?_
  refine h_aload (p_8_49 _ _) rfl ?_
  refine h_push (p_8_50 _ _) ?_
  refine h_newa (k := 9300) (n1 := 91) (m1 := 55767) (p_8_53 _ _) sh_90 (by decide) (by decide) rfl rfl ?_
  refine h_putr (p_8_55 _ _) isI_1_5 sh_84 (by decide) ?_
  refine h_aload (p_8_58 _ _) rfl ?_
  refine h_new (n1 := 92) (m1 := 55769) (p_8_59 _ _) sh_91 fl_7 rfl rfl ?_
  refine h_dup (p_8_62 _ _) ?_
  refine h_push (p_8_63 _ _) ?_
  refine h_call (z := 70) (i := 91) (as := [.int (300 : Int32)]) (rest := [.ref 91, .ref 84]) (p_8_66 _ _) mK_70 mL_70 rfl rfl (Nat.le_of_ble_eq_true rfl) rfl (Nat.le_of_ble_eq_true rfl) sh_91 (kc_24 (d := d + 0) ⟨rfl, ?_⟩)
  refine h_putr (p_8_69 _ _) isI_1_6 sh_84 (by decide) ?_
  refine h_aload (p_8_72 _ _) rfl ?_
  refine h_push (p_8_73 _ _) ?_
  refine h_newa (k := 300) (n1 := 94) (m1 := 56369) (p_8_76 _ _) sh_93 (by decide) (by decide) rfl rfl ?_
  refine h_putr (p_8_78 _ _) isI_1_7 sh_84 (by decide) ?_
  exact h_ret0 (p_8_81 _ _) h
def sx_45 : sT := pV (pR (sx_44) 61 3 (some 84)) 61 4 (-1 : Int32)
def sx_46 : sT := pR (sx_45) 94 0 (some 95)
theorem kc_26 {L : Nat} {xs : Nat → Int32} {d : Nat} {K : Option Int32 → Nat → Nat → sT → Prop} (h : K none 96 56401 sx_46) : tH L xs 95 56371 (d + 0) 70 0 [.ref 94, .int (30 : Int32)] [] sx_45 K := by
  refine h_aload (p_70_0 _ _) rfl ?_
  refine h_init (p_70_1 _ _) (Nat.le_of_ble_eq_true rfl) ?_
  refine h_aload (p_70_4 _ _) rfl ?_
  refine h_iload (p_70_5 _ _) rfl ?_
  refine h_push (p_70_6 _ _) ?_
  refine h_mm (w := (30 : Int32)) (p_70_7 _ _) (Nat.le_of_ble_eq_true rfl) (by decide) ?_
  refine h_newa (k := 30) (n1 := 96) (m1 := 56401) (p_70_10 _ _) sh_95 (by decide) (by decide) rfl rfl ?_
  refine h_putr (p_70_12 _ _) isI_7_0 sh_94 (by decide) ?_
  exact h_ret0 (p_70_15 _ _) h
def sx_47 : sT := pR (sx_46) 83 0 (some 94)
def sx_48 : sT := pR (sx_47) 96 0 (some 97)
theorem kc_27 {L : Nat} {xs : Nat → Int32} {d : Nat} {K : Option Int32 → Nat → Nat → sT → Prop} (h : K none 98 56433 sx_48) : tH L xs 97 56403 (d + 0) 70 0 [.ref 96, .int (30 : Int32)] [] sx_47 K := by
  refine h_aload (p_70_0 _ _) rfl ?_
  refine h_init (p_70_1 _ _) (Nat.le_of_ble_eq_true rfl) ?_
  refine h_aload (p_70_4 _ _) rfl ?_
  refine h_iload (p_70_5 _ _) rfl ?_
  refine h_push (p_70_6 _ _) ?_
  refine h_mm (w := (30 : Int32)) (p_70_7 _ _) (Nat.le_of_ble_eq_true rfl) (by decide) ?_
  refine h_newa (k := 30) (n1 := 98) (m1 := 56433) (p_70_10 _ _) sh_97 (by decide) (by decide) rfl rfl ?_
  refine h_putr (p_70_12 _ _) isI_7_0 sh_96 (by decide) ?_
  exact h_ret0 (p_70_15 _ _) h
def sx_49 : sT := pR (sx_48) 83 1 (some 96)
def sx_50 : sT := pR (sx_49) 98 0 (some 99)
theorem kc_28 {L : Nat} {xs : Nat → Int32} {d : Nat} {K : Option Int32 → Nat → Nat → sT → Prop} (h : K none 100 56465 sx_50) : tH L xs 99 56435 (d + 0) 70 0 [.ref 98, .int (30 : Int32)] [] sx_49 K := by
  refine h_aload (p_70_0 _ _) rfl ?_
  refine h_init (p_70_1 _ _) (Nat.le_of_ble_eq_true rfl) ?_
  refine h_aload (p_70_4 _ _) rfl ?_
  refine h_iload (p_70_5 _ _) rfl ?_
  refine h_push (p_70_6 _ _) ?_
  refine h_mm (w := (30 : Int32)) (p_70_7 _ _) (Nat.le_of_ble_eq_true rfl) (by decide) ?_
  refine h_newa (k := 30) (n1 := 100) (m1 := 56465) (p_70_10 _ _) sh_99 (by decide) (by decide) rfl rfl ?_
  refine h_putr (p_70_12 _ _) isI_7_0 sh_98 (by decide) ?_
  exact h_ret0 (p_70_15 _ _) h
def sx_51 : sT := pR (sx_50) 83 2 (some 98)
def sx_52 : sT := pR (sx_51) 100 0 (some 101)
theorem kc_29 {L : Nat} {xs : Nat → Int32} {d : Nat} {K : Option Int32 → Nat → Nat → sT → Prop} (h : K none 102 56497 sx_52) : tH L xs 101 56467 (d + 0) 70 0 [.ref 100, .int (30 : Int32)] [] sx_51 K := by
  refine h_aload (p_70_0 _ _) rfl ?_
  refine h_init (p_70_1 _ _) (Nat.le_of_ble_eq_true rfl) ?_
  refine h_aload (p_70_4 _ _) rfl ?_
  refine h_iload (p_70_5 _ _) rfl ?_
  refine h_push (p_70_6 _ _) ?_
  refine h_mm (w := (30 : Int32)) (p_70_7 _ _) (Nat.le_of_ble_eq_true rfl) (by decide) ?_
  refine h_newa (k := 30) (n1 := 102) (m1 := 56497) (p_70_10 _ _) sh_101 (by decide) (by decide) rfl rfl ?_
  refine h_putr (p_70_12 _ _) isI_7_0 sh_100 (by decide) ?_
  exact h_ret0 (p_70_15 _ _) h
def sx_53 : sT := pR (sx_52) 83 3 (some 100)
theorem kc_30 {L : Nat} {xs : Nat → Int32} {d : Nat} {K : Option Int32 → Nat → Nat → sT → Prop} (h : K none 102 56497 sx_53) : tH L xs 62 32519 (d + 2) 29 0 [.ref 61, .null] [] sx_29 K := by
  refine h_aload (p_29_0 _ _) rfl ?_
  refine h_init (p_29_1 _ _) (Nat.le_of_ble_eq_true rfl) ?_
  refine h_aload (p_29_4 _ _) rfl ?_
  refine h_new (n1 := 63) (m1 := 32521) (p_29_5 _ _) sh_62 fl_7 rfl rfl ?_
  refine h_dup (p_29_8 _ _) ?_
  refine h_push (p_29_9 _ _) ?_
  refine h_call (z := 70) (i := 62) (as := [.int (60 : Int32)]) (rest := [.ref 62, .ref 61]) (p_29_11 _ _) mK_70 mL_70 rfl rfl (Nat.le_of_ble_eq_true rfl) rfl (Nat.le_of_ble_eq_true rfl) sh_62 (kc_17 (d := d + 1) ⟨rfl, ?_⟩)
  refine h_putr (p_29_14 _ _) isI_3_0 sh_61 (by decide) ?_
  refine h_aload (p_29_17 _ _) rfl ?_
  refine h_push (p_29_18 _ _) ?_
  refine h_anew (k := 2) (n1 := 65) (m1 := 32583) (p_29_19 _ _) sh_64 (by decide) (by decide) rfl rfl ?_
  refine h_dup (p_29_22 _ _) ?_
  refine h_push (p_29_23 _ _) ?_
  refine h_new (n1 := 66) (m1 := 32594) (p_29_24 _ _) sh_65 fl_5 rfl rfl ?_
  refine h_dup (p_29_27 _ _) ?_
  refine h_call (z := 38) (i := 65) (as := []) (rest := [.ref 65, .int (0 : Int32), .ref 64, .ref 64, .ref 61]) (p_29_28 _ _) mK_38 mL_38 rfl rfl (Nat.le_of_ble_eq_true rfl) rfl (Nat.le_of_ble_eq_true rfl) sh_65 (kc_20 (d := d + 0) ⟨rfl, ?_⟩)
  refine h_aast (k := 0) (p_29_31 _ _) sh_64 sh_65 (by decide) (by decide) (by decide) ?_
  refine h_dup (p_29_32 _ _) ?_
  refine h_push (p_29_33 _ _) ?_
  refine h_new (n1 := 75) (m1 := 38778) (p_29_34 _ _) sh_74 fl_5 rfl rfl ?_
  refine h_dup (p_29_37 _ _) ?_
  refine h_call (z := 38) (i := 74) (as := []) (rest := [.ref 74, .int (1 : Int32), .ref 64, .ref 64, .ref 61]) (p_29_38 _ _) mK_38 mL_38 rfl rfl (Nat.le_of_ble_eq_true rfl) rfl (Nat.le_of_ble_eq_true rfl) sh_74 (kc_23 (d := d + 0) ⟨rfl, ?_⟩)
  refine h_aast (k := 1) (p_29_41 _ _) sh_64 sh_74 (by decide) (by decide) (by decide) ?_
  refine h_putr (p_29_42 _ _) isI_3_1 sh_61 (by decide) ?_
  refine h_aload (p_29_45 _ _) rfl ?_
  refine h_push (p_29_46 _ _) ?_
  refine h_anew (k := 4) (n1 := 84) (m1 := 44955) (p_29_47 _ _) sh_83 (by decide) (by decide) rfl rfl ?_
  refine h_putr (p_29_50 _ _) isI_3_2 sh_61 (by decide) ?_
  refine h_aload (p_29_53 _ _) rfl ?_
  refine h_new (n1 := 85) (m1 := 44967) (p_29_54 _ _) sh_84 fl_1 rfl rfl ?_
  refine h_dup (p_29_57 _ _) ?_
  refine h_call (z := 8) (i := 84) (as := []) (rest := [.ref 84, .ref 61]) (p_29_58 _ _) mK_8 mL_8 rfl rfl (Nat.le_of_ble_eq_true rfl) rfl (Nat.le_of_ble_eq_true rfl) sh_84 (kc_25 (d := d + 0) ⟨rfl, ?_⟩)
  refine h_putr (p_29_61 _ _) isI_3_3 sh_61 (by decide) ?_
  refine h_aload (p_29_64 _ _) rfl ?_
  refine h_push (p_29_65 _ _) ?_
  refine h_puti (p_29_66 _ _) isI_3_4 sh_61 (by decide) ?_
  refine h_push (p_29_69 _ _) ?_
  refine h_istore (ls1 := [.ref 61, .int (0 : Int32)]) (p_29_70 _ _) (Nat.le_of_ble_eq_true rfl) rfl rfl ?_
  refine h_iload (p_29_71 _ _) rfl ?_
  refine h_push (p_29_72 _ _) ?_
  refine h_cmpF (p_29_73 _ _) (by decide) ?_
  refine h_aload (p_29_76 _ _) rfl ?_
  refine h_getr (a := 83) (p_29_77 _ _) isI_3_2 sh_61 (by decide +kernel) ?_
  refine h_iload (p_29_80 _ _) rfl ?_
  refine h_new (n1 := 95) (m1 := 56371) (p_29_81 _ _) sh_94 fl_7 rfl rfl ?_
  refine h_dup (p_29_84 _ _) ?_
  refine h_push (p_29_85 _ _) ?_
  refine h_call (z := 70) (i := 94) (as := [.int (30 : Int32)]) (rest := [.ref 94, .int (0 : Int32), .ref 83]) (p_29_87 _ _) mK_70 mL_70 rfl rfl (Nat.le_of_ble_eq_true rfl) rfl (Nat.le_of_ble_eq_true rfl) sh_94 (kc_26 (d := d + 1) ⟨rfl, ?_⟩)
  refine h_aast (k := 0) (p_29_90 _ _) sh_83 sh_94 (by decide) (by decide) (by decide) ?_
  refine h_iinc (x1 := (1 : Int32)) (ls1 := [.ref 61, .int (1 : Int32)]) (p_29_91 _ _) rfl rfl (by decide) rfl ?_
  refine h_goto (p_29_94 _ _) ?_
  refine h_iload (p_29_71 _ _) rfl ?_
  refine h_push (p_29_72 _ _) ?_
  refine h_cmpF (p_29_73 _ _) (by decide) ?_
  refine h_aload (p_29_76 _ _) rfl ?_
  refine h_getr (a := 83) (p_29_77 _ _) isI_3_2 sh_61 (by decide +kernel) ?_
  refine h_iload (p_29_80 _ _) rfl ?_
  refine h_new (n1 := 97) (m1 := 56403) (p_29_81 _ _) sh_96 fl_7 rfl rfl ?_
  refine h_dup (p_29_84 _ _) ?_
  refine h_push (p_29_85 _ _) ?_
  refine h_call (z := 70) (i := 96) (as := [.int (30 : Int32)]) (rest := [.ref 96, .int (1 : Int32), .ref 83]) (p_29_87 _ _) mK_70 mL_70 rfl rfl (Nat.le_of_ble_eq_true rfl) rfl (Nat.le_of_ble_eq_true rfl) sh_96 (kc_27 (d := d + 1) ⟨rfl, ?_⟩)
  refine h_aast (k := 1) (p_29_90 _ _) sh_83 sh_96 (by decide) (by decide) (by decide) ?_
  refine h_iinc (x1 := (2 : Int32)) (ls1 := [.ref 61, .int (2 : Int32)]) (p_29_91 _ _) rfl rfl (by decide) rfl ?_
  refine h_goto (p_29_94 _ _) ?_
  refine h_iload (p_29_71 _ _) rfl ?_
  refine h_push (p_29_72 _ _) ?_
  refine h_cmpF (p_29_73 _ _) (by decide) ?_
  refine h_aload (p_29_76 _ _) rfl ?_
  refine h_getr (a := 83) (p_29_77 _ _) isI_3_2 sh_61 (by decide +kernel) ?_
  refine h_iload (p_29_80 _ _) rfl ?_
  refine h_new (n1 := 99) (m1 := 56435) (p_29_81 _ _) sh_98 fl_7 rfl rfl ?_
  refine h_dup (p_29_84 _ _) ?_
  refine h_push (p_29_85 _ _) ?_
  refine h_call (z := 70) (i := 98) (as := [.int (30 : Int32)]) (rest := [.ref 98, .int (2 : Int32), .ref 83]) (p_29_87 _ _) mK_70 mL_70 rfl rfl (Nat.le_of_ble_eq_true rfl) rfl (Nat.le_of_ble_eq_true rfl) sh_98 (kc_28 (d := d + 1) ⟨rfl, ?_⟩)
  refine h_aast (k := 2) (p_29_90 _ _) sh_83 sh_98 (by decide) (by decide) (by decide) ?_
  refine h_iinc (x1 := (3 : Int32)) (ls1 := [.ref 61, .int (3 : Int32)]) (p_29_91 _ _) rfl rfl (by decide) rfl ?_
  refine h_goto (p_29_94 _ _) ?_
  refine h_iload (p_29_71 _ _) rfl ?_
  refine h_push (p_29_72 _ _) ?_
  refine h_cmpF (p_29_73 _ _) (by decide) ?_
  refine h_aload (p_29_76 _ _) rfl ?_
  refine h_getr (a := 83) (p_29_77 _ _) isI_3_2 sh_61 (by decide +kernel) ?_
  refine h_iload (p_29_80 _ _) rfl ?_
  refine h_new (n1 := 101) (m1 := 56467) (p_29_81 _ _) sh_100 fl_7 rfl rfl ?_
  refine h_dup (p_29_84 _ _) ?_
  refine h_push (p_29_85 _ _) ?_
  refine h_call (z := 70) (i := 100) (as := [.int (30 : Int32)]) (rest := [.ref 100, .int (3 : Int32), .ref 83]) (p_29_87 _ _) mK_70 mL_70 rfl rfl (Nat.le_of_ble_eq_true rfl) rfl (Nat.le_of_ble_eq_true rfl) sh_100 (kc_29 (d := d + 1) ⟨rfl, ?_⟩)
  refine h_aast (k := 3) (p_29_90 _ _) sh_83 sh_100 (by decide) (by decide) (by decide) ?_
  refine h_iinc (x1 := (4 : Int32)) (ls1 := [.ref 61, .int (4 : Int32)]) (p_29_91 _ _) rfl rfl (by decide) rfl ?_
  refine h_goto (p_29_94 _ _) ?_
  refine h_iload (p_29_71 _ _) rfl ?_
  refine h_push (p_29_72 _ _) ?_
  refine h_cmpT (p_29_73 _ _) (by decide) ?_
  exact h_ret0 (p_29_97 _ _) h
def sx_54 : sT := pR (sx_53) 0 8 (some 61)
def sx_55 : sT := pR (sx_54) 104 0 (some 105)
theorem kc_31 {L : Nat} {xs : Nat → Int32} {d : Nat} {K : Option Int32 → Nat → Nat → sT → Prop} (h : K none 106 56566 sx_55) : tH L xs 105 56506 (d + 0) 70 0 [.ref 104, .int (60 : Int32)] [] sx_54 K := by
  refine h_aload (p_70_0 _ _) rfl ?_
  refine h_init (p_70_1 _ _) (Nat.le_of_ble_eq_true rfl) ?_
  refine h_aload (p_70_4 _ _) rfl ?_
  refine h_iload (p_70_5 _ _) rfl ?_
  refine h_push (p_70_6 _ _) ?_
  refine h_mm (w := (60 : Int32)) (p_70_7 _ _) (Nat.le_of_ble_eq_true rfl) (by decide) ?_
  refine h_newa (k := 60) (n1 := 106) (m1 := 56566) (p_70_10 _ _) sh_105 (by decide) (by decide) rfl rfl ?_
  refine h_putr (p_70_12 _ _) isI_7_0 sh_104 (by decide) ?_
  exact h_ret0 (p_70_15 _ _) h
def sx_56 : sT := pR (sx_55) 103 0 (some 104)
def sx_57 : sT := pR (sx_56) 108 0 (some 109)
theorem kc_32 {L : Nat} {xs : Nat → Int32} {d : Nat} {K : Option Int32 → Nat → Nat → sT → Prop} (h : K none 110 56611 sx_57) : tH L xs 109 56581 (d + 0) 70 0 [.ref 108, .int (30 : Int32)] [] sx_56 K := by
  refine h_aload (p_70_0 _ _) rfl ?_
  refine h_init (p_70_1 _ _) (Nat.le_of_ble_eq_true rfl) ?_
  refine h_aload (p_70_4 _ _) rfl ?_
  refine h_iload (p_70_5 _ _) rfl ?_
  refine h_push (p_70_6 _ _) ?_
  refine h_mm (w := (30 : Int32)) (p_70_7 _ _) (Nat.le_of_ble_eq_true rfl) (by decide) ?_
  refine h_newa (k := 30) (n1 := 110) (m1 := 56611) (p_70_10 _ _) sh_109 (by decide) (by decide) rfl rfl ?_
  refine h_putr (p_70_12 _ _) isI_7_0 sh_108 (by decide) ?_
  exact h_ret0 (p_70_15 _ _) h
def sx_58 : sT := pR (sx_57) 107 0 (some 108)
def sx_59 : sT := pR (sx_58) 110 0 (some 111)
theorem kc_33 {L : Nat} {xs : Nat → Int32} {d : Nat} {K : Option Int32 → Nat → Nat → sT → Prop} (h : K none 112 61573 sx_59) : tH L xs 111 56613 (d + 0) 70 0 [.ref 110, .int (4960 : Int32)] [] sx_58 K := by
  refine h_aload (p_70_0 _ _) rfl ?_
  refine h_init (p_70_1 _ _) (Nat.le_of_ble_eq_true rfl) ?_
  refine h_aload (p_70_4 _ _) rfl ?_
  refine h_iload (p_70_5 _ _) rfl ?_
  refine h_push (p_70_6 _ _) ?_
  refine h_mm (w := (4960 : Int32)) (p_70_7 _ _) (Nat.le_of_ble_eq_true rfl) (by decide) ?_
  refine h_newa (k := 4960) (n1 := 112) (m1 := 61573) (p_70_10 _ _) sh_111 (by decide) (by decide) rfl rfl ?_
  refine h_putr (p_70_12 _ _) isI_7_0 sh_110 (by decide) ?_
  exact h_ret0 (p_70_15 _ _) h
def sx_60 : sT := pR (pR (pR (pR (pR (sx_59) 107 1 (some 110)) 107 2 (some 112)) 107 3 (some 113)) 107 4 (some 114)) 107 5 (some 115)
theorem kc_34 {L : Nat} {xs : Nat → Int32} {d : Nat} {K : Option Int32 → Nat → Nat → sT → Prop} (h : K none 116 62752 sx_60) : tH L xs 108 56579 (d + 1) 38 0 [.ref 107] [] sx_56 K := by
  refine h_aload (p_38_0 _ _) rfl ?_
  refine h_init (p_38_1 _ _) (Nat.le_of_ble_eq_true rfl) ?_
  refine h_aload (p_38_4 _ _) rfl ?_
  refine h_new (n1 := 109) (m1 := 56581) (p_38_5 _ _) sh_108 fl_7 rfl rfl ?_
  refine h_dup (p_38_8 _ _) ?_
  refine h_push (p_38_9 _ _) ?_
  refine h_call (z := 70) (i := 108) (as := [.int (30 : Int32)]) (rest := [.ref 108, .ref 107]) (p_38_11 _ _) mK_70 mL_70 rfl rfl (Nat.le_of_ble_eq_true rfl) rfl (Nat.le_of_ble_eq_true rfl) sh_108 (kc_32 (d := d + 0) ⟨rfl, ?_⟩)
  refine h_putr (p_38_14 _ _) isI_5_0 sh_107 (by decide) ?_
  refine h_aload (p_38_17 _ _) rfl ?_
  refine h_new (n1 := 111) (m1 := 56613) (p_38_18 _ _) sh_110 fl_7 rfl rfl ?_
  refine h_dup (p_38_21 _ _) ?_
  refine h_push (p_38_22 _ _) ?_
  refine h_call (z := 70) (i := 110) (as := [.int (4960 : Int32)]) (rest := [.ref 110, .ref 107]) (p_38_25 _ _) mK_70 mL_70 rfl rfl (Nat.le_of_ble_eq_true rfl) rfl (Nat.le_of_ble_eq_true rfl) sh_110 (kc_33 (d := d + 0) ⟨rfl, ?_⟩)
  refine h_putr (p_38_28 _ _) isI_5_1 sh_107 (by decide) ?_
  refine h_aload (p_38_31 _ _) rfl ?_
  refine h_push (p_38_32 _ _) ?_
  refine h_newa (k := 31) (n1 := 113) (m1 := 61604) (p_38_34 _ _) sh_112 (by decide) (by decide) rfl rfl ?_
  refine h_putr (p_38_36 _ _) isI_5_2 sh_107 (by decide) ?_
  refine h_aload (p_38_39 _ _) rfl ?_
  refine h_push (p_38_40 _ _) ?_
  refine h_newa (k := 93) (n1 := 114) (m1 := 61697) (p_38_42 _ _) sh_113 (by decide) (by decide) rfl rfl ?_
  refine h_putr (p_38_44 _ _) isI_5_3 sh_107 (by decide) ?_
  refine h_aload (p_38_47 _ _) rfl ?_
  refine h_push (p_38_48 _ _) ?_
  refine h_newa (k := 94) (n1 := 115) (m1 := 61791) (p_38_50 _ _) sh_114 (by decide) (by decide) rfl rfl ?_
  refine h_putr (p_38_52 _ _) isI_5_4 sh_107 (by decide) ?_
  refine h_aload (p_38_55 _ _) rfl ?_
  refine h_push (p_38_56 _ _) ?_
  refine h_newa (k := 961) (n1 := 116) (m1 := 62752) (p_38_59 _ _) sh_115 (by decide) (by decide) rfl rfl ?_
  refine h_putr (p_38_61 _ _) isI_5_5 sh_107 (by decide) ?_
  exact h_ret0 (p_38_64 _ _) h
def sx_61 : sT := pR (sx_60) 106 0 (some 107)
def sx_62 : sT := pR (sx_61) 117 0 (some 118)
theorem kc_35 {L : Nat} {xs : Nat → Int32} {d : Nat} {K : Option Int32 → Nat → Nat → sT → Prop} (h : K none 119 62795 sx_62) : tH L xs 118 62765 (d + 0) 70 0 [.ref 117, .int (30 : Int32)] [] sx_61 K := by
  refine h_aload (p_70_0 _ _) rfl ?_
  refine h_init (p_70_1 _ _) (Nat.le_of_ble_eq_true rfl) ?_
  refine h_aload (p_70_4 _ _) rfl ?_
  refine h_iload (p_70_5 _ _) rfl ?_
  refine h_push (p_70_6 _ _) ?_
  refine h_mm (w := (30 : Int32)) (p_70_7 _ _) (Nat.le_of_ble_eq_true rfl) (by decide) ?_
  refine h_newa (k := 30) (n1 := 119) (m1 := 62795) (p_70_10 _ _) sh_118 (by decide) (by decide) rfl rfl ?_
  refine h_putr (p_70_12 _ _) isI_7_0 sh_117 (by decide) ?_
  exact h_ret0 (p_70_15 _ _) h
def sx_63 : sT := pR (sx_62) 116 0 (some 117)
def sx_64 : sT := pR (sx_63) 119 0 (some 120)
theorem kc_36 {L : Nat} {xs : Nat → Int32} {d : Nat} {K : Option Int32 → Nat → Nat → sT → Prop} (h : K none 121 67757 sx_64) : tH L xs 120 62797 (d + 0) 70 0 [.ref 119, .int (4960 : Int32)] [] sx_63 K := by
  refine h_aload (p_70_0 _ _) rfl ?_
  refine h_init (p_70_1 _ _) (Nat.le_of_ble_eq_true rfl) ?_
  refine h_aload (p_70_4 _ _) rfl ?_
  refine h_iload (p_70_5 _ _) rfl ?_
  refine h_push (p_70_6 _ _) ?_
  refine h_mm (w := (4960 : Int32)) (p_70_7 _ _) (Nat.le_of_ble_eq_true rfl) (by decide) ?_
  refine h_newa (k := 4960) (n1 := 121) (m1 := 67757) (p_70_10 _ _) sh_120 (by decide) (by decide) rfl rfl ?_
  refine h_putr (p_70_12 _ _) isI_7_0 sh_119 (by decide) ?_
  exact h_ret0 (p_70_15 _ _) h
def sx_65 : sT := pR (pR (pR (pR (pR (sx_64) 116 1 (some 119)) 116 2 (some 121)) 116 3 (some 122)) 116 4 (some 123)) 116 5 (some 124)
theorem kc_37 {L : Nat} {xs : Nat → Int32} {d : Nat} {K : Option Int32 → Nat → Nat → sT → Prop} (h : K none 125 68936 sx_65) : tH L xs 117 62763 (d + 1) 38 0 [.ref 116] [] sx_61 K := by
  refine h_aload (p_38_0 _ _) rfl ?_
  refine h_init (p_38_1 _ _) (Nat.le_of_ble_eq_true rfl) ?_
  refine h_aload (p_38_4 _ _) rfl ?_
  refine h_new (n1 := 118) (m1 := 62765) (p_38_5 _ _) sh_117 fl_7 rfl rfl ?_
  refine h_dup (p_38_8 _ _) ?_
  refine h_push (p_38_9 _ _) ?_
  refine h_call (z := 70) (i := 117) (as := [.int (30 : Int32)]) (rest := [.ref 117, .ref 116]) (p_38_11 _ _) mK_70 mL_70 rfl rfl (Nat.le_of_ble_eq_true rfl) rfl (Nat.le_of_ble_eq_true rfl) sh_117 (kc_35 (d := d + 0) ⟨rfl, ?_⟩)
  refine h_putr (p_38_14 _ _) isI_5_0 sh_116 (by decide) ?_
  refine h_aload (p_38_17 _ _) rfl ?_
  refine h_new (n1 := 120) (m1 := 62797) (p_38_18 _ _) sh_119 fl_7 rfl rfl ?_
  refine h_dup (p_38_21 _ _) ?_
  refine h_push (p_38_22 _ _) ?_
  refine h_call (z := 70) (i := 119) (as := [.int (4960 : Int32)]) (rest := [.ref 119, .ref 116]) (p_38_25 _ _) mK_70 mL_70 rfl rfl (Nat.le_of_ble_eq_true rfl) rfl (Nat.le_of_ble_eq_true rfl) sh_119 (kc_36 (d := d + 0) ⟨rfl, ?_⟩)
  refine h_putr (p_38_28 _ _) isI_5_1 sh_116 (by decide) ?_
  refine h_aload (p_38_31 _ _) rfl ?_
  refine h_push (p_38_32 _ _) ?_
  refine h_newa (k := 31) (n1 := 122) (m1 := 67788) (p_38_34 _ _) sh_121 (by decide) (by decide) rfl rfl ?_
  refine h_putr (p_38_36 _ _) isI_5_2 sh_116 (by decide) ?_
  refine h_aload (p_38_39 _ _) rfl ?_
  refine h_push (p_38_40 _ _) ?_
  refine h_newa (k := 93) (n1 := 123) (m1 := 67881) (p_38_42 _ _) sh_122 (by decide) (by decide) rfl rfl ?_
  refine h_putr (p_38_44 _ _) isI_5_3 sh_116 (by decide) ?_
  refine h_aload (p_38_47 _ _) rfl ?_
  refine h_push (p_38_48 _ _) ?_
  refine h_newa (k := 94) (n1 := 124) (m1 := 67975) (p_38_50 _ _) sh_123 (by decide) (by decide) rfl rfl ?_
  refine h_putr (p_38_52 _ _) isI_5_4 sh_116 (by decide) ?_
  refine h_aload (p_38_55 _ _) rfl ?_
  refine h_push (p_38_56 _ _) ?_
  refine h_newa (k := 961) (n1 := 125) (m1 := 68936) (p_38_59 _ _) sh_124 (by decide) (by decide) rfl rfl ?_
  refine h_putr (p_38_61 _ _) isI_5_5 sh_116 (by decide) ?_
  exact h_ret0 (p_38_64 _ _) h
def sx_66 : sT := pR (pR (pR (sx_65) 106 1 (some 116)) 103 1 (some 106)) 103 2 (some 125)
def sx_67 : sT := pR (pR (pR (pR (pR (pR (sx_66) 126 0 (some 127)) 126 1 (some 128)) 126 2 (some 129)) 126 3 (some 130)) 126 4 (some 131)) 126 5 (some 132)
def sx_68 : sT := pR (sx_67) 133 0 (some 134)
theorem kc_38 {L : Nat} {xs : Nat → Int32} {d : Nat} {K : Option Int32 → Nat → Nat → sT → Prop} (h : K none 135 80054 sx_68) : tH L xs 134 79754 (d + 0) 70 0 [.ref 133, .int (300 : Int32)] [] sx_67 K := by
  refine h_aload (p_70_0 _ _) rfl ?_
  refine h_init (p_70_1 _ _) (Nat.le_of_ble_eq_true rfl) ?_
  refine h_aload (p_70_4 _ _) rfl ?_
  refine h_iload (p_70_5 _ _) rfl ?_
  refine h_push (p_70_6 _ _) ?_
  refine h_mm (w := (300 : Int32)) (p_70_7 _ _) (Nat.le_of_ble_eq_true rfl) (by decide) ?_
  refine h_newa (k := 300) (n1 := 135) (m1 := 80054) (p_70_10 _ _) sh_134 (by decide) (by decide) rfl rfl ?_
  refine h_putr (p_70_12 _ _) isI_7_0 sh_133 (by decide) ?_
  exact h_ret0 (p_70_15 _ _) h
def sx_69 : sT := pR (pR (sx_68) 126 6 (some 133)) 126 7 (some 135)
theorem kc_39 {L : Nat} {xs : Nat → Int32} {d : Nat} {K : Option Int32 → Nat → Nat → sT → Prop} (h : K none 136 80354 sx_69) : tH L xs 127 68952 (d + 1) 8 0 [.ref 126] [] sx_66 K := by
  refine h_aload (p_8_0 _ _) rfl ?_
  refine h_init (p_8_1 _ _) (Nat.le_of_ble_eq_true rfl) ?_
  refine h_aload (p_8_4 _ _) rfl ?_
  refine h_push (p_8_5 _ _) ?_
  refine h_newa (k := 300) (n1 := 128) (m1 := 69252) (p_8_8 _ _) sh_127 (by decide) (by decide) rfl rfl ?_
  refine h_putr (p_8_10 _ _) isI_1_0 sh_126 (by decide) ?_
  refine h_aload (p_8_13 _ _) rfl ?_
  refine h_push (p_8_14 _ _) ?_
  refine h_newa (k := 300) (n1 := 129) (m1 := 69552) (p_8_17 _ _) sh_128 (by decide) (by decide) rfl rfl ?_
  refine h_putr (p_8_19 _ _) isI_1_1 sh_126 (by decide) ?_
  refine h_aload (p_8_22 _ _) rfl ?_
  refine h_push (p_8_23 _ _) ?_
  refine h_newa (k := 300) (n1 := 130) (m1 := 69852) (p_8_26 _ _) sh_129 (by decide) (by decide) rfl rfl ?_
  refine h_putr (p_8_28 _ _) isI_1_2 sh_126 (by decide) ?_
  refine h_aload (p_8_31 _ _) rfl ?_
  refine h_push (p_8_32 _ _) ?_
  refine h_newa (k := 300) (n1 := 131) (m1 := 70152) (p_8_35 _ _) sh_130 (by decide) (by decide) rfl rfl ?_
  refine h_putr (p_8_37 _ _) isI_1_3 sh_126 (by decide) ?_
  refine h_aload (p_8_40 _ _) rfl ?_
  refine h_push (p_8_41 _ _) ?_
  refine h_newa (k := 300) (n1 := 132) (m1 := 70452) (p_8_44 _ _) sh_131 (by decide) (by decide) rfl rfl ?_
  refine h_putr (p_8_46 _ _) isI_1_4 sh_126 (by decide) ?_
  refine h_aload (p_8_49 _ _) rfl ?_
  refine h_push (p_8_50 _ _) ?_
  refine h_newa (k := 9300) (n1 := 133) (m1 := 79752) (p_8_53 _ _) sh_132 (by decide) (by decide) rfl rfl ?_
  refine h_putr (p_8_55 _ _) isI_1_5 sh_126 (by decide) ?_
  refine h_aload (p_8_58 _ _) rfl ?_
  refine h_new (n1 := 134) (m1 := 79754) (p_8_59 _ _) sh_133 fl_7 rfl rfl ?_
  refine h_dup (p_8_62 _ _) ?_
  refine h_push (p_8_63 _ _) ?_
  refine h_call (z := 70) (i := 133) (as := [.int (300 : Int32)]) (rest := [.ref 133, .ref 126]) (p_8_66 _ _) mK_70 mL_70 rfl rfl (Nat.le_of_ble_eq_true rfl) rfl (Nat.le_of_ble_eq_true rfl) sh_133 (kc_38 (d := d + 0) ⟨rfl, ?_⟩)
  refine h_putr (p_8_69 _ _) isI_1_6 sh_126 (by decide) ?_
  refine h_aload (p_8_72 _ _) rfl ?_
  refine h_push (p_8_73 _ _) ?_
  refine h_newa (k := 300) (n1 := 136) (m1 := 80354) (p_8_76 _ _) sh_135 (by decide) (by decide) rfl rfl ?_
  refine h_putr (p_8_78 _ _) isI_1_7 sh_126 (by decide) ?_
  exact h_ret0 (p_8_81 _ _) h
def sx_70 : sT := pV (pR (sx_69) 103 3 (some 126)) 103 4 (-1 : Int32)
def sx_71 : sT := pR (sx_70) 136 0 (some 137)
theorem kc_40 {L : Nat} {xs : Nat → Int32} {d : Nat} {K : Option Int32 → Nat → Nat → sT → Prop} (h : K none 138 80386 sx_71) : tH L xs 137 80356 (d + 0) 70 0 [.ref 136, .int (30 : Int32)] [] sx_70 K := by
  refine h_aload (p_70_0 _ _) rfl ?_
  refine h_init (p_70_1 _ _) (Nat.le_of_ble_eq_true rfl) ?_
  refine h_aload (p_70_4 _ _) rfl ?_
  refine h_iload (p_70_5 _ _) rfl ?_
  refine h_push (p_70_6 _ _) ?_
  refine h_mm (w := (30 : Int32)) (p_70_7 _ _) (Nat.le_of_ble_eq_true rfl) (by decide) ?_
  refine h_newa (k := 30) (n1 := 138) (m1 := 80386) (p_70_10 _ _) sh_137 (by decide) (by decide) rfl rfl ?_
  refine h_putr (p_70_12 _ _) isI_7_0 sh_136 (by decide) ?_
  exact h_ret0 (p_70_15 _ _) h
def sx_72 : sT := pR (sx_71) 125 0 (some 136)
def sx_73 : sT := pR (sx_72) 138 0 (some 139)
theorem kc_41 {L : Nat} {xs : Nat → Int32} {d : Nat} {K : Option Int32 → Nat → Nat → sT → Prop} (h : K none 140 80418 sx_73) : tH L xs 139 80388 (d + 0) 70 0 [.ref 138, .int (30 : Int32)] [] sx_72 K := by
  refine h_aload (p_70_0 _ _) rfl ?_
  refine h_init (p_70_1 _ _) (Nat.le_of_ble_eq_true rfl) ?_
  refine h_aload (p_70_4 _ _) rfl ?_
  refine h_iload (p_70_5 _ _) rfl ?_
  refine h_push (p_70_6 _ _) ?_
  refine h_mm (w := (30 : Int32)) (p_70_7 _ _) (Nat.le_of_ble_eq_true rfl) (by decide) ?_
  refine h_newa (k := 30) (n1 := 140) (m1 := 80418) (p_70_10 _ _) sh_139 (by decide) (by decide) rfl rfl ?_
  refine h_putr (p_70_12 _ _) isI_7_0 sh_138 (by decide) ?_
  exact h_ret0 (p_70_15 _ _) h
def sx_74 : sT := pR (sx_73) 125 1 (some 138)
def sx_75 : sT := pR (sx_74) 140 0 (some 141)
theorem kc_42 {L : Nat} {xs : Nat → Int32} {d : Nat} {K : Option Int32 → Nat → Nat → sT → Prop} (h : K none 142 80450 sx_75) : tH L xs 141 80420 (d + 0) 70 0 [.ref 140, .int (30 : Int32)] [] sx_74 K := by
  refine h_aload (p_70_0 _ _) rfl ?_
  refine h_init (p_70_1 _ _) (Nat.le_of_ble_eq_true rfl) ?_
  refine h_aload (p_70_4 _ _) rfl ?_
  refine h_iload (p_70_5 _ _) rfl ?_
  refine h_push (p_70_6 _ _) ?_
  refine h_mm (w := (30 : Int32)) (p_70_7 _ _) (Nat.le_of_ble_eq_true rfl) (by decide) ?_
  refine h_newa (k := 30) (n1 := 142) (m1 := 80450) (p_70_10 _ _) sh_141 (by decide) (by decide) rfl rfl ?_
  refine h_putr (p_70_12 _ _) isI_7_0 sh_140 (by decide) ?_
  exact h_ret0 (p_70_15 _ _) h
def sx_76 : sT := pR (sx_75) 125 2 (some 140)
def sx_77 : sT := pR (sx_76) 142 0 (some 143)
theorem kc_43 {L : Nat} {xs : Nat → Int32} {d : Nat} {K : Option Int32 → Nat → Nat → sT → Prop} (h : K none 144 80482 sx_77) : tH L xs 143 80452 (d + 0) 70 0 [.ref 142, .int (30 : Int32)] [] sx_76 K := by
  refine h_aload (p_70_0 _ _) rfl ?_
  refine h_init (p_70_1 _ _) (Nat.le_of_ble_eq_true rfl) ?_
  refine h_aload (p_70_4 _ _) rfl ?_
  refine h_iload (p_70_5 _ _) rfl ?_
  refine h_push (p_70_6 _ _) ?_
  refine h_mm (w := (30 : Int32)) (p_70_7 _ _) (Nat.le_of_ble_eq_true rfl) (by decide) ?_
  refine h_newa (k := 30) (n1 := 144) (m1 := 80482) (p_70_10 _ _) sh_143 (by decide) (by decide) rfl rfl ?_
  refine h_putr (p_70_12 _ _) isI_7_0 sh_142 (by decide) ?_
  exact h_ret0 (p_70_15 _ _) h
def sx_78 : sT := pR (sx_77) 125 3 (some 142)
theorem kc_44 {L : Nat} {xs : Nat → Int32} {d : Nat} {K : Option Int32 → Nat → Nat → sT → Prop} (h : K none 144 80482 sx_78) : tH L xs 104 56504 (d + 2) 29 0 [.ref 103, .null] [] sx_54 K := by
  refine h_aload (p_29_0 _ _) rfl ?_
  refine h_init (p_29_1 _ _) (Nat.le_of_ble_eq_true rfl) ?_
  refine h_aload (p_29_4 _ _) rfl ?_
  refine h_new (n1 := 105) (m1 := 56506) (p_29_5 _ _) sh_104 fl_7 rfl rfl ?_
  refine h_dup (p_29_8 _ _) ?_
  refine h_push (p_29_9 _ _) ?_
  refine h_call (z := 70) (i := 104) (as := [.int (60 : Int32)]) (rest := [.ref 104, .ref 103]) (p_29_11 _ _) mK_70 mL_70 rfl rfl (Nat.le_of_ble_eq_true rfl) rfl (Nat.le_of_ble_eq_true rfl) sh_104 (kc_31 (d := d + 1) ⟨rfl, ?_⟩)
  refine h_putr (p_29_14 _ _) isI_3_0 sh_103 (by decide) ?_
  refine h_aload (p_29_17 _ _) rfl ?_
  refine h_push (p_29_18 _ _) ?_
  refine h_anew (k := 2) (n1 := 107) (m1 := 56568) (p_29_19 _ _) sh_106 (by decide) (by decide) rfl rfl ?_
  refine h_dup (p_29_22 _ _) ?_
  refine h_push (p_29_23 _ _) ?_
  refine h_new (n1 := 108) (m1 := 56579) (p_29_24 _ _) sh_107 fl_5 rfl rfl ?_
  refine h_dup (p_29_27 _ _) ?_
  refine h_call (z := 38) (i := 107) (as := []) (rest := [.ref 107, .int (0 : Int32), .ref 106, .ref 106, .ref 103]) (p_29_28 _ _) mK_38 mL_38 rfl rfl (Nat.le_of_ble_eq_true rfl) rfl (Nat.le_of_ble_eq_true rfl) sh_107 (kc_34 (d := d + 0) ⟨rfl, ?_⟩)
  refine h_aast (k := 0) (p_29_31 _ _) sh_106 sh_107 (by decide) (by decide) (by decide) ?_
  refine h_dup (p_29_32 _ _) ?_
  refine h_push (p_29_33 _ _) ?_
  refine h_new (n1 := 117) (m1 := 62763) (p_29_34 _ _) sh_116 fl_5 rfl rfl ?_
  refine h_dup (p_29_37 _ _) ?_
  refine h_call (z := 38) (i := 116) (as := []) (rest := [.ref 116, .int (1 : Int32), .ref 106, .ref 106, .ref 103]) (p_29_38 _ _) mK_38 mL_38 rfl rfl (Nat.le_of_ble_eq_true rfl) rfl (Nat.le_of_ble_eq_true rfl) sh_116 (kc_37 (d := d + 0) ⟨rfl, ?_⟩)
  refine h_aast (k := 1) (p_29_41 _ _) sh_106 sh_116 (by decide) (by decide) (by decide) ?_
  refine h_putr (p_29_42 _ _) isI_3_1 sh_103 (by decide) ?_
  refine h_aload (p_29_45 _ _) rfl ?_
  refine h_push (p_29_46 _ _) ?_
  refine h_anew (k := 4) (n1 := 126) (m1 := 68940) (p_29_47 _ _) sh_125 (by decide) (by decide) rfl rfl ?_
  refine h_putr (p_29_50 _ _) isI_3_2 sh_103 (by decide) ?_
  refine h_aload (p_29_53 _ _) rfl ?_
  refine h_new (n1 := 127) (m1 := 68952) (p_29_54 _ _) sh_126 fl_1 rfl rfl ?_
  refine h_dup (p_29_57 _ _) ?_
  refine h_call (z := 8) (i := 126) (as := []) (rest := [.ref 126, .ref 103]) (p_29_58 _ _) mK_8 mL_8 rfl rfl (Nat.le_of_ble_eq_true rfl) rfl (Nat.le_of_ble_eq_true rfl) sh_126 (kc_39 (d := d + 0) ⟨rfl, ?_⟩)
  refine h_putr (p_29_61 _ _) isI_3_3 sh_103 (by decide) ?_
  refine h_aload (p_29_64 _ _) rfl ?_
  refine h_push (p_29_65 _ _) ?_
  refine h_puti (p_29_66 _ _) isI_3_4 sh_103 (by decide) ?_
  refine h_push (p_29_69 _ _) ?_
  refine h_istore (ls1 := [.ref 103, .int (0 : Int32)]) (p_29_70 _ _) (Nat.le_of_ble_eq_true rfl) rfl rfl ?_
  refine h_iload (p_29_71 _ _) rfl ?_
  refine h_push (p_29_72 _ _) ?_
  refine h_cmpF (p_29_73 _ _) (by decide) ?_
  refine h_aload (p_29_76 _ _) rfl ?_
  refine h_getr (a := 125) (p_29_77 _ _) isI_3_2 sh_103 (by decide +kernel) ?_
  refine h_iload (p_29_80 _ _) rfl ?_
  refine h_new (n1 := 137) (m1 := 80356) (p_29_81 _ _) sh_136 fl_7 rfl rfl ?_
  refine h_dup (p_29_84 _ _) ?_
  refine h_push (p_29_85 _ _) ?_
  refine h_call (z := 70) (i := 136) (as := [.int (30 : Int32)]) (rest := [.ref 136, .int (0 : Int32), .ref 125]) (p_29_87 _ _) mK_70 mL_70 rfl rfl (Nat.le_of_ble_eq_true rfl) rfl (Nat.le_of_ble_eq_true rfl) sh_136 (kc_40 (d := d + 1) ⟨rfl, ?_⟩)
  refine h_aast (k := 0) (p_29_90 _ _) sh_125 sh_136 (by decide) (by decide) (by decide) ?_
  refine h_iinc (x1 := (1 : Int32)) (ls1 := [.ref 103, .int (1 : Int32)]) (p_29_91 _ _) rfl rfl (by decide) rfl ?_
  refine h_goto (p_29_94 _ _) ?_
  refine h_iload (p_29_71 _ _) rfl ?_
  refine h_push (p_29_72 _ _) ?_
  refine h_cmpF (p_29_73 _ _) (by decide) ?_
  refine h_aload (p_29_76 _ _) rfl ?_
  refine h_getr (a := 125) (p_29_77 _ _) isI_3_2 sh_103 (by decide +kernel) ?_
  refine h_iload (p_29_80 _ _) rfl ?_
  refine h_new (n1 := 139) (m1 := 80388) (p_29_81 _ _) sh_138 fl_7 rfl rfl ?_
  refine h_dup (p_29_84 _ _) ?_
  refine h_push (p_29_85 _ _) ?_
  refine h_call (z := 70) (i := 138) (as := [.int (30 : Int32)]) (rest := [.ref 138, .int (1 : Int32), .ref 125]) (p_29_87 _ _) mK_70 mL_70 rfl rfl (Nat.le_of_ble_eq_true rfl) rfl (Nat.le_of_ble_eq_true rfl) sh_138 (kc_41 (d := d + 1) ⟨rfl, ?_⟩)
  refine h_aast (k := 1) (p_29_90 _ _) sh_125 sh_138 (by decide) (by decide) (by decide) ?_
  refine h_iinc (x1 := (2 : Int32)) (ls1 := [.ref 103, .int (2 : Int32)]) (p_29_91 _ _) rfl rfl (by decide) rfl ?_
  refine h_goto (p_29_94 _ _) ?_
  refine h_iload (p_29_71 _ _) rfl ?_
  refine h_push (p_29_72 _ _) ?_
  refine h_cmpF (p_29_73 _ _) (by decide) ?_
  refine h_aload (p_29_76 _ _) rfl ?_
  refine h_getr (a := 125) (p_29_77 _ _) isI_3_2 sh_103 (by decide +kernel) ?_
  refine h_iload (p_29_80 _ _) rfl ?_
  refine h_new (n1 := 141) (m1 := 80420) (p_29_81 _ _) sh_140 fl_7 rfl rfl ?_
  refine h_dup (p_29_84 _ _) ?_
  refine h_push (p_29_85 _ _) ?_
  refine h_call (z := 70) (i := 140) (as := [.int (30 : Int32)]) (rest := [.ref 140, .int (2 : Int32), .ref 125]) (p_29_87 _ _) mK_70 mL_70 rfl rfl (Nat.le_of_ble_eq_true rfl) rfl (Nat.le_of_ble_eq_true rfl) sh_140 (kc_42 (d := d + 1) ⟨rfl, ?_⟩)
  refine h_aast (k := 2) (p_29_90 _ _) sh_125 sh_140 (by decide) (by decide) (by decide) ?_
  refine h_iinc (x1 := (3 : Int32)) (ls1 := [.ref 103, .int (3 : Int32)]) (p_29_91 _ _) rfl rfl (by decide) rfl ?_
  refine h_goto (p_29_94 _ _) ?_
  refine h_iload (p_29_71 _ _) rfl ?_
  refine h_push (p_29_72 _ _) ?_
  refine h_cmpF (p_29_73 _ _) (by decide) ?_
  refine h_aload (p_29_76 _ _) rfl ?_
  refine h_getr (a := 125) (p_29_77 _ _) isI_3_2 sh_103 (by decide +kernel) ?_
  refine h_iload (p_29_80 _ _) rfl ?_
  refine h_new (n1 := 143) (m1 := 80452) (p_29_81 _ _) sh_142 fl_7 rfl rfl ?_
  refine h_dup (p_29_84 _ _) ?_
  refine h_push (p_29_85 _ _) ?_
  refine h_call (z := 70) (i := 142) (as := [.int (30 : Int32)]) (rest := [.ref 142, .int (3 : Int32), .ref 125]) (p_29_87 _ _) mK_70 mL_70 rfl rfl (Nat.le_of_ble_eq_true rfl) rfl (Nat.le_of_ble_eq_true rfl) sh_142 (kc_43 (d := d + 1) ⟨rfl, ?_⟩)
  refine h_aast (k := 3) (p_29_90 _ _) sh_125 sh_142 (by decide) (by decide) (by decide) ?_
  refine h_iinc (x1 := (4 : Int32)) (ls1 := [.ref 103, .int (4 : Int32)]) (p_29_91 _ _) rfl rfl (by decide) rfl ?_
  refine h_goto (p_29_94 _ _) ?_
  refine h_iload (p_29_71 _ _) rfl ?_
  refine h_push (p_29_72 _ _) ?_
  refine h_cmpT (p_29_73 _ _) (by decide) ?_
  exact h_ret0 (p_29_97 _ _) h
def sx_79 : sT := pR (sx_78) 102 0 (some 103)
def sx_80 : sT := pR (sx_79) 145 0 (some 146)
theorem kc_45 {L : Nat} {xs : Nat → Int32} {d : Nat} {K : Option Int32 → Nat → Nat → sT → Prop} (h : K none 147 80549 sx_80) : tH L xs 146 80489 (d + 0) 70 0 [.ref 145, .int (60 : Int32)] [] sx_79 K := by
  refine h_aload (p_70_0 _ _) rfl ?_
  refine h_init (p_70_1 _ _) (Nat.le_of_ble_eq_true rfl) ?_
  refine h_aload (p_70_4 _ _) rfl ?_
  refine h_iload (p_70_5 _ _) rfl ?_
  refine h_push (p_70_6 _ _) ?_
  refine h_mm (w := (60 : Int32)) (p_70_7 _ _) (Nat.le_of_ble_eq_true rfl) (by decide) ?_
  refine h_newa (k := 60) (n1 := 147) (m1 := 80549) (p_70_10 _ _) sh_146 (by decide) (by decide) rfl rfl ?_
  refine h_putr (p_70_12 _ _) isI_7_0 sh_145 (by decide) ?_
  exact h_ret0 (p_70_15 _ _) h
def sx_81 : sT := pR (sx_80) 144 0 (some 145)
def sx_82 : sT := pR (sx_81) 149 0 (some 150)
theorem kc_46 {L : Nat} {xs : Nat → Int32} {d : Nat} {K : Option Int32 → Nat → Nat → sT → Prop} (h : K none 151 80594 sx_82) : tH L xs 150 80564 (d + 0) 70 0 [.ref 149, .int (30 : Int32)] [] sx_81 K := by
  refine h_aload (p_70_0 _ _) rfl ?_
  refine h_init (p_70_1 _ _) (Nat.le_of_ble_eq_true rfl) ?_
  refine h_aload (p_70_4 _ _) rfl ?_
  refine h_iload (p_70_5 _ _) rfl ?_
  refine h_push (p_70_6 _ _) ?_
  refine h_mm (w := (30 : Int32)) (p_70_7 _ _) (Nat.le_of_ble_eq_true rfl) (by decide) ?_
  refine h_newa (k := 30) (n1 := 151) (m1 := 80594) (p_70_10 _ _) sh_150 (by decide) (by decide) rfl rfl ?_
  refine h_putr (p_70_12 _ _) isI_7_0 sh_149 (by decide) ?_
  exact h_ret0 (p_70_15 _ _) h
def sx_83 : sT := pR (sx_82) 148 0 (some 149)
def sx_84 : sT := pR (sx_83) 151 0 (some 152)
theorem kc_47 {L : Nat} {xs : Nat → Int32} {d : Nat} {K : Option Int32 → Nat → Nat → sT → Prop} (h : K none 153 85556 sx_84) : tH L xs 152 80596 (d + 0) 70 0 [.ref 151, .int (4960 : Int32)] [] sx_83 K := by
  refine h_aload (p_70_0 _ _) rfl ?_
  refine h_init (p_70_1 _ _) (Nat.le_of_ble_eq_true rfl) ?_
  refine h_aload (p_70_4 _ _) rfl ?_
  refine h_iload (p_70_5 _ _) rfl ?_
  refine h_push (p_70_6 _ _) ?_
  refine h_mm (w := (4960 : Int32)) (p_70_7 _ _) (Nat.le_of_ble_eq_true rfl) (by decide) ?_
  refine h_newa (k := 4960) (n1 := 153) (m1 := 85556) (p_70_10 _ _) sh_152 (by decide) (by decide) rfl rfl ?_
  refine h_putr (p_70_12 _ _) isI_7_0 sh_151 (by decide) ?_
  exact h_ret0 (p_70_15 _ _) h
def sx_85 : sT := pR (pR (pR (pR (pR (sx_84) 148 1 (some 151)) 148 2 (some 153)) 148 3 (some 154)) 148 4 (some 155)) 148 5 (some 156)
theorem kc_48 {L : Nat} {xs : Nat → Int32} {d : Nat} {K : Option Int32 → Nat → Nat → sT → Prop} (h : K none 157 86735 sx_85) : tH L xs 149 80562 (d + 1) 38 0 [.ref 148] [] sx_81 K := by
  refine h_aload (p_38_0 _ _) rfl ?_
  refine h_init (p_38_1 _ _) (Nat.le_of_ble_eq_true rfl) ?_
  refine h_aload (p_38_4 _ _) rfl ?_
  refine h_new (n1 := 150) (m1 := 80564) (p_38_5 _ _) sh_149 fl_7 rfl rfl ?_
  refine h_dup (p_38_8 _ _) ?_
  refine h_push (p_38_9 _ _) ?_
  refine h_call (z := 70) (i := 149) (as := [.int (30 : Int32)]) (rest := [.ref 149, .ref 148]) (p_38_11 _ _) mK_70 mL_70 rfl rfl (Nat.le_of_ble_eq_true rfl) rfl (Nat.le_of_ble_eq_true rfl) sh_149 (kc_46 (d := d + 0) ⟨rfl, ?_⟩)
  refine h_putr (p_38_14 _ _) isI_5_0 sh_148 (by decide) ?_
  refine h_aload (p_38_17 _ _) rfl ?_
  refine h_new (n1 := 152) (m1 := 80596) (p_38_18 _ _) sh_151 fl_7 rfl rfl ?_
  refine h_dup (p_38_21 _ _) ?_
  refine h_push (p_38_22 _ _) ?_
  refine h_call (z := 70) (i := 151) (as := [.int (4960 : Int32)]) (rest := [.ref 151, .ref 148]) (p_38_25 _ _) mK_70 mL_70 rfl rfl (Nat.le_of_ble_eq_true rfl) rfl (Nat.le_of_ble_eq_true rfl) sh_151 (kc_47 (d := d + 0) ⟨rfl, ?_⟩)
  refine h_putr (p_38_28 _ _) isI_5_1 sh_148 (by decide) ?_
  refine h_aload (p_38_31 _ _) rfl ?_
  refine h_push (p_38_32 _ _) ?_
  refine h_newa (k := 31) (n1 := 154) (m1 := 85587) (p_38_34 _ _) sh_153 (by decide) (by decide) rfl rfl ?_
  refine h_putr (p_38_36 _ _) isI_5_2 sh_148 (by decide) ?_
  refine h_aload (p_38_39 _ _) rfl ?_
  refine h_push (p_38_40 _ _) ?_
  refine h_newa (k := 93) (n1 := 155) (m1 := 85680) (p_38_42 _ _) sh_154 (by decide) (by decide) rfl rfl ?_
  refine h_putr (p_38_44 _ _) isI_5_3 sh_148 (by decide) ?_
  refine h_aload (p_38_47 _ _) rfl ?_
  refine h_push (p_38_48 _ _) ?_
  refine h_newa (k := 94) (n1 := 156) (m1 := 85774) (p_38_50 _ _) sh_155 (by decide) (by decide) rfl rfl ?_
  refine h_putr (p_38_52 _ _) isI_5_4 sh_148 (by decide) ?_
  refine h_aload (p_38_55 _ _) rfl ?_
  refine h_push (p_38_56 _ _) ?_
  refine h_newa (k := 961) (n1 := 157) (m1 := 86735) (p_38_59 _ _) sh_156 (by decide) (by decide) rfl rfl ?_
  refine h_putr (p_38_61 _ _) isI_5_5 sh_148 (by decide) ?_
  exact h_ret0 (p_38_64 _ _) h
def sx_86 : sT := pR (sx_85) 147 0 (some 148)
def sx_87 : sT := pR (sx_86) 158 0 (some 159)
theorem kc_49 {L : Nat} {xs : Nat → Int32} {d : Nat} {K : Option Int32 → Nat → Nat → sT → Prop} (h : K none 160 86778 sx_87) : tH L xs 159 86748 (d + 0) 70 0 [.ref 158, .int (30 : Int32)] [] sx_86 K := by
  refine h_aload (p_70_0 _ _) rfl ?_
  refine h_init (p_70_1 _ _) (Nat.le_of_ble_eq_true rfl) ?_
  refine h_aload (p_70_4 _ _) rfl ?_
  refine h_iload (p_70_5 _ _) rfl ?_
  refine h_push (p_70_6 _ _) ?_
  refine h_mm (w := (30 : Int32)) (p_70_7 _ _) (Nat.le_of_ble_eq_true rfl) (by decide) ?_
  refine h_newa (k := 30) (n1 := 160) (m1 := 86778) (p_70_10 _ _) sh_159 (by decide) (by decide) rfl rfl ?_
  refine h_putr (p_70_12 _ _) isI_7_0 sh_158 (by decide) ?_
  exact h_ret0 (p_70_15 _ _) h
def sx_88 : sT := pR (sx_87) 157 0 (some 158)
def sx_89 : sT := pR (sx_88) 160 0 (some 161)
theorem kc_50 {L : Nat} {xs : Nat → Int32} {d : Nat} {K : Option Int32 → Nat → Nat → sT → Prop} (h : K none 162 91740 sx_89) : tH L xs 161 86780 (d + 0) 70 0 [.ref 160, .int (4960 : Int32)] [] sx_88 K := by
  refine h_aload (p_70_0 _ _) rfl ?_
  refine h_init (p_70_1 _ _) (Nat.le_of_ble_eq_true rfl) ?_
  refine h_aload (p_70_4 _ _) rfl ?_
  refine h_iload (p_70_5 _ _) rfl ?_
  refine h_push (p_70_6 _ _) ?_
  refine h_mm (w := (4960 : Int32)) (p_70_7 _ _) (Nat.le_of_ble_eq_true rfl) (by decide) ?_
  refine h_newa (k := 4960) (n1 := 162) (m1 := 91740) (p_70_10 _ _) sh_161 (by decide) (by decide) rfl rfl ?_
  refine h_putr (p_70_12 _ _) isI_7_0 sh_160 (by decide) ?_
  exact h_ret0 (p_70_15 _ _) h
def sx_90 : sT := pR (pR (pR (pR (pR (sx_89) 157 1 (some 160)) 157 2 (some 162)) 157 3 (some 163)) 157 4 (some 164)) 157 5 (some 165)
theorem kc_51 {L : Nat} {xs : Nat → Int32} {d : Nat} {K : Option Int32 → Nat → Nat → sT → Prop} (h : K none 166 92919 sx_90) : tH L xs 158 86746 (d + 1) 38 0 [.ref 157] [] sx_86 K := by
  refine h_aload (p_38_0 _ _) rfl ?_
  refine h_init (p_38_1 _ _) (Nat.le_of_ble_eq_true rfl) ?_
  refine h_aload (p_38_4 _ _) rfl ?_
  refine h_new (n1 := 159) (m1 := 86748) (p_38_5 _ _) sh_158 fl_7 rfl rfl ?_
  refine h_dup (p_38_8 _ _) ?_
  refine h_push (p_38_9 _ _) ?_
  refine h_call (z := 70) (i := 158) (as := [.int (30 : Int32)]) (rest := [.ref 158, .ref 157]) (p_38_11 _ _) mK_70 mL_70 rfl rfl (Nat.le_of_ble_eq_true rfl) rfl (Nat.le_of_ble_eq_true rfl) sh_158 (kc_49 (d := d + 0) ⟨rfl, ?_⟩)
  refine h_putr (p_38_14 _ _) isI_5_0 sh_157 (by decide) ?_
  refine h_aload (p_38_17 _ _) rfl ?_
  refine h_new (n1 := 161) (m1 := 86780) (p_38_18 _ _) sh_160 fl_7 rfl rfl ?_
  refine h_dup (p_38_21 _ _) ?_
  refine h_push (p_38_22 _ _) ?_
  refine h_call (z := 70) (i := 160) (as := [.int (4960 : Int32)]) (rest := [.ref 160, .ref 157]) (p_38_25 _ _) mK_70 mL_70 rfl rfl (Nat.le_of_ble_eq_true rfl) rfl (Nat.le_of_ble_eq_true rfl) sh_160 (kc_50 (d := d + 0) ⟨rfl, ?_⟩)
  refine h_putr (p_38_28 _ _) isI_5_1 sh_157 (by decide) ?_
  refine h_aload (p_38_31 _ _) rfl ?_
  refine h_push (p_38_32 _ _) ?_
  refine h_newa (k := 31) (n1 := 163) (m1 := 91771) (p_38_34 _ _) sh_162 (by decide) (by decide) rfl rfl ?_
  refine h_putr (p_38_36 _ _) isI_5_2 sh_157 (by decide) ?_
  refine h_aload (p_38_39 _ _) rfl ?_
  refine h_push (p_38_40 _ _) ?_
  refine h_newa (k := 93) (n1 := 164) (m1 := 91864) (p_38_42 _ _) sh_163 (by decide) (by decide) rfl rfl ?_
  refine h_putr (p_38_44 _ _) isI_5_3 sh_157 (by decide) ?_
  refine h_aload (p_38_47 _ _) rfl ?_
  refine h_push (p_38_48 _ _) ?_
  refine h_newa (k := 94) (n1 := 165) (m1 := 91958) (p_38_50 _ _) sh_164 (by decide) (by decide) rfl rfl ?_
  refine h_putr (p_38_52 _ _) isI_5_4 sh_157 (by decide) ?_
  refine h_aload (p_38_55 _ _) rfl ?_
  refine h_push (p_38_56 _ _) ?_
  refine h_newa (k := 961) (n1 := 166) (m1 := 92919) (p_38_59 _ _) sh_165 (by decide) (by decide) rfl rfl ?_
  refine h_putr (p_38_61 _ _) isI_5_5 sh_157 (by decide) ?_
  exact h_ret0 (p_38_64 _ _) h
def sx_91 : sT := pR (pR (pR (sx_90) 147 1 (some 157)) 144 1 (some 147)) 144 2 (some 166)
def sx_92 : sT := pR (pR (pR (pR (pR (pR (sx_91) 167 0 (some 168)) 167 1 (some 169)) 167 2 (some 170)) 167 3 (some 171)) 167 4 (some 172)) 167 5 (some 173)
def sx_93 : sT := pR (sx_92) 174 0 (some 175)
theorem kc_52 {L : Nat} {xs : Nat → Int32} {d : Nat} {K : Option Int32 → Nat → Nat → sT → Prop} (h : K none 176 104037 sx_93) : tH L xs 175 103737 (d + 0) 70 0 [.ref 174, .int (300 : Int32)] [] sx_92 K := by
  refine h_aload (p_70_0 _ _) rfl ?_
  refine h_init (p_70_1 _ _) (Nat.le_of_ble_eq_true rfl) ?_
  refine h_aload (p_70_4 _ _) rfl ?_
  refine h_iload (p_70_5 _ _) rfl ?_
  refine h_push (p_70_6 _ _) ?_
  refine h_mm (w := (300 : Int32)) (p_70_7 _ _) (Nat.le_of_ble_eq_true rfl) (by decide) ?_
  refine h_newa (k := 300) (n1 := 176) (m1 := 104037) (p_70_10 _ _) sh_175 (by decide) (by decide) rfl rfl ?_
  refine h_putr (p_70_12 _ _) isI_7_0 sh_174 (by decide) ?_
  exact h_ret0 (p_70_15 _ _) h
def sx_94 : sT := pR (pR (sx_93) 167 6 (some 174)) 167 7 (some 176)
theorem kc_53 {L : Nat} {xs : Nat → Int32} {d : Nat} {K : Option Int32 → Nat → Nat → sT → Prop} (h : K none 177 104337 sx_94) : tH L xs 168 92935 (d + 1) 8 0 [.ref 167] [] sx_91 K := by
  refine h_aload (p_8_0 _ _) rfl ?_
  refine h_init (p_8_1 _ _) (Nat.le_of_ble_eq_true rfl) ?_
  refine h_aload (p_8_4 _ _) rfl ?_
  refine h_push (p_8_5 _ _) ?_
  refine h_newa (k := 300) (n1 := 169) (m1 := 93235) (p_8_8 _ _) sh_168 (by decide) (by decide) rfl rfl ?_
  refine h_putr (p_8_10 _ _) isI_1_0 sh_167 (by decide) ?_
  refine h_aload (p_8_13 _ _) rfl ?_
  refine h_push (p_8_14 _ _) ?_
  refine h_newa (k := 300) (n1 := 170) (m1 := 93535) (p_8_17 _ _) sh_169 (by decide) (by decide) rfl rfl ?_
  refine h_putr (p_8_19 _ _) isI_1_1 sh_167 (by decide) ?_
  refine h_aload (p_8_22 _ _) rfl ?_
  refine h_push (p_8_23 _ _) ?_
  refine h_newa (k := 300) (n1 := 171) (m1 := 93835) (p_8_26 _ _) sh_170 (by decide) (by decide) rfl rfl ?_
  refine h_putr (p_8_28 _ _) isI_1_2 sh_167 (by decide) ?_
  refine h_aload (p_8_31 _ _) rfl ?_
  refine h_push (p_8_32 _ _) ?_
  refine h_newa (k := 300) (n1 := 172) (m1 := 94135) (p_8_35 _ _) sh_171 (by decide) (by decide) rfl rfl ?_
  refine h_putr (p_8_37 _ _) isI_1_3 sh_167 (by decide) ?_
  refine h_aload (p_8_40 _ _) rfl ?_
  refine h_push (p_8_41 _ _) ?_
  refine h_newa (k := 300) (n1 := 173) (m1 := 94435) (p_8_44 _ _) sh_172 (by decide) (by decide) rfl rfl ?_
  refine h_putr (p_8_46 _ _) isI_1_4 sh_167 (by decide) ?_
  refine h_aload (p_8_49 _ _) rfl ?_
  refine h_push (p_8_50 _ _) ?_
  refine h_newa (k := 9300) (n1 := 174) (m1 := 103735) (p_8_53 _ _) sh_173 (by decide) (by decide) rfl rfl ?_
  refine h_putr (p_8_55 _ _) isI_1_5 sh_167 (by decide) ?_
  refine h_aload (p_8_58 _ _) rfl ?_
  refine h_new (n1 := 175) (m1 := 103737) (p_8_59 _ _) sh_174 fl_7 rfl rfl ?_
  refine h_dup (p_8_62 _ _) ?_
  refine h_push (p_8_63 _ _) ?_
  refine h_call (z := 70) (i := 174) (as := [.int (300 : Int32)]) (rest := [.ref 174, .ref 167]) (p_8_66 _ _) mK_70 mL_70 rfl rfl (Nat.le_of_ble_eq_true rfl) rfl (Nat.le_of_ble_eq_true rfl) sh_174 (kc_52 (d := d + 0) ⟨rfl, ?_⟩)
  refine h_putr (p_8_69 _ _) isI_1_6 sh_167 (by decide) ?_
  refine h_aload (p_8_72 _ _) rfl ?_
  refine h_push (p_8_73 _ _) ?_
  refine h_newa (k := 300) (n1 := 177) (m1 := 104337) (p_8_76 _ _) sh_176 (by decide) (by decide) rfl rfl ?_
  refine h_putr (p_8_78 _ _) isI_1_7 sh_167 (by decide) ?_
  exact h_ret0 (p_8_81 _ _) h
def sx_95 : sT := pV (pR (sx_94) 144 3 (some 167)) 144 4 (-1 : Int32)
def sx_96 : sT := pR (sx_95) 177 0 (some 178)
theorem kc_54 {L : Nat} {xs : Nat → Int32} {d : Nat} {K : Option Int32 → Nat → Nat → sT → Prop} (h : K none 179 104369 sx_96) : tH L xs 178 104339 (d + 0) 70 0 [.ref 177, .int (30 : Int32)] [] sx_95 K := by
  refine h_aload (p_70_0 _ _) rfl ?_
  refine h_init (p_70_1 _ _) (Nat.le_of_ble_eq_true rfl) ?_
  refine h_aload (p_70_4 _ _) rfl ?_
  refine h_iload (p_70_5 _ _) rfl ?_
  refine h_push (p_70_6 _ _) ?_
  refine h_mm (w := (30 : Int32)) (p_70_7 _ _) (Nat.le_of_ble_eq_true rfl) (by decide) ?_
  refine h_newa (k := 30) (n1 := 179) (m1 := 104369) (p_70_10 _ _) sh_178 (by decide) (by decide) rfl rfl ?_
  refine h_putr (p_70_12 _ _) isI_7_0 sh_177 (by decide) ?_
  exact h_ret0 (p_70_15 _ _) h
def sx_97 : sT := pR (sx_96) 166 0 (some 177)
def sx_98 : sT := pR (sx_97) 179 0 (some 180)
theorem kc_55 {L : Nat} {xs : Nat → Int32} {d : Nat} {K : Option Int32 → Nat → Nat → sT → Prop} (h : K none 181 104401 sx_98) : tH L xs 180 104371 (d + 0) 70 0 [.ref 179, .int (30 : Int32)] [] sx_97 K := by
  refine h_aload (p_70_0 _ _) rfl ?_
  refine h_init (p_70_1 _ _) (Nat.le_of_ble_eq_true rfl) ?_
  refine h_aload (p_70_4 _ _) rfl ?_
  refine h_iload (p_70_5 _ _) rfl ?_
  refine h_push (p_70_6 _ _) ?_
  refine h_mm (w := (30 : Int32)) (p_70_7 _ _) (Nat.le_of_ble_eq_true rfl) (by decide) ?_
  refine h_newa (k := 30) (n1 := 181) (m1 := 104401) (p_70_10 _ _) sh_180 (by decide) (by decide) rfl rfl ?_
  refine h_putr (p_70_12 _ _) isI_7_0 sh_179 (by decide) ?_
  exact h_ret0 (p_70_15 _ _) h
def sx_99 : sT := pR (sx_98) 166 1 (some 179)
def sx_100 : sT := pR (sx_99) 181 0 (some 182)
theorem kc_56 {L : Nat} {xs : Nat → Int32} {d : Nat} {K : Option Int32 → Nat → Nat → sT → Prop} (h : K none 183 104433 sx_100) : tH L xs 182 104403 (d + 0) 70 0 [.ref 181, .int (30 : Int32)] [] sx_99 K := by
  refine h_aload (p_70_0 _ _) rfl ?_
  refine h_init (p_70_1 _ _) (Nat.le_of_ble_eq_true rfl) ?_
  refine h_aload (p_70_4 _ _) rfl ?_
  refine h_iload (p_70_5 _ _) rfl ?_
  refine h_push (p_70_6 _ _) ?_
  refine h_mm (w := (30 : Int32)) (p_70_7 _ _) (Nat.le_of_ble_eq_true rfl) (by decide) ?_
  refine h_newa (k := 30) (n1 := 183) (m1 := 104433) (p_70_10 _ _) sh_182 (by decide) (by decide) rfl rfl ?_
  refine h_putr (p_70_12 _ _) isI_7_0 sh_181 (by decide) ?_
  exact h_ret0 (p_70_15 _ _) h
def sx_101 : sT := pR (sx_100) 166 2 (some 181)
def sx_102 : sT := pR (sx_101) 183 0 (some 184)
theorem kc_57 {L : Nat} {xs : Nat → Int32} {d : Nat} {K : Option Int32 → Nat → Nat → sT → Prop} (h : K none 185 104465 sx_102) : tH L xs 184 104435 (d + 0) 70 0 [.ref 183, .int (30 : Int32)] [] sx_101 K := by
  refine h_aload (p_70_0 _ _) rfl ?_
  refine h_init (p_70_1 _ _) (Nat.le_of_ble_eq_true rfl) ?_
  refine h_aload (p_70_4 _ _) rfl ?_
  refine h_iload (p_70_5 _ _) rfl ?_
  refine h_push (p_70_6 _ _) ?_
  refine h_mm (w := (30 : Int32)) (p_70_7 _ _) (Nat.le_of_ble_eq_true rfl) (by decide) ?_
  refine h_newa (k := 30) (n1 := 185) (m1 := 104465) (p_70_10 _ _) sh_184 (by decide) (by decide) rfl rfl ?_
  refine h_putr (p_70_12 _ _) isI_7_0 sh_183 (by decide) ?_
  exact h_ret0 (p_70_15 _ _) h
def sx_103 : sT := pR (sx_102) 166 3 (some 183)
theorem kc_58 {L : Nat} {xs : Nat → Int32} {d : Nat} {K : Option Int32 → Nat → Nat → sT → Prop} (h : K none 185 104465 sx_103) : tH L xs 145 80487 (d + 2) 29 0 [.ref 144, .null] [] sx_79 K := by
  refine h_aload (p_29_0 _ _) rfl ?_
  refine h_init (p_29_1 _ _) (Nat.le_of_ble_eq_true rfl) ?_
  refine h_aload (p_29_4 _ _) rfl ?_
  refine h_new (n1 := 146) (m1 := 80489) (p_29_5 _ _) sh_145 fl_7 rfl rfl ?_
  refine h_dup (p_29_8 _ _) ?_
  refine h_push (p_29_9 _ _) ?_
  refine h_call (z := 70) (i := 145) (as := [.int (60 : Int32)]) (rest := [.ref 145, .ref 144]) (p_29_11 _ _) mK_70 mL_70 rfl rfl (Nat.le_of_ble_eq_true rfl) rfl (Nat.le_of_ble_eq_true rfl) sh_145 (kc_45 (d := d + 1) ⟨rfl, ?_⟩)
  refine h_putr (p_29_14 _ _) isI_3_0 sh_144 (by decide) ?_
  refine h_aload (p_29_17 _ _) rfl ?_
  refine h_push (p_29_18 _ _) ?_
  refine h_anew (k := 2) (n1 := 148) (m1 := 80551) (p_29_19 _ _) sh_147 (by decide) (by decide) rfl rfl ?_
  refine h_dup (p_29_22 _ _) ?_
  refine h_push (p_29_23 _ _) ?_
  refine h_new (n1 := 149) (m1 := 80562) (p_29_24 _ _) sh_148 fl_5 rfl rfl ?_
  refine h_dup (p_29_27 _ _) ?_
  refine h_call (z := 38) (i := 148) (as := []) (rest := [.ref 148, .int (0 : Int32), .ref 147, .ref 147, .ref 144]) (p_29_28 _ _) mK_38 mL_38 rfl rfl (Nat.le_of_ble_eq_true rfl) rfl (Nat.le_of_ble_eq_true rfl) sh_148 (kc_48 (d := d + 0) ⟨rfl, ?_⟩)
  refine h_aast (k := 0) (p_29_31 _ _) sh_147 sh_148 (by decide) (by decide) (by decide) ?_
  refine h_dup (p_29_32 _ _) ?_
  refine h_push (p_29_33 _ _) ?_
  refine h_new (n1 := 158) (m1 := 86746) (p_29_34 _ _) sh_157 fl_5 rfl rfl ?_
  refine h_dup (p_29_37 _ _) ?_
  refine h_call (z := 38) (i := 157) (as := []) (rest := [.ref 157, .int (1 : Int32), .ref 147, .ref 147, .ref 144]) (p_29_38 _ _) mK_38 mL_38 rfl rfl (Nat.le_of_ble_eq_true rfl) rfl (Nat.le_of_ble_eq_true rfl) sh_157 (kc_51 (d := d + 0) ⟨rfl, ?_⟩)
  refine h_aast (k := 1) (p_29_41 _ _) sh_147 sh_157 (by decide) (by decide) (by decide) ?_
  refine h_putr (p_29_42 _ _) isI_3_1 sh_144 (by decide) ?_
  refine h_aload (p_29_45 _ _) rfl ?_
  refine h_push (p_29_46 _ _) ?_
  refine h_anew (k := 4) (n1 := 167) (m1 := 92923) (p_29_47 _ _) sh_166 (by decide) (by decide) rfl rfl ?_
  refine h_putr (p_29_50 _ _) isI_3_2 sh_144 (by decide) ?_
  refine h_aload (p_29_53 _ _) rfl ?_
  refine h_new (n1 := 168) (m1 := 92935) (p_29_54 _ _) sh_167 fl_1 rfl rfl ?_
  refine h_dup (p_29_57 _ _) ?_
  refine h_call (z := 8) (i := 167) (as := []) (rest := [.ref 167, .ref 144]) (p_29_58 _ _) mK_8 mL_8 rfl rfl (Nat.le_of_ble_eq_true rfl) rfl (Nat.le_of_ble_eq_true rfl) sh_167 (kc_53 (d := d + 0) ⟨rfl, ?_⟩)
  refine h_putr (p_29_61 _ _) isI_3_3 sh_144 (by decide) ?_
  refine h_aload (p_29_64 _ _) rfl ?_
  refine h_push (p_29_65 _ _) ?_
  refine h_puti (p_29_66 _ _) isI_3_4 sh_144 (by decide) ?_
  refine h_push (p_29_69 _ _) ?_
  refine h_istore (ls1 := [.ref 144, .int (0 : Int32)]) (p_29_70 _ _) (Nat.le_of_ble_eq_true rfl) rfl rfl ?_
  refine h_iload (p_29_71 _ _) rfl ?_
  refine h_push (p_29_72 _ _) ?_
  refine h_cmpF (p_29_73 _ _) (by decide) ?_
  refine h_aload (p_29_76 _ _) rfl ?_
  refine h_getr (a := 166) (p_29_77 _ _) isI_3_2 sh_144 (by decide +kernel) ?_
  refine h_iload (p_29_80 _ _) rfl ?_
  refine h_new (n1 := 178) (m1 := 104339) (p_29_81 _ _) sh_177 fl_7 rfl rfl ?_
  refine h_dup (p_29_84 _ _) ?_
  refine h_push (p_29_85 _ _) ?_
  refine h_call (z := 70) (i := 177) (as := [.int (30 : Int32)]) (rest := [.ref 177, .int (0 : Int32), .ref 166]) (p_29_87 _ _) mK_70 mL_70 rfl rfl (Nat.le_of_ble_eq_true rfl) rfl (Nat.le_of_ble_eq_true rfl) sh_177 (kc_54 (d := d + 1) ⟨rfl, ?_⟩)
  refine h_aast (k := 0) (p_29_90 _ _) sh_166 sh_177 (by decide) (by decide) (by decide) ?_
  refine h_iinc (x1 := (1 : Int32)) (ls1 := [.ref 144, .int (1 : Int32)]) (p_29_91 _ _) rfl rfl (by decide) rfl ?_
  refine h_goto (p_29_94 _ _) ?_
  refine h_iload (p_29_71 _ _) rfl ?_
  refine h_push (p_29_72 _ _) ?_
  refine h_cmpF (p_29_73 _ _) (by decide) ?_
  refine h_aload (p_29_76 _ _) rfl ?_
  refine h_getr (a := 166) (p_29_77 _ _) isI_3_2 sh_144 (by decide +kernel) ?_
  refine h_iload (p_29_80 _ _) rfl ?_
  refine h_new (n1 := 180) (m1 := 104371) (p_29_81 _ _) sh_179 fl_7 rfl rfl ?_
  refine h_dup (p_29_84 _ _) ?_
  refine h_push (p_29_85 _ _) ?_
  refine h_call (z := 70) (i := 179) (as := [.int (30 : Int32)]) (rest := [.ref 179, .int (1 : Int32), .ref 166]) (p_29_87 _ _) mK_70 mL_70 rfl rfl (Nat.le_of_ble_eq_true rfl) rfl (Nat.le_of_ble_eq_true rfl) sh_179 (kc_55 (d := d + 1) ⟨rfl, ?_⟩)
  refine h_aast (k := 1) (p_29_90 _ _) sh_166 sh_179 (by decide) (by decide) (by decide) ?_
  refine h_iinc (x1 := (2 : Int32)) (ls1 := [.ref 144, .int (2 : Int32)]) (p_29_91 _ _) rfl rfl (by decide) rfl ?_
  refine h_goto (p_29_94 _ _) ?_
  refine h_iload (p_29_71 _ _) rfl ?_
  refine h_push (p_29_72 _ _) ?_
  refine h_cmpF (p_29_73 _ _) (by decide) ?_
  refine h_aload (p_29_76 _ _) rfl ?_
  refine h_getr (a := 166) (p_29_77 _ _) isI_3_2 sh_144 (by decide +kernel) ?_
  refine h_iload (p_29_80 _ _) rfl ?_
  refine h_new (n1 := 182) (m1 := 104403) (p_29_81 _ _) sh_181 fl_7 rfl rfl ?_
  refine h_dup (p_29_84 _ _) ?_
  refine h_push (p_29_85 _ _) ?_
  refine h_call (z := 70) (i := 181) (as := [.int (30 : Int32)]) (rest := [.ref 181, .int (2 : Int32), .ref 166]) (p_29_87 _ _) mK_70 mL_70 rfl rfl (Nat.le_of_ble_eq_true rfl) rfl (Nat.le_of_ble_eq_true rfl) sh_181 (kc_56 (d := d + 1) ⟨rfl, ?_⟩)
  refine h_aast (k := 2) (p_29_90 _ _) sh_166 sh_181 (by decide) (by decide) (by decide) ?_
  refine h_iinc (x1 := (3 : Int32)) (ls1 := [.ref 144, .int (3 : Int32)]) (p_29_91 _ _) rfl rfl (by decide) rfl ?_
  refine h_goto (p_29_94 _ _) ?_
  refine h_iload (p_29_71 _ _) rfl ?_
  refine h_push (p_29_72 _ _) ?_
  refine h_cmpF (p_29_73 _ _) (by decide) ?_
  refine h_aload (p_29_76 _ _) rfl ?_
  refine h_getr (a := 166) (p_29_77 _ _) isI_3_2 sh_144 (by decide +kernel) ?_
  refine h_iload (p_29_80 _ _) rfl ?_
  refine h_new (n1 := 184) (m1 := 104435) (p_29_81 _ _) sh_183 fl_7 rfl rfl ?_
  refine h_dup (p_29_84 _ _) ?_
  refine h_push (p_29_85 _ _) ?_
  refine h_call (z := 70) (i := 183) (as := [.int (30 : Int32)]) (rest := [.ref 183, .int (3 : Int32), .ref 166]) (p_29_87 _ _) mK_70 mL_70 rfl rfl (Nat.le_of_ble_eq_true rfl) rfl (Nat.le_of_ble_eq_true rfl) sh_183 (kc_57 (d := d + 1) ⟨rfl, ?_⟩)
  refine h_aast (k := 3) (p_29_90 _ _) sh_166 sh_183 (by decide) (by decide) (by decide) ?_
  refine h_iinc (x1 := (4 : Int32)) (ls1 := [.ref 144, .int (4 : Int32)]) (p_29_91 _ _) rfl rfl (by decide) rfl ?_
  refine h_goto (p_29_94 _ _) ?_
  refine h_iload (p_29_71 _ _) rfl ?_
  refine h_push (p_29_72 _ _) ?_
  refine h_cmpT (p_29_73 _ _) (by decide) ?_
  exact h_ret0 (p_29_97 _ _) h
def sx_104 : sT := pR (pR (pR (sx_103) 102 1 (some 144)) 0 9 (some 102)) 0 10 (some 185)
def sx_105 : sT := pV (sx_104) 66 1 (0 : Int32)
theorem kc_59 {L : Nat} {xs : Nat → Int32} {d : Nat} {K : Option Int32 → Nat → Nat → sT → Prop} (h : K none 186 104467 sx_105) : tH L xs 186 104467 (d + 0) 71 0 [.ref 66] [] sx_104 K := by
  refine h_aload (p_71_0 _ _) rfl ?_
  refine h_push (p_71_1 _ _) ?_
  refine h_puti (p_71_2 _ _) isI_7_1 sh_66 (by decide) ?_
  exact h_ret0 (p_71_5 _ _) h
def sx_106 : sT := pV (sx_105) 68 1 (0 : Int32)
theorem kc_60 {L : Nat} {xs : Nat → Int32} {d : Nat} {K : Option Int32 → Nat → Nat → sT → Prop} (h : K none 186 104467 sx_106) : tH L xs 186 104467 (d + 0) 71 0 [.ref 68] [] sx_105 K := by
  refine h_aload (p_71_0 _ _) rfl ?_
  refine h_push (p_71_1 _ _) ?_
  refine h_puti (p_71_2 _ _) isI_7_1 sh_68 (by decide) ?_
  exact h_ret0 (p_71_5 _ _) h
def sx_107 : sT := pV (pV (pV (pV (pV (sx_106) 65 6 (0 : Int32)) 65 7 (-1 : Int32)) 65 8 (0 : Int32)) 65 9 (0 : Int32)) 65 10 (0 : Int32)
theorem kc_61 {L : Nat} {xs : Nat → Int32} {d : Nat} {K : Option Int32 → Nat → Nat → sT → Prop} (h : K none 186 104467 sx_107) : tH L xs 186 104467 (d + 1) 39 0 [.ref 65] [] sx_104 K := by
  refine h_aload (p_39_0 _ _) rfl ?_
  refine h_getr (a := 66) (p_39_1 _ _) isI_5_0 sh_65 (by decide +kernel) ?_
  refine h_call (z := 71) (i := 66) (as := []) (rest := []) (p_39_4 _ _) mK_71 mL_71 rfl rfl (Nat.le_of_ble_eq_true rfl) rfl (Nat.le_of_ble_eq_true rfl) sh_66 (kc_59 (d := d + 0) ⟨rfl, ?_⟩)
  refine h_aload (p_39_7 _ _) rfl ?_
  refine h_getr (a := 68) (p_39_8 _ _) isI_5_1 sh_65 (by decide +kernel) ?_
  refine h_call (z := 71) (i := 68) (as := []) (rest := []) (p_39_11 _ _) mK_71 mL_71 rfl rfl (Nat.le_of_ble_eq_true rfl) rfl (Nat.le_of_ble_eq_true rfl) sh_68 (kc_60 (d := d + 0) ⟨rfl, ?_⟩)
  refine h_aload (p_39_14 _ _) rfl ?_
  refine h_push (p_39_15 _ _) ?_
  refine h_puti (p_39_16 _ _) isI_5_6 sh_65 (by decide) ?_
  refine h_aload (p_39_19 _ _) rfl ?_
  refine h_push (p_39_20 _ _) ?_
  refine h_puti (p_39_21 _ _) isI_5_7 sh_65 (by decide) ?_
  refine h_aload (p_39_24 _ _) rfl ?_
  refine h_push (p_39_25 _ _) ?_
  refine h_puti (p_39_26 _ _) isI_5_8 sh_65 (by decide) ?_
  refine h_aload (p_39_29 _ _) rfl ?_
  refine h_push (p_39_30 _ _) ?_
  refine h_puti (p_39_31 _ _) isI_5_9 sh_65 (by decide) ?_
  refine h_aload (p_39_34 _ _) rfl ?_
  refine h_push (p_39_35 _ _) ?_
  refine h_puti (p_39_36 _ _) isI_5_10 sh_65 (by decide) ?_
  exact h_ret0 (p_39_39 _ _) h
theorem kc_62 {L : Nat} {xs : Nat → Int32} {d : Nat} {K : Option Int32 → Nat → Nat → sT → Prop} (h : K (some (0 : Int32)) 186 104467 sx_107) : tH L xs 186 104467 (d + 0) 81 0 [.ref 1, .int (0 : Int32)] [] sx_107 K := by
  refine h_iload (p_81_0 _ _) rfl ?_
  refine h_ifF (p_81_1 _ _) (by decide) ?_
  refine h_iload (p_81_4 _ _) rfl ?_
  refine h_aload (p_81_5 _ _) rfl ?_
  refine h_geti (x := (5 : Int32)) (p_81_6 _ _) isI_8_7 sh_1 (by decide +kernel) ?_
  refine h_cmpF (p_81_9 _ _) (by decide) ?_
  refine h_aload (p_81_12 _ _) rfl ?_
  refine h_getr (a := 2) (p_81_13 _ _) isI_8_0 sh_1 (by decide +kernel) ?_
  refine h_iload (p_81_16 _ _) rfl ?_
  refine h_ald (k := 0) (x := (0 : Int32)) (p_81_17 _ _) sh_2 (by decide) (by decide) (by decide +kernel) ?_
  refine h_goto (p_81_18 _ _) ?_
  exact h_ret1 (p_81_22 _ _) h
def sx_108 : sT := pV (pV (sx_107) 67 0 (48 : Int32)) 66 1 (1 : Int32)
theorem kc_63 {L : Nat} {xs : Nat → Int32} {d : Nat} {K : Option Int32 → Nat → Nat → sT → Prop} (h : K none 186 104467 sx_108) : tH L xs 186 104467 (d + 0) 72 0 [.ref 66, .int (48 : Int32)] [] sx_107 K := by
  refine h_aload (p_72_0 _ _) rfl ?_
  refine h_geti (x := (0 : Int32)) (p_72_1 _ _) isI_7_1 sh_66 (by decide +kernel) ?_
  refine h_aload (p_72_4 _ _) rfl ?_
  refine h_getr (a := 67) (p_72_5 _ _) isI_7_0 sh_66 (by decide +kernel) ?_
  refine h_alen (x := (30 : Int32)) (p_72_8 _ _) sh_67 (by decide) ?_
  refine h_cmpF (p_72_9 _ _) (by decide) ?_
  refine h_aload (p_72_12 _ _) rfl ?_
  refine h_getr (a := 67) (p_72_13 _ _) isI_7_0 sh_66 (by decide +kernel) ?_
  refine h_aload (p_72_16 _ _) rfl ?_
  refine h_geti (x := (0 : Int32)) (p_72_17 _ _) isI_7_1 sh_66 (by decide +kernel) ?_
  refine h_iload (p_72_20 _ _) rfl ?_
  refine h_ast (k := 0) (p_72_21 _ _) sh_67 (by decide) (by decide) (by decide) ?_
  refine h_aload (p_72_22 _ _) rfl ?_
  refine h_dup (p_72_23 _ _) ?_
  refine h_geti (x := (0 : Int32)) (p_72_24 _ _) isI_7_1 sh_66 (by decide +kernel) ?_
  refine h_push (p_72_27 _ _) ?_
  refine h_bin (w := (1 : Int32)) (p_72_28 _ _) (by decide) ?_
  refine h_puti (p_72_29 _ _) isI_7_1 sh_66 (by decide) ?_
  exact h_ret0 (p_72_32 _ _) h
theorem kc_64 {L : Nat} {xs : Nat → Int32} {d : Nat} {K : Option Int32 → Nat → Nat → sT → Prop} (h : K none 186 104467 sx_108) : tH L xs 186 104467 (d + 1) 94 0 [.ref 1, .int (0 : Int32), .int (0 : Int32), .ref 66, .int (0 : Int32), .null, .null] [] sx_107 K := by
  refine h_iload (p_94_0 _ _) rfl ?_
  refine h_push (p_94_2 _ _) ?_
  refine h_cmpT (p_94_4 _ _) (by decide) ?_
  refine h_aload (p_94_8 _ _) rfl ?_
  refine h_iload (p_94_9 _ _) rfl ?_
  refine h_callr (x := (0 : Int32)) (z := 81) (i := 1) (as := [.int (0 : Int32)]) (rest := []) (p_94_10 _ _) mK_81 mL_81 rfl rfl (Nat.le_of_ble_eq_true rfl) rfl (Nat.le_of_ble_eq_true rfl) sh_1 (kc_62 (d := d + 0) ⟨rfl, ?_⟩)
  refine h_istore (ls1 := [.ref 1, .int (0 : Int32), .int (0 : Int32), .ref 66, .int (0 : Int32), .int (0 : Int32), .null]) (p_94_13 _ _) (Nat.le_of_ble_eq_true rfl) rfl rfl ?_
  refine h_iload (p_94_15 _ _) rfl ?_
  refine h_ifF (p_94_17 _ _) (by decide) ?_
  refine h_aload (p_94_20 _ _) rfl ?_
  refine h_iload (p_94_21 _ _) rfl ?_
  refine h_push (p_94_22 _ _) ?_
  refine h_cmpF (p_94_23 _ _) (by decide) ?_
  refine h_push (p_94_26 _ _) ?_
  refine h_iload (p_94_28 _ _) rfl ?_
  refine h_bin (w := (48 : Int32)) (p_94_29 _ _) (by decide) ?_
  refine h_goto (p_94_30 _ _) ?_
  refine h_call (z := 72) (i := 66) (as := [.int (48 : Int32)]) (rest := []) (p_94_39 _ _) mK_72 mL_72 rfl rfl (Nat.le_of_ble_eq_true rfl) rfl (Nat.le_of_ble_eq_true rfl) sh_66 (kc_63 (d := d + 0) ⟨rfl, ?_⟩)
  refine h_goto (p_94_42 _ _) ?_
  exact h_ret0 (p_94_131 _ _) h
theorem kc_65 {L : Nat} {xs : Nat → Int32} {d : Nat} {K : Option Int32 → Nat → Nat → sT → Prop} (h : K none 186 104467 sx_108) : tH L xs 186 104467 (d + 2) 93 0 [.ref 1, .int (0 : Int32), .int (0 : Int32), .ref 66] [] sx_107 K := by
  refine h_aload (p_93_0 _ _) rfl ?_
  refine h_iload (p_93_1 _ _) rfl ?_
  refine h_iload (p_93_2 _ _) rfl ?_
  refine h_aload (p_93_3 _ _) rfl ?_
  refine h_push (p_93_4 _ _) ?_
  refine h_call (z := 94) (i := 1) (as := [.int (0 : Int32), .int (0 : Int32), .ref 66, .int (0 : Int32)]) (rest := []) (p_93_5 _ _) mK_94 mL_94 rfl rfl (Nat.le_of_ble_eq_true rfl) rfl (Nat.le_of_ble_eq_true rfl) sh_1 (kc_64 (d := d + 0) ⟨rfl, ?_⟩)
  exact h_ret0 (p_93_8 _ _) h
theorem kc_66 {L : Nat} {xs : Nat → Int32} {d : Nat} {K : Option Int32 → Nat → Nat → sT → Prop} (h : K (some (-1 : Int32)) 186 104467 sx_108) : tH L xs 186 104467 (d + 0) 84 0 [.ref 1, .int (0 : Int32)] [] sx_108 K := by
  refine h_iload (p_84_0 _ _) rfl ?_
  refine h_ifF (p_84_1 _ _) (by decide) ?_
  refine h_iload (p_84_4 _ _) rfl ?_
  refine h_aload (p_84_5 _ _) rfl ?_
  refine h_geti (x := (5 : Int32)) (p_84_6 _ _) isI_8_7 sh_1 (by decide +kernel) ?_
  refine h_cmpF (p_84_9 _ _) (by decide) ?_
  refine h_aload (p_84_12 _ _) rfl ?_
  refine h_getr (a := 5) (p_84_13 _ _) isI_8_3 sh_1 (by decide +kernel) ?_
  refine h_iload (p_84_16 _ _) rfl ?_
  refine h_ald (k := 0) (x := (-1 : Int32)) (p_84_17 _ _) sh_5 (by decide) (by decide) (by decide +kernel) ?_
  refine h_goto (p_84_18 _ _) ?_
  exact h_ret1 (p_84_22 _ _) h
def sx_109 : sT := pV (sx_108) 65 7 (-1 : Int32)
theorem kc_67 {L : Nat} {xs : Nat → Int32} {d : Nat} {K : Option Int32 → Nat → Nat → sT → Prop} (h : K (some (0 : Int32)) 186 104467 sx_109) : tH L xs 186 104467 (d + 0) 85 0 [.ref 1, .int (0 : Int32)] [] sx_109 K := by
  refine h_iload (p_85_0 _ _) rfl ?_
  refine h_ifF (p_85_1 _ _) (by decide) ?_
  refine h_iload (p_85_4 _ _) rfl ?_
  refine h_aload (p_85_5 _ _) rfl ?_
  refine h_geti (x := (5 : Int32)) (p_85_6 _ _) isI_8_7 sh_1 (by decide +kernel) ?_
  refine h_cmpF (p_85_9 _ _) (by decide) ?_
  refine h_aload (p_85_12 _ _) rfl ?_
  refine h_getr (a := 6) (p_85_13 _ _) isI_8_4 sh_1 (by decide +kernel) ?_
  refine h_iload (p_85_16 _ _) rfl ?_
  refine h_ald (k := 0) (x := (0 : Int32)) (p_85_17 _ _) sh_6 (by decide) (by decide) (by decide +kernel) ?_
  refine h_goto (p_85_18 _ _) ?_
  exact h_ret1 (p_85_22 _ _) h
def sx_110 : sT := pV (pV (pV (sx_109) 65 8 (0 : Int32)) 12 6 (0 : Int32)) 12 5 (0 : Int32)
theorem kc_68 {L : Nat} {xs : Nat → Int32} {d : Nat} {K : Option Int32 → Nat → Nat → sT → Prop} (h : K (some (0 : Int32)) 186 104467 sx_110) : tH L xs 186 104467 (d + 0) 81 0 [.ref 1, .int (0 : Int32)] [] sx_110 K := by
  refine h_iload (p_81_0 _ _) rfl ?_
  refine h_ifF (p_81_1 _ _) (by decide) ?_
  refine h_iload (p_81_4 _ _) rfl ?_
  refine h_aload (p_81_5 _ _) rfl ?_
  refine h_geti (x := (5 : Int32)) (p_81_6 _ _) isI_8_7 sh_1 (by decide +kernel) ?_
  refine h_cmpF (p_81_9 _ _) (by decide) ?_
  refine h_aload (p_81_12 _ _) rfl ?_
  refine h_getr (a := 2) (p_81_13 _ _) isI_8_0 sh_1 (by decide +kernel) ?_
  refine h_iload (p_81_16 _ _) rfl ?_
  refine h_ald (k := 0) (x := (0 : Int32)) (p_81_17 _ _) sh_2 (by decide) (by decide) (by decide +kernel) ?_
  refine h_goto (p_81_18 _ _) ?_
  exact h_ret1 (p_81_22 _ _) h
def sx_111 : sT := pV (pV (sx_110) 15 0 (0 : Int32)) 12 5 (1 : Int32)
theorem kc_69 {L : Nat} {xs : Nat → Int32} {d : Nat} {K : Option Int32 → Nat → Nat → sT → Prop} (h : K none 186 104467 sx_111) : tH L xs 186 104467 (d + 0) 67 0 [.ref 12, .int (0 : Int32)] [] sx_110 K := by
  refine h_aload (p_67_0 _ _) rfl ?_
  refine h_geti (x := (0 : Int32)) (p_67_1 _ _) isI_6_5 sh_12 (by decide +kernel) ?_
  refine h_push (p_67_4 _ _) ?_
  refine h_cmpF (p_67_7 _ _) (by decide) ?_
  refine h_aload (p_67_10 _ _) rfl ?_
  refine h_getr (a := 15) (p_67_11 _ _) isI_6_3 sh_12 (by decide +kernel) ?_
  refine h_aload (p_67_14 _ _) rfl ?_
  refine h_geti (x := (0 : Int32)) (p_67_15 _ _) isI_6_5 sh_12 (by decide +kernel) ?_
  refine h_iload (p_67_18 _ _) rfl ?_
  refine h_ast (k := 0) (p_67_19 _ _) sh_15 (by decide) (by decide) (by decide) ?_
  refine h_aload (p_67_20 _ _) rfl ?_
  refine h_dup (p_67_21 _ _) ?_
  refine h_geti (x := (0 : Int32)) (p_67_22 _ _) isI_6_5 sh_12 (by decide +kernel) ?_
  refine h_push (p_67_25 _ _) ?_
  refine h_bin (w := (1 : Int32)) (p_67_26 _ _) (by decide) ?_
  refine h_puti (p_67_27 _ _) isI_6_5 sh_12 (by decide) ?_
  exact h_ret0 (p_67_30 _ _) h
theorem kc_70 {L : Nat} {xs : Nat → Int32} {d : Nat} {K : Option Int32 → Nat → Nat → sT → Prop} (h : K none 186 104467 sx_111) : tH L xs 186 104467 (d + 1) 66 0 [.ref 12, .int (0 : Int32), .null] [] sx_110 K := by
  refine h_aload (p_66_0 _ _) rfl ?_
  refine h_getr (a := 1) (p_66_1 _ _) isI_6_0 sh_12 (by decide +kernel) ?_
  refine h_iload (p_66_4 _ _) rfl ?_
  refine h_callr (x := (0 : Int32)) (z := 81) (i := 1) (as := [.int (0 : Int32)]) (rest := []) (p_66_5 _ _) mK_81 mL_81 rfl rfl (Nat.le_of_ble_eq_true rfl) rfl (Nat.le_of_ble_eq_true rfl) sh_1 (kc_68 (d := d + 0) ⟨rfl, ?_⟩)
  refine h_push (p_66_8 _ _) ?_
  refine h_cmpT (p_66_9 _ _) (by decide) ?_
  refine h_iload (p_66_49 _ _) rfl ?_
  refine h_push (p_66_50 _ _) ?_
  refine h_cmpF (p_66_51 _ _) (by decide) ?_
  refine h_aload (p_66_54 _ _) rfl ?_
  refine h_iload (p_66_55 _ _) rfl ?_
  refine h_call (z := 67) (i := 12) (as := [.int (0 : Int32)]) (rest := []) (p_66_56 _ _) mK_67 mL_67 rfl rfl (Nat.le_of_ble_eq_true rfl) rfl (Nat.le_of_ble_eq_true rfl) sh_12 (kc_69 (d := d + 0) ⟨rfl, ?_⟩)
  exact h_ret0 (p_66_59 _ _) h
def sx_112 : sT := pV (pV (pV (sx_111) 12 6 (1 : Int32)) 14 0 (1 : Int32)) 13 0 (0 : Int32)
theorem kc_71 {L : Nat} {xs : Nat → Int32} {d : Nat} {K : Option Int32 → Nat → Nat → sT → Prop} (h : K (some (0 : Int32)) 186 104467 sx_112) : tH L xs 186 104467 (d + 0) 68 0 [.ref 12, .null, .null] [] sx_111 K := by
  refine h_push (p_68_0 _ _) ?_
  refine h_istore (ls1 := [.ref 12, .int (0 : Int32), .null]) (p_68_1 _ _) (Nat.le_of_ble_eq_true rfl) rfl rfl ?_
  refine h_iload (p_68_2 _ _) rfl ?_
  refine h_aload (p_68_3 _ _) rfl ?_
  refine h_geti (x := (0 : Int32)) (p_68_4 _ _) isI_6_6 sh_12 (by decide +kernel) ?_
  refine h_cmpT (p_68_7 _ _) (by decide) ?_
  refine h_aload (p_68_26 _ _) rfl ?_
  refine h_geti (x := (0 : Int32)) (p_68_27 _ _) isI_6_6 sh_12 (by decide +kernel) ?_
  refine h_push (p_68_30 _ _) ?_
  refine h_cmpF (p_68_32 _ _) (by decide) ?_
  refine h_aload (p_68_35 _ _) rfl ?_
  refine h_geti (x := (1 : Int32)) (p_68_36 _ _) isI_6_5 sh_12 (by decide +kernel) ?_
  refine h_push (p_68_39 _ _) ?_
  refine h_cmpT (p_68_41 _ _) (by decide) ?_
  refine h_aload (p_68_46 _ _) rfl ?_
  refine h_geti (x := (0 : Int32)) (p_68_47 _ _) isI_6_6 sh_12 (by decide +kernel) ?_
  refine h_istore (ls1 := [.ref 12, .int (0 : Int32), .null]) (p_68_50 _ _) (Nat.le_of_ble_eq_true rfl) rfl rfl ?_
  refine h_aload (p_68_51 _ _) rfl ?_
  refine h_dup (p_68_52 _ _) ?_
  refine h_geti (x := (0 : Int32)) (p_68_53 _ _) isI_6_6 sh_12 (by decide +kernel) ?_
  refine h_push (p_68_56 _ _) ?_
  refine h_bin (w := (1 : Int32)) (p_68_57 _ _) (by decide) ?_
  refine h_puti (p_68_58 _ _) isI_6_6 sh_12 (by decide) ?_
  refine h_aload (p_68_61 _ _) rfl ?_
  refine h_getr (a := 14) (p_68_62 _ _) isI_6_2 sh_12 (by decide +kernel) ?_
  refine h_iload (p_68_65 _ _) rfl ?_
  refine h_aload (p_68_66 _ _) rfl ?_
  refine h_geti (x := (1 : Int32)) (p_68_67 _ _) isI_6_5 sh_12 (by decide +kernel) ?_
  refine h_ast (k := 0) (p_68_70 _ _) sh_14 (by decide) (by decide) (by decide) ?_
  refine h_push (p_68_71 _ _) ?_
  refine h_istore (ls1 := [.ref 12, .int (0 : Int32), .int (0 : Int32)]) (p_68_72 _ _) (Nat.le_of_ble_eq_true rfl) rfl rfl ?_
  refine h_iload (p_68_73 _ _) rfl ?_
  refine h_aload (p_68_74 _ _) rfl ?_
  refine h_geti (x := (1 : Int32)) (p_68_75 _ _) isI_6_5 sh_12 (by decide +kernel) ?_
  refine h_cmpF (p_68_78 _ _) (by decide) ?_
  refine h_aload (p_68_81 _ _) rfl ?_
  refine h_getr (a := 13) (p_68_82 _ _) isI_6_1 sh_12 (by decide +kernel) ?_
  refine h_iload (p_68_85 _ _) rfl ?_
  refine h_push (p_68_86 _ _) ?_
  refine h_bin (w := (0 : Int32)) (p_68_88 _ _) (by decide) ?_
  refine h_iload (p_68_89 _ _) rfl ?_
  refine h_bin (w := (0 : Int32)) (p_68_90 _ _) (by decide) ?_
  refine h_aload (p_68_91 _ _) rfl ?_
  refine h_getr (a := 15) (p_68_92 _ _) isI_6_3 sh_12 (by decide +kernel) ?_
  refine h_aload (p_68_95 _ _) rfl ?_
  refine h_geti (x := (1 : Int32)) (p_68_96 _ _) isI_6_5 sh_12 (by decide +kernel) ?_
  refine h_push (p_68_99 _ _) ?_
  refine h_bin (w := (0 : Int32)) (p_68_100 _ _) (by decide) ?_
  refine h_iload (p_68_101 _ _) rfl ?_
  refine h_bin (w := (0 : Int32)) (p_68_102 _ _) (by decide) ?_
  refine h_ald (k := 0) (x := (0 : Int32)) (p_68_103 _ _) sh_15 (by decide) (by decide) (by decide +kernel) ?_
  refine h_ast (k := 0) (p_68_104 _ _) sh_13 (by decide) (by decide) (by decide) ?_
  refine h_iinc (x1 := (1 : Int32)) (ls1 := [.ref 12, .int (0 : Int32), .int (1 : Int32)]) (p_68_105 _ _) rfl rfl (by decide) rfl ?_
  refine h_goto (p_68_108 _ _) ?_
  refine h_iload (p_68_73 _ _) rfl ?_
  refine h_aload (p_68_74 _ _) rfl ?_
  refine h_geti (x := (1 : Int32)) (p_68_75 _ _) isI_6_5 sh_12 (by decide +kernel) ?_
  refine h_cmpT (p_68_78 _ _) (by decide) ?_
  refine h_iload (p_68_111 _ _) rfl ?_
  exact h_ret1 (p_68_112 _ _) h
theorem kc_72 {L : Nat} {xs : Nat → Int32} {d : Nat} {K : Option Int32 → Nat → Nat → sT → Prop} (h : K (some (-1 : Int32)) 186 104467 sx_112) : tH L xs 186 104467 (d + 0) 84 0 [.ref 1, .int (0 : Int32)] [] sx_112 K := by
  refine h_iload (p_84_0 _ _) rfl ?_
  refine h_ifF (p_84_1 _ _) (by decide) ?_
  refine h_iload (p_84_4 _ _) rfl ?_
  refine h_aload (p_84_5 _ _) rfl ?_
  refine h_geti (x := (5 : Int32)) (p_84_6 _ _) isI_8_7 sh_1 (by decide +kernel) ?_
  refine h_cmpF (p_84_9 _ _) (by decide) ?_
  refine h_aload (p_84_12 _ _) rfl ?_
  refine h_getr (a := 5) (p_84_13 _ _) isI_8_3 sh_1 (by decide +kernel) ?_
  refine h_iload (p_84_16 _ _) rfl ?_
  refine h_ald (k := 0) (x := (-1 : Int32)) (p_84_17 _ _) sh_5 (by decide) (by decide) (by decide +kernel) ?_
  refine h_goto (p_84_18 _ _) ?_
  exact h_ret1 (p_84_22 _ _) h
theorem kc_73 {L : Nat} {xs : Nat → Int32} {d : Nat} {K : Option Int32 → Nat → Nat → sT → Prop} (h : K (some (0 : Int32)) 186 104467 sx_112) : tH L xs 186 104467 (d + 1) 86 0 [.ref 1, .int (0 : Int32)] [] sx_112 K := by
  refine h_aload (p_86_0 _ _) rfl ?_
  refine h_iload (p_86_1 _ _) rfl ?_
  refine h_callr (x := (-1 : Int32)) (z := 84) (i := 1) (as := [.int (0 : Int32)]) (rest := []) (p_86_2 _ _) mK_84 mL_84 rfl rfl (Nat.le_of_ble_eq_true rfl) rfl (Nat.le_of_ble_eq_true rfl) sh_1 (kc_72 (d := d + 0) ⟨rfl, ?_⟩)
  refine h_ifT (p_86_5 _ _) (by decide) ?_
  refine h_push (p_86_12 _ _) ?_
  exact h_ret2 (p_86_13 _ _) (by decide) h
theorem kc_74 {L : Nat} {xs : Nat → Int32} {d : Nat} {K : Option Int32 → Nat → Nat → sT → Prop} (h : K (some (0 : Int32)) 186 104467 sx_112) : tH L xs 186 104467 (d + 0) 81 0 [.ref 1, .int (0 : Int32)] [] sx_112 K := by
  refine h_iload (p_81_0 _ _) rfl ?_
  refine h_ifF (p_81_1 _ _) (by decide) ?_
  refine h_iload (p_81_4 _ _) rfl ?_
  refine h_aload (p_81_5 _ _) rfl ?_
  refine h_geti (x := (5 : Int32)) (p_81_6 _ _) isI_8_7 sh_1 (by decide +kernel) ?_
  refine h_cmpF (p_81_9 _ _) (by decide) ?_
  refine h_aload (p_81_12 _ _) rfl ?_
  refine h_getr (a := 2) (p_81_13 _ _) isI_8_0 sh_1 (by decide +kernel) ?_
  refine h_iload (p_81_16 _ _) rfl ?_
  refine h_ald (k := 0) (x := (0 : Int32)) (p_81_17 _ _) sh_2 (by decide) (by decide) (by decide +kernel) ?_
  refine h_goto (p_81_18 _ _) ?_
  exact h_ret1 (p_81_22 _ _) h
def sx_113 : sT := pV (pV (sx_112) 69 0 (48 : Int32)) 68 1 (1 : Int32)
theorem kc_75 {L : Nat} {xs : Nat → Int32} {d : Nat} {K : Option Int32 → Nat → Nat → sT → Prop} (h : K none 186 104467 sx_113) : tH L xs 186 104467 (d + 0) 72 0 [.ref 68, .int (48 : Int32)] [] sx_112 K := by
  refine h_aload (p_72_0 _ _) rfl ?_
  refine h_geti (x := (0 : Int32)) (p_72_1 _ _) isI_7_1 sh_68 (by decide +kernel) ?_
  refine h_aload (p_72_4 _ _) rfl ?_
  refine h_getr (a := 69) (p_72_5 _ _) isI_7_0 sh_68 (by decide +kernel) ?_
  refine h_alen (x := (4960 : Int32)) (p_72_8 _ _) sh_69 (by decide) ?_
  refine h_cmpF (p_72_9 _ _) (by decide) ?_
  refine h_aload (p_72_12 _ _) rfl ?_
  refine h_getr (a := 69) (p_72_13 _ _) isI_7_0 sh_68 (by decide +kernel) ?_
  refine h_aload (p_72_16 _ _) rfl ?_
  refine h_geti (x := (0 : Int32)) (p_72_17 _ _) isI_7_1 sh_68 (by decide +kernel) ?_
  refine h_iload (p_72_20 _ _) rfl ?_
  refine h_ast (k := 0) (p_72_21 _ _) sh_69 (by decide) (by decide) (by decide) ?_
  refine h_aload (p_72_22 _ _) rfl ?_
  refine h_dup (p_72_23 _ _) ?_
  refine h_geti (x := (0 : Int32)) (p_72_24 _ _) isI_7_1 sh_68 (by decide +kernel) ?_
  refine h_push (p_72_27 _ _) ?_
  refine h_bin (w := (1 : Int32)) (p_72_28 _ _) (by decide) ?_
  refine h_puti (p_72_29 _ _) isI_7_1 sh_68 (by decide) ?_
  exact h_ret0 (p_72_32 _ _) h
theorem kc_76 {L : Nat} {xs : Nat → Int32} {d : Nat} {K : Option Int32 → Nat → Nat → sT → Prop} (h : K none 186 104467 sx_113) : tH L xs 186 104467 (d + 1) 94 0 [.ref 1, .int (0 : Int32), .int (0 : Int32), .ref 68, .int (0 : Int32), .null, .null] [] sx_112 K := by
  refine h_iload (p_94_0 _ _) rfl ?_
  refine h_push (p_94_2 _ _) ?_
  refine h_cmpT (p_94_4 _ _) (by decide) ?_
  refine h_aload (p_94_8 _ _) rfl ?_
  refine h_iload (p_94_9 _ _) rfl ?_
  refine h_callr (x := (0 : Int32)) (z := 81) (i := 1) (as := [.int (0 : Int32)]) (rest := []) (p_94_10 _ _) mK_81 mL_81 rfl rfl (Nat.le_of_ble_eq_true rfl) rfl (Nat.le_of_ble_eq_true rfl) sh_1 (kc_74 (d := d + 0) ⟨rfl, ?_⟩)
  refine h_istore (ls1 := [.ref 1, .int (0 : Int32), .int (0 : Int32), .ref 68, .int (0 : Int32), .int (0 : Int32), .null]) (p_94_13 _ _) (Nat.le_of_ble_eq_true rfl) rfl rfl ?_
  refine h_iload (p_94_15 _ _) rfl ?_
  refine h_ifF (p_94_17 _ _) (by decide) ?_
  refine h_aload (p_94_20 _ _) rfl ?_
  refine h_iload (p_94_21 _ _) rfl ?_
  refine h_push (p_94_22 _ _) ?_
  refine h_cmpF (p_94_23 _ _) (by decide) ?_
  refine h_push (p_94_26 _ _) ?_
  refine h_iload (p_94_28 _ _) rfl ?_
  refine h_bin (w := (48 : Int32)) (p_94_29 _ _) (by decide) ?_
  refine h_goto (p_94_30 _ _) ?_
  refine h_call (z := 72) (i := 68) (as := [.int (48 : Int32)]) (rest := []) (p_94_39 _ _) mK_72 mL_72 rfl rfl (Nat.le_of_ble_eq_true rfl) rfl (Nat.le_of_ble_eq_true rfl) sh_68 (kc_75 (d := d + 0) ⟨rfl, ?_⟩)
  refine h_goto (p_94_42 _ _) ?_
  exact h_ret0 (p_94_131 _ _) h
theorem kc_77 {L : Nat} {xs : Nat → Int32} {d : Nat} {K : Option Int32 → Nat → Nat → sT → Prop} (h : K none 186 104467 sx_113) : tH L xs 186 104467 (d + 2) 93 0 [.ref 1, .int (0 : Int32), .int (0 : Int32), .ref 68] [] sx_112 K := by
  refine h_aload (p_93_0 _ _) rfl ?_
  refine h_iload (p_93_1 _ _) rfl ?_
  refine h_iload (p_93_2 _ _) rfl ?_
  refine h_aload (p_93_3 _ _) rfl ?_
  refine h_push (p_93_4 _ _) ?_
  refine h_call (z := 94) (i := 1) (as := [.int (0 : Int32), .int (0 : Int32), .ref 68, .int (0 : Int32)]) (rest := []) (p_93_5 _ _) mK_94 mL_94 rfl rfl (Nat.le_of_ble_eq_true rfl) rfl (Nat.le_of_ble_eq_true rfl) sh_1 (kc_76 (d := d + 0) ⟨rfl, ?_⟩)
  exact h_ret0 (p_93_8 _ _) h
def sx_114 : sT := pV (sx_113) 70 0 (1 : Int32)
theorem kc_78 {L : Nat} {xs : Nat → Int32} {d : Nat} {K : Option Int32 → Nat → Nat → sT → Prop} (h : K none 186 104467 sx_114) : tH L xs 186 104467 (d + 0) 40 0 [.ref 65, .int (0 : Int32)] [] sx_113 K := by
  refine h_aload (p_40_0 _ _) rfl ?_
  refine h_getr (a := 70) (p_40_1 _ _) isI_5_2 sh_65 (by decide +kernel) ?_
  refine h_aload (p_40_4 _ _) rfl ?_
  refine h_geti (x := (0 : Int32)) (p_40_5 _ _) isI_5_6 sh_65 (by decide +kernel) ?_
  refine h_aload (p_40_8 _ _) rfl ?_
  refine h_getr (a := 68) (p_40_9 _ _) isI_5_1 sh_65 (by decide +kernel) ?_
  refine h_geti (x := (1 : Int32)) (p_40_12 _ _) isI_7_1 sh_68 (by decide +kernel) ?_
  refine h_ast (k := 0) (p_40_15 _ _) sh_70 (by decide) (by decide) (by decide) ?_
  refine h_iload (p_40_16 _ _) rfl ?_
  refine h_ifT (p_40_17 _ _) (by decide) ?_
  exact h_ret0 (p_40_35 _ _) h
theorem kc_79 {L : Nat} {xs : Nat → Int32} {d : Nat} {K : Option Int32 → Nat → Nat → sT → Prop} (h : K none 186 104467 sx_114) : tH L xs 186 104467 (d + 3) 62 0 [.ref 12, .int (0 : Int32), .ref 65, .null, .null, .null, .null] [] sx_112 K := by
  refine h_aload (p_62_0 _ _) rfl ?_
  refine h_getr (a := 14) (p_62_1 _ _) isI_6_2 sh_12 (by decide +kernel) ?_
  refine h_iload (p_62_4 _ _) rfl ?_
  refine h_ald (k := 0) (x := (1 : Int32)) (p_62_5 _ _) sh_14 (by decide) (by decide) (by decide +kernel) ?_
  refine h_istore (ls1 := [.ref 12, .int (0 : Int32), .ref 65, .int (1 : Int32), .null, .null, .null]) (p_62_6 _ _) (Nat.le_of_ble_eq_true rfl) rfl rfl ?_
  refine h_push (p_62_7 _ _) ?_
  refine h_istore (ls1 := [.ref 12, .int (0 : Int32), .ref 65, .int (1 : Int32), .int (1 : Int32), .null, .null]) (p_62_8 _ _) (Nat.le_of_ble_eq_true rfl) rfl rfl ?_
  refine h_iload (p_62_10 _ _) rfl ?_
  refine h_ifT (p_62_11 _ _) (by decide) ?_
  refine h_push (p_62_27 _ _) ?_
  refine h_istore (ls1 := [.ref 12, .int (0 : Int32), .ref 65, .int (1 : Int32), .int (1 : Int32), .int (0 : Int32), .null]) (p_62_28 _ _) (Nat.le_of_ble_eq_true rfl) rfl rfl ?_
  refine h_iload (p_62_30 _ _) rfl ?_
  refine h_iload (p_62_32 _ _) rfl ?_
  refine h_cmpF (p_62_33 _ _) (by decide) ?_
  refine h_aload (p_62_36 _ _) rfl ?_
  refine h_getr (a := 13) (p_62_37 _ _) isI_6_1 sh_12 (by decide +kernel) ?_
  refine h_iload (p_62_40 _ _) rfl ?_
  refine h_push (p_62_41 _ _) ?_
  refine h_bin (w := (0 : Int32)) (p_62_43 _ _) (by decide) ?_
  refine h_iload (p_62_44 _ _) rfl ?_
  refine h_bin (w := (0 : Int32)) (p_62_46 _ _) (by decide) ?_
  refine h_ald (k := 0) (x := (0 : Int32)) (p_62_47 _ _) sh_13 (by decide) (by decide) (by decide +kernel) ?_
  refine h_istore (ls1 := [.ref 12, .int (0 : Int32), .ref 65, .int (1 : Int32), .int (1 : Int32), .int (0 : Int32), .int (0 : Int32)]) (p_62_48 _ _) (Nat.le_of_ble_eq_true rfl) rfl rfl ?_
  refine h_iload (p_62_50 _ _) rfl ?_
  refine h_ifF (p_62_52 _ _) (by decide) ?_
  refine h_aload (p_62_55 _ _) rfl ?_
  refine h_getr (a := 1) (p_62_56 _ _) isI_6_0 sh_12 (by decide +kernel) ?_
  refine h_iload (p_62_59 _ _) rfl ?_
  refine h_callr (x := (0 : Int32)) (z := 86) (i := 1) (as := [.int (0 : Int32)]) (rest := []) (p_62_61 _ _) mK_86 mL_86 rfl rfl (Nat.le_of_ble_eq_true rfl) rfl (Nat.le_of_ble_eq_true rfl) sh_1 (kc_73 (d := d + 1) ⟨rfl, ?_⟩)
  refine h_ifT (p_62_64 _ _) (by decide) ?_
  refine h_push (p_62_71 _ _) ?_
  refine h_istore (ls1 := [.ref 12, .int (0 : Int32), .ref 65, .int (1 : Int32), .int (0 : Int32), .int (0 : Int32), .int (0 : Int32)]) (p_62_72 _ _) (Nat.le_of_ble_eq_true rfl) rfl rfl ?_
  refine h_aload (p_62_74 _ _) rfl ?_
  refine h_getr (a := 1) (p_62_75 _ _) isI_6_0 sh_12 (by decide +kernel) ?_
  refine h_iload (p_62_78 _ _) rfl ?_
  refine h_iload (p_62_80 _ _) rfl ?_
  refine h_push (p_62_81 _ _) ?_
  refine h_cmpF (p_62_82 _ _) (by decide) ?_
  refine h_push (p_62_85 _ _) ?_
  refine h_goto (p_62_86 _ _) ?_
  refine h_aload (p_62_90 _ _) rfl ?_
  refine h_getr (a := 68) (p_62_91 _ _) isI_5_1 sh_65 (by decide +kernel) ?_
  refine h_call (z := 93) (i := 1) (as := [.int (0 : Int32), .int (0 : Int32), .ref 68]) (rest := []) (p_62_94 _ _) mK_93 mL_93 rfl rfl (Nat.le_of_ble_eq_true rfl) rfl (Nat.le_of_ble_eq_true rfl) sh_1 (kc_77 (d := d + 0) ⟨rfl, ?_⟩)
  refine h_iinc (x1 := (1 : Int32)) (ls1 := [.ref 12, .int (0 : Int32), .ref 65, .int (1 : Int32), .int (0 : Int32), .int (1 : Int32), .int (0 : Int32)]) (p_62_97 _ _) rfl rfl (by decide) rfl ?_
  refine h_goto (p_62_100 _ _) ?_
  refine h_iload (p_62_30 _ _) rfl ?_
  refine h_iload (p_62_32 _ _) rfl ?_
  refine h_cmpT (p_62_33 _ _) (by decide) ?_
  refine h_aload (p_62_103 _ _) rfl ?_
  refine h_iload (p_62_104 _ _) rfl ?_
  refine h_call (z := 40) (i := 65) (as := [.int (0 : Int32)]) (rest := []) (p_62_106 _ _) mK_40 mL_40 rfl rfl (Nat.le_of_ble_eq_true rfl) rfl (Nat.le_of_ble_eq_true rfl) sh_65 (kc_78 (d := d + 2) ⟨rfl, ?_⟩)
  exact h_ret0 (p_62_109 _ _) h
def sx_115 : sT := pV (sx_114) 12 7 (2 : Int32)
def sx_116 : sT := pV (pV (pV (sx_115) 65 10 (0 : Int32)) 71 0 (0 : Int32)) 72 1 (0 : Int32)
theorem kc_80 {L : Nat} {xs : Nat → Int32} {d : Nat} {K : Option Int32 → Nat → Nat → sT → Prop} (h : K none 186 104467 sx_116) : tH L xs 186 104467 (d + 0) 41 0 [.ref 65, .int (0 : Int32)] [] sx_115 K := by
  refine h_aload (p_41_0 _ _) rfl ?_
  refine h_aload (p_41_1 _ _) rfl ?_
  refine h_geti (x := (0 : Int32)) (p_41_2 _ _) isI_5_6 sh_65 (by decide +kernel) ?_
  refine h_push (p_41_5 _ _) ?_
  refine h_bin (w := (0 : Int32)) (p_41_6 _ _) (by decide) ?_
  refine h_iload (p_41_7 _ _) rfl ?_
  refine h_bin (w := (0 : Int32)) (p_41_8 _ _) (by decide) ?_
  refine h_puti (p_41_9 _ _) isI_5_10 sh_65 (by decide) ?_
  refine h_aload (p_41_12 _ _) rfl ?_
  refine h_getr (a := 71) (p_41_13 _ _) isI_5_3 sh_65 (by decide +kernel) ?_
  refine h_aload (p_41_16 _ _) rfl ?_
  refine h_geti (x := (0 : Int32)) (p_41_17 _ _) isI_5_10 sh_65 (by decide +kernel) ?_
  refine h_push (p_41_20 _ _) ?_
  refine h_ast (k := 0) (p_41_21 _ _) sh_71 (by decide) (by decide) (by decide) ?_
  refine h_aload (p_41_22 _ _) rfl ?_
  refine h_getr (a := 72) (p_41_23 _ _) isI_5_4 sh_65 (by decide +kernel) ?_
  refine h_aload (p_41_26 _ _) rfl ?_
  refine h_geti (x := (0 : Int32)) (p_41_27 _ _) isI_5_10 sh_65 (by decide +kernel) ?_
  refine h_push (p_41_30 _ _) ?_
  refine h_bin (w := (1 : Int32)) (p_41_31 _ _) (by decide) ?_
  refine h_aload (p_41_32 _ _) rfl ?_
  refine h_getr (a := 72) (p_41_33 _ _) isI_5_4 sh_65 (by decide +kernel) ?_
  refine h_aload (p_41_36 _ _) rfl ?_
  refine h_geti (x := (0 : Int32)) (p_41_37 _ _) isI_5_10 sh_65 (by decide +kernel) ?_
  refine h_ald (k := 0) (x := (0 : Int32)) (p_41_40 _ _) sh_72 (by decide) (by decide) (by decide +kernel) ?_
  refine h_ast (k := 1) (p_41_41 _ _) sh_72 (by decide) (by decide) (by decide) ?_
  exact h_ret0 (p_41_42 _ _) h
def sx_117 : sT := pV (sx_116) 12 5 (0 : Int32)
def sx_118 : sT := pV (pV (sx_117) 15 0 (0 : Int32)) 12 5 (1 : Int32)
theorem kc_81 {L : Nat} {xs : Nat → Int32} {d : Nat} {K : Option Int32 → Nat → Nat → sT → Prop} (h : K none 186 104467 sx_118) : tH L xs 186 104467 (d + 0) 67 0 [.ref 12, .int (0 : Int32)] [] sx_117 K := by
  refine h_aload (p_67_0 _ _) rfl ?_
  refine h_geti (x := (0 : Int32)) (p_67_1 _ _) isI_6_5 sh_12 (by decide +kernel) ?_
  refine h_push (p_67_4 _ _) ?_
  refine h_cmpF (p_67_7 _ _) (by decide) ?_
  refine h_aload (p_67_10 _ _) rfl ?_
  refine h_getr (a := 15) (p_67_11 _ _) isI_6_3 sh_12 (by decide +kernel) ?_
  refine h_aload (p_67_14 _ _) rfl ?_
  refine h_geti (x := (0 : Int32)) (p_67_15 _ _) isI_6_5 sh_12 (by decide +kernel) ?_
  refine h_iload (p_67_18 _ _) rfl ?_
  refine h_ast (k := 0) (p_67_19 _ _) sh_15 (by decide) (by decide) (by decide) ?_
  refine h_aload (p_67_20 _ _) rfl ?_
  refine h_dup (p_67_21 _ _) ?_
  refine h_geti (x := (0 : Int32)) (p_67_22 _ _) isI_6_5 sh_12 (by decide +kernel) ?_
  refine h_push (p_67_25 _ _) ?_
  refine h_bin (w := (1 : Int32)) (p_67_26 _ _) (by decide) ?_
  refine h_puti (p_67_27 _ _) isI_6_5 sh_12 (by decide) ?_
  exact h_ret0 (p_67_30 _ _) h
def sx_119 : sT := pV (sx_118) 12 5 (0 : Int32)
theorem kc_82 {L : Nat} {xs : Nat → Int32} {d : Nat} {K : Option Int32 → Nat → Nat → sT → Prop} (h : K (some (0 : Int32)) 186 104467 sx_119) : tH L xs 186 104467 (d + 0) 81 0 [.ref 1, .int (0 : Int32)] [] sx_119 K := by
  refine h_iload (p_81_0 _ _) rfl ?_
  refine h_ifF (p_81_1 _ _) (by decide) ?_
  refine h_iload (p_81_4 _ _) rfl ?_
  refine h_aload (p_81_5 _ _) rfl ?_
  refine h_geti (x := (5 : Int32)) (p_81_6 _ _) isI_8_7 sh_1 (by decide +kernel) ?_
  refine h_cmpF (p_81_9 _ _) (by decide) ?_
  refine h_aload (p_81_12 _ _) rfl ?_
  refine h_getr (a := 2) (p_81_13 _ _) isI_8_0 sh_1 (by decide +kernel) ?_
  refine h_iload (p_81_16 _ _) rfl ?_
  refine h_ald (k := 0) (x := (0 : Int32)) (p_81_17 _ _) sh_2 (by decide) (by decide) (by decide +kernel) ?_
  refine h_goto (p_81_18 _ _) ?_
  exact h_ret1 (p_81_22 _ _) h
theorem kc_83 {L : Nat} {xs : Nat → Int32} {d : Nat} {K : Option Int32 → Nat → Nat → sT → Prop} (h : K none 186 104467 sx_119) : tH L xs 186 104467 (d + 1) 65 0 [.ref 12, .int (0 : Int32), .ref 65, .int (0 : Int32), .null, .null] [] sx_119 K := by
  refine h_iload (p_65_0 _ _) rfl ?_
  refine h_push (p_65_1 _ _) ?_
  refine h_cmpT (p_65_3 _ _) (by decide) ?_
  refine h_aload (p_65_7 _ _) rfl ?_
  refine h_geti (x := (0 : Int32)) (p_65_8 _ _) isI_6_5 sh_12 (by decide +kernel) ?_
  refine h_istore (ls1 := [.ref 12, .int (0 : Int32), .ref 65, .int (0 : Int32), .int (0 : Int32), .null]) (p_65_11 _ _) (Nat.le_of_ble_eq_true rfl) rfl rfl ?_
  refine h_aload (p_65_13 _ _) rfl ?_
  refine h_getr (a := 1) (p_65_14 _ _) isI_6_0 sh_12 (by decide +kernel) ?_
  refine h_iload (p_65_17 _ _) rfl ?_
  refine h_callr (x := (0 : Int32)) (z := 81) (i := 1) (as := [.int (0 : Int32)]) (rest := []) (p_65_18 _ _) mK_81 mL_81 rfl rfl (Nat.le_of_ble_eq_true rfl) rfl (Nat.le_of_ble_eq_true rfl) sh_1 (kc_82 (d := d + 0) ⟨rfl, ?_⟩)
  refine h_tab (t := 140) (p_65_21 _ _) (by decide) ?_
  refine h_iload (p_65_140 _ _) rfl ?_
  refine h_aload (p_65_141 _ _) rfl ?_
  refine h_geti (x := (2 : Int32)) (p_65_142 _ _) isI_6_7 sh_12 (by decide +kernel) ?_
  refine h_cmpT (p_65_145 _ _) (by decide) ?_
  exact h_ret0 (p_65_156 _ _) h
theorem kc_84 {L : Nat} {xs : Nat → Int32} {d : Nat} {K : Option Int32 → Nat → Nat → sT → Prop} (h : K (some (-1 : Int32)) 186 104467 sx_119) : tH L xs 186 104467 (d + 0) 84 0 [.ref 1, .int (0 : Int32)] [] sx_119 K := by
  refine h_iload (p_84_0 _ _) rfl ?_
  refine h_ifF (p_84_1 _ _) (by decide) ?_
  refine h_iload (p_84_4 _ _) rfl ?_
  refine h_aload (p_84_5 _ _) rfl ?_
  refine h_geti (x := (5 : Int32)) (p_84_6 _ _) isI_8_7 sh_1 (by decide +kernel) ?_
  refine h_cmpF (p_84_9 _ _) (by decide) ?_
  refine h_aload (p_84_12 _ _) rfl ?_
  refine h_getr (a := 5) (p_84_13 _ _) isI_8_3 sh_1 (by decide +kernel) ?_
  refine h_iload (p_84_16 _ _) rfl ?_
  refine h_ald (k := 0) (x := (-1 : Int32)) (p_84_17 _ _) sh_5 (by decide) (by decide) (by decide +kernel) ?_
  refine h_goto (p_84_18 _ _) ?_
  exact h_ret1 (p_84_22 _ _) h
theorem kc_85 {L : Nat} {xs : Nat → Int32} {d : Nat} {K : Option Int32 → Nat → Nat → sT → Prop} (h : K (some (0 : Int32)) 186 104467 sx_119) : tH L xs 186 104467 (d + 1) 86 0 [.ref 1, .int (0 : Int32)] [] sx_119 K := by
  refine h_aload (p_86_0 _ _) rfl ?_
  refine h_iload (p_86_1 _ _) rfl ?_
  refine h_callr (x := (-1 : Int32)) (z := 84) (i := 1) (as := [.int (0 : Int32)]) (rest := []) (p_86_2 _ _) mK_84 mL_84 rfl rfl (Nat.le_of_ble_eq_true rfl) rfl (Nat.le_of_ble_eq_true rfl) sh_1 (kc_84 (d := d + 0) ⟨rfl, ?_⟩)
  refine h_ifT (p_86_5 _ _) (by decide) ?_
  refine h_push (p_86_12 _ _) ?_
  exact h_ret2 (p_86_13 _ _) (by decide) h
def sx_120 : sT := pV (sx_119) 12 5 (0 : Int32)
theorem kc_86 {L : Nat} {xs : Nat → Int32} {d : Nat} {K : Option Int32 → Nat → Nat → sT → Prop} (h : K none 186 104467 sx_120) : tH L xs 186 104467 (d + 2) 64 0 [.ref 12, .int (0 : Int32), .ref 65, .int (0 : Int32), .null, .null, .null] [] sx_118 K := by
  refine h_push (p_64_0 _ _) ?_
  refine h_istore (ls1 := [.ref 12, .int (0 : Int32), .ref 65, .int (0 : Int32), .int (1 : Int32), .null, .null]) (p_64_1 _ _) (Nat.le_of_ble_eq_true rfl) rfl rfl ?_
  refine h_aload (p_64_3 _ _) rfl ?_
  refine h_geti (x := (1 : Int32)) (p_64_4 _ _) isI_6_5 sh_12 (by decide +kernel) ?_
  refine h_push (p_64_7 _ _) ?_
  refine h_bin (w := (0 : Int32)) (p_64_8 _ _) (by decide) ?_
  refine h_istore (ls1 := [.ref 12, .int (0 : Int32), .ref 65, .int (0 : Int32), .int (1 : Int32), .int (0 : Int32), .null]) (p_64_9 _ _) (Nat.le_of_ble_eq_true rfl) rfl rfl ?_
  refine h_iload (p_64_11 _ _) rfl ?_
  refine h_iload (p_64_13 _ _) rfl ?_
  refine h_cmpF (p_64_14 _ _) (by decide) ?_
  refine h_iload (p_64_17 _ _) rfl ?_
  refine h_ifF (p_64_19 _ _) (by decide) ?_
  refine h_aload (p_64_22 _ _) rfl ?_
  refine h_getr (a := 15) (p_64_23 _ _) isI_6_3 sh_12 (by decide +kernel) ?_
  refine h_iload (p_64_26 _ _) rfl ?_
  refine h_ald (k := 0) (x := (0 : Int32)) (p_64_28 _ _) sh_15 (by decide) (by decide) (by decide +kernel) ?_
  refine h_istore (ls1 := [.ref 12, .int (0 : Int32), .ref 65, .int (0 : Int32), .int (1 : Int32), .int (0 : Int32), .int (0 : Int32)]) (p_64_29 _ _) (Nat.le_of_ble_eq_true rfl) rfl rfl ?_
  refine h_aload (p_64_31 _ _) rfl ?_
  refine h_iload (p_64_32 _ _) rfl ?_
  refine h_puti (p_64_34 _ _) isI_6_5 sh_12 (by decide) ?_
  refine h_aload (p_64_37 _ _) rfl ?_
  refine h_iload (p_64_38 _ _) rfl ?_
  refine h_aload (p_64_40 _ _) rfl ?_
  refine h_iload (p_64_41 _ _) rfl ?_
  refine h_call (z := 65) (i := 12) (as := [.int (0 : Int32), .ref 65, .int (0 : Int32)]) (rest := []) (p_64_42 _ _) mK_65 mL_65 rfl rfl (Nat.le_of_ble_eq_true rfl) rfl (Nat.le_of_ble_eq_true rfl) sh_12 (kc_83 (d := d + 0) ⟨rfl, ?_⟩)
  refine h_aload (p_64_45 _ _) rfl ?_
  refine h_getr (a := 1) (p_64_46 _ _) isI_6_0 sh_12 (by decide +kernel) ?_
  refine h_iload (p_64_49 _ _) rfl ?_
  refine h_callr (x := (0 : Int32)) (z := 86) (i := 1) (as := [.int (0 : Int32)]) (rest := []) (p_64_51 _ _) mK_86 mL_86 rfl rfl (Nat.le_of_ble_eq_true rfl) rfl (Nat.le_of_ble_eq_true rfl) sh_1 (kc_85 (d := d + 0) ⟨rfl, ?_⟩)
  refine h_istore (ls1 := [.ref 12, .int (0 : Int32), .ref 65, .int (0 : Int32), .int (0 : Int32), .int (0 : Int32), .int (0 : Int32)]) (p_64_54 _ _) (Nat.le_of_ble_eq_true rfl) rfl rfl ?_
  refine h_iinc (x1 := (-1 : Int32)) (ls1 := [.ref 12, .int (0 : Int32), .ref 65, .int (0 : Int32), .int (0 : Int32), .int (-1 : Int32), .int (0 : Int32)]) (p_64_56 _ _) rfl rfl (by decide) rfl ?_
  refine h_goto (p_64_59 _ _) ?_
  refine h_iload (p_64_11 _ _) rfl ?_
  refine h_iload (p_64_13 _ _) rfl ?_
  refine h_cmpT (p_64_14 _ _) (by decide) ?_
  refine h_aload (p_64_62 _ _) rfl ?_
  refine h_iload (p_64_63 _ _) rfl ?_
  refine h_puti (p_64_64 _ _) isI_6_5 sh_12 (by decide) ?_
  exact h_ret0 (p_64_67 _ _) h
theorem kc_87 {L : Nat} {xs : Nat → Int32} {d : Nat} {K : Option Int32 → Nat → Nat → sT → Prop} (h : K none 186 104467 sx_120) : tH L xs 186 104467 (d + 3) 63 0 [.ref 12, .int (0 : Int32), .int (0 : Int32), .ref 65, .null] [] sx_114 K := by
  refine h_aload (p_63_0 _ _) rfl ?_
  refine h_push (p_63_1 _ _) ?_
  refine h_iload (p_63_2 _ _) rfl ?_
  refine h_bin (w := (2 : Int32)) (p_63_3 _ _) (by decide) ?_
  refine h_puti (p_63_4 _ _) isI_6_7 sh_12 (by decide) ?_
  refine h_aload (p_63_7 _ _) rfl ?_
  refine h_iload (p_63_8 _ _) rfl ?_
  refine h_call (z := 41) (i := 65) (as := [.int (0 : Int32)]) (rest := []) (p_63_9 _ _) mK_41 mL_41 rfl rfl (Nat.le_of_ble_eq_true rfl) rfl (Nat.le_of_ble_eq_true rfl) sh_65 (kc_80 (d := d + 2) ⟨rfl, ?_⟩)
  refine h_aload (p_63_12 _ _) rfl ?_
  refine h_push (p_63_13 _ _) ?_
  refine h_puti (p_63_14 _ _) isI_6_5 sh_12 (by decide) ?_
  refine h_aload (p_63_17 _ _) rfl ?_
  refine h_getr (a := 14) (p_63_18 _ _) isI_6_2 sh_12 (by decide +kernel) ?_
  refine h_iload (p_63_21 _ _) rfl ?_
  refine h_ald (k := 0) (x := (1 : Int32)) (p_63_22 _ _) sh_14 (by decide) (by decide) (by decide +kernel) ?_
  refine h_push (p_63_23 _ _) ?_
  refine h_bin (w := (0 : Int32)) (p_63_24 _ _) (by decide) ?_
  refine h_istore (ls1 := [.ref 12, .int (0 : Int32), .int (0 : Int32), .ref 65, .int (0 : Int32)]) (p_63_25 _ _) (Nat.le_of_ble_eq_true rfl) rfl rfl ?_
  refine h_iload (p_63_27 _ _) rfl ?_
  refine h_ifF (p_63_29 _ _) (by decide) ?_
  refine h_aload (p_63_32 _ _) rfl ?_
  refine h_aload (p_63_33 _ _) rfl ?_
  refine h_getr (a := 13) (p_63_34 _ _) isI_6_1 sh_12 (by decide +kernel) ?_
  refine h_iload (p_63_37 _ _) rfl ?_
  refine h_push (p_63_38 _ _) ?_
  refine h_bin (w := (0 : Int32)) (p_63_40 _ _) (by decide) ?_
  refine h_iload (p_63_41 _ _) rfl ?_
  refine h_bin (w := (0 : Int32)) (p_63_43 _ _) (by decide) ?_
  refine h_ald (k := 0) (x := (0 : Int32)) (p_63_44 _ _) sh_13 (by decide) (by decide) (by decide +kernel) ?_
  refine h_call (z := 67) (i := 12) (as := [.int (0 : Int32)]) (rest := []) (p_63_45 _ _) mK_67 mL_67 rfl rfl (Nat.le_of_ble_eq_true rfl) rfl (Nat.le_of_ble_eq_true rfl) sh_12 (kc_81 (d := d + 2) ⟨rfl, ?_⟩)
  refine h_iinc (x1 := (-1 : Int32)) (ls1 := [.ref 12, .int (0 : Int32), .int (0 : Int32), .ref 65, .int (-1 : Int32)]) (p_63_48 _ _) rfl rfl (by decide) rfl ?_
  refine h_goto (p_63_51 _ _) ?_
  refine h_iload (p_63_27 _ _) rfl ?_
  refine h_ifT (p_63_29 _ _) (by decide) ?_
  refine h_aload (p_63_54 _ _) rfl ?_
  refine h_push (p_63_55 _ _) ?_
  refine h_aload (p_63_56 _ _) rfl ?_
  refine h_push (p_63_57 _ _) ?_
  refine h_call (z := 64) (i := 12) (as := [.int (0 : Int32), .ref 65, .int (0 : Int32)]) (rest := []) (p_63_58 _ _) mK_64 mL_64 rfl rfl (Nat.le_of_ble_eq_true rfl) rfl (Nat.le_of_ble_eq_true rfl) sh_12 (kc_86 (d := d + 0) ⟨rfl, ?_⟩)
  exact h_ret0 (p_63_61 _ _) h
def sx_121 : sT := pV (sx_120) 12 7 (3 : Int32)
def sx_122 : sT := pV (pV (pV (sx_121) 65 10 (1 : Int32)) 71 1 (0 : Int32)) 72 2 (0 : Int32)
theorem kc_88 {L : Nat} {xs : Nat → Int32} {d : Nat} {K : Option Int32 → Nat → Nat → sT → Prop} (h : K none 186 104467 sx_122) : tH L xs 186 104467 (d + 0) 41 0 [.ref 65, .int (1 : Int32)] [] sx_121 K := by
  refine h_aload (p_41_0 _ _) rfl ?_
  refine h_aload (p_41_1 _ _) rfl ?_
  refine h_geti (x := (0 : Int32)) (p_41_2 _ _) isI_5_6 sh_65 (by decide +kernel) ?_
  refine h_push (p_41_5 _ _) ?_
  refine h_bin (w := (0 : Int32)) (p_41_6 _ _) (by decide) ?_
  refine h_iload (p_41_7 _ _) rfl ?_
  refine h_bin (w := (1 : Int32)) (p_41_8 _ _) (by decide) ?_
  refine h_puti (p_41_9 _ _) isI_5_10 sh_65 (by decide) ?_
  refine h_aload (p_41_12 _ _) rfl ?_
  refine h_getr (a := 71) (p_41_13 _ _) isI_5_3 sh_65 (by decide +kernel) ?_
  refine h_aload (p_41_16 _ _) rfl ?_
  refine h_geti (x := (1 : Int32)) (p_41_17 _ _) isI_5_10 sh_65 (by decide +kernel) ?_
  refine h_push (p_41_20 _ _) ?_
  refine h_ast (k := 1) (p_41_21 _ _) sh_71 (by decide) (by decide) (by decide) ?_
  refine h_aload (p_41_22 _ _) rfl ?_
  refine h_getr (a := 72) (p_41_23 _ _) isI_5_4 sh_65 (by decide +kernel) ?_
  refine h_aload (p_41_26 _ _) rfl ?_
  refine h_geti (x := (1 : Int32)) (p_41_27 _ _) isI_5_10 sh_65 (by decide +kernel) ?_
  refine h_push (p_41_30 _ _) ?_
  refine h_bin (w := (2 : Int32)) (p_41_31 _ _) (by decide) ?_
  refine h_aload (p_41_32 _ _) rfl ?_
  refine h_getr (a := 72) (p_41_33 _ _) isI_5_4 sh_65 (by decide +kernel) ?_
  refine h_aload (p_41_36 _ _) rfl ?_
  refine h_geti (x := (1 : Int32)) (p_41_37 _ _) isI_5_10 sh_65 (by decide +kernel) ?_
  refine h_ald (k := 1) (x := (0 : Int32)) (p_41_40 _ _) sh_72 (by decide) (by decide) (by decide +kernel) ?_
  refine h_ast (k := 2) (p_41_41 _ _) sh_72 (by decide) (by decide) (by decide) ?_
  exact h_ret0 (p_41_42 _ _) h
def sx_123 : sT := pV (sx_122) 12 5 (0 : Int32)
def sx_124 : sT := pV (pV (sx_123) 15 0 (0 : Int32)) 12 5 (1 : Int32)
theorem kc_89 {L : Nat} {xs : Nat → Int32} {d : Nat} {K : Option Int32 → Nat → Nat → sT → Prop} (h : K none 186 104467 sx_124) : tH L xs 186 104467 (d + 0) 67 0 [.ref 12, .int (0 : Int32)] [] sx_123 K := by
  refine h_aload (p_67_0 _ _) rfl ?_
  refine h_geti (x := (0 : Int32)) (p_67_1 _ _) isI_6_5 sh_12 (by decide +kernel) ?_
  refine h_push (p_67_4 _ _) ?_
  refine h_cmpF (p_67_7 _ _) (by decide) ?_
  refine h_aload (p_67_10 _ _) rfl ?_
  refine h_getr (a := 15) (p_67_11 _ _) isI_6_3 sh_12 (by decide +kernel) ?_
  refine h_aload (p_67_14 _ _) rfl ?_
  refine h_geti (x := (0 : Int32)) (p_67_15 _ _) isI_6_5 sh_12 (by decide +kernel) ?_
  refine h_iload (p_67_18 _ _) rfl ?_
  refine h_ast (k := 0) (p_67_19 _ _) sh_15 (by decide) (by decide) (by decide) ?_
  refine h_aload (p_67_20 _ _) rfl ?_
  refine h_dup (p_67_21 _ _) ?_
  refine h_geti (x := (0 : Int32)) (p_67_22 _ _) isI_6_5 sh_12 (by decide +kernel) ?_
  refine h_push (p_67_25 _ _) ?_
  refine h_bin (w := (1 : Int32)) (p_67_26 _ _) (by decide) ?_
  refine h_puti (p_67_27 _ _) isI_6_5 sh_12 (by decide) ?_
  exact h_ret0 (p_67_30 _ _) h
def sx_125 : sT := pV (sx_124) 12 5 (0 : Int32)
theorem kc_90 {L : Nat} {xs : Nat → Int32} {d : Nat} {K : Option Int32 → Nat → Nat → sT → Prop} (h : K (some (0 : Int32)) 186 104467 sx_125) : tH L xs 186 104467 (d + 0) 81 0 [.ref 1, .int (0 : Int32)] [] sx_125 K := by
  refine h_iload (p_81_0 _ _) rfl ?_
  refine h_ifF (p_81_1 _ _) (by decide) ?_
  refine h_iload (p_81_4 _ _) rfl ?_
  refine h_aload (p_81_5 _ _) rfl ?_
  refine h_geti (x := (5 : Int32)) (p_81_6 _ _) isI_8_7 sh_1 (by decide +kernel) ?_
  refine h_cmpF (p_81_9 _ _) (by decide) ?_
  refine h_aload (p_81_12 _ _) rfl ?_
  refine h_getr (a := 2) (p_81_13 _ _) isI_8_0 sh_1 (by decide +kernel) ?_
  refine h_iload (p_81_16 _ _) rfl ?_
  refine h_ald (k := 0) (x := (0 : Int32)) (p_81_17 _ _) sh_2 (by decide) (by decide) (by decide +kernel) ?_
  refine h_goto (p_81_18 _ _) ?_
  exact h_ret1 (p_81_22 _ _) h
theorem kc_91 {L : Nat} {xs : Nat → Int32} {d : Nat} {K : Option Int32 → Nat → Nat → sT → Prop} (h : K none 186 104467 sx_125) : tH L xs 186 104467 (d + 1) 65 0 [.ref 12, .int (0 : Int32), .ref 65, .int (0 : Int32), .null, .null] [] sx_125 K := by
  refine h_iload (p_65_0 _ _) rfl ?_
  refine h_push (p_65_1 _ _) ?_
  refine h_cmpT (p_65_3 _ _) (by decide) ?_
  refine h_aload (p_65_7 _ _) rfl ?_
  refine h_geti (x := (0 : Int32)) (p_65_8 _ _) isI_6_5 sh_12 (by decide +kernel) ?_
  refine h_istore (ls1 := [.ref 12, .int (0 : Int32), .ref 65, .int (0 : Int32), .int (0 : Int32), .null]) (p_65_11 _ _) (Nat.le_of_ble_eq_true rfl) rfl rfl ?_
  refine h_aload (p_65_13 _ _) rfl ?_
  refine h_getr (a := 1) (p_65_14 _ _) isI_6_0 sh_12 (by decide +kernel) ?_
  refine h_iload (p_65_17 _ _) rfl ?_
  refine h_callr (x := (0 : Int32)) (z := 81) (i := 1) (as := [.int (0 : Int32)]) (rest := []) (p_65_18 _ _) mK_81 mL_81 rfl rfl (Nat.le_of_ble_eq_true rfl) rfl (Nat.le_of_ble_eq_true rfl) sh_1 (kc_90 (d := d + 0) ⟨rfl, ?_⟩)
  refine h_tab (t := 140) (p_65_21 _ _) (by decide) ?_
  refine h_iload (p_65_140 _ _) rfl ?_
  refine h_aload (p_65_141 _ _) rfl ?_
  refine h_geti (x := (3 : Int32)) (p_65_142 _ _) isI_6_7 sh_12 (by decide +kernel) ?_
  refine h_cmpT (p_65_145 _ _) (by decide) ?_
  exact h_ret0 (p_65_156 _ _) h
theorem kc_92 {L : Nat} {xs : Nat → Int32} {d : Nat} {K : Option Int32 → Nat → Nat → sT → Prop} (h : K (some (-1 : Int32)) 186 104467 sx_125) : tH L xs 186 104467 (d + 0) 84 0 [.ref 1, .int (0 : Int32)] [] sx_125 K := by
  refine h_iload (p_84_0 _ _) rfl ?_
  refine h_ifF (p_84_1 _ _) (by decide) ?_
  refine h_iload (p_84_4 _ _) rfl ?_
  refine h_aload (p_84_5 _ _) rfl ?_
  refine h_geti (x := (5 : Int32)) (p_84_6 _ _) isI_8_7 sh_1 (by decide +kernel) ?_
  refine h_cmpF (p_84_9 _ _) (by decide) ?_
  refine h_aload (p_84_12 _ _) rfl ?_
  refine h_getr (a := 5) (p_84_13 _ _) isI_8_3 sh_1 (by decide +kernel) ?_
  refine h_iload (p_84_16 _ _) rfl ?_
  refine h_ald (k := 0) (x := (-1 : Int32)) (p_84_17 _ _) sh_5 (by decide) (by decide) (by decide +kernel) ?_
  refine h_goto (p_84_18 _ _) ?_
  exact h_ret1 (p_84_22 _ _) h
theorem kc_93 {L : Nat} {xs : Nat → Int32} {d : Nat} {K : Option Int32 → Nat → Nat → sT → Prop} (h : K (some (0 : Int32)) 186 104467 sx_125) : tH L xs 186 104467 (d + 1) 86 0 [.ref 1, .int (0 : Int32)] [] sx_125 K := by
  refine h_aload (p_86_0 _ _) rfl ?_
  refine h_iload (p_86_1 _ _) rfl ?_
  refine h_callr (x := (-1 : Int32)) (z := 84) (i := 1) (as := [.int (0 : Int32)]) (rest := []) (p_86_2 _ _) mK_84 mL_84 rfl rfl (Nat.le_of_ble_eq_true rfl) rfl (Nat.le_of_ble_eq_true rfl) sh_1 (kc_92 (d := d + 0) ⟨rfl, ?_⟩)
  refine h_ifT (p_86_5 _ _) (by decide) ?_
  refine h_push (p_86_12 _ _) ?_
  exact h_ret2 (p_86_13 _ _) (by decide) h
def sx_126 : sT := pV (sx_125) 12 5 (0 : Int32)
theorem kc_94 {L : Nat} {xs : Nat → Int32} {d : Nat} {K : Option Int32 → Nat → Nat → sT → Prop} (h : K none 186 104467 sx_126) : tH L xs 186 104467 (d + 2) 64 0 [.ref 12, .int (0 : Int32), .ref 65, .int (0 : Int32), .null, .null, .null] [] sx_124 K := by
  refine h_push (p_64_0 _ _) ?_
  refine h_istore (ls1 := [.ref 12, .int (0 : Int32), .ref 65, .int (0 : Int32), .int (1 : Int32), .null, .null]) (p_64_1 _ _) (Nat.le_of_ble_eq_true rfl) rfl rfl ?_
  refine h_aload (p_64_3 _ _) rfl ?_
  refine h_geti (x := (1 : Int32)) (p_64_4 _ _) isI_6_5 sh_12 (by decide +kernel) ?_
  refine h_push (p_64_7 _ _) ?_
  refine h_bin (w := (0 : Int32)) (p_64_8 _ _) (by decide) ?_
  refine h_istore (ls1 := [.ref 12, .int (0 : Int32), .ref 65, .int (0 : Int32), .int (1 : Int32), .int (0 : Int32), .null]) (p_64_9 _ _) (Nat.le_of_ble_eq_true rfl) rfl rfl ?_
  refine h_iload (p_64_11 _ _) rfl ?_
  refine h_iload (p_64_13 _ _) rfl ?_
  refine h_cmpF (p_64_14 _ _) (by decide) ?_
  refine h_iload (p_64_17 _ _) rfl ?_
  refine h_ifF (p_64_19 _ _) (by decide) ?_
  refine h_aload (p_64_22 _ _) rfl ?_
  refine h_getr (a := 15) (p_64_23 _ _) isI_6_3 sh_12 (by decide +kernel) ?_
  refine h_iload (p_64_26 _ _) rfl ?_
  refine h_ald (k := 0) (x := (0 : Int32)) (p_64_28 _ _) sh_15 (by decide) (by decide) (by decide +kernel) ?_
  refine h_istore (ls1 := [.ref 12, .int (0 : Int32), .ref 65, .int (0 : Int32), .int (1 : Int32), .int (0 : Int32), .int (0 : Int32)]) (p_64_29 _ _) (Nat.le_of_ble_eq_true rfl) rfl rfl ?_
  refine h_aload (p_64_31 _ _) rfl ?_
  refine h_iload (p_64_32 _ _) rfl ?_
  refine h_puti (p_64_34 _ _) isI_6_5 sh_12 (by decide) ?_
  refine h_aload (p_64_37 _ _) rfl ?_
  refine h_iload (p_64_38 _ _) rfl ?_
  refine h_aload (p_64_40 _ _) rfl ?_
  refine h_iload (p_64_41 _ _) rfl ?_
  refine h_call (z := 65) (i := 12) (as := [.int (0 : Int32), .ref 65, .int (0 : Int32)]) (rest := []) (p_64_42 _ _) mK_65 mL_65 rfl rfl (Nat.le_of_ble_eq_true rfl) rfl (Nat.le_of_ble_eq_true rfl) sh_12 (kc_91 (d := d + 0) ⟨rfl, ?_⟩)
  refine h_aload (p_64_45 _ _) rfl ?_
  refine h_getr (a := 1) (p_64_46 _ _) isI_6_0 sh_12 (by decide +kernel) ?_
  refine h_iload (p_64_49 _ _) rfl ?_
  refine h_callr (x := (0 : Int32)) (z := 86) (i := 1) (as := [.int (0 : Int32)]) (rest := []) (p_64_51 _ _) mK_86 mL_86 rfl rfl (Nat.le_of_ble_eq_true rfl) rfl (Nat.le_of_ble_eq_true rfl) sh_1 (kc_93 (d := d + 0) ⟨rfl, ?_⟩)
  refine h_istore (ls1 := [.ref 12, .int (0 : Int32), .ref 65, .int (0 : Int32), .int (0 : Int32), .int (0 : Int32), .int (0 : Int32)]) (p_64_54 _ _) (Nat.le_of_ble_eq_true rfl) rfl rfl ?_
  refine h_iinc (x1 := (-1 : Int32)) (ls1 := [.ref 12, .int (0 : Int32), .ref 65, .int (0 : Int32), .int (0 : Int32), .int (-1 : Int32), .int (0 : Int32)]) (p_64_56 _ _) rfl rfl (by decide) rfl ?_
  refine h_goto (p_64_59 _ _) ?_
  refine h_iload (p_64_11 _ _) rfl ?_
  refine h_iload (p_64_13 _ _) rfl ?_
  refine h_cmpT (p_64_14 _ _) (by decide) ?_
  refine h_aload (p_64_62 _ _) rfl ?_
  refine h_iload (p_64_63 _ _) rfl ?_
  refine h_puti (p_64_64 _ _) isI_6_5 sh_12 (by decide) ?_
  exact h_ret0 (p_64_67 _ _) h
theorem kc_95 {L : Nat} {xs : Nat → Int32} {d : Nat} {K : Option Int32 → Nat → Nat → sT → Prop} (h : K none 186 104467 sx_126) : tH L xs 186 104467 (d + 3) 63 0 [.ref 12, .int (0 : Int32), .int (1 : Int32), .ref 65, .null] [] sx_120 K := by
  refine h_aload (p_63_0 _ _) rfl ?_
  refine h_push (p_63_1 _ _) ?_
  refine h_iload (p_63_2 _ _) rfl ?_
  refine h_bin (w := (3 : Int32)) (p_63_3 _ _) (by decide) ?_
  refine h_puti (p_63_4 _ _) isI_6_7 sh_12 (by decide) ?_
  refine h_aload (p_63_7 _ _) rfl ?_
  refine h_iload (p_63_8 _ _) rfl ?_
  refine h_call (z := 41) (i := 65) (as := [.int (1 : Int32)]) (rest := []) (p_63_9 _ _) mK_41 mL_41 rfl rfl (Nat.le_of_ble_eq_true rfl) rfl (Nat.le_of_ble_eq_true rfl) sh_65 (kc_88 (d := d + 2) ⟨rfl, ?_⟩)
  refine h_aload (p_63_12 _ _) rfl ?_
  refine h_push (p_63_13 _ _) ?_
  refine h_puti (p_63_14 _ _) isI_6_5 sh_12 (by decide) ?_
  refine h_aload (p_63_17 _ _) rfl ?_
  refine h_getr (a := 14) (p_63_18 _ _) isI_6_2 sh_12 (by decide +kernel) ?_
  refine h_iload (p_63_21 _ _) rfl ?_
  refine h_ald (k := 0) (x := (1 : Int32)) (p_63_22 _ _) sh_14 (by decide) (by decide) (by decide +kernel) ?_
  refine h_push (p_63_23 _ _) ?_
  refine h_bin (w := (0 : Int32)) (p_63_24 _ _) (by decide) ?_
  refine h_istore (ls1 := [.ref 12, .int (0 : Int32), .int (1 : Int32), .ref 65, .int (0 : Int32)]) (p_63_25 _ _) (Nat.le_of_ble_eq_true rfl) rfl rfl ?_
  refine h_iload (p_63_27 _ _) rfl ?_
  refine h_ifF (p_63_29 _ _) (by decide) ?_
  refine h_aload (p_63_32 _ _) rfl ?_
  refine h_aload (p_63_33 _ _) rfl ?_
  refine h_getr (a := 13) (p_63_34 _ _) isI_6_1 sh_12 (by decide +kernel) ?_
  refine h_iload (p_63_37 _ _) rfl ?_
  refine h_push (p_63_38 _ _) ?_
  refine h_bin (w := (0 : Int32)) (p_63_40 _ _) (by decide) ?_
  refine h_iload (p_63_41 _ _) rfl ?_
  refine h_bin (w := (0 : Int32)) (p_63_43 _ _) (by decide) ?_
  refine h_ald (k := 0) (x := (0 : Int32)) (p_63_44 _ _) sh_13 (by decide) (by decide) (by decide +kernel) ?_
  refine h_call (z := 67) (i := 12) (as := [.int (0 : Int32)]) (rest := []) (p_63_45 _ _) mK_67 mL_67 rfl rfl (Nat.le_of_ble_eq_true rfl) rfl (Nat.le_of_ble_eq_true rfl) sh_12 (kc_89 (d := d + 2) ⟨rfl, ?_⟩)
  refine h_iinc (x1 := (-1 : Int32)) (ls1 := [.ref 12, .int (0 : Int32), .int (1 : Int32), .ref 65, .int (-1 : Int32)]) (p_63_48 _ _) rfl rfl (by decide) rfl ?_
  refine h_goto (p_63_51 _ _) ?_
  refine h_iload (p_63_27 _ _) rfl ?_
  refine h_ifT (p_63_29 _ _) (by decide) ?_
  refine h_aload (p_63_54 _ _) rfl ?_
  refine h_push (p_63_55 _ _) ?_
  refine h_aload (p_63_56 _ _) rfl ?_
  refine h_push (p_63_57 _ _) ?_
  refine h_call (z := 64) (i := 12) (as := [.int (0 : Int32), .ref 65, .int (0 : Int32)]) (rest := []) (p_63_58 _ _) mK_64 mL_64 rfl rfl (Nat.le_of_ble_eq_true rfl) rfl (Nat.le_of_ble_eq_true rfl) sh_12 (kc_94 (d := d + 0) ⟨rfl, ?_⟩)
  exact h_ret0 (p_63_61 _ _) h
def sx_127 : sT := pV (sx_126) 12 7 (4 : Int32)
def sx_128 : sT := pV (pV (pV (sx_127) 65 10 (2 : Int32)) 71 2 (0 : Int32)) 72 3 (0 : Int32)
theorem kc_96 {L : Nat} {xs : Nat → Int32} {d : Nat} {K : Option Int32 → Nat → Nat → sT → Prop} (h : K none 186 104467 sx_128) : tH L xs 186 104467 (d + 0) 41 0 [.ref 65, .int (2 : Int32)] [] sx_127 K := by
  refine h_aload (p_41_0 _ _) rfl ?_
  refine h_aload (p_41_1 _ _) rfl ?_
  refine h_geti (x := (0 : Int32)) (p_41_2 _ _) isI_5_6 sh_65 (by decide +kernel) ?_
  refine h_push (p_41_5 _ _) ?_
  refine h_bin (w := (0 : Int32)) (p_41_6 _ _) (by decide) ?_
  refine h_iload (p_41_7 _ _) rfl ?_
  refine h_bin (w := (2 : Int32)) (p_41_8 _ _) (by decide) ?_
  refine h_puti (p_41_9 _ _) isI_5_10 sh_65 (by decide) ?_
  refine h_aload (p_41_12 _ _) rfl ?_
  refine h_getr (a := 71) (p_41_13 _ _) isI_5_3 sh_65 (by decide +kernel) ?_
  refine h_aload (p_41_16 _ _) rfl ?_
  refine h_geti (x := (2 : Int32)) (p_41_17 _ _) isI_5_10 sh_65 (by decide +kernel) ?_
  refine h_push (p_41_20 _ _) ?_
  refine h_ast (k := 2) (p_41_21 _ _) sh_71 (by decide) (by decide) (by decide) ?_
  refine h_aload (p_41_22 _ _) rfl ?_
  refine h_getr (a := 72) (p_41_23 _ _) isI_5_4 sh_65 (by decide +kernel) ?_
  refine h_aload (p_41_26 _ _) rfl ?_
  refine h_geti (x := (2 : Int32)) (p_41_27 _ _) isI_5_10 sh_65 (by decide +kernel) ?_
  refine h_push (p_41_30 _ _) ?_
  refine h_bin (w := (3 : Int32)) (p_41_31 _ _) (by decide) ?_
  refine h_aload (p_41_32 _ _) rfl ?_
  refine h_getr (a := 72) (p_41_33 _ _) isI_5_4 sh_65 (by decide +kernel) ?_
  refine h_aload (p_41_36 _ _) rfl ?_
  refine h_geti (x := (2 : Int32)) (p_41_37 _ _) isI_5_10 sh_65 (by decide +kernel) ?_
  refine h_ald (k := 2) (x := (0 : Int32)) (p_41_40 _ _) sh_72 (by decide) (by decide) (by decide +kernel) ?_
  refine h_ast (k := 3) (p_41_41 _ _) sh_72 (by decide) (by decide) (by decide) ?_
  exact h_ret0 (p_41_42 _ _) h
def sx_129 : sT := pV (sx_128) 12 5 (0 : Int32)
def sx_130 : sT := pV (pV (sx_129) 15 0 (0 : Int32)) 12 5 (1 : Int32)
theorem kc_97 {L : Nat} {xs : Nat → Int32} {d : Nat} {K : Option Int32 → Nat → Nat → sT → Prop} (h : K none 186 104467 sx_130) : tH L xs 186 104467 (d + 0) 67 0 [.ref 12, .int (0 : Int32)] [] sx_129 K := by
  refine h_aload (p_67_0 _ _) rfl ?_
  refine h_geti (x := (0 : Int32)) (p_67_1 _ _) isI_6_5 sh_12 (by decide +kernel) ?_
  refine h_push (p_67_4 _ _) ?_
  refine h_cmpF (p_67_7 _ _) (by decide) ?_
  refine h_aload (p_67_10 _ _) rfl ?_
  refine h_getr (a := 15) (p_67_11 _ _) isI_6_3 sh_12 (by decide +kernel) ?_
  refine h_aload (p_67_14 _ _) rfl ?_
  refine h_geti (x := (0 : Int32)) (p_67_15 _ _) isI_6_5 sh_12 (by decide +kernel) ?_
  refine h_iload (p_67_18 _ _) rfl ?_
  refine h_ast (k := 0) (p_67_19 _ _) sh_15 (by decide) (by decide) (by decide) ?_
  refine h_aload (p_67_20 _ _) rfl ?_
  refine h_dup (p_67_21 _ _) ?_
  refine h_geti (x := (0 : Int32)) (p_67_22 _ _) isI_6_5 sh_12 (by decide +kernel) ?_
  refine h_push (p_67_25 _ _) ?_
  refine h_bin (w := (1 : Int32)) (p_67_26 _ _) (by decide) ?_
  refine h_puti (p_67_27 _ _) isI_6_5 sh_12 (by decide) ?_
  exact h_ret0 (p_67_30 _ _) h
def sx_131 : sT := pV (sx_130) 12 5 (0 : Int32)
theorem kc_98 {L : Nat} {xs : Nat → Int32} {d : Nat} {K : Option Int32 → Nat → Nat → sT → Prop} (h : K (some (0 : Int32)) 186 104467 sx_131) : tH L xs 186 104467 (d + 0) 81 0 [.ref 1, .int (0 : Int32)] [] sx_131 K := by
  refine h_iload (p_81_0 _ _) rfl ?_
  refine h_ifF (p_81_1 _ _) (by decide) ?_
  refine h_iload (p_81_4 _ _) rfl ?_
  refine h_aload (p_81_5 _ _) rfl ?_
  refine h_geti (x := (5 : Int32)) (p_81_6 _ _) isI_8_7 sh_1 (by decide +kernel) ?_
  refine h_cmpF (p_81_9 _ _) (by decide) ?_
  refine h_aload (p_81_12 _ _) rfl ?_
  refine h_getr (a := 2) (p_81_13 _ _) isI_8_0 sh_1 (by decide +kernel) ?_
  refine h_iload (p_81_16 _ _) rfl ?_
  refine h_ald (k := 0) (x := (0 : Int32)) (p_81_17 _ _) sh_2 (by decide) (by decide) (by decide +kernel) ?_
  refine h_goto (p_81_18 _ _) ?_
  exact h_ret1 (p_81_22 _ _) h
theorem kc_99 {L : Nat} {xs : Nat → Int32} {d : Nat} {K : Option Int32 → Nat → Nat → sT → Prop} (h : K none 186 104467 sx_131) : tH L xs 186 104467 (d + 1) 65 0 [.ref 12, .int (0 : Int32), .ref 65, .int (0 : Int32), .null, .null] [] sx_131 K := by
  refine h_iload (p_65_0 _ _) rfl ?_
  refine h_push (p_65_1 _ _) ?_
  refine h_cmpT (p_65_3 _ _) (by decide) ?_
  refine h_aload (p_65_7 _ _) rfl ?_
  refine h_geti (x := (0 : Int32)) (p_65_8 _ _) isI_6_5 sh_12 (by decide +kernel) ?_
  refine h_istore (ls1 := [.ref 12, .int (0 : Int32), .ref 65, .int (0 : Int32), .int (0 : Int32), .null]) (p_65_11 _ _) (Nat.le_of_ble_eq_true rfl) rfl rfl ?_
  refine h_aload (p_65_13 _ _) rfl ?_
  refine h_getr (a := 1) (p_65_14 _ _) isI_6_0 sh_12 (by decide +kernel) ?_
  refine h_iload (p_65_17 _ _) rfl ?_
  refine h_callr (x := (0 : Int32)) (z := 81) (i := 1) (as := [.int (0 : Int32)]) (rest := []) (p_65_18 _ _) mK_81 mL_81 rfl rfl (Nat.le_of_ble_eq_true rfl) rfl (Nat.le_of_ble_eq_true rfl) sh_1 (kc_98 (d := d + 0) ⟨rfl, ?_⟩)
  refine h_tab (t := 140) (p_65_21 _ _) (by decide) ?_
  refine h_iload (p_65_140 _ _) rfl ?_
  refine h_aload (p_65_141 _ _) rfl ?_
  refine h_geti (x := (4 : Int32)) (p_65_142 _ _) isI_6_7 sh_12 (by decide +kernel) ?_
  refine h_cmpT (p_65_145 _ _) (by decide) ?_
  exact h_ret0 (p_65_156 _ _) h
theorem kc_100 {L : Nat} {xs : Nat → Int32} {d : Nat} {K : Option Int32 → Nat → Nat → sT → Prop} (h : K (some (-1 : Int32)) 186 104467 sx_131) : tH L xs 186 104467 (d + 0) 84 0 [.ref 1, .int (0 : Int32)] [] sx_131 K := by
  refine h_iload (p_84_0 _ _) rfl ?_
  refine h_ifF (p_84_1 _ _) (by decide) ?_
  refine h_iload (p_84_4 _ _) rfl ?_
  refine h_aload (p_84_5 _ _) rfl ?_
  refine h_geti (x := (5 : Int32)) (p_84_6 _ _) isI_8_7 sh_1 (by decide +kernel) ?_
  refine h_cmpF (p_84_9 _ _) (by decide) ?_
  refine h_aload (p_84_12 _ _) rfl ?_
  refine h_getr (a := 5) (p_84_13 _ _) isI_8_3 sh_1 (by decide +kernel) ?_
  refine h_iload (p_84_16 _ _) rfl ?_
  refine h_ald (k := 0) (x := (-1 : Int32)) (p_84_17 _ _) sh_5 (by decide) (by decide) (by decide +kernel) ?_
  refine h_goto (p_84_18 _ _) ?_
  exact h_ret1 (p_84_22 _ _) h
theorem kc_101 {L : Nat} {xs : Nat → Int32} {d : Nat} {K : Option Int32 → Nat → Nat → sT → Prop} (h : K (some (0 : Int32)) 186 104467 sx_131) : tH L xs 186 104467 (d + 1) 86 0 [.ref 1, .int (0 : Int32)] [] sx_131 K := by
  refine h_aload (p_86_0 _ _) rfl ?_
  refine h_iload (p_86_1 _ _) rfl ?_
  refine h_callr (x := (-1 : Int32)) (z := 84) (i := 1) (as := [.int (0 : Int32)]) (rest := []) (p_86_2 _ _) mK_84 mL_84 rfl rfl (Nat.le_of_ble_eq_true rfl) rfl (Nat.le_of_ble_eq_true rfl) sh_1 (kc_100 (d := d + 0) ⟨rfl, ?_⟩)
  refine h_ifT (p_86_5 _ _) (by decide) ?_
  refine h_push (p_86_12 _ _) ?_
  exact h_ret2 (p_86_13 _ _) (by decide) h
