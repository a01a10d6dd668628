/-! THE PROGRAM (written by wip/whole/gen.py) -/
def ll_codes : List (List (Nat × ll_O)) := [cd_0, cd_1, cd_2, cd_3, cd_4, cd_5, cd_6, cd_7, cd_8, cd_9, cd_10, cd_11, cd_12, cd_13, cd_14, cd_15, cd_16, cd_17, cd_18, cd_19, cd_20, cd_21, cd_22, cd_23, cd_24, cd_25, cd_26, cd_27, cd_28, cd_29, cd_30, cd_31, cd_32, cd_33, cd_34, cd_35, cd_36, cd_37, cd_38, cd_39, cd_40, cd_41, cd_42, cd_43, cd_44, cd_45, cd_46, cd_47, cd_48, cd_49, cd_50, cd_51, cd_52, cd_53, cd_54, cd_55, cd_56, cd_57, cd_58, cd_59, cd_60, cd_61, cd_62, cd_63, cd_64, cd_65, cd_66, cd_67, cd_68, cd_69, cd_70, cd_71, cd_72, cd_73, cd_74, cd_75, cd_76, cd_77, cd_78, cd_79, cd_80, cd_81, cd_82, cd_83, cd_84, cd_85, cd_86, cd_87, cd_88, cd_89, cd_90, cd_91, cd_92, cd_93, cd_94, cd_95, cd_96, cd_97, cd_98, cd_99, cd_100, cd_101, cd_102, cd_103, cd_104, cd_105, cd_106, cd_107, cd_108, cd_109, cd_110, cd_111, cd_112, cd_113, cd_114, cd_115, cd_116, cd_117, cd_118, cd_119, cd_120, cd_121, cd_122, cd_123, cd_124, cd_125, cd_126, cd_127, cd_128, cd_129, cd_130, cd_131, cd_132, cd_133, cd_134, cd_135, cd_136, cd_137, cd_138, cd_139, cd_140, cd_141, cd_142, cd_143, cd_144, cd_145, cd_146, cd_147, cd_148, cd_149, cd_150, cd_151, cd_152, cd_153, cd_154, cd_155, cd_156, cd_157, cd_158, cd_159, cd_160, cd_161, cd_162, cd_163, cd_164, cd_165, cd_166, cd_167, cd_168, cd_169, cd_170, cd_171, cd_172, cd_173, cd_174, cd_175, cd_176, cd_177, cd_178, cd_179, cd_180, cd_181, cd_182, cd_183, cd_184, cd_185, cd_186, cd_187, cd_188, cd_189, cd_190, cd_191, cd_192, cd_193, cd_194, cd_195, cd_196, cd_197, cd_198, cd_199, cd_200, cd_201, cd_202, cd_203, cd_204, cd_205, cd_206, cd_207, cd_208, cd_209, cd_210, cd_211, cd_212, cd_213, cd_214, cd_215, cd_216, cd_217, cd_218, cd_219, cd_220, cd_221, cd_222, cd_223, cd_224, cd_225, cd_226, cd_227, cd_228, cd_229, cd_230, cd_231]
def ll_P (L : Nat) (xs : Nat → Int32) (y pc : Nat) : Option ll_O := (ll_codes.getD y (cd_232 L xs)).lookup pc
theorem P_0 (L : Nat) (xs : Nat → Int32) (pc : Nat) : ll_P L xs 0 pc = (cd_0).lookup pc := rfl
theorem P_1 (L : Nat) (xs : Nat → Int32) (pc : Nat) : ll_P L xs 1 pc = (cd_1).lookup pc := rfl
theorem P_2 (L : Nat) (xs : Nat → Int32) (pc : Nat) : ll_P L xs 2 pc = (cd_2).lookup pc := rfl
theorem P_3 (L : Nat) (xs : Nat → Int32) (pc : Nat) : ll_P L xs 3 pc = (cd_3).lookup pc := rfl
theorem P_4 (L : Nat) (xs : Nat → Int32) (pc : Nat) : ll_P L xs 4 pc = (cd_4).lookup pc := rfl
theorem P_5 (L : Nat) (xs : Nat → Int32) (pc : Nat) : ll_P L xs 5 pc = (cd_5).lookup pc := rfl
theorem P_6 (L : Nat) (xs : Nat → Int32) (pc : Nat) : ll_P L xs 6 pc = (cd_6).lookup pc := rfl
theorem P_7 (L : Nat) (xs : Nat → Int32) (pc : Nat) : ll_P L xs 7 pc = (cd_7).lookup pc := rfl
theorem P_8 (L : Nat) (xs : Nat → Int32) (pc : Nat) : ll_P L xs 8 pc = (cd_8).lookup pc := rfl
theorem P_9 (L : Nat) (xs : Nat → Int32) (pc : Nat) : ll_P L xs 9 pc = (cd_9).lookup pc := rfl
theorem P_10 (L : Nat) (xs : Nat → Int32) (pc : Nat) : ll_P L xs 10 pc = (cd_10).lookup pc := rfl
theorem P_11 (L : Nat) (xs : Nat → Int32) (pc : Nat) : ll_P L xs 11 pc = (cd_11).lookup pc := rfl
theorem P_12 (L : Nat) (xs : Nat → Int32) (pc : Nat) : ll_P L xs 12 pc = (cd_12).lookup pc := rfl
theorem P_13 (L : Nat) (xs : Nat → Int32) (pc : Nat) : ll_P L xs 13 pc = (cd_13).lookup pc := rfl
theorem P_14 (L : Nat) (xs : Nat → Int32) (pc : Nat) : ll_P L xs 14 pc = (cd_14).lookup pc := rfl
theorem P_15 (L : Nat) (xs : Nat → Int32) (pc : Nat) : ll_P L xs 15 pc = (cd_15).lookup pc := rfl
theorem P_16 (L : Nat) (xs : Nat → Int32) (pc : Nat) : ll_P L xs 16 pc = (cd_16).lookup pc := rfl
theorem P_17 (L : Nat) (xs : Nat → Int32) (pc : Nat) : ll_P L xs 17 pc = (cd_17).lookup pc := rfl
theorem P_18 (L : Nat) (xs : Nat → Int32) (pc : Nat) : ll_P L xs 18 pc = (cd_18).lookup pc := rfl
theorem P_19 (L : Nat) (xs : Nat → Int32) (pc : Nat) : ll_P L xs 19 pc = (cd_19).lookup pc := rfl
theorem P_20 (L : Nat) (xs : Nat → Int32) (pc : Nat) : ll_P L xs 20 pc = (cd_20).lookup pc := rfl
theorem P_21 (L : Nat) (xs : Nat → Int32) (pc : Nat) : ll_P L xs 21 pc = (cd_21).lookup pc := rfl
theorem P_22 (L : Nat) (xs : Nat → Int32) (pc : Nat) : ll_P L xs 22 pc = (cd_22).lookup pc := rfl
theorem P_23 (L : Nat) (xs : Nat → Int32) (pc : Nat) : ll_P L xs 23 pc = (cd_23).lookup pc := rfl
theorem P_24 (L : Nat) (xs : Nat → Int32) (pc : Nat) : ll_P L xs 24 pc = (cd_24).lookup pc := rfl
theorem P_25 (L : Nat) (xs : Nat → Int32) (pc : Nat) : ll_P L xs 25 pc = (cd_25).lookup pc := rfl
theorem P_26 (L : Nat) (xs : Nat → Int32) (pc : Nat) : ll_P L xs 26 pc = (cd_26).lookup pc := rfl
theorem P_27 (L : Nat) (xs : Nat → Int32) (pc : Nat) : ll_P L xs 27 pc = (cd_27).lookup pc := rfl
theorem P_28 (L : Nat) (xs : Nat → Int32) (pc : Nat) : ll_P L xs 28 pc = (cd_28).lookup pc := rfl
theorem P_29 (L : Nat) (xs : Nat → Int32) (pc : Nat) : ll_P L xs 29 pc = (cd_29).lookup pc := rfl
theorem P_30 (L : Nat) (xs : Nat → Int32) (pc : Nat) : ll_P L xs 30 pc = (cd_30).lookup pc := rfl
theorem P_31 (L : Nat) (xs : Nat → Int32) (pc : Nat) : ll_P L xs 31 pc = (cd_31).lookup pc := rfl
theorem P_32 (L : Nat) (xs : Nat → Int32) (pc : Nat) : ll_P L xs 32 pc = (cd_32).lookup pc := rfl
theorem P_33 (L : Nat) (xs : Nat → Int32) (pc : Nat) : ll_P L xs 33 pc = (cd_33).lookup pc := rfl
theorem P_34 (L : Nat) (xs : Nat → Int32) (pc : Nat) : ll_P L xs 34 pc = (cd_34).lookup pc := rfl
theorem P_35 (L : Nat) (xs : Nat → Int32) (pc : Nat) : ll_P L xs 35 pc = (cd_35).lookup pc := rfl
theorem P_36 (L : Nat) (xs : Nat → Int32) (pc : Nat) : ll_P L xs 36 pc = (cd_36).lookup pc := rfl
theorem P_37 (L : Nat) (xs : Nat → Int32) (pc : Nat) : ll_P L xs 37 pc = (cd_37).lookup pc := rfl
theorem P_38 (L : Nat) (xs : Nat → Int32) (pc : Nat) : ll_P L xs 38 pc = (cd_38).lookup pc := rfl
theorem P_39 (L : Nat) (xs : Nat → Int32) (pc : Nat) : ll_P L xs 39 pc = (cd_39).lookup pc := rfl
theorem P_40 (L : Nat) (xs : Nat → Int32) (pc : Nat) : ll_P L xs 40 pc = (cd_40).lookup pc := rfl
theorem P_41 (L : Nat) (xs : Nat → Int32) (pc : Nat) : ll_P L xs 41 pc = (cd_41).lookup pc := rfl
theorem P_42 (L : Nat) (xs : Nat → Int32) (pc : Nat) : ll_P L xs 42 pc = (cd_42).lookup pc := rfl
theorem P_43 (L : Nat) (xs : Nat → Int32) (pc : Nat) : ll_P L xs 43 pc = (cd_43).lookup pc := rfl
theorem P_44 (L : Nat) (xs : Nat → Int32) (pc : Nat) : ll_P L xs 44 pc = (cd_44).lookup pc := rfl
theorem P_45 (L : Nat) (xs : Nat → Int32) (pc : Nat) : ll_P L xs 45 pc = (cd_45).lookup pc := rfl
theorem P_46 (L : Nat) (xs : Nat → Int32) (pc : Nat) : ll_P L xs 46 pc = (cd_46).lookup pc := rfl
theorem P_47 (L : Nat) (xs : Nat → Int32) (pc : Nat) : ll_P L xs 47 pc = (cd_47).lookup pc := rfl
theorem P_48 (L : Nat) (xs : Nat → Int32) (pc : Nat) : ll_P L xs 48 pc = (cd_48).lookup pc := rfl
theorem P_49 (L : Nat) (xs : Nat → Int32) (pc : Nat) : ll_P L xs 49 pc = (cd_49).lookup pc := rfl
theorem P_50 (L : Nat) (xs : Nat → Int32) (pc : Nat) : ll_P L xs 50 pc = (cd_50).lookup pc := rfl
theorem P_51 (L : Nat) (xs : Nat → Int32) (pc : Nat) : ll_P L xs 51 pc = (cd_51).lookup pc := rfl
theorem P_52 (L : Nat) (xs : Nat → Int32) (pc : Nat) : ll_P L xs 52 pc = (cd_52).lookup pc := rfl
theorem P_53 (L : Nat) (xs : Nat → Int32) (pc : Nat) : ll_P L xs 53 pc = (cd_53).lookup pc := rfl
theorem P_54 (L : Nat) (xs : Nat → Int32) (pc : Nat) : ll_P L xs 54 pc = (cd_54).lookup pc := rfl
theorem P_55 (L : Nat) (xs : Nat → Int32) (pc : Nat) : ll_P L xs 55 pc = (cd_55).lookup pc := rfl
theorem P_56 (L : Nat) (xs : Nat → Int32) (pc : Nat) : ll_P L xs 56 pc = (cd_56).lookup pc := rfl
theorem P_57 (L : Nat) (xs : Nat → Int32) (pc : Nat) : ll_P L xs 57 pc = (cd_57).lookup pc := rfl
theorem P_58 (L : Nat) (xs : Nat → Int32) (pc : Nat) : ll_P L xs 58 pc = (cd_58).lookup pc := rfl
theorem P_59 (L : Nat) (xs : Nat → Int32) (pc : Nat) : ll_P L xs 59 pc = (cd_59).lookup pc := rfl
theorem P_60 (L : Nat) (xs : Nat → Int32) (pc : Nat) : ll_P L xs 60 pc = (cd_60).lookup pc := rfl
theorem P_61 (L : Nat) (xs : Nat → Int32) (pc : Nat) : ll_P L xs 61 pc = (cd_61).lookup pc := rfl
theorem P_62 (L : Nat) (xs : Nat → Int32) (pc : Nat) : ll_P L xs 62 pc = (cd_62).lookup pc := rfl
theorem P_63 (L : Nat) (xs : Nat → Int32) (pc : Nat) : ll_P L xs 63 pc = (cd_63).lookup pc := rfl
theorem P_64 (L : Nat) (xs : Nat → Int32) (pc : Nat) : ll_P L xs 64 pc = (cd_64).lookup pc := rfl
theorem P_65 (L : Nat) (xs : Nat → Int32) (pc : Nat) : ll_P L xs 65 pc = (cd_65).lookup pc := rfl
theorem P_66 (L : Nat) (xs : Nat → Int32) (pc : Nat) : ll_P L xs 66 pc = (cd_66).lookup pc := rfl
theorem P_67 (L : Nat) (xs : Nat → Int32) (pc : Nat) : ll_P L xs 67 pc = (cd_67).lookup pc := rfl
theorem P_68 (L : Nat) (xs : Nat → Int32) (pc : Nat) : ll_P L xs 68 pc = (cd_68).lookup pc := rfl
theorem P_69 (L : Nat) (xs : Nat → Int32) (pc : Nat) : ll_P L xs 69 pc = (cd_69).lookup pc := rfl
theorem P_70 (L : Nat) (xs : Nat → Int32) (pc : Nat) : ll_P L xs 70 pc = (cd_70).lookup pc := rfl
theorem P_71 (L : Nat) (xs : Nat → Int32) (pc : Nat) : ll_P L xs 71 pc = (cd_71).lookup pc := rfl
theorem P_72 (L : Nat) (xs : Nat → Int32) (pc : Nat) : ll_P L xs 72 pc = (cd_72).lookup pc := rfl
theorem P_73 (L : Nat) (xs : Nat → Int32) (pc : Nat) : ll_P L xs 73 pc = (cd_73).lookup pc := rfl
theorem P_74 (L : Nat) (xs : Nat → Int32) (pc : Nat) : ll_P L xs 74 pc = (cd_74).lookup pc := rfl
theorem P_75 (L : Nat) (xs : Nat → Int32) (pc : Nat) : ll_P L xs 75 pc = (cd_75).lookup pc := rfl
theorem P_76 (L : Nat) (xs : Nat → Int32) (pc : Nat) : ll_P L xs 76 pc = (cd_76).lookup pc := rfl
theorem P_77 (L : Nat) (xs : Nat → Int32) (pc : Nat) : ll_P L xs 77 pc = (cd_77).lookup pc := rfl
theorem P_78 (L : Nat) (xs : Nat → Int32) (pc : Nat) : ll_P L xs 78 pc = (cd_78).lookup pc := rfl
theorem P_79 (L : Nat) (xs : Nat → Int32) (pc : Nat) : ll_P L xs 79 pc = (cd_79).lookup pc := rfl
theorem P_80 (L : Nat) (xs : Nat → Int32) (pc : Nat) : ll_P L xs 80 pc = (cd_80).lookup pc := rfl
theorem P_81 (L : Nat) (xs : Nat → Int32) (pc : Nat) : ll_P L xs 81 pc = (cd_81).lookup pc := rfl
theorem P_82 (L : Nat) (xs : Nat → Int32) (pc : Nat) : ll_P L xs 82 pc = (cd_82).lookup pc := rfl
theorem P_83 (L : Nat) (xs : Nat → Int32) (pc : Nat) : ll_P L xs 83 pc = (cd_83).lookup pc := rfl
theorem P_84 (L : Nat) (xs : Nat → Int32) (pc : Nat) : ll_P L xs 84 pc = (cd_84).lookup pc := rfl
theorem P_85 (L : Nat) (xs : Nat → Int32) (pc : Nat) : ll_P L xs 85 pc = (cd_85).lookup pc := rfl
theorem P_86 (L : Nat) (xs : Nat → Int32) (pc : Nat) : ll_P L xs 86 pc = (cd_86).lookup pc := rfl
theorem P_87 (L : Nat) (xs : Nat → Int32) (pc : Nat) : ll_P L xs 87 pc = (cd_87).lookup pc := rfl
theorem P_88 (L : Nat) (xs : Nat → Int32) (pc : Nat) : ll_P L xs 88 pc = (cd_88).lookup pc := rfl
theorem P_89 (L : Nat) (xs : Nat → Int32) (pc : Nat) : ll_P L xs 89 pc = (cd_89).lookup pc := rfl
theorem P_90 (L : Nat) (xs : Nat → Int32) (pc : Nat) : ll_P L xs 90 pc = (cd_90).lookup pc := rfl
theorem P_91 (L : Nat) (xs : Nat → Int32) (pc : Nat) : ll_P L xs 91 pc = (cd_91).lookup pc := rfl
theorem P_92 (L : Nat) (xs : Nat → Int32) (pc : Nat) : ll_P L xs 92 pc = (cd_92).lookup pc := rfl
theorem P_93 (L : Nat) (xs : Nat → Int32) (pc : Nat) : ll_P L xs 93 pc = (cd_93).lookup pc := rfl
theorem P_94 (L : Nat) (xs : Nat → Int32) (pc : Nat) : ll_P L xs 94 pc = (cd_94).lookup pc := rfl
theorem P_95 (L : Nat) (xs : Nat → Int32) (pc : Nat) : ll_P L xs 95 pc = (cd_95).lookup pc := rfl
theorem P_96 (L : Nat) (xs : Nat → Int32) (pc : Nat) : ll_P L xs 96 pc = (cd_96).lookup pc := rfl
theorem P_97 (L : Nat) (xs : Nat → Int32) (pc : Nat) : ll_P L xs 97 pc = (cd_97).lookup pc := rfl
theorem P_98 (L : Nat) (xs : Nat → Int32) (pc : Nat) : ll_P L xs 98 pc = (cd_98).lookup pc := rfl
theorem P_99 (L : Nat) (xs : Nat → Int32) (pc : Nat) : ll_P L xs 99 pc = (cd_99).lookup pc := rfl
theorem P_100 (L : Nat) (xs : Nat → Int32) (pc : Nat) : ll_P L xs 100 pc = (cd_100).lookup pc := rfl
theorem P_101 (L : Nat) (xs : Nat → Int32) (pc : Nat) : ll_P L xs 101 pc = (cd_101).lookup pc := rfl
theorem P_102 (L : Nat) (xs : Nat → Int32) (pc : Nat) : ll_P L xs 102 pc = (cd_102).lookup pc := rfl
theorem P_103 (L : Nat) (xs : Nat → Int32) (pc : Nat) : ll_P L xs 103 pc = (cd_103).lookup pc := rfl
theorem P_104 (L : Nat) (xs : Nat → Int32) (pc : Nat) : ll_P L xs 104 pc = (cd_104).lookup pc := rfl
theorem P_105 (L : Nat) (xs : Nat → Int32) (pc : Nat) : ll_P L xs 105 pc = (cd_105).lookup pc := rfl
theorem P_106 (L : Nat) (xs : Nat → Int32) (pc : Nat) : ll_P L xs 106 pc = (cd_106).lookup pc := rfl
theorem P_107 (L : Nat) (xs : Nat → Int32) (pc : Nat) : ll_P L xs 107 pc = (cd_107).lookup pc := rfl
theorem P_108 (L : Nat) (xs : Nat → Int32) (pc : Nat) : ll_P L xs 108 pc = (cd_108).lookup pc := rfl
theorem P_109 (L : Nat) (xs : Nat → Int32) (pc : Nat) : ll_P L xs 109 pc = (cd_109).lookup pc := rfl
theorem P_110 (L : Nat) (xs : Nat → Int32) (pc : Nat) : ll_P L xs 110 pc = (cd_110).lookup pc := rfl
theorem P_111 (L : Nat) (xs : Nat → Int32) (pc : Nat) : ll_P L xs 111 pc = (cd_111).lookup pc := rfl
theorem P_112 (L : Nat) (xs : Nat → Int32) (pc : Nat) : ll_P L xs 112 pc = (cd_112).lookup pc := rfl
theorem P_113 (L : Nat) (xs : Nat → Int32) (pc : Nat) : ll_P L xs 113 pc = (cd_113).lookup pc := rfl
theorem P_114 (L : Nat) (xs : Nat → Int32) (pc : Nat) : ll_P L xs 114 pc = (cd_114).lookup pc := rfl
theorem P_115 (L : Nat) (xs : Nat → Int32) (pc : Nat) : ll_P L xs 115 pc = (cd_115).lookup pc := rfl
theorem P_116 (L : Nat) (xs : Nat → Int32) (pc : Nat) : ll_P L xs 116 pc = (cd_116).lookup pc := rfl
theorem P_117 (L : Nat) (xs : Nat → Int32) (pc : Nat) : ll_P L xs 117 pc = (cd_117).lookup pc := rfl
theorem P_118 (L : Nat) (xs : Nat → Int32) (pc : Nat) : ll_P L xs 118 pc = (cd_118).lookup pc := rfl
theorem P_119 (L : Nat) (xs : Nat → Int32) (pc : Nat) : ll_P L xs 119 pc = (cd_119).lookup pc := rfl
theorem P_120 (L : Nat) (xs : Nat → Int32) (pc : Nat) : ll_P L xs 120 pc = (cd_120).lookup pc := rfl
theorem P_121 (L : Nat) (xs : Nat → Int32) (pc : Nat) : ll_P L xs 121 pc = (cd_121).lookup pc := rfl
theorem P_122 (L : Nat) (xs : Nat → Int32) (pc : Nat) : ll_P L xs 122 pc = (cd_122).lookup pc := rfl
theorem P_123 (L : Nat) (xs : Nat → Int32) (pc : Nat) : ll_P L xs 123 pc = (cd_123).lookup pc := rfl
theorem P_124 (L : Nat) (xs : Nat → Int32) (pc : Nat) : ll_P L xs 124 pc = (cd_124).lookup pc := rfl
theorem P_125 (L : Nat) (xs : Nat → Int32) (pc : Nat) : ll_P L xs 125 pc = (cd_125).lookup pc := rfl
theorem P_126 (L : Nat) (xs : Nat → Int32) (pc : Nat) : ll_P L xs 126 pc = (cd_126).lookup pc := rfl
theorem P_127 (L : Nat) (xs : Nat → Int32) (pc : Nat) : ll_P L xs 127 pc = (cd_127).lookup pc := rfl
theorem P_128 (L : Nat) (xs : Nat → Int32) (pc : Nat) : ll_P L xs 128 pc = (cd_128).lookup pc := rfl
theorem P_129 (L : Nat) (xs : Nat → Int32) (pc : Nat) : ll_P L xs 129 pc = (cd_129).lookup pc := rfl
theorem P_130 (L : Nat) (xs : Nat → Int32) (pc : Nat) : ll_P L xs 130 pc = (cd_130).lookup pc := rfl
theorem P_131 (L : Nat) (xs : Nat → Int32) (pc : Nat) : ll_P L xs 131 pc = (cd_131).lookup pc := rfl
theorem P_132 (L : Nat) (xs : Nat → Int32) (pc : Nat) : ll_P L xs 132 pc = (cd_132).lookup pc := rfl
theorem P_133 (L : Nat) (xs : Nat → Int32) (pc : Nat) : ll_P L xs 133 pc = (cd_133).lookup pc := rfl
theorem P_134 (L : Nat) (xs : Nat → Int32) (pc : Nat) : ll_P L xs 134 pc = (cd_134).lookup pc := rfl
theorem P_135 (L : Nat) (xs : Nat → Int32) (pc : Nat) : ll_P L xs 135 pc = (cd_135).lookup pc := rfl
theorem P_136 (L : Nat) (xs : Nat → Int32) (pc : Nat) : ll_P L xs 136 pc = (cd_136).lookup pc := rfl
theorem P_137 (L : Nat) (xs : Nat → Int32) (pc : Nat) : ll_P L xs 137 pc = (cd_137).lookup pc := rfl
theorem P_138 (L : Nat) (xs : Nat → Int32) (pc : Nat) : ll_P L xs 138 pc = (cd_138).lookup pc := rfl
theorem P_139 (L : Nat) (xs : Nat → Int32) (pc : Nat) : ll_P L xs 139 pc = (cd_139).lookup pc := rfl
theorem P_140 (L : Nat) (xs : Nat → Int32) (pc : Nat) : ll_P L xs 140 pc = (cd_140).lookup pc := rfl
theorem P_141 (L : Nat) (xs : Nat → Int32) (pc : Nat) : ll_P L xs 141 pc = (cd_141).lookup pc := rfl
theorem P_142 (L : Nat) (xs : Nat → Int32) (pc : Nat) : ll_P L xs 142 pc = (cd_142).lookup pc := rfl
theorem P_143 (L : Nat) (xs : Nat → Int32) (pc : Nat) : ll_P L xs 143 pc = (cd_143).lookup pc := rfl
theorem P_144 (L : Nat) (xs : Nat → Int32) (pc : Nat) : ll_P L xs 144 pc = (cd_144).lookup pc := rfl
theorem P_145 (L : Nat) (xs : Nat → Int32) (pc : Nat) : ll_P L xs 145 pc = (cd_145).lookup pc := rfl
theorem P_146 (L : Nat) (xs : Nat → Int32) (pc : Nat) : ll_P L xs 146 pc = (cd_146).lookup pc := rfl
theorem P_147 (L : Nat) (xs : Nat → Int32) (pc : Nat) : ll_P L xs 147 pc = (cd_147).lookup pc := rfl
theorem P_148 (L : Nat) (xs : Nat → Int32) (pc : Nat) : ll_P L xs 148 pc = (cd_148).lookup pc := rfl
theorem P_149 (L : Nat) (xs : Nat → Int32) (pc : Nat) : ll_P L xs 149 pc = (cd_149).lookup pc := rfl
theorem P_150 (L : Nat) (xs : Nat → Int32) (pc : Nat) : ll_P L xs 150 pc = (cd_150).lookup pc := rfl
theorem P_151 (L : Nat) (xs : Nat → Int32) (pc : Nat) : ll_P L xs 151 pc = (cd_151).lookup pc := rfl
theorem P_152 (L : Nat) (xs : Nat → Int32) (pc : Nat) : ll_P L xs 152 pc = (cd_152).lookup pc := rfl
theorem P_153 (L : Nat) (xs : Nat → Int32) (pc : Nat) : ll_P L xs 153 pc = (cd_153).lookup pc := rfl
theorem P_154 (L : Nat) (xs : Nat → Int32) (pc : Nat) : ll_P L xs 154 pc = (cd_154).lookup pc := rfl
theorem P_155 (L : Nat) (xs : Nat → Int32) (pc : Nat) : ll_P L xs 155 pc = (cd_155).lookup pc := rfl
theorem P_156 (L : Nat) (xs : Nat → Int32) (pc : Nat) : ll_P L xs 156 pc = (cd_156).lookup pc := rfl
theorem P_157 (L : Nat) (xs : Nat → Int32) (pc : Nat) : ll_P L xs 157 pc = (cd_157).lookup pc := rfl
theorem P_158 (L : Nat) (xs : Nat → Int32) (pc : Nat) : ll_P L xs 158 pc = (cd_158).lookup pc := rfl
theorem P_159 (L : Nat) (xs : Nat → Int32) (pc : Nat) : ll_P L xs 159 pc = (cd_159).lookup pc := rfl
theorem P_160 (L : Nat) (xs : Nat → Int32) (pc : Nat) : ll_P L xs 160 pc = (cd_160).lookup pc := rfl
theorem P_161 (L : Nat) (xs : Nat → Int32) (pc : Nat) : ll_P L xs 161 pc = (cd_161).lookup pc := rfl
theorem P_162 (L : Nat) (xs : Nat → Int32) (pc : Nat) : ll_P L xs 162 pc = (cd_162).lookup pc := rfl
theorem P_163 (L : Nat) (xs : Nat → Int32) (pc : Nat) : ll_P L xs 163 pc = (cd_163).lookup pc := rfl
theorem P_164 (L : Nat) (xs : Nat → Int32) (pc : Nat) : ll_P L xs 164 pc = (cd_164).lookup pc := rfl
theorem P_165 (L : Nat) (xs : Nat → Int32) (pc : Nat) : ll_P L xs 165 pc = (cd_165).lookup pc := rfl
theorem P_166 (L : Nat) (xs : Nat → Int32) (pc : Nat) : ll_P L xs 166 pc = (cd_166).lookup pc := rfl
theorem P_167 (L : Nat) (xs : Nat → Int32) (pc : Nat) : ll_P L xs 167 pc = (cd_167).lookup pc := rfl
theorem P_168 (L : Nat) (xs : Nat → Int32) (pc : Nat) : ll_P L xs 168 pc = (cd_168).lookup pc := rfl
theorem P_169 (L : Nat) (xs : Nat → Int32) (pc : Nat) : ll_P L xs 169 pc = (cd_169).lookup pc := rfl
theorem P_170 (L : Nat) (xs : Nat → Int32) (pc : Nat) : ll_P L xs 170 pc = (cd_170).lookup pc := rfl
theorem P_171 (L : Nat) (xs : Nat → Int32) (pc : Nat) : ll_P L xs 171 pc = (cd_171).lookup pc := rfl
theorem P_172 (L : Nat) (xs : Nat → Int32) (pc : Nat) : ll_P L xs 172 pc = (cd_172).lookup pc := rfl
theorem P_173 (L : Nat) (xs : Nat → Int32) (pc : Nat) : ll_P L xs 173 pc = (cd_173).lookup pc := rfl
theorem P_174 (L : Nat) (xs : Nat → Int32) (pc : Nat) : ll_P L xs 174 pc = (cd_174).lookup pc := rfl
theorem P_175 (L : Nat) (xs : Nat → Int32) (pc : Nat) : ll_P L xs 175 pc = (cd_175).lookup pc := rfl
theorem P_176 (L : Nat) (xs : Nat → Int32) (pc : Nat) : ll_P L xs 176 pc = (cd_176).lookup pc := rfl
theorem P_177 (L : Nat) (xs : Nat → Int32) (pc : Nat) : ll_P L xs 177 pc = (cd_177).lookup pc := rfl
theorem P_178 (L : Nat) (xs : Nat → Int32) (pc : Nat) : ll_P L xs 178 pc = (cd_178).lookup pc := rfl
theorem P_179 (L : Nat) (xs : Nat → Int32) (pc : Nat) : ll_P L xs 179 pc = (cd_179).lookup pc := rfl
theorem P_180 (L : Nat) (xs : Nat → Int32) (pc : Nat) : ll_P L xs 180 pc = (cd_180).lookup pc := rfl
theorem P_181 (L : Nat) (xs : Nat → Int32) (pc : Nat) : ll_P L xs 181 pc = (cd_181).lookup pc := rfl
theorem P_182 (L : Nat) (xs : Nat → Int32) (pc : Nat) : ll_P L xs 182 pc = (cd_182).lookup pc := rfl
theorem P_183 (L : Nat) (xs : Nat → Int32) (pc : Nat) : ll_P L xs 183 pc = (cd_183).lookup pc := rfl
theorem P_184 (L : Nat) (xs : Nat → Int32) (pc : Nat) : ll_P L xs 184 pc = (cd_184).lookup pc := rfl
theorem P_185 (L : Nat) (xs : Nat → Int32) (pc : Nat) : ll_P L xs 185 pc = (cd_185).lookup pc := rfl
theorem P_186 (L : Nat) (xs : Nat → Int32) (pc : Nat) : ll_P L xs 186 pc = (cd_186).lookup pc := rfl
theorem P_187 (L : Nat) (xs : Nat → Int32) (pc : Nat) : ll_P L xs 187 pc = (cd_187).lookup pc := rfl
theorem P_188 (L : Nat) (xs : Nat → Int32) (pc : Nat) : ll_P L xs 188 pc = (cd_188).lookup pc := rfl
theorem P_189 (L : Nat) (xs : Nat → Int32) (pc : Nat) : ll_P L xs 189 pc = (cd_189).lookup pc := rfl
theorem P_190 (L : Nat) (xs : Nat → Int32) (pc : Nat) : ll_P L xs 190 pc = (cd_190).lookup pc := rfl
theorem P_191 (L : Nat) (xs : Nat → Int32) (pc : Nat) : ll_P L xs 191 pc = (cd_191).lookup pc := rfl
theorem P_192 (L : Nat) (xs : Nat → Int32) (pc : Nat) : ll_P L xs 192 pc = (cd_192).lookup pc := rfl
theorem P_193 (L : Nat) (xs : Nat → Int32) (pc : Nat) : ll_P L xs 193 pc = (cd_193).lookup pc := rfl
theorem P_194 (L : Nat) (xs : Nat → Int32) (pc : Nat) : ll_P L xs 194 pc = (cd_194).lookup pc := rfl
theorem P_195 (L : Nat) (xs : Nat → Int32) (pc : Nat) : ll_P L xs 195 pc = (cd_195).lookup pc := rfl
theorem P_196 (L : Nat) (xs : Nat → Int32) (pc : Nat) : ll_P L xs 196 pc = (cd_196).lookup pc := rfl
theorem P_197 (L : Nat) (xs : Nat → Int32) (pc : Nat) : ll_P L xs 197 pc = (cd_197).lookup pc := rfl
theorem P_198 (L : Nat) (xs : Nat → Int32) (pc : Nat) : ll_P L xs 198 pc = (cd_198).lookup pc := rfl
theorem P_199 (L : Nat) (xs : Nat → Int32) (pc : Nat) : ll_P L xs 199 pc = (cd_199).lookup pc := rfl
theorem P_200 (L : Nat) (xs : Nat → Int32) (pc : Nat) : ll_P L xs 200 pc = (cd_200).lookup pc := rfl
theorem P_201 (L : Nat) (xs : Nat → Int32) (pc : Nat) : ll_P L xs 201 pc = (cd_201).lookup pc := rfl
theorem P_202 (L : Nat) (xs : Nat → Int32) (pc : Nat) : ll_P L xs 202 pc = (cd_202).lookup pc := rfl
theorem P_203 (L : Nat) (xs : Nat → Int32) (pc : Nat) : ll_P L xs 203 pc = (cd_203).lookup pc := rfl
theorem P_204 (L : Nat) (xs : Nat → Int32) (pc : Nat) : ll_P L xs 204 pc = (cd_204).lookup pc := rfl
theorem P_205 (L : Nat) (xs : Nat → Int32) (pc : Nat) : ll_P L xs 205 pc = (cd_205).lookup pc := rfl
theorem P_206 (L : Nat) (xs : Nat → Int32) (pc : Nat) : ll_P L xs 206 pc = (cd_206).lookup pc := rfl
theorem P_207 (L : Nat) (xs : Nat → Int32) (pc : Nat) : ll_P L xs 207 pc = (cd_207).lookup pc := rfl
theorem P_208 (L : Nat) (xs : Nat → Int32) (pc : Nat) : ll_P L xs 208 pc = (cd_208).lookup pc := rfl
theorem P_209 (L : Nat) (xs : Nat → Int32) (pc : Nat) : ll_P L xs 209 pc = (cd_209).lookup pc := rfl
theorem P_210 (L : Nat) (xs : Nat → Int32) (pc : Nat) : ll_P L xs 210 pc = (cd_210).lookup pc := rfl
theorem P_211 (L : Nat) (xs : Nat → Int32) (pc : Nat) : ll_P L xs 211 pc = (cd_211).lookup pc := rfl
theorem P_212 (L : Nat) (xs : Nat → Int32) (pc : Nat) : ll_P L xs 212 pc = (cd_212).lookup pc := rfl
theorem P_213 (L : Nat) (xs : Nat → Int32) (pc : Nat) : ll_P L xs 213 pc = (cd_213).lookup pc := rfl
theorem P_214 (L : Nat) (xs : Nat → Int32) (pc : Nat) : ll_P L xs 214 pc = (cd_214).lookup pc := rfl
theorem P_215 (L : Nat) (xs : Nat → Int32) (pc : Nat) : ll_P L xs 215 pc = (cd_215).lookup pc := rfl
theorem P_216 (L : Nat) (xs : Nat → Int32) (pc : Nat) : ll_P L xs 216 pc = (cd_216).lookup pc := rfl
theorem P_217 (L : Nat) (xs : Nat → Int32) (pc : Nat) : ll_P L xs 217 pc = (cd_217).lookup pc := rfl
theorem P_218 (L : Nat) (xs : Nat → Int32) (pc : Nat) : ll_P L xs 218 pc = (cd_218).lookup pc := rfl
theorem P_219 (L : Nat) (xs : Nat → Int32) (pc : Nat) : ll_P L xs 219 pc = (cd_219).lookup pc := rfl
theorem P_220 (L : Nat) (xs : Nat → Int32) (pc : Nat) : ll_P L xs 220 pc = (cd_220).lookup pc := rfl
theorem P_221 (L : Nat) (xs : Nat → Int32) (pc : Nat) : ll_P L xs 221 pc = (cd_221).lookup pc := rfl
theorem P_222 (L : Nat) (xs : Nat → Int32) (pc : Nat) : ll_P L xs 222 pc = (cd_222).lookup pc := rfl
theorem P_223 (L : Nat) (xs : Nat → Int32) (pc : Nat) : ll_P L xs 223 pc = (cd_223).lookup pc := rfl
theorem P_224 (L : Nat) (xs : Nat → Int32) (pc : Nat) : ll_P L xs 224 pc = (cd_224).lookup pc := rfl
theorem P_225 (L : Nat) (xs : Nat → Int32) (pc : Nat) : ll_P L xs 225 pc = (cd_225).lookup pc := rfl
theorem P_226 (L : Nat) (xs : Nat → Int32) (pc : Nat) : ll_P L xs 226 pc = (cd_226).lookup pc := rfl
theorem P_227 (L : Nat) (xs : Nat → Int32) (pc : Nat) : ll_P L xs 227 pc = (cd_227).lookup pc := rfl
theorem P_228 (L : Nat) (xs : Nat → Int32) (pc : Nat) : ll_P L xs 228 pc = (cd_228).lookup pc := rfl
theorem P_229 (L : Nat) (xs : Nat → Int32) (pc : Nat) : ll_P L xs 229 pc = (cd_229).lookup pc := rfl
theorem P_230 (L : Nat) (xs : Nat → Int32) (pc : Nat) : ll_P L xs 230 pc = (cd_230).lookup pc := rfl
theorem P_231 (L : Nat) (xs : Nat → Int32) (pc : Nat) : ll_P L xs 231 pc = (cd_231).lookup pc := rfl
theorem P_232 (L : Nat) (xs : Nat → Int32) (pc : Nat) : ll_P L xs 232 pc = (cd_232 L xs).lookup pc := rfl
theorem ll_lookup {l : List (Nat × ll_O)} {pc : Nat} {o : ll_O} (h : l.lookup pc = some o) : (pc, o) ∈ l := by
  induction l with
  | nil => cases h
  | cons q l ih =>
    obtain ⟨k, b⟩ := q
    rw [List.lookup_cons] at h
    split at h
    · rename_i he
      have e1 : pc = k := by simpa using he
      cases h
      rw [e1]
      exact List.mem_cons_self
    · exact List.mem_cons_of_mem _ (ih h)
theorem pk_0 (L : Nat) (xs : Nat → Int32) : ∀ pc o, ll_P L xs 0 pc = some o → ll_OK ll_mN ll_mC ll_mR ll_mK ll_mI ll_cnt L xs false 0 pc o := by
  intro pc o h
  rw [P_0] at h
  unfold ll_OK
  rw [mC_0, mN_0, mR_0, mI_0]
  exact ok_0 L xs _ (ll_lookup h)
theorem pk_1 (L : Nat) (xs : Nat → Int32) : ∀ pc o, ll_P L xs 1 pc = some o → ll_OK ll_mN ll_mC ll_mR ll_mK ll_mI ll_cnt L xs false 1 pc o := by
  intro pc o h
  rw [P_1] at h
  unfold ll_OK
  rw [mC_1, mN_1, mR_1, mI_1]
  exact ok_1 L xs _ (ll_lookup h)
theorem pk_2 (L : Nat) (xs : Nat → Int32) : ∀ pc o, ll_P L xs 2 pc = some o → ll_OK ll_mN ll_mC ll_mR ll_mK ll_mI ll_cnt L xs false 2 pc o := by
  intro pc o h
  rw [P_2] at h
  unfold ll_OK
  rw [mC_2, mN_2, mR_2, mI_2]
  exact ok_2 L xs _ (ll_lookup h)
theorem pk_3 (L : Nat) (xs : Nat → Int32) : ∀ pc o, ll_P L xs 3 pc = some o → ll_OK ll_mN ll_mC ll_mR ll_mK ll_mI ll_cnt L xs false 3 pc o := by
  intro pc o h
  rw [P_3] at h
  unfold ll_OK
  rw [mC_3, mN_3, mR_3, mI_3]
  exact ok_3 L xs _ (ll_lookup h)
theorem pk_4 (L : Nat) (xs : Nat → Int32) : ∀ pc o, ll_P L xs 4 pc = some o → ll_OK ll_mN ll_mC ll_mR ll_mK ll_mI ll_cnt L xs false 4 pc o := by
  intro pc o h
  rw [P_4] at h
  unfold ll_OK
  rw [mC_4, mN_4, mR_4, mI_4]
  exact ok_4 L xs _ (ll_lookup h)
theorem pk_5 (L : Nat) (xs : Nat → Int32) : ∀ pc o, ll_P L xs 5 pc = some o → ll_OK ll_mN ll_mC ll_mR ll_mK ll_mI ll_cnt L xs false 5 pc o := by
  intro pc o h
  rw [P_5] at h
  unfold ll_OK
  rw [mC_5, mN_5, mR_5, mI_5]
  exact ok_5 L xs _ (ll_lookup h)
theorem pk_6 (L : Nat) (xs : Nat → Int32) : ∀ pc o, ll_P L xs 6 pc = some o → ll_OK ll_mN ll_mC ll_mR ll_mK ll_mI ll_cnt L xs false 6 pc o := by
  intro pc o h
  rw [P_6] at h
  unfold ll_OK
  rw [mC_6, mN_6, mR_6, mI_6]
  exact ok_6 L xs _ (ll_lookup h)
theorem pk_7 (L : Nat) (xs : Nat → Int32) : ∀ pc o, ll_P L xs 7 pc = some o → ll_OK ll_mN ll_mC ll_mR ll_mK ll_mI ll_cnt L xs false 7 pc o := by
  intro pc o h
  rw [P_7] at h
  unfold ll_OK
  rw [mC_7, mN_7, mR_7, mI_7]
  exact ok_7 L xs _ (ll_lookup h)
theorem pk_8 (L : Nat) (xs : Nat → Int32) : ∀ pc o, ll_P L xs 8 pc = some o → ll_OK ll_mN ll_mC ll_mR ll_mK ll_mI ll_cnt L xs false 8 pc o := by
  intro pc o h
  rw [P_8] at h
  unfold ll_OK
  rw [mC_8, mN_8, mR_8, mI_8]
  exact ok_8 L xs _ (ll_lookup h)
theorem pk_9 (L : Nat) (xs : Nat → Int32) : ∀ pc o, ll_P L xs 9 pc = some o → ll_OK ll_mN ll_mC ll_mR ll_mK ll_mI ll_cnt L xs false 9 pc o := by
  intro pc o h
  rw [P_9] at h
  unfold ll_OK
  rw [mC_9, mN_9, mR_9, mI_9]
  exact ok_9 L xs _ (ll_lookup h)
theorem pk_10 (L : Nat) (xs : Nat → Int32) : ∀ pc o, ll_P L xs 10 pc = some o → ll_OK ll_mN ll_mC ll_mR ll_mK ll_mI ll_cnt L xs false 10 pc o := by
  intro pc o h
  rw [P_10] at h
  unfold ll_OK
  rw [mC_10, mN_10, mR_10, mI_10]
  exact ok_10 L xs _ (ll_lookup h)
theorem pk_11 (L : Nat) (xs : Nat → Int32) : ∀ pc o, ll_P L xs 11 pc = some o → ll_OK ll_mN ll_mC ll_mR ll_mK ll_mI ll_cnt L xs false 11 pc o := by
  intro pc o h
  rw [P_11] at h
  unfold ll_OK
  rw [mC_11, mN_11, mR_11, mI_11]
  exact ok_11 L xs _ (ll_lookup h)
theorem pk_12 (L : Nat) (xs : Nat → Int32) : ∀ pc o, ll_P L xs 12 pc = some o → ll_OK ll_mN ll_mC ll_mR ll_mK ll_mI ll_cnt L xs false 12 pc o := by
  intro pc o h
  rw [P_12] at h
  unfold ll_OK
  rw [mC_12, mN_12, mR_12, mI_12]
  exact ok_12 L xs _ (ll_lookup h)
theorem pk_13 (L : Nat) (xs : Nat → Int32) : ∀ pc o, ll_P L xs 13 pc = some o → ll_OK ll_mN ll_mC ll_mR ll_mK ll_mI ll_cnt L xs false 13 pc o := by
  intro pc o h
  rw [P_13] at h
  unfold ll_OK
  rw [mC_13, mN_13, mR_13, mI_13]
  exact ok_13 L xs _ (ll_lookup h)
theorem pk_14 (L : Nat) (xs : Nat → Int32) : ∀ pc o, ll_P L xs 14 pc = some o → ll_OK ll_mN ll_mC ll_mR ll_mK ll_mI ll_cnt L xs false 14 pc o := by
  intro pc o h
  rw [P_14] at h
  unfold ll_OK
  rw [mC_14, mN_14, mR_14, mI_14]
  exact ok_14 L xs _ (ll_lookup h)
theorem pk_15 (L : Nat) (xs : Nat → Int32) : ∀ pc o, ll_P L xs 15 pc = some o → ll_OK ll_mN ll_mC ll_mR ll_mK ll_mI ll_cnt L xs false 15 pc o := by
  intro pc o h
  rw [P_15] at h
  unfold ll_OK
  rw [mC_15, mN_15, mR_15, mI_15]
  exact ok_15 L xs _ (ll_lookup h)
theorem pk_16 (L : Nat) (xs : Nat → Int32) : ∀ pc o, ll_P L xs 16 pc = some o → ll_OK ll_mN ll_mC ll_mR ll_mK ll_mI ll_cnt L xs false 16 pc o := by
  intro pc o h
  rw [P_16] at h
  unfold ll_OK
  rw [mC_16, mN_16, mR_16, mI_16]
  exact ok_16 L xs _ (ll_lookup h)
theorem pk_17 (L : Nat) (xs : Nat → Int32) : ∀ pc o, ll_P L xs 17 pc = some o → ll_OK ll_mN ll_mC ll_mR ll_mK ll_mI ll_cnt L xs false 17 pc o := by
  intro pc o h
  rw [P_17] at h
  unfold ll_OK
  rw [mC_17, mN_17, mR_17, mI_17]
  exact ok_17 L xs _ (ll_lookup h)
theorem pk_18 (L : Nat) (xs : Nat → Int32) : ∀ pc o, ll_P L xs 18 pc = some o → ll_OK ll_mN ll_mC ll_mR ll_mK ll_mI ll_cnt L xs false 18 pc o := by
  intro pc o h
  rw [P_18] at h
  unfold ll_OK
  rw [mC_18, mN_18, mR_18, mI_18]
  exact ok_18 L xs _ (ll_lookup h)
theorem pk_19 (L : Nat) (xs : Nat → Int32) : ∀ pc o, ll_P L xs 19 pc = some o → ll_OK ll_mN ll_mC ll_mR ll_mK ll_mI ll_cnt L xs false 19 pc o := by
  intro pc o h
  rw [P_19] at h
  unfold ll_OK
  rw [mC_19, mN_19, mR_19, mI_19]
  exact ok_19 L xs _ (ll_lookup h)
theorem pk_20 (L : Nat) (xs : Nat → Int32) : ∀ pc o, ll_P L xs 20 pc = some o → ll_OK ll_mN ll_mC ll_mR ll_mK ll_mI ll_cnt L xs false 20 pc o := by
  intro pc o h
  rw [P_20] at h
  unfold ll_OK
  rw [mC_20, mN_20, mR_20, mI_20]
  exact ok_20 L xs _ (ll_lookup h)
theorem pk_21 (L : Nat) (xs : Nat → Int32) : ∀ pc o, ll_P L xs 21 pc = some o → ll_OK ll_mN ll_mC ll_mR ll_mK ll_mI ll_cnt L xs false 21 pc o := by
  intro pc o h
  rw [P_21] at h
  unfold ll_OK
  rw [mC_21, mN_21, mR_21, mI_21]
  exact ok_21 L xs _ (ll_lookup h)
theorem pk_22 (L : Nat) (xs : Nat → Int32) : ∀ pc o, ll_P L xs 22 pc = some o → ll_OK ll_mN ll_mC ll_mR ll_mK ll_mI ll_cnt L xs false 22 pc o := by
  intro pc o h
  rw [P_22] at h
  unfold ll_OK
  rw [mC_22, mN_22, mR_22, mI_22]
  exact ok_22 L xs _ (ll_lookup h)
theorem pk_23 (L : Nat) (xs : Nat → Int32) : ∀ pc o, ll_P L xs 23 pc = some o → ll_OK ll_mN ll_mC ll_mR ll_mK ll_mI ll_cnt L xs false 23 pc o := by
  intro pc o h
  rw [P_23] at h
  unfold ll_OK
  rw [mC_23, mN_23, mR_23, mI_23]
  exact ok_23 L xs _ (ll_lookup h)
theorem pk_24 (L : Nat) (xs : Nat → Int32) : ∀ pc o, ll_P L xs 24 pc = some o → ll_OK ll_mN ll_mC ll_mR ll_mK ll_mI ll_cnt L xs false 24 pc o := by
  intro pc o h
  rw [P_24] at h
  unfold ll_OK
  rw [mC_24, mN_24, mR_24, mI_24]
  exact ok_24 L xs _ (ll_lookup h)
theorem pk_25 (L : Nat) (xs : Nat → Int32) : ∀ pc o, ll_P L xs 25 pc = some o → ll_OK ll_mN ll_mC ll_mR ll_mK ll_mI ll_cnt L xs false 25 pc o := by
  intro pc o h
  rw [P_25] at h
  unfold ll_OK
  rw [mC_25, mN_25, mR_25, mI_25]
  exact ok_25 L xs _ (ll_lookup h)
theorem pk_26 (L : Nat) (xs : Nat → Int32) : ∀ pc o, ll_P L xs 26 pc = some o → ll_OK ll_mN ll_mC ll_mR ll_mK ll_mI ll_cnt L xs false 26 pc o := by
  intro pc o h
  rw [P_26] at h
  unfold ll_OK
  rw [mC_26, mN_26, mR_26, mI_26]
  exact ok_26 L xs _ (ll_lookup h)
theorem pk_27 (L : Nat) (xs : Nat → Int32) : ∀ pc o, ll_P L xs 27 pc = some o → ll_OK ll_mN ll_mC ll_mR ll_mK ll_mI ll_cnt L xs false 27 pc o := by
  intro pc o h
  rw [P_27] at h
  unfold ll_OK
  rw [mC_27, mN_27, mR_27, mI_27]
  exact ok_27 L xs _ (ll_lookup h)
theorem pk_28 (L : Nat) (xs : Nat → Int32) : ∀ pc o, ll_P L xs 28 pc = some o → ll_OK ll_mN ll_mC ll_mR ll_mK ll_mI ll_cnt L xs false 28 pc o := by
  intro pc o h
  rw [P_28] at h
  unfold ll_OK
  rw [mC_28, mN_28, mR_28, mI_28]
  exact ok_28 L xs _ (ll_lookup h)
theorem pk_29 (L : Nat) (xs : Nat → Int32) : ∀ pc o, ll_P L xs 29 pc = some o → ll_OK ll_mN ll_mC ll_mR ll_mK ll_mI ll_cnt L xs false 29 pc o := by
  intro pc o h
  rw [P_29] at h
  unfold ll_OK
  rw [mC_29, mN_29, mR_29, mI_29]
  exact ok_29 L xs _ (ll_lookup h)
theorem pk_30 (L : Nat) (xs : Nat → Int32) : ∀ pc o, ll_P L xs 30 pc = some o → ll_OK ll_mN ll_mC ll_mR ll_mK ll_mI ll_cnt L xs false 30 pc o := by
  intro pc o h
  rw [P_30] at h
  unfold ll_OK
  rw [mC_30, mN_30, mR_30, mI_30]
  exact ok_30 L xs _ (ll_lookup h)
theorem pk_31 (L : Nat) (xs : Nat → Int32) : ∀ pc o, ll_P L xs 31 pc = some o → ll_OK ll_mN ll_mC ll_mR ll_mK ll_mI ll_cnt L xs false 31 pc o := by
  intro pc o h
  rw [P_31] at h
  unfold ll_OK
  rw [mC_31, mN_31, mR_31, mI_31]
  exact ok_31 L xs _ (ll_lookup h)
theorem pk_32 (L : Nat) (xs : Nat → Int32) : ∀ pc o, ll_P L xs 32 pc = some o → ll_OK ll_mN ll_mC ll_mR ll_mK ll_mI ll_cnt L xs false 32 pc o := by
  intro pc o h
  rw [P_32] at h
  unfold ll_OK
  rw [mC_32, mN_32, mR_32, mI_32]
  exact ok_32 L xs _ (ll_lookup h)
theorem pk_33 (L : Nat) (xs : Nat → Int32) : ∀ pc o, ll_P L xs 33 pc = some o → ll_OK ll_mN ll_mC ll_mR ll_mK ll_mI ll_cnt L xs false 33 pc o := by
  intro pc o h
  rw [P_33] at h
  unfold ll_OK
  rw [mC_33, mN_33, mR_33, mI_33]
  exact ok_33 L xs _ (ll_lookup h)
theorem pk_34 (L : Nat) (xs : Nat → Int32) : ∀ pc o, ll_P L xs 34 pc = some o → ll_OK ll_mN ll_mC ll_mR ll_mK ll_mI ll_cnt L xs false 34 pc o := by
  intro pc o h
  rw [P_34] at h
  unfold ll_OK
  rw [mC_34, mN_34, mR_34, mI_34]
  exact ok_34 L xs _ (ll_lookup h)
theorem pk_35 (L : Nat) (xs : Nat → Int32) : ∀ pc o, ll_P L xs 35 pc = some o → ll_OK ll_mN ll_mC ll_mR ll_mK ll_mI ll_cnt L xs false 35 pc o := by
  intro pc o h
  rw [P_35] at h
  unfold ll_OK
  rw [mC_35, mN_35, mR_35, mI_35]
  exact ok_35 L xs _ (ll_lookup h)
theorem pk_36 (L : Nat) (xs : Nat → Int32) : ∀ pc o, ll_P L xs 36 pc = some o → ll_OK ll_mN ll_mC ll_mR ll_mK ll_mI ll_cnt L xs false 36 pc o := by
  intro pc o h
  rw [P_36] at h
  unfold ll_OK
  rw [mC_36, mN_36, mR_36, mI_36]
  exact ok_36 L xs _ (ll_lookup h)
theorem pk_37 (L : Nat) (xs : Nat → Int32) : ∀ pc o, ll_P L xs 37 pc = some o → ll_OK ll_mN ll_mC ll_mR ll_mK ll_mI ll_cnt L xs false 37 pc o := by
  intro pc o h
  rw [P_37] at h
  unfold ll_OK
  rw [mC_37, mN_37, mR_37, mI_37]
  exact ok_37 L xs _ (ll_lookup h)
theorem pk_38 (L : Nat) (xs : Nat → Int32) : ∀ pc o, ll_P L xs 38 pc = some o → ll_OK ll_mN ll_mC ll_mR ll_mK ll_mI ll_cnt L xs false 38 pc o := by
  intro pc o h
  rw [P_38] at h
  unfold ll_OK
  rw [mC_38, mN_38, mR_38, mI_38]
  exact ok_38 L xs _ (ll_lookup h)
theorem pk_39 (L : Nat) (xs : Nat → Int32) : ∀ pc o, ll_P L xs 39 pc = some o → ll_OK ll_mN ll_mC ll_mR ll_mK ll_mI ll_cnt L xs false 39 pc o := by
  intro pc o h
  rw [P_39] at h
  unfold ll_OK
  rw [mC_39, mN_39, mR_39, mI_39]
  exact ok_39 L xs _ (ll_lookup h)
theorem pk_40 (L : Nat) (xs : Nat → Int32) : ∀ pc o, ll_P L xs 40 pc = some o → ll_OK ll_mN ll_mC ll_mR ll_mK ll_mI ll_cnt L xs false 40 pc o := by
  intro pc o h
  rw [P_40] at h
  unfold ll_OK
  rw [mC_40, mN_40, mR_40, mI_40]
  exact ok_40 L xs _ (ll_lookup h)
theorem pk_41 (L : Nat) (xs : Nat → Int32) : ∀ pc o, ll_P L xs 41 pc = some o → ll_OK ll_mN ll_mC ll_mR ll_mK ll_mI ll_cnt L xs false 41 pc o := by
  intro pc o h
  rw [P_41] at h
  unfold ll_OK
  rw [mC_41, mN_41, mR_41, mI_41]
  exact ok_41 L xs _ (ll_lookup h)
theorem pk_42 (L : Nat) (xs : Nat → Int32) : ∀ pc o, ll_P L xs 42 pc = some o → ll_OK ll_mN ll_mC ll_mR ll_mK ll_mI ll_cnt L xs false 42 pc o := by
  intro pc o h
  rw [P_42] at h
  unfold ll_OK
  rw [mC_42, mN_42, mR_42, mI_42]
  exact ok_42 L xs _ (ll_lookup h)
theorem pk_43 (L : Nat) (xs : Nat → Int32) : ∀ pc o, ll_P L xs 43 pc = some o → ll_OK ll_mN ll_mC ll_mR ll_mK ll_mI ll_cnt L xs false 43 pc o := by
  intro pc o h
  rw [P_43] at h
  unfold ll_OK
  rw [mC_43, mN_43, mR_43, mI_43]
  exact ok_43 L xs _ (ll_lookup h)
theorem pk_44 (L : Nat) (xs : Nat → Int32) : ∀ pc o, ll_P L xs 44 pc = some o → ll_OK ll_mN ll_mC ll_mR ll_mK ll_mI ll_cnt L xs false 44 pc o := by
  intro pc o h
  rw [P_44] at h
  unfold ll_OK
  rw [mC_44, mN_44, mR_44, mI_44]
  exact ok_44 L xs _ (ll_lookup h)
theorem pk_45 (L : Nat) (xs : Nat → Int32) : ∀ pc o, ll_P L xs 45 pc = some o → ll_OK ll_mN ll_mC ll_mR ll_mK ll_mI ll_cnt L xs false 45 pc o := by
  intro pc o h
  rw [P_45] at h
  unfold ll_OK
  rw [mC_45, mN_45, mR_45, mI_45]
  exact ok_45 L xs _ (ll_lookup h)
theorem pk_46 (L : Nat) (xs : Nat → Int32) : ∀ pc o, ll_P L xs 46 pc = some o → ll_OK ll_mN ll_mC ll_mR ll_mK ll_mI ll_cnt L xs false 46 pc o := by
  intro pc o h
  rw [P_46] at h
  unfold ll_OK
  rw [mC_46, mN_46, mR_46, mI_46]
  exact ok_46 L xs _ (ll_lookup h)
theorem pk_47 (L : Nat) (xs : Nat → Int32) : ∀ pc o, ll_P L xs 47 pc = some o → ll_OK ll_mN ll_mC ll_mR ll_mK ll_mI ll_cnt L xs false 47 pc o := by
  intro pc o h
  rw [P_47] at h
  unfold ll_OK
  rw [mC_47, mN_47, mR_47, mI_47]
  exact ok_47 L xs _ (ll_lookup h)
theorem pk_48 (L : Nat) (xs : Nat → Int32) : ∀ pc o, ll_P L xs 48 pc = some o → ll_OK ll_mN ll_mC ll_mR ll_mK ll_mI ll_cnt L xs false 48 pc o := by
  intro pc o h
  rw [P_48] at h
  unfold ll_OK
  rw [mC_48, mN_48, mR_48, mI_48]
  exact ok_48 L xs _ (ll_lookup h)
theorem pk_49 (L : Nat) (xs : Nat → Int32) : ∀ pc o, ll_P L xs 49 pc = some o → ll_OK ll_mN ll_mC ll_mR ll_mK ll_mI ll_cnt L xs false 49 pc o := by
  intro pc o h
  rw [P_49] at h
  unfold ll_OK
  rw [mC_49, mN_49, mR_49, mI_49]
  exact ok_49 L xs _ (ll_lookup h)
theorem pk_50 (L : Nat) (xs : Nat → Int32) : ∀ pc o, ll_P L xs 50 pc = some o → ll_OK ll_mN ll_mC ll_mR ll_mK ll_mI ll_cnt L xs false 50 pc o := by
  intro pc o h
  rw [P_50] at h
  unfold ll_OK
  rw [mC_50, mN_50, mR_50, mI_50]
  exact ok_50 L xs _ (ll_lookup h)
theorem pk_51 (L : Nat) (xs : Nat → Int32) : ∀ pc o, ll_P L xs 51 pc = some o → ll_OK ll_mN ll_mC ll_mR ll_mK ll_mI ll_cnt L xs false 51 pc o := by
  intro pc o h
  rw [P_51] at h
  unfold ll_OK
  rw [mC_51, mN_51, mR_51, mI_51]
  exact ok_51 L xs _ (ll_lookup h)
theorem pk_52 (L : Nat) (xs : Nat → Int32) : ∀ pc o, ll_P L xs 52 pc = some o → ll_OK ll_mN ll_mC ll_mR ll_mK ll_mI ll_cnt L xs false 52 pc o := by
  intro pc o h
  rw [P_52] at h
  unfold ll_OK
  rw [mC_52, mN_52, mR_52, mI_52]
  exact ok_52 L xs _ (ll_lookup h)
theorem pk_53 (L : Nat) (xs : Nat → Int32) : ∀ pc o, ll_P L xs 53 pc = some o → ll_OK ll_mN ll_mC ll_mR ll_mK ll_mI ll_cnt L xs false 53 pc o := by
  intro pc o h
  rw [P_53] at h
  unfold ll_OK
  rw [mC_53, mN_53, mR_53, mI_53]
  exact ok_53 L xs _ (ll_lookup h)
theorem pk_54 (L : Nat) (xs : Nat → Int32) : ∀ pc o, ll_P L xs 54 pc = some o → ll_OK ll_mN ll_mC ll_mR ll_mK ll_mI ll_cnt L xs false 54 pc o := by
  intro pc o h
  rw [P_54] at h
  unfold ll_OK
  rw [mC_54, mN_54, mR_54, mI_54]
  exact ok_54 L xs _ (ll_lookup h)
theorem pk_55 (L : Nat) (xs : Nat → Int32) : ∀ pc o, ll_P L xs 55 pc = some o → ll_OK ll_mN ll_mC ll_mR ll_mK ll_mI ll_cnt L xs false 55 pc o := by
  intro pc o h
  rw [P_55] at h
  unfold ll_OK
  rw [mC_55, mN_55, mR_55, mI_55]
  exact ok_55 L xs _ (ll_lookup h)
theorem pk_56 (L : Nat) (xs : Nat → Int32) : ∀ pc o, ll_P L xs 56 pc = some o → ll_OK ll_mN ll_mC ll_mR ll_mK ll_mI ll_cnt L xs false 56 pc o := by
  intro pc o h
  rw [P_56] at h
  unfold ll_OK
  rw [mC_56, mN_56, mR_56, mI_56]
  exact ok_56 L xs _ (ll_lookup h)
theorem pk_57 (L : Nat) (xs : Nat → Int32) : ∀ pc o, ll_P L xs 57 pc = some o → ll_OK ll_mN ll_mC ll_mR ll_mK ll_mI ll_cnt L xs false 57 pc o := by
  intro pc o h
  rw [P_57] at h
  unfold ll_OK
  rw [mC_57, mN_57, mR_57, mI_57]
  exact ok_57 L xs _ (ll_lookup h)
theorem pk_58 (L : Nat) (xs : Nat → Int32) : ∀ pc o, ll_P L xs 58 pc = some o → ll_OK ll_mN ll_mC ll_mR ll_mK ll_mI ll_cnt L xs false 58 pc o := by
  intro pc o h
  rw [P_58] at h
  unfold ll_OK
  rw [mC_58, mN_58, mR_58, mI_58]
  exact ok_58 L xs _ (ll_lookup h)
theorem pk_59 (L : Nat) (xs : Nat → Int32) : ∀ pc o, ll_P L xs 59 pc = some o → ll_OK ll_mN ll_mC ll_mR ll_mK ll_mI ll_cnt L xs false 59 pc o := by
  intro pc o h
  rw [P_59] at h
  unfold ll_OK
  rw [mC_59, mN_59, mR_59, mI_59]
  exact ok_59 L xs _ (ll_lookup h)
theorem pk_60 (L : Nat) (xs : Nat → Int32) : ∀ pc o, ll_P L xs 60 pc = some o → ll_OK ll_mN ll_mC ll_mR ll_mK ll_mI ll_cnt L xs false 60 pc o := by
  intro pc o h
  rw [P_60] at h
  unfold ll_OK
  rw [mC_60, mN_60, mR_60, mI_60]
  exact ok_60 L xs _ (ll_lookup h)
theorem pk_61 (L : Nat) (xs : Nat → Int32) : ∀ pc o, ll_P L xs 61 pc = some o → ll_OK ll_mN ll_mC ll_mR ll_mK ll_mI ll_cnt L xs false 61 pc o := by
  intro pc o h
  rw [P_61] at h
  unfold ll_OK
  rw [mC_61, mN_61, mR_61, mI_61]
  exact ok_61 L xs _ (ll_lookup h)
theorem pk_62 (L : Nat) (xs : Nat → Int32) : ∀ pc o, ll_P L xs 62 pc = some o → ll_OK ll_mN ll_mC ll_mR ll_mK ll_mI ll_cnt L xs false 62 pc o := by
  intro pc o h
  rw [P_62] at h
  unfold ll_OK
  rw [mC_62, mN_62, mR_62, mI_62]
  exact ok_62 L xs _ (ll_lookup h)
theorem pk_63 (L : Nat) (xs : Nat → Int32) : ∀ pc o, ll_P L xs 63 pc = some o → ll_OK ll_mN ll_mC ll_mR ll_mK ll_mI ll_cnt L xs false 63 pc o := by
  intro pc o h
  rw [P_63] at h
  unfold ll_OK
  rw [mC_63, mN_63, mR_63, mI_63]
  exact ok_63 L xs _ (ll_lookup h)
theorem pk_64 (L : Nat) (xs : Nat → Int32) : ∀ pc o, ll_P L xs 64 pc = some o → ll_OK ll_mN ll_mC ll_mR ll_mK ll_mI ll_cnt L xs false 64 pc o := by
  intro pc o h
  rw [P_64] at h
  unfold ll_OK
  rw [mC_64, mN_64, mR_64, mI_64]
  exact ok_64 L xs _ (ll_lookup h)
theorem pk_65 (L : Nat) (xs : Nat → Int32) : ∀ pc o, ll_P L xs 65 pc = some o → ll_OK ll_mN ll_mC ll_mR ll_mK ll_mI ll_cnt L xs false 65 pc o := by
  intro pc o h
  rw [P_65] at h
  unfold ll_OK
  rw [mC_65, mN_65, mR_65, mI_65]
  exact ok_65 L xs _ (ll_lookup h)
theorem pk_66 (L : Nat) (xs : Nat → Int32) : ∀ pc o, ll_P L xs 66 pc = some o → ll_OK ll_mN ll_mC ll_mR ll_mK ll_mI ll_cnt L xs false 66 pc o := by
  intro pc o h
  rw [P_66] at h
  unfold ll_OK
  rw [mC_66, mN_66, mR_66, mI_66]
  exact ok_66 L xs _ (ll_lookup h)
theorem pk_67 (L : Nat) (xs : Nat → Int32) : ∀ pc o, ll_P L xs 67 pc = some o → ll_OK ll_mN ll_mC ll_mR ll_mK ll_mI ll_cnt L xs false 67 pc o := by
  intro pc o h
  rw [P_67] at h
  unfold ll_OK
  rw [mC_67, mN_67, mR_67, mI_67]
  exact ok_67 L xs _ (ll_lookup h)
theorem pk_68 (L : Nat) (xs : Nat → Int32) : ∀ pc o, ll_P L xs 68 pc = some o → ll_OK ll_mN ll_mC ll_mR ll_mK ll_mI ll_cnt L xs false 68 pc o := by
  intro pc o h
  rw [P_68] at h
  unfold ll_OK
  rw [mC_68, mN_68, mR_68, mI_68]
  exact ok_68 L xs _ (ll_lookup h)
theorem pk_69 (L : Nat) (xs : Nat → Int32) : ∀ pc o, ll_P L xs 69 pc = some o → ll_OK ll_mN ll_mC ll_mR ll_mK ll_mI ll_cnt L xs false 69 pc o := by
  intro pc o h
  rw [P_69] at h
  unfold ll_OK
  rw [mC_69, mN_69, mR_69, mI_69]
  exact ok_69 L xs _ (ll_lookup h)
theorem pk_70 (L : Nat) (xs : Nat → Int32) : ∀ pc o, ll_P L xs 70 pc = some o → ll_OK ll_mN ll_mC ll_mR ll_mK ll_mI ll_cnt L xs false 70 pc o := by
  intro pc o h
  rw [P_70] at h
  unfold ll_OK
  rw [mC_70, mN_70, mR_70, mI_70]
  exact ok_70 L xs _ (ll_lookup h)
theorem pk_71 (L : Nat) (xs : Nat → Int32) : ∀ pc o, ll_P L xs 71 pc = some o → ll_OK ll_mN ll_mC ll_mR ll_mK ll_mI ll_cnt L xs false 71 pc o := by
  intro pc o h
  rw [P_71] at h
  unfold ll_OK
  rw [mC_71, mN_71, mR_71, mI_71]
  exact ok_71 L xs _ (ll_lookup h)
theorem pk_72 (L : Nat) (xs : Nat → Int32) : ∀ pc o, ll_P L xs 72 pc = some o → ll_OK ll_mN ll_mC ll_mR ll_mK ll_mI ll_cnt L xs false 72 pc o := by
  intro pc o h
  rw [P_72] at h
  unfold ll_OK
  rw [mC_72, mN_72, mR_72, mI_72]
  exact ok_72 L xs _ (ll_lookup h)
theorem pk_73 (L : Nat) (xs : Nat → Int32) : ∀ pc o, ll_P L xs 73 pc = some o → ll_OK ll_mN ll_mC ll_mR ll_mK ll_mI ll_cnt L xs false 73 pc o := by
  intro pc o h
  rw [P_73] at h
  unfold ll_OK
  rw [mC_73, mN_73, mR_73, mI_73]
  exact ok_73 L xs _ (ll_lookup h)
theorem pk_74 (L : Nat) (xs : Nat → Int32) : ∀ pc o, ll_P L xs 74 pc = some o → ll_OK ll_mN ll_mC ll_mR ll_mK ll_mI ll_cnt L xs false 74 pc o := by
  intro pc o h
  rw [P_74] at h
  unfold ll_OK
  rw [mC_74, mN_74, mR_74, mI_74]
  exact ok_74 L xs _ (ll_lookup h)
theorem pk_75 (L : Nat) (xs : Nat → Int32) : ∀ pc o, ll_P L xs 75 pc = some o → ll_OK ll_mN ll_mC ll_mR ll_mK ll_mI ll_cnt L xs false 75 pc o := by
  intro pc o h
  rw [P_75] at h
  unfold ll_OK
  rw [mC_75, mN_75, mR_75, mI_75]
  exact ok_75 L xs _ (ll_lookup h)
theorem pk_76 (L : Nat) (xs : Nat → Int32) : ∀ pc o, ll_P L xs 76 pc = some o → ll_OK ll_mN ll_mC ll_mR ll_mK ll_mI ll_cnt L xs false 76 pc o := by
  intro pc o h
  rw [P_76] at h
  unfold ll_OK
  rw [mC_76, mN_76, mR_76, mI_76]
  exact ok_76 L xs _ (ll_lookup h)
theorem pk_77 (L : Nat) (xs : Nat → Int32) : ∀ pc o, ll_P L xs 77 pc = some o → ll_OK ll_mN ll_mC ll_mR ll_mK ll_mI ll_cnt L xs false 77 pc o := by
  intro pc o h
  rw [P_77] at h
  unfold ll_OK
  rw [mC_77, mN_77, mR_77, mI_77]
  exact ok_77 L xs _ (ll_lookup h)
theorem pk_78 (L : Nat) (xs : Nat → Int32) : ∀ pc o, ll_P L xs 78 pc = some o → ll_OK ll_mN ll_mC ll_mR ll_mK ll_mI ll_cnt L xs false 78 pc o := by
  intro pc o h
  rw [P_78] at h
  unfold ll_OK
  rw [mC_78, mN_78, mR_78, mI_78]
  exact ok_78 L xs _ (ll_lookup h)
theorem pk_79 (L : Nat) (xs : Nat → Int32) : ∀ pc o, ll_P L xs 79 pc = some o → ll_OK ll_mN ll_mC ll_mR ll_mK ll_mI ll_cnt L xs false 79 pc o := by
  intro pc o h
  rw [P_79] at h
  unfold ll_OK
  rw [mC_79, mN_79, mR_79, mI_79]
  exact ok_79 L xs _ (ll_lookup h)
theorem pk_80 (L : Nat) (xs : Nat → Int32) : ∀ pc o, ll_P L xs 80 pc = some o → ll_OK ll_mN ll_mC ll_mR ll_mK ll_mI ll_cnt L xs false 80 pc o := by
  intro pc o h
  rw [P_80] at h
  unfold ll_OK
  rw [mC_80, mN_80, mR_80, mI_80]
  exact ok_80 L xs _ (ll_lookup h)
theorem pk_81 (L : Nat) (xs : Nat → Int32) : ∀ pc o, ll_P L xs 81 pc = some o → ll_OK ll_mN ll_mC ll_mR ll_mK ll_mI ll_cnt L xs false 81 pc o := by
  intro pc o h
  rw [P_81] at h
  unfold ll_OK
  rw [mC_81, mN_81, mR_81, mI_81]
  exact ok_81 L xs _ (ll_lookup h)
theorem pk_82 (L : Nat) (xs : Nat → Int32) : ∀ pc o, ll_P L xs 82 pc = some o → ll_OK ll_mN ll_mC ll_mR ll_mK ll_mI ll_cnt L xs false 82 pc o := by
  intro pc o h
  rw [P_82] at h
  unfold ll_OK
  rw [mC_82, mN_82, mR_82, mI_82]
  exact ok_82 L xs _ (ll_lookup h)
theorem pk_83 (L : Nat) (xs : Nat → Int32) : ∀ pc o, ll_P L xs 83 pc = some o → ll_OK ll_mN ll_mC ll_mR ll_mK ll_mI ll_cnt L xs false 83 pc o := by
  intro pc o h
  rw [P_83] at h
  unfold ll_OK
  rw [mC_83, mN_83, mR_83, mI_83]
  exact ok_83 L xs _ (ll_lookup h)
theorem pk_84 (L : Nat) (xs : Nat → Int32) : ∀ pc o, ll_P L xs 84 pc = some o → ll_OK ll_mN ll_mC ll_mR ll_mK ll_mI ll_cnt L xs false 84 pc o := by
  intro pc o h
  rw [P_84] at h
  unfold ll_OK
  rw [mC_84, mN_84, mR_84, mI_84]
  exact ok_84 L xs _ (ll_lookup h)
theorem pk_85 (L : Nat) (xs : Nat → Int32) : ∀ pc o, ll_P L xs 85 pc = some o → ll_OK ll_mN ll_mC ll_mR ll_mK ll_mI ll_cnt L xs false 85 pc o := by
  intro pc o h
  rw [P_85] at h
  unfold ll_OK
  rw [mC_85, mN_85, mR_85, mI_85]
  exact ok_85 L xs _ (ll_lookup h)
theorem pk_86 (L : Nat) (xs : Nat → Int32) : ∀ pc o, ll_P L xs 86 pc = some o → ll_OK ll_mN ll_mC ll_mR ll_mK ll_mI ll_cnt L xs false 86 pc o := by
  intro pc o h
  rw [P_86] at h
  unfold ll_OK
  rw [mC_86, mN_86, mR_86, mI_86]
  exact ok_86 L xs _ (ll_lookup h)
theorem pk_87 (L : Nat) (xs : Nat → Int32) : ∀ pc o, ll_P L xs 87 pc = some o → ll_OK ll_mN ll_mC ll_mR ll_mK ll_mI ll_cnt L xs false 87 pc o := by
  intro pc o h
  rw [P_87] at h
  unfold ll_OK
  rw [mC_87, mN_87, mR_87, mI_87]
  exact ok_87 L xs _ (ll_lookup h)
theorem pk_88 (L : Nat) (xs : Nat → Int32) : ∀ pc o, ll_P L xs 88 pc = some o → ll_OK ll_mN ll_mC ll_mR ll_mK ll_mI ll_cnt L xs false 88 pc o := by
  intro pc o h
  rw [P_88] at h
  unfold ll_OK
  rw [mC_88, mN_88, mR_88, mI_88]
  exact ok_88 L xs _ (ll_lookup h)
theorem pk_89 (L : Nat) (xs : Nat → Int32) : ∀ pc o, ll_P L xs 89 pc = some o → ll_OK ll_mN ll_mC ll_mR ll_mK ll_mI ll_cnt L xs false 89 pc o := by
  intro pc o h
  rw [P_89] at h
  unfold ll_OK
  rw [mC_89, mN_89, mR_89, mI_89]
  exact ok_89 L xs _ (ll_lookup h)
theorem pk_90 (L : Nat) (xs : Nat → Int32) : ∀ pc o, ll_P L xs 90 pc = some o → ll_OK ll_mN ll_mC ll_mR ll_mK ll_mI ll_cnt L xs false 90 pc o := by
  intro pc o h
  rw [P_90] at h
  unfold ll_OK
  rw [mC_90, mN_90, mR_90, mI_90]
  exact ok_90 L xs _ (ll_lookup h)
theorem pk_91 (L : Nat) (xs : Nat → Int32) : ∀ pc o, ll_P L xs 91 pc = some o → ll_OK ll_mN ll_mC ll_mR ll_mK ll_mI ll_cnt L xs false 91 pc o := by
  intro pc o h
  rw [P_91] at h
  unfold ll_OK
  rw [mC_91, mN_91, mR_91, mI_91]
  exact ok_91 L xs _ (ll_lookup h)
theorem pk_92 (L : Nat) (xs : Nat → Int32) : ∀ pc o, ll_P L xs 92 pc = some o → ll_OK ll_mN ll_mC ll_mR ll_mK ll_mI ll_cnt L xs false 92 pc o := by
  intro pc o h
  rw [P_92] at h
  unfold ll_OK
  rw [mC_92, mN_92, mR_92, mI_92]
  exact ok_92 L xs _ (ll_lookup h)
theorem pk_93 (L : Nat) (xs : Nat → Int32) : ∀ pc o, ll_P L xs 93 pc = some o → ll_OK ll_mN ll_mC ll_mR ll_mK ll_mI ll_cnt L xs false 93 pc o := by
  intro pc o h
  rw [P_93] at h
  unfold ll_OK
  rw [mC_93, mN_93, mR_93, mI_93]
  exact ok_93 L xs _ (ll_lookup h)
theorem pk_94 (L : Nat) (xs : Nat → Int32) : ∀ pc o, ll_P L xs 94 pc = some o → ll_OK ll_mN ll_mC ll_mR ll_mK ll_mI ll_cnt L xs false 94 pc o := by
  intro pc o h
  rw [P_94] at h
  unfold ll_OK
  rw [mC_94, mN_94, mR_94, mI_94]
  exact ok_94 L xs _ (ll_lookup h)
theorem pk_95 (L : Nat) (xs : Nat → Int32) : ∀ pc o, ll_P L xs 95 pc = some o → ll_OK ll_mN ll_mC ll_mR ll_mK ll_mI ll_cnt L xs false 95 pc o := by
  intro pc o h
  rw [P_95] at h
  unfold ll_OK
  rw [mC_95, mN_95, mR_95, mI_95]
  exact ok_95 L xs _ (ll_lookup h)
theorem pk_96 (L : Nat) (xs : Nat → Int32) : ∀ pc o, ll_P L xs 96 pc = some o → ll_OK ll_mN ll_mC ll_mR ll_mK ll_mI ll_cnt L xs false 96 pc o := by
  intro pc o h
  rw [P_96] at h
  unfold ll_OK
  rw [mC_96, mN_96, mR_96, mI_96]
  exact ok_96 L xs _ (ll_lookup h)
theorem pk_97 (L : Nat) (xs : Nat → Int32) : ∀ pc o, ll_P L xs 97 pc = some o → ll_OK ll_mN ll_mC ll_mR ll_mK ll_mI ll_cnt L xs false 97 pc o := by
  intro pc o h
  rw [P_97] at h
  unfold ll_OK
  rw [mC_97, mN_97, mR_97, mI_97]
  exact ok_97 L xs _ (ll_lookup h)
theorem pk_98 (L : Nat) (xs : Nat → Int32) : ∀ pc o, ll_P L xs 98 pc = some o → ll_OK ll_mN ll_mC ll_mR ll_mK ll_mI ll_cnt L xs false 98 pc o := by
  intro pc o h
  rw [P_98] at h
  unfold ll_OK
  rw [mC_98, mN_98, mR_98, mI_98]
  exact ok_98 L xs _ (ll_lookup h)
theorem pk_99 (L : Nat) (xs : Nat → Int32) : ∀ pc o, ll_P L xs 99 pc = some o → ll_OK ll_mN ll_mC ll_mR ll_mK ll_mI ll_cnt L xs false 99 pc o := by
  intro pc o h
  rw [P_99] at h
  unfold ll_OK
  rw [mC_99, mN_99, mR_99, mI_99]
  exact ok_99 L xs _ (ll_lookup h)
theorem pk_100 (L : Nat) (xs : Nat → Int32) : ∀ pc o, ll_P L xs 100 pc = some o → ll_OK ll_mN ll_mC ll_mR ll_mK ll_mI ll_cnt L xs false 100 pc o := by
  intro pc o h
  rw [P_100] at h
  unfold ll_OK
  rw [mC_100, mN_100, mR_100, mI_100]
  exact ok_100 L xs _ (ll_lookup h)
theorem pk_101 (L : Nat) (xs : Nat → Int32) : ∀ pc o, ll_P L xs 101 pc = some o → ll_OK ll_mN ll_mC ll_mR ll_mK ll_mI ll_cnt L xs false 101 pc o := by
  intro pc o h
  rw [P_101] at h
  unfold ll_OK
  rw [mC_101, mN_101, mR_101, mI_101]
  exact ok_101 L xs _ (ll_lookup h)
theorem pk_102 (L : Nat) (xs : Nat → Int32) : ∀ pc o, ll_P L xs 102 pc = some o → ll_OK ll_mN ll_mC ll_mR ll_mK ll_mI ll_cnt L xs false 102 pc o := by
  intro pc o h
  rw [P_102] at h
  unfold ll_OK
  rw [mC_102, mN_102, mR_102, mI_102]
  exact ok_102 L xs _ (ll_lookup h)
theorem pk_103 (L : Nat) (xs : Nat → Int32) : ∀ pc o, ll_P L xs 103 pc = some o → ll_OK ll_mN ll_mC ll_mR ll_mK ll_mI ll_cnt L xs false 103 pc o := by
  intro pc o h
  rw [P_103] at h
  unfold ll_OK
  rw [mC_103, mN_103, mR_103, mI_103]
  exact ok_103 L xs _ (ll_lookup h)
theorem pk_104 (L : Nat) (xs : Nat → Int32) : ∀ pc o, ll_P L xs 104 pc = some o → ll_OK ll_mN ll_mC ll_mR ll_mK ll_mI ll_cnt L xs false 104 pc o := by
  intro pc o h
  rw [P_104] at h
  unfold ll_OK
  rw [mC_104, mN_104, mR_104, mI_104]
  exact ok_104 L xs _ (ll_lookup h)
theorem pk_105 (L : Nat) (xs : Nat → Int32) : ∀ pc o, ll_P L xs 105 pc = some o → ll_OK ll_mN ll_mC ll_mR ll_mK ll_mI ll_cnt L xs false 105 pc o := by
  intro pc o h
  rw [P_105] at h
  unfold ll_OK
  rw [mC_105, mN_105, mR_105, mI_105]
  exact ok_105 L xs _ (ll_lookup h)
theorem pk_106 (L : Nat) (xs : Nat → Int32) : ∀ pc o, ll_P L xs 106 pc = some o → ll_OK ll_mN ll_mC ll_mR ll_mK ll_mI ll_cnt L xs false 106 pc o := by
  intro pc o h
  rw [P_106] at h
  unfold ll_OK
  rw [mC_106, mN_106, mR_106, mI_106]
  exact ok_106 L xs _ (ll_lookup h)
theorem pk_107 (L : Nat) (xs : Nat → Int32) : ∀ pc o, ll_P L xs 107 pc = some o → ll_OK ll_mN ll_mC ll_mR ll_mK ll_mI ll_cnt L xs false 107 pc o := by
  intro pc o h
  rw [P_107] at h
  unfold ll_OK
  rw [mC_107, mN_107, mR_107, mI_107]
  exact ok_107 L xs _ (ll_lookup h)
theorem pk_108 (L : Nat) (xs : Nat → Int32) : ∀ pc o, ll_P L xs 108 pc = some o → ll_OK ll_mN ll_mC ll_mR ll_mK ll_mI ll_cnt L xs false 108 pc o := by
  intro pc o h
  rw [P_108] at h
  unfold ll_OK
  rw [mC_108, mN_108, mR_108, mI_108]
  exact ok_108 L xs _ (ll_lookup h)
theorem pk_109 (L : Nat) (xs : Nat → Int32) : ∀ pc o, ll_P L xs 109 pc = some o → ll_OK ll_mN ll_mC ll_mR ll_mK ll_mI ll_cnt L xs false 109 pc o := by
  intro pc o h
  rw [P_109] at h
  unfold ll_OK
  rw [mC_109, mN_109, mR_109, mI_109]
  exact ok_109 L xs _ (ll_lookup h)
theorem pk_110 (L : Nat) (xs : Nat → Int32) : ∀ pc o, ll_P L xs 110 pc = some o → ll_OK ll_mN ll_mC ll_mR ll_mK ll_mI ll_cnt L xs false 110 pc o := by
  intro pc o h
  rw [P_110] at h
  unfold ll_OK
  rw [mC_110, mN_110, mR_110, mI_110]
  exact ok_110 L xs _ (ll_lookup h)
theorem pk_111 (L : Nat) (xs : Nat → Int32) : ∀ pc o, ll_P L xs 111 pc = some o → ll_OK ll_mN ll_mC ll_mR ll_mK ll_mI ll_cnt L xs false 111 pc o := by
  intro pc o h
  rw [P_111] at h
  unfold ll_OK
  rw [mC_111, mN_111, mR_111, mI_111]
  exact ok_111 L xs _ (ll_lookup h)
theorem pk_112 (L : Nat) (xs : Nat → Int32) : ∀ pc o, ll_P L xs 112 pc = some o → ll_OK ll_mN ll_mC ll_mR ll_mK ll_mI ll_cnt L xs false 112 pc o := by
  intro pc o h
  rw [P_112] at h
  unfold ll_OK
  rw [mC_112, mN_112, mR_112, mI_112]
  exact ok_112 L xs _ (ll_lookup h)
theorem pk_113 (L : Nat) (xs : Nat → Int32) : ∀ pc o, ll_P L xs 113 pc = some o → ll_OK ll_mN ll_mC ll_mR ll_mK ll_mI ll_cnt L xs false 113 pc o := by
  intro pc o h
  rw [P_113] at h
  unfold ll_OK
  rw [mC_113, mN_113, mR_113, mI_113]
  exact ok_113 L xs _ (ll_lookup h)
theorem pk_114 (L : Nat) (xs : Nat → Int32) : ∀ pc o, ll_P L xs 114 pc = some o → ll_OK ll_mN ll_mC ll_mR ll_mK ll_mI ll_cnt L xs false 114 pc o := by
  intro pc o h
  rw [P_114] at h
  unfold ll_OK
  rw [mC_114, mN_114, mR_114, mI_114]
  exact ok_114 L xs _ (ll_lookup h)
theorem pk_115 (L : Nat) (xs : Nat → Int32) : ∀ pc o, ll_P L xs 115 pc = some o → ll_OK ll_mN ll_mC ll_mR ll_mK ll_mI ll_cnt L xs false 115 pc o := by
  intro pc o h
  rw [P_115] at h
  unfold ll_OK
  rw [mC_115, mN_115, mR_115, mI_115]
  exact ok_115 L xs _ (ll_lookup h)
theorem pk_116 (L : Nat) (xs : Nat → Int32) : ∀ pc o, ll_P L xs 116 pc = some o → ll_OK ll_mN ll_mC ll_mR ll_mK ll_mI ll_cnt L xs false 116 pc o := by
  intro pc o h
  rw [P_116] at h
  unfold ll_OK
  rw [mC_116, mN_116, mR_116, mI_116]
  exact ok_116 L xs _ (ll_lookup h)
theorem pk_117 (L : Nat) (xs : Nat → Int32) : ∀ pc o, ll_P L xs 117 pc = some o → ll_OK ll_mN ll_mC ll_mR ll_mK ll_mI ll_cnt L xs false 117 pc o := by
  intro pc o h
  rw [P_117] at h
  unfold ll_OK
  rw [mC_117, mN_117, mR_117, mI_117]
  exact ok_117 L xs _ (ll_lookup h)
theorem pk_118 (L : Nat) (xs : Nat → Int32) : ∀ pc o, ll_P L xs 118 pc = some o → ll_OK ll_mN ll_mC ll_mR ll_mK ll_mI ll_cnt L xs false 118 pc o := by
  intro pc o h
  rw [P_118] at h
  unfold ll_OK
  rw [mC_118, mN_118, mR_118, mI_118]
  exact ok_118 L xs _ (ll_lookup h)
theorem pk_119 (L : Nat) (xs : Nat → Int32) : ∀ pc o, ll_P L xs 119 pc = some o → ll_OK ll_mN ll_mC ll_mR ll_mK ll_mI ll_cnt L xs false 119 pc o := by
  intro pc o h
  rw [P_119] at h
  unfold ll_OK
  rw [mC_119, mN_119, mR_119, mI_119]
  exact ok_119 L xs _ (ll_lookup h)
theorem pk_120 (L : Nat) (xs : Nat → Int32) : ∀ pc o, ll_P L xs 120 pc = some o → ll_OK ll_mN ll_mC ll_mR ll_mK ll_mI ll_cnt L xs false 120 pc o := by
  intro pc o h
  rw [P_120] at h
  unfold ll_OK
  rw [mC_120, mN_120, mR_120, mI_120]
  exact ok_120 L xs _ (ll_lookup h)
theorem pk_121 (L : Nat) (xs : Nat → Int32) : ∀ pc o, ll_P L xs 121 pc = some o → ll_OK ll_mN ll_mC ll_mR ll_mK ll_mI ll_cnt L xs false 121 pc o := by
  intro pc o h
  rw [P_121] at h
  unfold ll_OK
  rw [mC_121, mN_121, mR_121, mI_121]
  exact ok_121 L xs _ (ll_lookup h)
theorem pk_122 (L : Nat) (xs : Nat → Int32) : ∀ pc o, ll_P L xs 122 pc = some o → ll_OK ll_mN ll_mC ll_mR ll_mK ll_mI ll_cnt L xs false 122 pc o := by
  intro pc o h
  rw [P_122] at h
  unfold ll_OK
  rw [mC_122, mN_122, mR_122, mI_122]
  exact ok_122 L xs _ (ll_lookup h)
theorem pk_123 (L : Nat) (xs : Nat → Int32) : ∀ pc o, ll_P L xs 123 pc = some o → ll_OK ll_mN ll_mC ll_mR ll_mK ll_mI ll_cnt L xs false 123 pc o := by
  intro pc o h
  rw [P_123] at h
  unfold ll_OK
  rw [mC_123, mN_123, mR_123, mI_123]
  exact ok_123 L xs _ (ll_lookup h)
theorem pk_124 (L : Nat) (xs : Nat → Int32) : ∀ pc o, ll_P L xs 124 pc = some o → ll_OK ll_mN ll_mC ll_mR ll_mK ll_mI ll_cnt L xs false 124 pc o := by
  intro pc o h
  rw [P_124] at h
  unfold ll_OK
  rw [mC_124, mN_124, mR_124, mI_124]
  exact ok_124 L xs _ (ll_lookup h)
theorem pk_125 (L : Nat) (xs : Nat → Int32) : ∀ pc o, ll_P L xs 125 pc = some o → ll_OK ll_mN ll_mC ll_mR ll_mK ll_mI ll_cnt L xs false 125 pc o := by
  intro pc o h
  rw [P_125] at h
  unfold ll_OK
  rw [mC_125, mN_125, mR_125, mI_125]
  exact ok_125 L xs _ (ll_lookup h)
theorem pk_126 (L : Nat) (xs : Nat → Int32) : ∀ pc o, ll_P L xs 126 pc = some o → ll_OK ll_mN ll_mC ll_mR ll_mK ll_mI ll_cnt L xs false 126 pc o := by
  intro pc o h
  rw [P_126] at h
  unfold ll_OK
  rw [mC_126, mN_126, mR_126, mI_126]
  exact ok_126 L xs _ (ll_lookup h)
theorem pk_127 (L : Nat) (xs : Nat → Int32) : ∀ pc o, ll_P L xs 127 pc = some o → ll_OK ll_mN ll_mC ll_mR ll_mK ll_mI ll_cnt L xs false 127 pc o := by
  intro pc o h
  rw [P_127] at h
  unfold ll_OK
  rw [mC_127, mN_127, mR_127, mI_127]
  exact ok_127 L xs _ (ll_lookup h)
theorem pk_128 (L : Nat) (xs : Nat → Int32) : ∀ pc o, ll_P L xs 128 pc = some o → ll_OK ll_mN ll_mC ll_mR ll_mK ll_mI ll_cnt L xs false 128 pc o := by
  intro pc o h
  rw [P_128] at h
  unfold ll_OK
  rw [mC_128, mN_128, mR_128, mI_128]
  exact ok_128 L xs _ (ll_lookup h)
theorem pk_129 (L : Nat) (xs : Nat → Int32) : ∀ pc o, ll_P L xs 129 pc = some o → ll_OK ll_mN ll_mC ll_mR ll_mK ll_mI ll_cnt L xs false 129 pc o := by
  intro pc o h
  rw [P_129] at h
  unfold ll_OK
  rw [mC_129, mN_129, mR_129, mI_129]
  exact ok_129 L xs _ (ll_lookup h)
theorem pk_130 (L : Nat) (xs : Nat → Int32) : ∀ pc o, ll_P L xs 130 pc = some o → ll_OK ll_mN ll_mC ll_mR ll_mK ll_mI ll_cnt L xs false 130 pc o := by
  intro pc o h
  rw [P_130] at h
  unfold ll_OK
  rw [mC_130, mN_130, mR_130, mI_130]
  exact ok_130 L xs _ (ll_lookup h)
theorem pk_131 (L : Nat) (xs : Nat → Int32) : ∀ pc o, ll_P L xs 131 pc = some o → ll_OK ll_mN ll_mC ll_mR ll_mK ll_mI ll_cnt L xs false 131 pc o := by
  intro pc o h
  rw [P_131] at h
  unfold ll_OK
  rw [mC_131, mN_131, mR_131, mI_131]
  exact ok_131 L xs _ (ll_lookup h)
theorem pk_132 (L : Nat) (xs : Nat → Int32) : ∀ pc o, ll_P L xs 132 pc = some o → ll_OK ll_mN ll_mC ll_mR ll_mK ll_mI ll_cnt L xs false 132 pc o := by
  intro pc o h
  rw [P_132] at h
  unfold ll_OK
  rw [mC_132, mN_132, mR_132, mI_132]
  exact ok_132 L xs _ (ll_lookup h)
theorem pk_133 (L : Nat) (xs : Nat → Int32) : ∀ pc o, ll_P L xs 133 pc = some o → ll_OK ll_mN ll_mC ll_mR ll_mK ll_mI ll_cnt L xs false 133 pc o := by
  intro pc o h
  rw [P_133] at h
  unfold ll_OK
  rw [mC_133, mN_133, mR_133, mI_133]
  exact ok_133 L xs _ (ll_lookup h)
theorem pk_134 (L : Nat) (xs : Nat → Int32) : ∀ pc o, ll_P L xs 134 pc = some o → ll_OK ll_mN ll_mC ll_mR ll_mK ll_mI ll_cnt L xs false 134 pc o := by
  intro pc o h
  rw [P_134] at h
  unfold ll_OK
  rw [mC_134, mN_134, mR_134, mI_134]
  exact ok_134 L xs _ (ll_lookup h)
theorem pk_135 (L : Nat) (xs : Nat → Int32) : ∀ pc o, ll_P L xs 135 pc = some o → ll_OK ll_mN ll_mC ll_mR ll_mK ll_mI ll_cnt L xs false 135 pc o := by
  intro pc o h
  rw [P_135] at h
  unfold ll_OK
  rw [mC_135, mN_135, mR_135, mI_135]
  exact ok_135 L xs _ (ll_lookup h)
theorem pk_136 (L : Nat) (xs : Nat → Int32) : ∀ pc o, ll_P L xs 136 pc = some o → ll_OK ll_mN ll_mC ll_mR ll_mK ll_mI ll_cnt L xs false 136 pc o := by
  intro pc o h
  rw [P_136] at h
  unfold ll_OK
  rw [mC_136, mN_136, mR_136, mI_136]
  exact ok_136 L xs _ (ll_lookup h)
theorem pk_137 (L : Nat) (xs : Nat → Int32) : ∀ pc o, ll_P L xs 137 pc = some o → ll_OK ll_mN ll_mC ll_mR ll_mK ll_mI ll_cnt L xs false 137 pc o := by
  intro pc o h
  rw [P_137] at h
  unfold ll_OK
  rw [mC_137, mN_137, mR_137, mI_137]
  exact ok_137 L xs _ (ll_lookup h)
theorem pk_138 (L : Nat) (xs : Nat → Int32) : ∀ pc o, ll_P L xs 138 pc = some o → ll_OK ll_mN ll_mC ll_mR ll_mK ll_mI ll_cnt L xs false 138 pc o := by
  intro pc o h
  rw [P_138] at h
  unfold ll_OK
  rw [mC_138, mN_138, mR_138, mI_138]
  exact ok_138 L xs _ (ll_lookup h)
theorem pk_139 (L : Nat) (xs : Nat → Int32) : ∀ pc o, ll_P L xs 139 pc = some o → ll_OK ll_mN ll_mC ll_mR ll_mK ll_mI ll_cnt L xs false 139 pc o := by
  intro pc o h
  rw [P_139] at h
  unfold ll_OK
  rw [mC_139, mN_139, mR_139, mI_139]
  exact ok_139 L xs _ (ll_lookup h)
theorem pk_140 (L : Nat) (xs : Nat → Int32) : ∀ pc o, ll_P L xs 140 pc = some o → ll_OK ll_mN ll_mC ll_mR ll_mK ll_mI ll_cnt L xs false 140 pc o := by
  intro pc o h
  rw [P_140] at h
  unfold ll_OK
  rw [mC_140, mN_140, mR_140, mI_140]
  exact ok_140 L xs _ (ll_lookup h)
theorem pk_141 (L : Nat) (xs : Nat → Int32) : ∀ pc o, ll_P L xs 141 pc = some o → ll_OK ll_mN ll_mC ll_mR ll_mK ll_mI ll_cnt L xs false 141 pc o := by
  intro pc o h
  rw [P_141] at h
  unfold ll_OK
  rw [mC_141, mN_141, mR_141, mI_141]
  exact ok_141 L xs _ (ll_lookup h)
theorem pk_142 (L : Nat) (xs : Nat → Int32) : ∀ pc o, ll_P L xs 142 pc = some o → ll_OK ll_mN ll_mC ll_mR ll_mK ll_mI ll_cnt L xs false 142 pc o := by
  intro pc o h
  rw [P_142] at h
  unfold ll_OK
  rw [mC_142, mN_142, mR_142, mI_142]
  exact ok_142 L xs _ (ll_lookup h)
theorem pk_143 (L : Nat) (xs : Nat → Int32) : ∀ pc o, ll_P L xs 143 pc = some o → ll_OK ll_mN ll_mC ll_mR ll_mK ll_mI ll_cnt L xs false 143 pc o := by
  intro pc o h
  rw [P_143] at h
  unfold ll_OK
  rw [mC_143, mN_143, mR_143, mI_143]
  exact ok_143 L xs _ (ll_lookup h)
theorem pk_144 (L : Nat) (xs : Nat → Int32) : ∀ pc o, ll_P L xs 144 pc = some o → ll_OK ll_mN ll_mC ll_mR ll_mK ll_mI ll_cnt L xs false 144 pc o := by
  intro pc o h
  rw [P_144] at h
  unfold ll_OK
  rw [mC_144, mN_144, mR_144, mI_144]
  exact ok_144 L xs _ (ll_lookup h)
theorem pk_145 (L : Nat) (xs : Nat → Int32) : ∀ pc o, ll_P L xs 145 pc = some o → ll_OK ll_mN ll_mC ll_mR ll_mK ll_mI ll_cnt L xs false 145 pc o := by
  intro pc o h
  rw [P_145] at h
  unfold ll_OK
  rw [mC_145, mN_145, mR_145, mI_145]
  exact ok_145 L xs _ (ll_lookup h)
theorem pk_146 (L : Nat) (xs : Nat → Int32) : ∀ pc o, ll_P L xs 146 pc = some o → ll_OK ll_mN ll_mC ll_mR ll_mK ll_mI ll_cnt L xs false 146 pc o := by
  intro pc o h
  rw [P_146] at h
  unfold ll_OK
  rw [mC_146, mN_146, mR_146, mI_146]
  exact ok_146 L xs _ (ll_lookup h)
theorem pk_147 (L : Nat) (xs : Nat → Int32) : ∀ pc o, ll_P L xs 147 pc = some o → ll_OK ll_mN ll_mC ll_mR ll_mK ll_mI ll_cnt L xs false 147 pc o := by
  intro pc o h
  rw [P_147] at h
  unfold ll_OK
  rw [mC_147, mN_147, mR_147, mI_147]
  exact ok_147 L xs _ (ll_lookup h)
theorem pk_148 (L : Nat) (xs : Nat → Int32) : ∀ pc o, ll_P L xs 148 pc = some o → ll_OK ll_mN ll_mC ll_mR ll_mK ll_mI ll_cnt L xs false 148 pc o := by
  intro pc o h
  rw [P_148] at h
  unfold ll_OK
  rw [mC_148, mN_148, mR_148, mI_148]
  exact ok_148 L xs _ (ll_lookup h)
theorem pk_149 (L : Nat) (xs : Nat → Int32) : ∀ pc o, ll_P L xs 149 pc = some o → ll_OK ll_mN ll_mC ll_mR ll_mK ll_mI ll_cnt L xs false 149 pc o := by
  intro pc o h
  rw [P_149] at h
  unfold ll_OK
  rw [mC_149, mN_149, mR_149, mI_149]
  exact ok_149 L xs _ (ll_lookup h)
theorem pk_150 (L : Nat) (xs : Nat → Int32) : ∀ pc o, ll_P L xs 150 pc = some o → ll_OK ll_mN ll_mC ll_mR ll_mK ll_mI ll_cnt L xs false 150 pc o := by
  intro pc o h
  rw [P_150] at h
  unfold ll_OK
  rw [mC_150, mN_150, mR_150, mI_150]
  exact ok_150 L xs _ (ll_lookup h)
theorem pk_151 (L : Nat) (xs : Nat → Int32) : ∀ pc o, ll_P L xs 151 pc = some o → ll_OK ll_mN ll_mC ll_mR ll_mK ll_mI ll_cnt L xs false 151 pc o := by
  intro pc o h
  rw [P_151] at h
  unfold ll_OK
  rw [mC_151, mN_151, mR_151, mI_151]
  exact ok_151 L xs _ (ll_lookup h)
theorem pk_152 (L : Nat) (xs : Nat → Int32) : ∀ pc o, ll_P L xs 152 pc = some o → ll_OK ll_mN ll_mC ll_mR ll_mK ll_mI ll_cnt L xs false 152 pc o := by
  intro pc o h
  rw [P_152] at h
  unfold ll_OK
  rw [mC_152, mN_152, mR_152, mI_152]
  exact ok_152 L xs _ (ll_lookup h)
theorem pk_153 (L : Nat) (xs : Nat → Int32) : ∀ pc o, ll_P L xs 153 pc = some o → ll_OK ll_mN ll_mC ll_mR ll_mK ll_mI ll_cnt L xs false 153 pc o := by
  intro pc o h
  rw [P_153] at h
  unfold ll_OK
  rw [mC_153, mN_153, mR_153, mI_153]
  exact ok_153 L xs _ (ll_lookup h)
theorem pk_154 (L : Nat) (xs : Nat → Int32) : ∀ pc o, ll_P L xs 154 pc = some o → ll_OK ll_mN ll_mC ll_mR ll_mK ll_mI ll_cnt L xs false 154 pc o := by
  intro pc o h
  rw [P_154] at h
  unfold ll_OK
  rw [mC_154, mN_154, mR_154, mI_154]
  exact ok_154 L xs _ (ll_lookup h)
theorem pk_155 (L : Nat) (xs : Nat → Int32) : ∀ pc o, ll_P L xs 155 pc = some o → ll_OK ll_mN ll_mC ll_mR ll_mK ll_mI ll_cnt L xs false 155 pc o := by
  intro pc o h
  rw [P_155] at h
  unfold ll_OK
  rw [mC_155, mN_155, mR_155, mI_155]
  exact ok_155 L xs _ (ll_lookup h)
theorem pk_156 (L : Nat) (xs : Nat → Int32) : ∀ pc o, ll_P L xs 156 pc = some o → ll_OK ll_mN ll_mC ll_mR ll_mK ll_mI ll_cnt L xs false 156 pc o := by
  intro pc o h
  rw [P_156] at h
  unfold ll_OK
  rw [mC_156, mN_156, mR_156, mI_156]
  exact ok_156 L xs _ (ll_lookup h)
theorem pk_157 (L : Nat) (xs : Nat → Int32) : ∀ pc o, ll_P L xs 157 pc = some o → ll_OK ll_mN ll_mC ll_mR ll_mK ll_mI ll_cnt L xs false 157 pc o := by
  intro pc o h
  rw [P_157] at h
  unfold ll_OK
  rw [mC_157, mN_157, mR_157, mI_157]
  exact ok_157 L xs _ (ll_lookup h)
theorem pk_158 (L : Nat) (xs : Nat → Int32) : ∀ pc o, ll_P L xs 158 pc = some o → ll_OK ll_mN ll_mC ll_mR ll_mK ll_mI ll_cnt L xs false 158 pc o := by
  intro pc o h
  rw [P_158] at h
  unfold ll_OK
  rw [mC_158, mN_158, mR_158, mI_158]
  exact ok_158 L xs _ (ll_lookup h)
theorem pk_159 (L : Nat) (xs : Nat → Int32) : ∀ pc o, ll_P L xs 159 pc = some o → ll_OK ll_mN ll_mC ll_mR ll_mK ll_mI ll_cnt L xs false 159 pc o := by
  intro pc o h
  rw [P_159] at h
  unfold ll_OK
  rw [mC_159, mN_159, mR_159, mI_159]
  exact ok_159 L xs _ (ll_lookup h)
theorem pk_160 (L : Nat) (xs : Nat → Int32) : ∀ pc o, ll_P L xs 160 pc = some o → ll_OK ll_mN ll_mC ll_mR ll_mK ll_mI ll_cnt L xs false 160 pc o := by
  intro pc o h
  rw [P_160] at h
  unfold ll_OK
  rw [mC_160, mN_160, mR_160, mI_160]
  exact ok_160 L xs _ (ll_lookup h)
theorem pk_161 (L : Nat) (xs : Nat → Int32) : ∀ pc o, ll_P L xs 161 pc = some o → ll_OK ll_mN ll_mC ll_mR ll_mK ll_mI ll_cnt L xs false 161 pc o := by
  intro pc o h
  rw [P_161] at h
  unfold ll_OK
  rw [mC_161, mN_161, mR_161, mI_161]
  exact ok_161 L xs _ (ll_lookup h)
theorem pk_162 (L : Nat) (xs : Nat → Int32) : ∀ pc o, ll_P L xs 162 pc = some o → ll_OK ll_mN ll_mC ll_mR ll_mK ll_mI ll_cnt L xs false 162 pc o := by
  intro pc o h
  rw [P_162] at h
  unfold ll_OK
  rw [mC_162, mN_162, mR_162, mI_162]
  exact ok_162 L xs _ (ll_lookup h)
theorem pk_163 (L : Nat) (xs : Nat → Int32) : ∀ pc o, ll_P L xs 163 pc = some o → ll_OK ll_mN ll_mC ll_mR ll_mK ll_mI ll_cnt L xs false 163 pc o := by
  intro pc o h
  rw [P_163] at h
  unfold ll_OK
  rw [mC_163, mN_163, mR_163, mI_163]
  exact ok_163 L xs _ (ll_lookup h)
theorem pk_164 (L : Nat) (xs : Nat → Int32) : ∀ pc o, ll_P L xs 164 pc = some o → ll_OK ll_mN ll_mC ll_mR ll_mK ll_mI ll_cnt L xs false 164 pc o := by
  intro pc o h
  rw [P_164] at h
  unfold ll_OK
  rw [mC_164, mN_164, mR_164, mI_164]
  exact ok_164 L xs _ (ll_lookup h)
theorem pk_165 (L : Nat) (xs : Nat → Int32) : ∀ pc o, ll_P L xs 165 pc = some o → ll_OK ll_mN ll_mC ll_mR ll_mK ll_mI ll_cnt L xs false 165 pc o := by
  intro pc o h
  rw [P_165] at h
  unfold ll_OK
  rw [mC_165, mN_165, mR_165, mI_165]
  exact ok_165 L xs _ (ll_lookup h)
theorem pk_166 (L : Nat) (xs : Nat → Int32) : ∀ pc o, ll_P L xs 166 pc = some o → ll_OK ll_mN ll_mC ll_mR ll_mK ll_mI ll_cnt L xs false 166 pc o := by
  intro pc o h
  rw [P_166] at h
  unfold ll_OK
  rw [mC_166, mN_166, mR_166, mI_166]
  exact ok_166 L xs _ (ll_lookup h)
theorem pk_167 (L : Nat) (xs : Nat → Int32) : ∀ pc o, ll_P L xs 167 pc = some o → ll_OK ll_mN ll_mC ll_mR ll_mK ll_mI ll_cnt L xs false 167 pc o := by
  intro pc o h
  rw [P_167] at h
  unfold ll_OK
  rw [mC_167, mN_167, mR_167, mI_167]
  exact ok_167 L xs _ (ll_lookup h)
theorem pk_168 (L : Nat) (xs : Nat → Int32) : ∀ pc o, ll_P L xs 168 pc = some o → ll_OK ll_mN ll_mC ll_mR ll_mK ll_mI ll_cnt L xs false 168 pc o := by
  intro pc o h
  rw [P_168] at h
  unfold ll_OK
  rw [mC_168, mN_168, mR_168, mI_168]
  exact ok_168 L xs _ (ll_lookup h)
theorem pk_169 (L : Nat) (xs : Nat → Int32) : ∀ pc o, ll_P L xs 169 pc = some o → ll_OK ll_mN ll_mC ll_mR ll_mK ll_mI ll_cnt L xs false 169 pc o := by
  intro pc o h
  rw [P_169] at h
  unfold ll_OK
  rw [mC_169, mN_169, mR_169, mI_169]
  exact ok_169 L xs _ (ll_lookup h)
theorem pk_170 (L : Nat) (xs : Nat → Int32) : ∀ pc o, ll_P L xs 170 pc = some o → ll_OK ll_mN ll_mC ll_mR ll_mK ll_mI ll_cnt L xs false 170 pc o := by
  intro pc o h
  rw [P_170] at h
  unfold ll_OK
  rw [mC_170, mN_170, mR_170, mI_170]
  exact ok_170 L xs _ (ll_lookup h)
theorem pk_171 (L : Nat) (xs : Nat → Int32) : ∀ pc o, ll_P L xs 171 pc = some o → ll_OK ll_mN ll_mC ll_mR ll_mK ll_mI ll_cnt L xs false 171 pc o := by
  intro pc o h
  rw [P_171] at h
  unfold ll_OK
  rw [mC_171, mN_171, mR_171, mI_171]
  exact ok_171 L xs _ (ll_lookup h)
theorem pk_172 (L : Nat) (xs : Nat → Int32) : ∀ pc o, ll_P L xs 172 pc = some o → ll_OK ll_mN ll_mC ll_mR ll_mK ll_mI ll_cnt L xs false 172 pc o := by
  intro pc o h
  rw [P_172] at h
  unfold ll_OK
  rw [mC_172, mN_172, mR_172, mI_172]
  exact ok_172 L xs _ (ll_lookup h)
theorem pk_173 (L : Nat) (xs : Nat → Int32) : ∀ pc o, ll_P L xs 173 pc = some o → ll_OK ll_mN ll_mC ll_mR ll_mK ll_mI ll_cnt L xs false 173 pc o := by
  intro pc o h
  rw [P_173] at h
  unfold ll_OK
  rw [mC_173, mN_173, mR_173, mI_173]
  exact ok_173 L xs _ (ll_lookup h)
theorem pk_174 (L : Nat) (xs : Nat → Int32) : ∀ pc o, ll_P L xs 174 pc = some o → ll_OK ll_mN ll_mC ll_mR ll_mK ll_mI ll_cnt L xs false 174 pc o := by
  intro pc o h
  rw [P_174] at h
  unfold ll_OK
  rw [mC_174, mN_174, mR_174, mI_174]
  exact ok_174 L xs _ (ll_lookup h)
theorem pk_175 (L : Nat) (xs : Nat → Int32) : ∀ pc o, ll_P L xs 175 pc = some o → ll_OK ll_mN ll_mC ll_mR ll_mK ll_mI ll_cnt L xs false 175 pc o := by
  intro pc o h
  rw [P_175] at h
  unfold ll_OK
  rw [mC_175, mN_175, mR_175, mI_175]
  exact ok_175 L xs _ (ll_lookup h)
theorem pk_176 (L : Nat) (xs : Nat → Int32) : ∀ pc o, ll_P L xs 176 pc = some o → ll_OK ll_mN ll_mC ll_mR ll_mK ll_mI ll_cnt L xs false 176 pc o := by
  intro pc o h
  rw [P_176] at h
  unfold ll_OK
  rw [mC_176, mN_176, mR_176, mI_176]
  exact ok_176 L xs _ (ll_lookup h)
theorem pk_177 (L : Nat) (xs : Nat → Int32) : ∀ pc o, ll_P L xs 177 pc = some o → ll_OK ll_mN ll_mC ll_mR ll_mK ll_mI ll_cnt L xs false 177 pc o := by
  intro pc o h
  rw [P_177] at h
  unfold ll_OK
  rw [mC_177, mN_177, mR_177, mI_177]
  exact ok_177 L xs _ (ll_lookup h)
theorem pk_178 (L : Nat) (xs : Nat → Int32) : ∀ pc o, ll_P L xs 178 pc = some o → ll_OK ll_mN ll_mC ll_mR ll_mK ll_mI ll_cnt L xs false 178 pc o := by
  intro pc o h
  rw [P_178] at h
  unfold ll_OK
  rw [mC_178, mN_178, mR_178, mI_178]
  exact ok_178 L xs _ (ll_lookup h)
theorem pk_179 (L : Nat) (xs : Nat → Int32) : ∀ pc o, ll_P L xs 179 pc = some o → ll_OK ll_mN ll_mC ll_mR ll_mK ll_mI ll_cnt L xs false 179 pc o := by
  intro pc o h
  rw [P_179] at h
  unfold ll_OK
  rw [mC_179, mN_179, mR_179, mI_179]
  exact ok_179 L xs _ (ll_lookup h)
theorem pk_180 (L : Nat) (xs : Nat → Int32) : ∀ pc o, ll_P L xs 180 pc = some o → ll_OK ll_mN ll_mC ll_mR ll_mK ll_mI ll_cnt L xs false 180 pc o := by
  intro pc o h
  rw [P_180] at h
  unfold ll_OK
  rw [mC_180, mN_180, mR_180, mI_180]
  exact ok_180 L xs _ (ll_lookup h)
theorem pk_181 (L : Nat) (xs : Nat → Int32) : ∀ pc o, ll_P L xs 181 pc = some o → ll_OK ll_mN ll_mC ll_mR ll_mK ll_mI ll_cnt L xs false 181 pc o := by
  intro pc o h
  rw [P_181] at h
  unfold ll_OK
  rw [mC_181, mN_181, mR_181, mI_181]
  exact ok_181 L xs _ (ll_lookup h)
theorem pk_182 (L : Nat) (xs : Nat → Int32) : ∀ pc o, ll_P L xs 182 pc = some o → ll_OK ll_mN ll_mC ll_mR ll_mK ll_mI ll_cnt L xs false 182 pc o := by
  intro pc o h
  rw [P_182] at h
  unfold ll_OK
  rw [mC_182, mN_182, mR_182, mI_182]
  exact ok_182 L xs _ (ll_lookup h)
theorem pk_183 (L : Nat) (xs : Nat → Int32) : ∀ pc o, ll_P L xs 183 pc = some o → ll_OK ll_mN ll_mC ll_mR ll_mK ll_mI ll_cnt L xs false 183 pc o := by
  intro pc o h
  rw [P_183] at h
  unfold ll_OK
  rw [mC_183, mN_183, mR_183, mI_183]
  exact ok_183 L xs _ (ll_lookup h)
theorem pk_184 (L : Nat) (xs : Nat → Int32) : ∀ pc o, ll_P L xs 184 pc = some o → ll_OK ll_mN ll_mC ll_mR ll_mK ll_mI ll_cnt L xs false 184 pc o := by
  intro pc o h
  rw [P_184] at h
  unfold ll_OK
  rw [mC_184, mN_184, mR_184, mI_184]
  exact ok_184 L xs _ (ll_lookup h)
theorem pk_185 (L : Nat) (xs : Nat → Int32) : ∀ pc o, ll_P L xs 185 pc = some o → ll_OK ll_mN ll_mC ll_mR ll_mK ll_mI ll_cnt L xs false 185 pc o := by
  intro pc o h
  rw [P_185] at h
  unfold ll_OK
  rw [mC_185, mN_185, mR_185, mI_185]
  exact ok_185 L xs _ (ll_lookup h)
theorem pk_186 (L : Nat) (xs : Nat → Int32) : ∀ pc o, ll_P L xs 186 pc = some o → ll_OK ll_mN ll_mC ll_mR ll_mK ll_mI ll_cnt L xs false 186 pc o := by
  intro pc o h
  rw [P_186] at h
  unfold ll_OK
  rw [mC_186, mN_186, mR_186, mI_186]
  exact ok_186 L xs _ (ll_lookup h)
theorem pk_187 (L : Nat) (xs : Nat → Int32) : ∀ pc o, ll_P L xs 187 pc = some o → ll_OK ll_mN ll_mC ll_mR ll_mK ll_mI ll_cnt L xs false 187 pc o := by
  intro pc o h
  rw [P_187] at h
  unfold ll_OK
  rw [mC_187, mN_187, mR_187, mI_187]
  exact ok_187 L xs _ (ll_lookup h)
theorem pk_188 (L : Nat) (xs : Nat → Int32) : ∀ pc o, ll_P L xs 188 pc = some o → ll_OK ll_mN ll_mC ll_mR ll_mK ll_mI ll_cnt L xs false 188 pc o := by
  intro pc o h
  rw [P_188] at h
  unfold ll_OK
  rw [mC_188, mN_188, mR_188, mI_188]
  exact ok_188 L xs _ (ll_lookup h)
theorem pk_189 (L : Nat) (xs : Nat → Int32) : ∀ pc o, ll_P L xs 189 pc = some o → ll_OK ll_mN ll_mC ll_mR ll_mK ll_mI ll_cnt L xs false 189 pc o := by
  intro pc o h
  rw [P_189] at h
  unfold ll_OK
  rw [mC_189, mN_189, mR_189, mI_189]
  exact ok_189 L xs _ (ll_lookup h)
theorem pk_190 (L : Nat) (xs : Nat → Int32) : ∀ pc o, ll_P L xs 190 pc = some o → ll_OK ll_mN ll_mC ll_mR ll_mK ll_mI ll_cnt L xs false 190 pc o := by
  intro pc o h
  rw [P_190] at h
  unfold ll_OK
  rw [mC_190, mN_190, mR_190, mI_190]
  exact ok_190 L xs _ (ll_lookup h)
theorem pk_191 (L : Nat) (xs : Nat → Int32) : ∀ pc o, ll_P L xs 191 pc = some o → ll_OK ll_mN ll_mC ll_mR ll_mK ll_mI ll_cnt L xs false 191 pc o := by
  intro pc o h
  rw [P_191] at h
  unfold ll_OK
  rw [mC_191, mN_191, mR_191, mI_191]
  exact ok_191 L xs _ (ll_lookup h)
theorem pk_192 (L : Nat) (xs : Nat → Int32) : ∀ pc o, ll_P L xs 192 pc = some o → ll_OK ll_mN ll_mC ll_mR ll_mK ll_mI ll_cnt L xs false 192 pc o := by
  intro pc o h
  rw [P_192] at h
  unfold ll_OK
  rw [mC_192, mN_192, mR_192, mI_192]
  exact ok_192 L xs _ (ll_lookup h)
theorem pk_193 (L : Nat) (xs : Nat → Int32) : ∀ pc o, ll_P L xs 193 pc = some o → ll_OK ll_mN ll_mC ll_mR ll_mK ll_mI ll_cnt L xs false 193 pc o := by
  intro pc o h
  rw [P_193] at h
  unfold ll_OK
  rw [mC_193, mN_193, mR_193, mI_193]
  exact ok_193 L xs _ (ll_lookup h)
theorem pk_194 (L : Nat) (xs : Nat → Int32) : ∀ pc o, ll_P L xs 194 pc = some o → ll_OK ll_mN ll_mC ll_mR ll_mK ll_mI ll_cnt L xs false 194 pc o := by
  intro pc o h
  rw [P_194] at h
  unfold ll_OK
  rw [mC_194, mN_194, mR_194, mI_194]
  exact ok_194 L xs _ (ll_lookup h)
theorem pk_195 (L : Nat) (xs : Nat → Int32) : ∀ pc o, ll_P L xs 195 pc = some o → ll_OK ll_mN ll_mC ll_mR ll_mK ll_mI ll_cnt L xs false 195 pc o := by
  intro pc o h
  rw [P_195] at h
  unfold ll_OK
  rw [mC_195, mN_195, mR_195, mI_195]
  exact ok_195 L xs _ (ll_lookup h)
theorem pk_196 (L : Nat) (xs : Nat → Int32) : ∀ pc o, ll_P L xs 196 pc = some o → ll_OK ll_mN ll_mC ll_mR ll_mK ll_mI ll_cnt L xs false 196 pc o := by
  intro pc o h
  rw [P_196] at h
  unfold ll_OK
  rw [mC_196, mN_196, mR_196, mI_196]
  exact ok_196 L xs _ (ll_lookup h)
theorem pk_197 (L : Nat) (xs : Nat → Int32) : ∀ pc o, ll_P L xs 197 pc = some o → ll_OK ll_mN ll_mC ll_mR ll_mK ll_mI ll_cnt L xs false 197 pc o := by
  intro pc o h
  rw [P_197] at h
  unfold ll_OK
  rw [mC_197, mN_197, mR_197, mI_197]
  exact ok_197 L xs _ (ll_lookup h)
theorem pk_198 (L : Nat) (xs : Nat → Int32) : ∀ pc o, ll_P L xs 198 pc = some o → ll_OK ll_mN ll_mC ll_mR ll_mK ll_mI ll_cnt L xs false 198 pc o := by
  intro pc o h
  rw [P_198] at h
  unfold ll_OK
  rw [mC_198, mN_198, mR_198, mI_198]
  exact ok_198 L xs _ (ll_lookup h)
theorem pk_199 (L : Nat) (xs : Nat → Int32) : ∀ pc o, ll_P L xs 199 pc = some o → ll_OK ll_mN ll_mC ll_mR ll_mK ll_mI ll_cnt L xs false 199 pc o := by
  intro pc o h
  rw [P_199] at h
  unfold ll_OK
  rw [mC_199, mN_199, mR_199, mI_199]
  exact ok_199 L xs _ (ll_lookup h)
theorem pk_200 (L : Nat) (xs : Nat → Int32) : ∀ pc o, ll_P L xs 200 pc = some o → ll_OK ll_mN ll_mC ll_mR ll_mK ll_mI ll_cnt L xs false 200 pc o := by
  intro pc o h
  rw [P_200] at h
  unfold ll_OK
  rw [mC_200, mN_200, mR_200, mI_200]
  exact ok_200 L xs _ (ll_lookup h)
theorem pk_201 (L : Nat) (xs : Nat → Int32) : ∀ pc o, ll_P L xs 201 pc = some o → ll_OK ll_mN ll_mC ll_mR ll_mK ll_mI ll_cnt L xs false 201 pc o := by
  intro pc o h
  rw [P_201] at h
  unfold ll_OK
  rw [mC_201, mN_201, mR_201, mI_201]
  exact ok_201 L xs _ (ll_lookup h)
theorem pk_202 (L : Nat) (xs : Nat → Int32) : ∀ pc o, ll_P L xs 202 pc = some o → ll_OK ll_mN ll_mC ll_mR ll_mK ll_mI ll_cnt L xs false 202 pc o := by
  intro pc o h
  rw [P_202] at h
  unfold ll_OK
  rw [mC_202, mN_202, mR_202, mI_202]
  exact ok_202 L xs _ (ll_lookup h)
theorem pk_203 (L : Nat) (xs : Nat → Int32) : ∀ pc o, ll_P L xs 203 pc = some o → ll_OK ll_mN ll_mC ll_mR ll_mK ll_mI ll_cnt L xs false 203 pc o := by
  intro pc o h
  rw [P_203] at h
  unfold ll_OK
  rw [mC_203, mN_203, mR_203, mI_203]
  exact ok_203 L xs _ (ll_lookup h)
theorem pk_204 (L : Nat) (xs : Nat → Int32) : ∀ pc o, ll_P L xs 204 pc = some o → ll_OK ll_mN ll_mC ll_mR ll_mK ll_mI ll_cnt L xs false 204 pc o := by
  intro pc o h
  rw [P_204] at h
  unfold ll_OK
  rw [mC_204, mN_204, mR_204, mI_204]
  exact ok_204 L xs _ (ll_lookup h)
theorem pk_205 (L : Nat) (xs : Nat → Int32) : ∀ pc o, ll_P L xs 205 pc = some o → ll_OK ll_mN ll_mC ll_mR ll_mK ll_mI ll_cnt L xs false 205 pc o := by
  intro pc o h
  rw [P_205] at h
  unfold ll_OK
  rw [mC_205, mN_205, mR_205, mI_205]
  exact ok_205 L xs _ (ll_lookup h)
theorem pk_206 (L : Nat) (xs : Nat → Int32) : ∀ pc o, ll_P L xs 206 pc = some o → ll_OK ll_mN ll_mC ll_mR ll_mK ll_mI ll_cnt L xs false 206 pc o := by
  intro pc o h
  rw [P_206] at h
  unfold ll_OK
  rw [mC_206, mN_206, mR_206, mI_206]
  exact ok_206 L xs _ (ll_lookup h)
theorem pk_207 (L : Nat) (xs : Nat → Int32) : ∀ pc o, ll_P L xs 207 pc = some o → ll_OK ll_mN ll_mC ll_mR ll_mK ll_mI ll_cnt L xs false 207 pc o := by
  intro pc o h
  rw [P_207] at h
  unfold ll_OK
  rw [mC_207, mN_207, mR_207, mI_207]
  exact ok_207 L xs _ (ll_lookup h)
theorem pk_208 (L : Nat) (xs : Nat → Int32) : ∀ pc o, ll_P L xs 208 pc = some o → ll_OK ll_mN ll_mC ll_mR ll_mK ll_mI ll_cnt L xs false 208 pc o := by
  intro pc o h
  rw [P_208] at h
  unfold ll_OK
  rw [mC_208, mN_208, mR_208, mI_208]
  exact ok_208 L xs _ (ll_lookup h)
theorem pk_209 (L : Nat) (xs : Nat → Int32) : ∀ pc o, ll_P L xs 209 pc = some o → ll_OK ll_mN ll_mC ll_mR ll_mK ll_mI ll_cnt L xs false 209 pc o := by
  intro pc o h
  rw [P_209] at h
  unfold ll_OK
  rw [mC_209, mN_209, mR_209, mI_209]
  exact ok_209 L xs _ (ll_lookup h)
theorem pk_210 (L : Nat) (xs : Nat → Int32) : ∀ pc o, ll_P L xs 210 pc = some o → ll_OK ll_mN ll_mC ll_mR ll_mK ll_mI ll_cnt L xs false 210 pc o := by
  intro pc o h
  rw [P_210] at h
  unfold ll_OK
  rw [mC_210, mN_210, mR_210, mI_210]
  exact ok_210 L xs _ (ll_lookup h)
theorem pk_211 (L : Nat) (xs : Nat → Int32) : ∀ pc o, ll_P L xs 211 pc = some o → ll_OK ll_mN ll_mC ll_mR ll_mK ll_mI ll_cnt L xs false 211 pc o := by
  intro pc o h
  rw [P_211] at h
  unfold ll_OK
  rw [mC_211, mN_211, mR_211, mI_211]
  exact ok_211 L xs _ (ll_lookup h)
theorem pk_212 (L : Nat) (xs : Nat → Int32) : ∀ pc o, ll_P L xs 212 pc = some o → ll_OK ll_mN ll_mC ll_mR ll_mK ll_mI ll_cnt L xs false 212 pc o := by
  intro pc o h
  rw [P_212] at h
  unfold ll_OK
  rw [mC_212, mN_212, mR_212, mI_212]
  exact ok_212 L xs _ (ll_lookup h)
theorem pk_213 (L : Nat) (xs : Nat → Int32) : ∀ pc o, ll_P L xs 213 pc = some o → ll_OK ll_mN ll_mC ll_mR ll_mK ll_mI ll_cnt L xs false 213 pc o := by
  intro pc o h
  rw [P_213] at h
  unfold ll_OK
  rw [mC_213, mN_213, mR_213, mI_213]
  exact ok_213 L xs _ (ll_lookup h)
theorem pk_214 (L : Nat) (xs : Nat → Int32) : ∀ pc o, ll_P L xs 214 pc = some o → ll_OK ll_mN ll_mC ll_mR ll_mK ll_mI ll_cnt L xs false 214 pc o := by
  intro pc o h
  rw [P_214] at h
  unfold ll_OK
  rw [mC_214, mN_214, mR_214, mI_214]
  exact ok_214 L xs _ (ll_lookup h)
theorem pk_215 (L : Nat) (xs : Nat → Int32) : ∀ pc o, ll_P L xs 215 pc = some o → ll_OK ll_mN ll_mC ll_mR ll_mK ll_mI ll_cnt L xs false 215 pc o := by
  intro pc o h
  rw [P_215] at h
  unfold ll_OK
  rw [mC_215, mN_215, mR_215, mI_215]
  exact ok_215 L xs _ (ll_lookup h)
theorem pk_216 (L : Nat) (xs : Nat → Int32) : ∀ pc o, ll_P L xs 216 pc = some o → ll_OK ll_mN ll_mC ll_mR ll_mK ll_mI ll_cnt L xs false 216 pc o := by
  intro pc o h
  rw [P_216] at h
  unfold ll_OK
  rw [mC_216, mN_216, mR_216, mI_216]
  exact ok_216 L xs _ (ll_lookup h)
theorem pk_217 (L : Nat) (xs : Nat → Int32) : ∀ pc o, ll_P L xs 217 pc = some o → ll_OK ll_mN ll_mC ll_mR ll_mK ll_mI ll_cnt L xs false 217 pc o := by
  intro pc o h
  rw [P_217] at h
  unfold ll_OK
  rw [mC_217, mN_217, mR_217, mI_217]
  exact ok_217 L xs _ (ll_lookup h)
theorem pk_218 (L : Nat) (xs : Nat → Int32) : ∀ pc o, ll_P L xs 218 pc = some o → ll_OK ll_mN ll_mC ll_mR ll_mK ll_mI ll_cnt L xs false 218 pc o := by
  intro pc o h
  rw [P_218] at h
  unfold ll_OK
  rw [mC_218, mN_218, mR_218, mI_218]
  exact ok_218 L xs _ (ll_lookup h)
theorem pk_219 (L : Nat) (xs : Nat → Int32) : ∀ pc o, ll_P L xs 219 pc = some o → ll_OK ll_mN ll_mC ll_mR ll_mK ll_mI ll_cnt L xs false 219 pc o := by
  intro pc o h
  rw [P_219] at h
  unfold ll_OK
  rw [mC_219, mN_219, mR_219, mI_219]
  exact ok_219 L xs _ (ll_lookup h)
theorem pk_220 (L : Nat) (xs : Nat → Int32) : ∀ pc o, ll_P L xs 220 pc = some o → ll_OK ll_mN ll_mC ll_mR ll_mK ll_mI ll_cnt L xs false 220 pc o := by
  intro pc o h
  rw [P_220] at h
  unfold ll_OK
  rw [mC_220, mN_220, mR_220, mI_220]
  exact ok_220 L xs _ (ll_lookup h)
theorem pk_221 (L : Nat) (xs : Nat → Int32) : ∀ pc o, ll_P L xs 221 pc = some o → ll_OK ll_mN ll_mC ll_mR ll_mK ll_mI ll_cnt L xs false 221 pc o := by
  intro pc o h
  rw [P_221] at h
  unfold ll_OK
  rw [mC_221, mN_221, mR_221, mI_221]
  exact ok_221 L xs _ (ll_lookup h)
theorem pk_222 (L : Nat) (xs : Nat → Int32) : ∀ pc o, ll_P L xs 222 pc = some o → ll_OK ll_mN ll_mC ll_mR ll_mK ll_mI ll_cnt L xs false 222 pc o := by
  intro pc o h
  rw [P_222] at h
  unfold ll_OK
  rw [mC_222, mN_222, mR_222, mI_222]
  exact ok_222 L xs _ (ll_lookup h)
theorem pk_223 (L : Nat) (xs : Nat → Int32) : ∀ pc o, ll_P L xs 223 pc = some o → ll_OK ll_mN ll_mC ll_mR ll_mK ll_mI ll_cnt L xs false 223 pc o := by
  intro pc o h
  rw [P_223] at h
  unfold ll_OK
  rw [mC_223, mN_223, mR_223, mI_223]
  exact ok_223 L xs _ (ll_lookup h)
theorem pk_224 (L : Nat) (xs : Nat → Int32) : ∀ pc o, ll_P L xs 224 pc = some o → ll_OK ll_mN ll_mC ll_mR ll_mK ll_mI ll_cnt L xs false 224 pc o := by
  intro pc o h
  rw [P_224] at h
  unfold ll_OK
  rw [mC_224, mN_224, mR_224, mI_224]
  exact ok_224 L xs _ (ll_lookup h)
theorem pk_225 (L : Nat) (xs : Nat → Int32) : ∀ pc o, ll_P L xs 225 pc = some o → ll_OK ll_mN ll_mC ll_mR ll_mK ll_mI ll_cnt L xs false 225 pc o := by
  intro pc o h
  rw [P_225] at h
  unfold ll_OK
  rw [mC_225, mN_225, mR_225, mI_225]
  exact ok_225 L xs _ (ll_lookup h)
theorem pk_226 (L : Nat) (xs : Nat → Int32) : ∀ pc o, ll_P L xs 226 pc = some o → ll_OK ll_mN ll_mC ll_mR ll_mK ll_mI ll_cnt L xs false 226 pc o := by
  intro pc o h
  rw [P_226] at h
  unfold ll_OK
  rw [mC_226, mN_226, mR_226, mI_226]
  exact ok_226 L xs _ (ll_lookup h)
theorem pk_227 (L : Nat) (xs : Nat → Int32) : ∀ pc o, ll_P L xs 227 pc = some o → ll_OK ll_mN ll_mC ll_mR ll_mK ll_mI ll_cnt L xs false 227 pc o := by
  intro pc o h
  rw [P_227] at h
  unfold ll_OK
  rw [mC_227, mN_227, mR_227, mI_227]
  exact ok_227 L xs _ (ll_lookup h)
theorem pk_228 (L : Nat) (xs : Nat → Int32) : ∀ pc o, ll_P L xs 228 pc = some o → ll_OK ll_mN ll_mC ll_mR ll_mK ll_mI ll_cnt L xs false 228 pc o := by
  intro pc o h
  rw [P_228] at h
  unfold ll_OK
  rw [mC_228, mN_228, mR_228, mI_228]
  exact ok_228 L xs _ (ll_lookup h)
theorem pk_229 (L : Nat) (xs : Nat → Int32) : ∀ pc o, ll_P L xs 229 pc = some o → ll_OK ll_mN ll_mC ll_mR ll_mK ll_mI ll_cnt L xs false 229 pc o := by
  intro pc o h
  rw [P_229] at h
  unfold ll_OK
  rw [mC_229, mN_229, mR_229, mI_229]
  exact ok_229 L xs _ (ll_lookup h)
theorem pk_230 (L : Nat) (xs : Nat → Int32) : ∀ pc o, ll_P L xs 230 pc = some o → ll_OK ll_mN ll_mC ll_mR ll_mK ll_mI ll_cnt L xs false 230 pc o := by
  intro pc o h
  rw [P_230] at h
  unfold ll_OK
  rw [mC_230, mN_230, mR_230, mI_230]
  exact ok_230 L xs _ (ll_lookup h)
theorem pk_231 (L : Nat) (xs : Nat → Int32) : ∀ pc o, ll_P L xs 231 pc = some o → ll_OK ll_mN ll_mC ll_mR ll_mK ll_mI ll_cnt L xs false 231 pc o := by
  intro pc o h
  rw [P_231] at h
  unfold ll_OK
  rw [mC_231, mN_231, mR_231, mI_231]
  exact ok_231 L xs _ (ll_lookup h)
theorem pk_232 (L : Nat) (xs : Nat → Int32) : ∀ pc o, ll_P L xs 232 pc = some o → ll_OK ll_mN ll_mC ll_mR ll_mK ll_mI ll_cnt L xs true 232 pc o := by
  intro pc o h
  rw [P_232] at h
  unfold ll_OK
  rw [mC_232, mN_232, mR_232, mI_232]
  exact ok_232 L xs _ (ll_lookup h)
set_option maxRecDepth 100000 in
theorem ll_HM : ∀ y, y < ll_cnt → ll_M ll_mN ll_mC ll_mL ll_mR ll_mI y := by
  intro y hy
  have h : ∀ y ∈ List.range ll_cnt, ll_M ll_mN ll_mC ll_mL ll_mR ll_mI y := by
    rw [show List.range ll_cnt = [0, 1, 2, 3, 4, 5, 6, 7, 8, 9, 10, 11, 12, 13, 14, 15, 16, 17, 18, 19, 20, 21, 22, 23, 24, 25, 26, 27, 28, 29, 30, 31, 32, 33, 34, 35, 36, 37, 38, 39, 40, 41, 42, 43, 44, 45, 46, 47, 48, 49, 50, 51, 52, 53, 54, 55, 56, 57, 58, 59, 60, 61, 62, 63, 64, 65, 66, 67, 68, 69, 70, 71, 72, 73, 74, 75, 76, 77, 78, 79, 80, 81, 82, 83, 84, 85, 86, 87, 88, 89, 90, 91, 92, 93, 94, 95, 96, 97, 98, 99, 100, 101, 102, 103, 104, 105, 106, 107, 108, 109, 110, 111, 112, 113, 114, 115, 116, 117, 118, 119, 120, 121, 122, 123, 124, 125, 126, 127, 128, 129, 130, 131, 132, 133, 134, 135, 136, 137, 138, 139, 140, 141, 142, 143, 144, 145, 146, 147, 148, 149, 150, 151, 152, 153, 154, 155, 156, 157, 158, 159, 160, 161, 162, 163, 164, 165, 166, 167, 168, 169, 170, 171, 172, 173, 174, 175, 176, 177, 178, 179, 180, 181, 182, 183, 184, 185, 186, 187, 188, 189, 190, 191, 192, 193, 194, 195, 196, 197, 198, 199, 200, 201, 202, 203, 204, 205, 206, 207, 208, 209, 210, 211, 212, 213, 214, 215, 216, 217, 218, 219, 220, 221, 222, 223, 224, 225, 226, 227, 228, 229, 230, 231] from by decide +kernel]
    exact List.forall_mem_cons.mpr ⟨lm_0, List.forall_mem_cons.mpr ⟨lm_1, List.forall_mem_cons.mpr ⟨lm_2, List.forall_mem_cons.mpr ⟨lm_3, List.forall_mem_cons.mpr ⟨lm_4, List.forall_mem_cons.mpr ⟨lm_5, List.forall_mem_cons.mpr ⟨lm_6, List.forall_mem_cons.mpr ⟨lm_7, List.forall_mem_cons.mpr ⟨lm_8, List.forall_mem_cons.mpr ⟨lm_9, List.forall_mem_cons.mpr ⟨lm_10, List.forall_mem_cons.mpr ⟨lm_11, List.forall_mem_cons.mpr ⟨lm_12, List.forall_mem_cons.mpr ⟨lm_13, List.forall_mem_cons.mpr ⟨lm_14, List.forall_mem_cons.mpr ⟨lm_15, List.forall_mem_cons.mpr ⟨lm_16, List.forall_mem_cons.mpr ⟨lm_17, List.forall_mem_cons.mpr ⟨lm_18, List.forall_mem_cons.mpr ⟨lm_19, List.forall_mem_cons.mpr ⟨lm_20, List.forall_mem_cons.mpr ⟨lm_21, List.forall_mem_cons.mpr ⟨lm_22, List.forall_mem_cons.mpr ⟨lm_23, List.forall_mem_cons.mpr ⟨lm_24, List.forall_mem_cons.mpr ⟨lm_25, List.forall_mem_cons.mpr ⟨lm_26, List.forall_mem_cons.mpr ⟨lm_27, List.forall_mem_cons.mpr ⟨lm_28, List.forall_mem_cons.mpr ⟨lm_29, List.forall_mem_cons.mpr ⟨lm_30, List.forall_mem_cons.mpr ⟨lm_31, List.forall_mem_cons.mpr ⟨lm_32, List.forall_mem_cons.mpr ⟨lm_33, List.forall_mem_cons.mpr ⟨lm_34, List.forall_mem_cons.mpr ⟨lm_35, List.forall_mem_cons.mpr ⟨lm_36, List.forall_mem_cons.mpr ⟨lm_37, List.forall_mem_cons.mpr ⟨lm_38, List.forall_mem_cons.mpr ⟨lm_39, List.forall_mem_cons.mpr ⟨lm_40, List.forall_mem_cons.mpr ⟨lm_41, List.forall_mem_cons.mpr ⟨lm_42, List.forall_mem_cons.mpr ⟨lm_43, List.forall_mem_cons.mpr ⟨lm_44, List.forall_mem_cons.mpr ⟨lm_45, List.forall_mem_cons.mpr ⟨lm_46, List.forall_mem_cons.mpr ⟨lm_47, List.forall_mem_cons.mpr ⟨lm_48, List.forall_mem_cons.mpr ⟨lm_49, List.forall_mem_cons.mpr ⟨lm_50, List.forall_mem_cons.mpr ⟨lm_51, List.forall_mem_cons.mpr ⟨lm_52, List.forall_mem_cons.mpr ⟨lm_53, List.forall_mem_cons.mpr ⟨lm_54, List.forall_mem_cons.mpr ⟨lm_55, List.forall_mem_cons.mpr ⟨lm_56, List.forall_mem_cons.mpr ⟨lm_57, List.forall_mem_cons.mpr ⟨lm_58, List.forall_mem_cons.mpr ⟨lm_59, List.forall_mem_cons.mpr ⟨lm_60, List.forall_mem_cons.mpr ⟨lm_61, List.forall_mem_cons.mpr ⟨lm_62, List.forall_mem_cons.mpr ⟨lm_63, List.forall_mem_cons.mpr ⟨lm_64, List.forall_mem_cons.mpr ⟨lm_65, List.forall_mem_cons.mpr ⟨lm_66, List.forall_mem_cons.mpr ⟨lm_67, List.forall_mem_cons.mpr ⟨lm_68, List.forall_mem_cons.mpr ⟨lm_69, List.forall_mem_cons.mpr ⟨lm_70, List.forall_mem_cons.mpr ⟨lm_71, List.forall_mem_cons.mpr ⟨lm_72, List.forall_mem_cons.mpr ⟨lm_73, List.forall_mem_cons.mpr ⟨lm_74, List.forall_mem_cons.mpr ⟨lm_75, List.forall_mem_cons.mpr ⟨lm_76, List.forall_mem_cons.mpr ⟨lm_77, List.forall_mem_cons.mpr ⟨lm_78, List.forall_mem_cons.mpr ⟨lm_79, List.forall_mem_cons.mpr ⟨lm_80, List.forall_mem_cons.mpr ⟨lm_81, List.forall_mem_cons.mpr ⟨lm_82, List.forall_mem_cons.mpr ⟨lm_83, List.forall_mem_cons.mpr ⟨lm_84, List.forall_mem_cons.mpr ⟨lm_85, List.forall_mem_cons.mpr ⟨lm_86, List.forall_mem_cons.mpr ⟨lm_87, List.forall_mem_cons.mpr ⟨lm_88, List.forall_mem_cons.mpr ⟨lm_89, List.forall_mem_cons.mpr ⟨lm_90, List.forall_mem_cons.mpr ⟨lm_91, List.forall_mem_cons.mpr ⟨lm_92, List.forall_mem_cons.mpr ⟨lm_93, List.forall_mem_cons.mpr ⟨lm_94, List.forall_mem_cons.mpr ⟨lm_95, List.forall_mem_cons.mpr ⟨lm_96, List.forall_mem_cons.mpr ⟨lm_97, List.forall_mem_cons.mpr ⟨lm_98, List.forall_mem_cons.mpr ⟨lm_99, List.forall_mem_cons.mpr ⟨lm_100, List.forall_mem_cons.mpr ⟨lm_101, List.forall_mem_cons.mpr ⟨lm_102, List.forall_mem_cons.mpr ⟨lm_103, List.forall_mem_cons.mpr ⟨lm_104, List.forall_mem_cons.mpr ⟨lm_105, List.forall_mem_cons.mpr ⟨lm_106, List.forall_mem_cons.mpr ⟨lm_107, List.forall_mem_cons.mpr ⟨lm_108, List.forall_mem_cons.mpr ⟨lm_109, List.forall_mem_cons.mpr ⟨lm_110, List.forall_mem_cons.mpr ⟨lm_111, List.forall_mem_cons.mpr ⟨lm_112, List.forall_mem_cons.mpr ⟨lm_113, List.forall_mem_cons.mpr ⟨lm_114, List.forall_mem_cons.mpr ⟨lm_115, List.forall_mem_cons.mpr ⟨lm_116, List.forall_mem_cons.mpr ⟨lm_117, List.forall_mem_cons.mpr ⟨lm_118, List.forall_mem_cons.mpr ⟨lm_119, List.forall_mem_cons.mpr ⟨lm_120, List.forall_mem_cons.mpr ⟨lm_121, List.forall_mem_cons.mpr ⟨lm_122, List.forall_mem_cons.mpr ⟨lm_123, List.forall_mem_cons.mpr ⟨lm_124, List.forall_mem_cons.mpr ⟨lm_125, List.forall_mem_cons.mpr ⟨lm_126, List.forall_mem_cons.mpr ⟨lm_127, List.forall_mem_cons.mpr ⟨lm_128, List.forall_mem_cons.mpr ⟨lm_129, List.forall_mem_cons.mpr ⟨lm_130, List.forall_mem_cons.mpr ⟨lm_131, List.forall_mem_cons.mpr ⟨lm_132, List.forall_mem_cons.mpr ⟨lm_133, List.forall_mem_cons.mpr ⟨lm_134, List.forall_mem_cons.mpr ⟨lm_135, List.forall_mem_cons.mpr ⟨lm_136, List.forall_mem_cons.mpr ⟨lm_137, List.forall_mem_cons.mpr ⟨lm_138, List.forall_mem_cons.mpr ⟨lm_139, List.forall_mem_cons.mpr ⟨lm_140, List.forall_mem_cons.mpr ⟨lm_141, List.forall_mem_cons.mpr ⟨lm_142, List.forall_mem_cons.mpr ⟨lm_143, List.forall_mem_cons.mpr ⟨lm_144, List.forall_mem_cons.mpr ⟨lm_145, List.forall_mem_cons.mpr ⟨lm_146, List.forall_mem_cons.mpr ⟨lm_147, List.forall_mem_cons.mpr ⟨lm_148, List.forall_mem_cons.mpr ⟨lm_149, List.forall_mem_cons.mpr ⟨lm_150, List.forall_mem_cons.mpr ⟨lm_151, List.forall_mem_cons.mpr ⟨lm_152, List.forall_mem_cons.mpr ⟨lm_153, List.forall_mem_cons.mpr ⟨lm_154, List.forall_mem_cons.mpr ⟨lm_155, List.forall_mem_cons.mpr ⟨lm_156, List.forall_mem_cons.mpr ⟨lm_157, List.forall_mem_cons.mpr ⟨lm_158, List.forall_mem_cons.mpr ⟨lm_159, List.forall_mem_cons.mpr ⟨lm_160, List.forall_mem_cons.mpr ⟨lm_161, List.forall_mem_cons.mpr ⟨lm_162, List.forall_mem_cons.mpr ⟨lm_163, List.forall_mem_cons.mpr ⟨lm_164, List.forall_mem_cons.mpr ⟨lm_165, List.forall_mem_cons.mpr ⟨lm_166, List.forall_mem_cons.mpr ⟨lm_167, List.forall_mem_cons.mpr ⟨lm_168, List.forall_mem_cons.mpr ⟨lm_169, List.forall_mem_cons.mpr ⟨lm_170, List.forall_mem_cons.mpr ⟨lm_171, List.forall_mem_cons.mpr ⟨lm_172, List.forall_mem_cons.mpr ⟨lm_173, List.forall_mem_cons.mpr ⟨lm_174, List.forall_mem_cons.mpr ⟨lm_175, List.forall_mem_cons.mpr ⟨lm_176, List.forall_mem_cons.mpr ⟨lm_177, List.forall_mem_cons.mpr ⟨lm_178, List.forall_mem_cons.mpr ⟨lm_179, List.forall_mem_cons.mpr ⟨lm_180, List.forall_mem_cons.mpr ⟨lm_181, List.forall_mem_cons.mpr ⟨lm_182, List.forall_mem_cons.mpr ⟨lm_183, List.forall_mem_cons.mpr ⟨lm_184, List.forall_mem_cons.mpr ⟨lm_185, List.forall_mem_cons.mpr ⟨lm_186, List.forall_mem_cons.mpr ⟨lm_187, List.forall_mem_cons.mpr ⟨lm_188, List.forall_mem_cons.mpr ⟨lm_189, List.forall_mem_cons.mpr ⟨lm_190, List.forall_mem_cons.mpr ⟨lm_191, List.forall_mem_cons.mpr ⟨lm_192, List.forall_mem_cons.mpr ⟨lm_193, List.forall_mem_cons.mpr ⟨lm_194, List.forall_mem_cons.mpr ⟨lm_195, List.forall_mem_cons.mpr ⟨lm_196, List.forall_mem_cons.mpr ⟨lm_197, List.forall_mem_cons.mpr ⟨lm_198, List.forall_mem_cons.mpr ⟨lm_199, List.forall_mem_cons.mpr ⟨lm_200, List.forall_mem_cons.mpr ⟨lm_201, List.forall_mem_cons.mpr ⟨lm_202, List.forall_mem_cons.mpr ⟨lm_203, List.forall_mem_cons.mpr ⟨lm_204, List.forall_mem_cons.mpr ⟨lm_205, List.forall_mem_cons.mpr ⟨lm_206, List.forall_mem_cons.mpr ⟨lm_207, List.forall_mem_cons.mpr ⟨lm_208, List.forall_mem_cons.mpr ⟨lm_209, List.forall_mem_cons.mpr ⟨lm_210, List.forall_mem_cons.mpr ⟨lm_211, List.forall_mem_cons.mpr ⟨lm_212, List.forall_mem_cons.mpr ⟨lm_213, List.forall_mem_cons.mpr ⟨lm_214, List.forall_mem_cons.mpr ⟨lm_215, List.forall_mem_cons.mpr ⟨lm_216, List.forall_mem_cons.mpr ⟨lm_217, List.forall_mem_cons.mpr ⟨lm_218, List.forall_mem_cons.mpr ⟨lm_219, List.forall_mem_cons.mpr ⟨lm_220, List.forall_mem_cons.mpr ⟨lm_221, List.forall_mem_cons.mpr ⟨lm_222, List.forall_mem_cons.mpr ⟨lm_223, List.forall_mem_cons.mpr ⟨lm_224, List.forall_mem_cons.mpr ⟨lm_225, List.forall_mem_cons.mpr ⟨lm_226, List.forall_mem_cons.mpr ⟨lm_227, List.forall_mem_cons.mpr ⟨lm_228, List.forall_mem_cons.mpr ⟨lm_229, List.forall_mem_cons.mpr ⟨lm_230, List.forall_mem_cons.mpr ⟨lm_231, fun _ h => absurd h List.not_mem_nil⟩⟩⟩⟩⟩⟩⟩⟩⟩⟩⟩⟩⟩⟩⟩⟩⟩⟩⟩⟩⟩⟩⟩⟩⟩⟩⟩⟩⟩⟩⟩⟩⟩⟩⟩⟩⟩⟩⟩⟩⟩⟩⟩⟩⟩⟩⟩⟩⟩⟩⟩⟩⟩⟩⟩⟩⟩⟩⟩⟩⟩⟩⟩⟩⟩⟩⟩⟩⟩⟩⟩⟩⟩⟩⟩⟩⟩⟩⟩⟩⟩⟩⟩⟩⟩⟩⟩⟩⟩⟩⟩⟩⟩⟩⟩⟩⟩⟩⟩⟩⟩⟩⟩⟩⟩⟩⟩⟩⟩⟩⟩⟩⟩⟩⟩⟩⟩⟩⟩⟩⟩⟩⟩⟩⟩⟩⟩⟩⟩⟩⟩⟩⟩⟩⟩⟩⟩⟩⟩⟩⟩⟩⟩⟩⟩⟩⟩⟩⟩⟩⟩⟩⟩⟩⟩⟩⟩⟩⟩⟩⟩⟩⟩⟩⟩⟩⟩⟩⟩⟩⟩⟩⟩⟩⟩⟩⟩⟩⟩⟩⟩⟩⟩⟩⟩⟩⟩⟩⟩⟩⟩⟩⟩⟩⟩⟩⟩⟩⟩⟩⟩⟩⟩⟩⟩⟩⟩⟩⟩⟩⟩⟩⟩⟩⟩⟩⟩⟩⟩⟩⟩⟩⟩⟩⟩⟩⟩⟩⟩⟩⟩⟩
  exact h y (List.mem_range.mpr hy)
set_option maxRecDepth 100000 in
theorem ll_HP (L : Nat) (xs : Nat → Int32) : ∀ y, y < ll_cnt → ∀ pc o, ll_P L xs y pc = some o → ll_OK ll_mN ll_mC ll_mR ll_mK ll_mI ll_cnt L xs false y pc o := by
  intro y hy
  have h : ∀ y ∈ List.range ll_cnt, ∀ pc o, ll_P L xs y pc = some o → ll_OK ll_mN ll_mC ll_mR ll_mK ll_mI ll_cnt L xs false y pc o := by
    rw [show List.range ll_cnt = [0, 1, 2, 3, 4, 5, 6, 7, 8, 9, 10, 11, 12, 13, 14, 15, 16, 17, 18, 19, 20, 21, 22, 23, 24, 25, 26, 27, 28, 29, 30, 31, 32, 33, 34, 35, 36, 37, 38, 39, 40, 41, 42, 43, 44, 45, 46, 47, 48, 49, 50, 51, 52, 53, 54, 55, 56, 57, 58, 59, 60, 61, 62, 63, 64, 65, 66, 67, 68, 69, 70, 71, 72, 73, 74, 75, 76, 77, 78, 79, 80, 81, 82, 83, 84, 85, 86, 87, 88, 89, 90, 91, 92, 93, 94, 95, 96, 97, 98, 99, 100, 101, 102, 103, 104, 105, 106, 107, 108, 109, 110, 111, 112, 113, 114, 115, 116, 117, 118, 119, 120, 121, 122, 123, 124, 125, 126, 127, 128, 129, 130, 131, 132, 133, 134, 135, 136, 137, 138, 139, 140, 141, 142, 143, 144, 145, 146, 147, 148, 149, 150, 151, 152, 153, 154, 155, 156, 157, 158, 159, 160, 161, 162, 163, 164, 165, 166, 167, 168, 169, 170, 171, 172, 173, 174, 175, 176, 177, 178, 179, 180, 181, 182, 183, 184, 185, 186, 187, 188, 189, 190, 191, 192, 193, 194, 195, 196, 197, 198, 199, 200, 201, 202, 203, 204, 205, 206, 207, 208, 209, 210, 211, 212, 213, 214, 215, 216, 217, 218, 219, 220, 221, 222, 223, 224, 225, 226, 227, 228, 229, 230, 231] from by decide +kernel]
    exact List.forall_mem_cons.mpr ⟨pk_0 L xs, List.forall_mem_cons.mpr ⟨pk_1 L xs, List.forall_mem_cons.mpr ⟨pk_2 L xs, List.forall_mem_cons.mpr ⟨pk_3 L xs, List.forall_mem_cons.mpr ⟨pk_4 L xs, List.forall_mem_cons.mpr ⟨pk_5 L xs, List.forall_mem_cons.mpr ⟨pk_6 L xs, List.forall_mem_cons.mpr ⟨pk_7 L xs, List.forall_mem_cons.mpr ⟨pk_8 L xs, List.forall_mem_cons.mpr ⟨pk_9 L xs, List.forall_mem_cons.mpr ⟨pk_10 L xs, List.forall_mem_cons.mpr ⟨pk_11 L xs, List.forall_mem_cons.mpr ⟨pk_12 L xs, List.forall_mem_cons.mpr ⟨pk_13 L xs, List.forall_mem_cons.mpr ⟨pk_14 L xs, List.forall_mem_cons.mpr ⟨pk_15 L xs, List.forall_mem_cons.mpr ⟨pk_16 L xs, List.forall_mem_cons.mpr ⟨pk_17 L xs, List.forall_mem_cons.mpr ⟨pk_18 L xs, List.forall_mem_cons.mpr ⟨pk_19 L xs, List.forall_mem_cons.mpr ⟨pk_20 L xs, List.forall_mem_cons.mpr ⟨pk_21 L xs, List.forall_mem_cons.mpr ⟨pk_22 L xs, List.forall_mem_cons.mpr ⟨pk_23 L xs, List.forall_mem_cons.mpr ⟨pk_24 L xs, List.forall_mem_cons.mpr ⟨pk_25 L xs, List.forall_mem_cons.mpr ⟨pk_26 L xs, List.forall_mem_cons.mpr ⟨pk_27 L xs, List.forall_mem_cons.mpr ⟨pk_28 L xs, List.forall_mem_cons.mpr ⟨pk_29 L xs, List.forall_mem_cons.mpr ⟨pk_30 L xs, List.forall_mem_cons.mpr ⟨pk_31 L xs, List.forall_mem_cons.mpr ⟨pk_32 L xs, List.forall_mem_cons.mpr ⟨pk_33 L xs, List.forall_mem_cons.mpr ⟨pk_34 L xs, List.forall_mem_cons.mpr ⟨pk_35 L xs, List.forall_mem_cons.mpr ⟨pk_36 L xs, List.forall_mem_cons.mpr ⟨pk_37 L xs, List.forall_mem_cons.mpr ⟨pk_38 L xs, List.forall_mem_cons.mpr ⟨pk_39 L xs, List.forall_mem_cons.mpr ⟨pk_40 L xs, List.forall_mem_cons.mpr ⟨pk_41 L xs, List.forall_mem_cons.mpr ⟨pk_42 L xs, List.forall_mem_cons.mpr ⟨pk_43 L xs, List.forall_mem_cons.mpr ⟨pk_44 L xs, List.forall_mem_cons.mpr ⟨pk_45 L xs, List.forall_mem_cons.mpr ⟨pk_46 L xs, List.forall_mem_cons.mpr ⟨pk_47 L xs, List.forall_mem_cons.mpr ⟨pk_48 L xs, List.forall_mem_cons.mpr ⟨pk_49 L xs, List.forall_mem_cons.mpr ⟨pk_50 L xs, List.forall_mem_cons.mpr ⟨pk_51 L xs, List.forall_mem_cons.mpr ⟨pk_52 L xs, List.forall_mem_cons.mpr ⟨pk_53 L xs, List.forall_mem_cons.mpr ⟨pk_54 L xs, List.forall_mem_cons.mpr ⟨pk_55 L xs, List.forall_mem_cons.mpr ⟨pk_56 L xs, List.forall_mem_cons.mpr ⟨pk_57 L xs, List.forall_mem_cons.mpr ⟨pk_58 L xs, List.forall_mem_cons.mpr ⟨pk_59 L xs, List.forall_mem_cons.mpr ⟨pk_60 L xs, List.forall_mem_cons.mpr ⟨pk_61 L xs, List.forall_mem_cons.mpr ⟨pk_62 L xs, List.forall_mem_cons.mpr ⟨pk_63 L xs, List.forall_mem_cons.mpr ⟨pk_64 L xs, List.forall_mem_cons.mpr ⟨pk_65 L xs, List.forall_mem_cons.mpr ⟨pk_66 L xs, List.forall_mem_cons.mpr ⟨pk_67 L xs, List.forall_mem_cons.mpr ⟨pk_68 L xs, List.forall_mem_cons.mpr ⟨pk_69 L xs, List.forall_mem_cons.mpr ⟨pk_70 L xs, List.forall_mem_cons.mpr ⟨pk_71 L xs, List.forall_mem_cons.mpr ⟨pk_72 L xs, List.forall_mem_cons.mpr ⟨pk_73 L xs, List.forall_mem_cons.mpr ⟨pk_74 L xs, List.forall_mem_cons.mpr ⟨pk_75 L xs, List.forall_mem_cons.mpr ⟨pk_76 L xs, List.forall_mem_cons.mpr ⟨pk_77 L xs, List.forall_mem_cons.mpr ⟨pk_78 L xs, List.forall_mem_cons.mpr ⟨pk_79 L xs, List.forall_mem_cons.mpr ⟨pk_80 L xs, List.forall_mem_cons.mpr ⟨pk_81 L xs, List.forall_mem_cons.mpr ⟨pk_82 L xs, List.forall_mem_cons.mpr ⟨pk_83 L xs, List.forall_mem_cons.mpr ⟨pk_84 L xs, List.forall_mem_cons.mpr ⟨pk_85 L xs, List.forall_mem_cons.mpr ⟨pk_86 L xs, List.forall_mem_cons.mpr ⟨pk_87 L xs, List.forall_mem_cons.mpr ⟨pk_88 L xs, List.forall_mem_cons.mpr ⟨pk_89 L xs, List.forall_mem_cons.mpr ⟨pk_90 L xs, List.forall_mem_cons.mpr ⟨pk_91 L xs, List.forall_mem_cons.mpr ⟨pk_92 L xs, List.forall_mem_cons.mpr ⟨pk_93 L xs, List.forall_mem_cons.mpr ⟨pk_94 L xs, List.forall_mem_cons.mpr ⟨pk_95 L xs, List.forall_mem_cons.mpr ⟨pk_96 L xs, List.forall_mem_cons.mpr ⟨pk_97 L xs, List.forall_mem_cons.mpr ⟨pk_98 L xs, List.forall_mem_cons.mpr ⟨pk_99 L xs, List.forall_mem_cons.mpr ⟨pk_100 L xs, List.forall_mem_cons.mpr ⟨pk_101 L xs, List.forall_mem_cons.mpr ⟨pk_102 L xs, List.forall_mem_cons.mpr ⟨pk_103 L xs, List.forall_mem_cons.mpr ⟨pk_104 L xs, List.forall_mem_cons.mpr ⟨pk_105 L xs, List.forall_mem_cons.mpr ⟨pk_106 L xs, List.forall_mem_cons.mpr ⟨pk_107 L xs, List.forall_mem_cons.mpr ⟨pk_108 L xs, List.forall_mem_cons.mpr ⟨pk_109 L xs, List.forall_mem_cons.mpr ⟨pk_110 L xs, List.forall_mem_cons.mpr ⟨pk_111 L xs, List.forall_mem_cons.mpr ⟨pk_112 L xs, List.forall_mem_cons.mpr ⟨pk_113 L xs, List.forall_mem_cons.mpr ⟨pk_114 L xs, List.forall_mem_cons.mpr ⟨pk_115 L xs, List.forall_mem_cons.mpr ⟨pk_116 L xs, List.forall_mem_cons.mpr ⟨pk_117 L xs, List.forall_mem_cons.mpr ⟨pk_118 L xs, List.forall_mem_cons.mpr ⟨pk_119 L xs, List.forall_mem_cons.mpr ⟨pk_120 L xs, List.forall_mem_cons.mpr ⟨pk_121 L xs, List.forall_mem_cons.mpr ⟨pk_122 L xs, List.forall_mem_cons.mpr ⟨pk_123 L xs, List.forall_mem_cons.mpr ⟨pk_124 L xs, List.forall_mem_cons.mpr ⟨pk_125 L xs, List.forall_mem_cons.mpr ⟨pk_126 L xs, List.forall_mem_cons.mpr ⟨pk_127 L xs, List.forall_mem_cons.mpr ⟨pk_128 L xs, List.forall_mem_cons.mpr ⟨pk_129 L xs, List.forall_mem_cons.mpr ⟨pk_130 L xs, List.forall_mem_cons.mpr ⟨pk_131 L xs, List.forall_mem_cons.mpr ⟨pk_132 L xs, List.forall_mem_cons.mpr ⟨pk_133 L xs, List.forall_mem_cons.mpr ⟨pk_134 L xs, List.forall_mem_cons.mpr ⟨pk_135 L xs, List.forall_mem_cons.mpr ⟨pk_136 L xs, List.forall_mem_cons.mpr ⟨pk_137 L xs, List.forall_mem_cons.mpr ⟨pk_138 L xs, List.forall_mem_cons.mpr ⟨pk_139 L xs, List.forall_mem_cons.mpr ⟨pk_140 L xs, List.forall_mem_cons.mpr ⟨pk_141 L xs, List.forall_mem_cons.mpr ⟨pk_142 L xs, List.forall_mem_cons.mpr ⟨pk_143 L xs, List.forall_mem_cons.mpr ⟨pk_144 L xs, List.forall_mem_cons.mpr ⟨pk_145 L xs, List.forall_mem_cons.mpr ⟨pk_146 L xs, List.forall_mem_cons.mpr ⟨pk_147 L xs, List.forall_mem_cons.mpr ⟨pk_148 L xs, List.forall_mem_cons.mpr ⟨pk_149 L xs, List.forall_mem_cons.mpr ⟨pk_150 L xs, List.forall_mem_cons.mpr ⟨pk_151 L xs, List.forall_mem_cons.mpr ⟨pk_152 L xs, List.forall_mem_cons.mpr ⟨pk_153 L xs, List.forall_mem_cons.mpr ⟨pk_154 L xs, List.forall_mem_cons.mpr ⟨pk_155 L xs, List.forall_mem_cons.mpr ⟨pk_156 L xs, List.forall_mem_cons.mpr ⟨pk_157 L xs, List.forall_mem_cons.mpr ⟨pk_158 L xs, List.forall_mem_cons.mpr ⟨pk_159 L xs, List.forall_mem_cons.mpr ⟨pk_160 L xs, List.forall_mem_cons.mpr ⟨pk_161 L xs, List.forall_mem_cons.mpr ⟨pk_162 L xs, List.forall_mem_cons.mpr ⟨pk_163 L xs, List.forall_mem_cons.mpr ⟨pk_164 L xs, List.forall_mem_cons.mpr ⟨pk_165 L xs, List.forall_mem_cons.mpr ⟨pk_166 L xs, List.forall_mem_cons.mpr ⟨pk_167 L xs, List.forall_mem_cons.mpr ⟨pk_168 L xs, List.forall_mem_cons.mpr ⟨pk_169 L xs, List.forall_mem_cons.mpr ⟨pk_170 L xs, List.forall_mem_cons.mpr ⟨pk_171 L xs, List.forall_mem_cons.mpr ⟨pk_172 L xs, List.forall_mem_cons.mpr ⟨pk_173 L xs, List.forall_mem_cons.mpr ⟨pk_174 L xs, List.forall_mem_cons.mpr ⟨pk_175 L xs, List.forall_mem_cons.mpr ⟨pk_176 L xs, List.forall_mem_cons.mpr ⟨pk_177 L xs, List.forall_mem_cons.mpr ⟨pk_178 L xs, List.forall_mem_cons.mpr ⟨pk_179 L xs, List.forall_mem_cons.mpr ⟨pk_180 L xs, List.forall_mem_cons.mpr ⟨pk_181 L xs, List.forall_mem_cons.mpr ⟨pk_182 L xs, List.forall_mem_cons.mpr ⟨pk_183 L xs, List.forall_mem_cons.mpr ⟨pk_184 L xs, List.forall_mem_cons.mpr ⟨pk_185 L xs, List.forall_mem_cons.mpr ⟨pk_186 L xs, List.forall_mem_cons.mpr ⟨pk_187 L xs, List.forall_mem_cons.mpr ⟨pk_188 L xs, List.forall_mem_cons.mpr ⟨pk_189 L xs, List.forall_mem_cons.mpr ⟨pk_190 L xs, List.forall_mem_cons.mpr ⟨pk_191 L xs, List.forall_mem_cons.mpr ⟨pk_192 L xs, List.forall_mem_cons.mpr ⟨pk_193 L xs, List.forall_mem_cons.mpr ⟨pk_194 L xs, List.forall_mem_cons.mpr ⟨pk_195 L xs, List.forall_mem_cons.mpr ⟨pk_196 L xs, List.forall_mem_cons.mpr ⟨pk_197 L xs, List.forall_mem_cons.mpr ⟨pk_198 L xs, List.forall_mem_cons.mpr ⟨pk_199 L xs, List.forall_mem_cons.mpr ⟨pk_200 L xs, List.forall_mem_cons.mpr ⟨pk_201 L xs, List.forall_mem_cons.mpr ⟨pk_202 L xs, List.forall_mem_cons.mpr ⟨pk_203 L xs, List.forall_mem_cons.mpr ⟨pk_204 L xs, List.forall_mem_cons.mpr ⟨pk_205 L xs, List.forall_mem_cons.mpr ⟨pk_206 L xs, List.forall_mem_cons.mpr ⟨pk_207 L xs, List.forall_mem_cons.mpr ⟨pk_208 L xs, List.forall_mem_cons.mpr ⟨pk_209 L xs, List.forall_mem_cons.mpr ⟨pk_210 L xs, List.forall_mem_cons.mpr ⟨pk_211 L xs, List.forall_mem_cons.mpr ⟨pk_212 L xs, List.forall_mem_cons.mpr ⟨pk_213 L xs, List.forall_mem_cons.mpr ⟨pk_214 L xs, List.forall_mem_cons.mpr ⟨pk_215 L xs, List.forall_mem_cons.mpr ⟨pk_216 L xs, List.forall_mem_cons.mpr ⟨pk_217 L xs, List.forall_mem_cons.mpr ⟨pk_218 L xs, List.forall_mem_cons.mpr ⟨pk_219 L xs, List.forall_mem_cons.mpr ⟨pk_220 L xs, List.forall_mem_cons.mpr ⟨pk_221 L xs, List.forall_mem_cons.mpr ⟨pk_222 L xs, List.forall_mem_cons.mpr ⟨pk_223 L xs, List.forall_mem_cons.mpr ⟨pk_224 L xs, List.forall_mem_cons.mpr ⟨pk_225 L xs, List.forall_mem_cons.mpr ⟨pk_226 L xs, List.forall_mem_cons.mpr ⟨pk_227 L xs, List.forall_mem_cons.mpr ⟨pk_228 L xs, List.forall_mem_cons.mpr ⟨pk_229 L xs, List.forall_mem_cons.mpr ⟨pk_230 L xs, List.forall_mem_cons.mpr ⟨pk_231 L xs, fun _ h => absurd h List.not_mem_nil⟩⟩⟩⟩⟩⟩⟩⟩⟩⟩⟩⟩⟩⟩⟩⟩⟩⟩⟩⟩⟩⟩⟩⟩⟩⟩⟩⟩⟩⟩⟩⟩⟩⟩⟩⟩⟩⟩⟩⟩⟩⟩⟩⟩⟩⟩⟩⟩⟩⟩⟩⟩⟩⟩⟩⟩⟩⟩⟩⟩⟩⟩⟩⟩⟩⟩⟩⟩⟩⟩⟩⟩⟩⟩⟩⟩⟩⟩⟩⟩⟩⟩⟩⟩⟩⟩⟩⟩⟩⟩⟩⟩⟩⟩⟩⟩⟩⟩⟩⟩⟩⟩⟩⟩⟩⟩⟩⟩⟩⟩⟩⟩⟩⟩⟩⟩⟩⟩⟩⟩⟩⟩⟩⟩⟩⟩⟩⟩⟩⟩⟩⟩⟩⟩⟩⟩⟩⟩⟩⟩⟩⟩⟩⟩⟩⟩⟩⟩⟩⟩⟩⟩⟩⟩⟩⟩⟩⟩⟩⟩⟩⟩⟩⟩⟩⟩⟩⟩⟩⟩⟩⟩⟩⟩⟩⟩⟩⟩⟩⟩⟩⟩⟩⟩⟩⟩⟩⟩⟩⟩⟩⟩⟩⟩⟩⟩⟩⟩⟩⟩⟩⟩⟩⟩⟩⟩⟩⟩⟩⟩⟩⟩⟩⟩⟩⟩⟩⟩⟩⟩⟩⟩⟩⟩⟩⟩⟩⟩⟩⟩⟩⟩
  exact h y (List.mem_range.mpr hy)
