theorem okBs_0 : (List.range 12).all (fun i => okB (0 + i) && okM (0 + i)) = true := by decide +kernel
theorem okBs_12 : (List.range 12).all (fun i => okB (12 + i) && okM (12 + i)) = true := by decide +kernel
theorem okBs_24 : (List.range 12).all (fun i => okB (24 + i) && okM (24 + i)) = true := by decide +kernel
theorem okBs_36 : (List.range 12).all (fun i => okB (36 + i) && okM (36 + i)) = true := by decide +kernel
theorem okBs_48 : (List.range 12).all (fun i => okB (48 + i) && okM (48 + i)) = true := by decide +kernel
theorem okBs_60 : (List.range 12).all (fun i => okB (60 + i) && okM (60 + i)) = true := by decide +kernel
theorem okBs_72 : (List.range 12).all (fun i => okB (72 + i) && okM (72 + i)) = true := by decide +kernel
theorem okBs_84 : (List.range 12).all (fun i => okB (84 + i) && okM (84 + i)) = true := by decide +kernel
theorem okBs_96 : (List.range 12).all (fun i => okB (96 + i) && okM (96 + i)) = true := by decide +kernel
theorem okBs_108 : (List.range 12).all (fun i => okB (108 + i) && okM (108 + i)) = true := by decide +kernel
theorem okBs_120 : (List.range 12).all (fun i => okB (120 + i) && okM (120 + i)) = true := by decide +kernel
theorem okBs_132 : (List.range 12).all (fun i => okB (132 + i) && okM (132 + i)) = true := by decide +kernel
theorem okBs_144 : (List.range 12).all (fun i => okB (144 + i) && okM (144 + i)) = true := by decide +kernel
theorem okBs_156 : (List.range 12).all (fun i => okB (156 + i) && okM (156 + i)) = true := by decide +kernel
theorem okBs_168 : (List.range 12).all (fun i => okB (168 + i) && okM (168 + i)) = true := by decide +kernel
theorem okBs_180 : (List.range 12).all (fun i => okB (180 + i) && okM (180 + i)) = true := by decide +kernel
theorem okBs_192 : (List.range 12).all (fun i => okB (192 + i) && okM (192 + i)) = true := by decide +kernel
theorem okBs_204 : (List.range 12).all (fun i => okB (204 + i) && okM (204 + i)) = true := by decide +kernel
theorem okBs_216 : (List.range 11).all (fun i => okB (216 + i) && okM (216 + i)) = true := by decide +kernel
theorem okB_law : okB 227 = true := by decide +kernel
theorem okBM : ∀ mi, mi < 227 → okB mi = true ∧ okM mi = true := by
  intro mi h
  rcases (show mi < 12 ∨ (12 ≤ mi ∧ mi < 24) ∨ (24 ≤ mi ∧ mi < 36) ∨ (36 ≤ mi ∧ mi < 48) ∨ (48 ≤ mi ∧ mi < 60) ∨ (60 ≤ mi ∧ mi < 72) ∨ (72 ≤ mi ∧ mi < 84) ∨ (84 ≤ mi ∧ mi < 96) ∨ (96 ≤ mi ∧ mi < 108) ∨ (108 ≤ mi ∧ mi < 120) ∨ (120 ≤ mi ∧ mi < 132) ∨ (132 ≤ mi ∧ mi < 144) ∨ (144 ≤ mi ∧ mi < 156) ∨ (156 ≤ mi ∧ mi < 168) ∨ (168 ≤ mi ∧ mi < 180) ∨ (180 ≤ mi ∧ mi < 192) ∨ (192 ≤ mi ∧ mi < 204) ∨ (204 ≤ mi ∧ mi < 216) ∨ (216 ≤ mi ∧ mi < 227) by omega) with h1 | h1 | h1 | h1 | h1 | h1 | h1 | h1 | h1 | h1 | h1 | h1 | h1 | h1 | h1 | h1 | h1 | h1 | h1
  · have h2 := List.all_eq_true.mp okBs_0 (mi - 0) (List.mem_range.mpr (by omega))
    rw [show 0 + (mi - 0) = mi by omega, Bool.and_eq_true] at h2
    exact h2
  · have h2 := List.all_eq_true.mp okBs_12 (mi - 12) (List.mem_range.mpr (by omega))
    rw [show 12 + (mi - 12) = mi by omega, Bool.and_eq_true] at h2
    exact h2
  · have h2 := List.all_eq_true.mp okBs_24 (mi - 24) (List.mem_range.mpr (by omega))
    rw [show 24 + (mi - 24) = mi by omega, Bool.and_eq_true] at h2
    exact h2
  · have h2 := List.all_eq_true.mp okBs_36 (mi - 36) (List.mem_range.mpr (by omega))
    rw [show 36 + (mi - 36) = mi by omega, Bool.and_eq_true] at h2
    exact h2
  · have h2 := List.all_eq_true.mp okBs_48 (mi - 48) (List.mem_range.mpr (by omega))
    rw [show 48 + (mi - 48) = mi by omega, Bool.and_eq_true] at h2
    exact h2
  · have h2 := List.all_eq_true.mp okBs_60 (mi - 60) (List.mem_range.mpr (by omega))
    rw [show 60 + (mi - 60) = mi by omega, Bool.and_eq_true] at h2
    exact h2
  · have h2 := List.all_eq_true.mp okBs_72 (mi - 72) (List.mem_range.mpr (by omega))
    rw [show 72 + (mi - 72) = mi by omega, Bool.and_eq_true] at h2
    exact h2
  · have h2 := List.all_eq_true.mp okBs_84 (mi - 84) (List.mem_range.mpr (by omega))
    rw [show 84 + (mi - 84) = mi by omega, Bool.and_eq_true] at h2
    exact h2
  · have h2 := List.all_eq_true.mp okBs_96 (mi - 96) (List.mem_range.mpr (by omega))
    rw [show 96 + (mi - 96) = mi by omega, Bool.and_eq_true] at h2
    exact h2
  · have h2 := List.all_eq_true.mp okBs_108 (mi - 108) (List.mem_range.mpr (by omega))
    rw [show 108 + (mi - 108) = mi by omega, Bool.and_eq_true] at h2
    exact h2
  · have h2 := List.all_eq_true.mp okBs_120 (mi - 120) (List.mem_range.mpr (by omega))
    rw [show 120 + (mi - 120) = mi by omega, Bool.and_eq_true] at h2
    exact h2
  · have h2 := List.all_eq_true.mp okBs_132 (mi - 132) (List.mem_range.mpr (by omega))
    rw [show 132 + (mi - 132) = mi by omega, Bool.and_eq_true] at h2
    exact h2
  · have h2 := List.all_eq_true.mp okBs_144 (mi - 144) (List.mem_range.mpr (by omega))
    rw [show 144 + (mi - 144) = mi by omega, Bool.and_eq_true] at h2
    exact h2
  · have h2 := List.all_eq_true.mp okBs_156 (mi - 156) (List.mem_range.mpr (by omega))
    rw [show 156 + (mi - 156) = mi by omega, Bool.and_eq_true] at h2
    exact h2
  · have h2 := List.all_eq_true.mp okBs_168 (mi - 168) (List.mem_range.mpr (by omega))
    rw [show 168 + (mi - 168) = mi by omega, Bool.and_eq_true] at h2
    exact h2
  · have h2 := List.all_eq_true.mp okBs_180 (mi - 180) (List.mem_range.mpr (by omega))
    rw [show 180 + (mi - 180) = mi by omega, Bool.and_eq_true] at h2
    exact h2
  · have h2 := List.all_eq_true.mp okBs_192 (mi - 192) (List.mem_range.mpr (by omega))
    rw [show 192 + (mi - 192) = mi by omega, Bool.and_eq_true] at h2
    exact h2
  · have h2 := List.all_eq_true.mp okBs_204 (mi - 204) (List.mem_range.mpr (by omega))
    rw [show 204 + (mi - 204) = mi by omega, Bool.and_eq_true] at h2
    exact h2
  · have h2 := List.all_eq_true.mp okBs_216 (mi - 216) (List.mem_range.mpr (by omega))
    rw [show 216 + (mi - 216) = mi by omega, Bool.and_eq_true] at h2
    exact h2
theorem dcA0 : ∀ mi, mi < 228 → ((ents mi).drop 0).all (dcE mi) = true := lt_s (lt_s (lt_s (lt_s (lt_s (lt_s (lt_s (lt_s (lt_s (lt_s (lt_s (lt_s (lt_s (lt_s (lt_s (lt_s (lt_s (lt_s (lt_s (lt_s (lt_s (lt_s (lt_s (lt_s (lt_s (lt_s (lt_s (lt_s (lt_s (lt_s (lt_s (lt_s (lt_s (lt_s (lt_s (lt_s (lt_s (lt_s (lt_s (lt_s (lt_s (lt_s (lt_s (lt_s (lt_s (lt_s (lt_s (lt_s (lt_s (lt_s (lt_s (lt_s (lt_s (lt_s (lt_s (lt_s (lt_s (lt_s (lt_s (lt_s (lt_s (lt_s (lt_s (lt_s (lt_s (lt_s (lt_s (lt_s (lt_s (lt_s (lt_s (lt_s (lt_s (lt_s (lt_s (lt_s (lt_s (lt_s (lt_s (lt_s (lt_s (lt_s (lt_s (lt_s (lt_s (lt_s (lt_s (lt_s (lt_s (lt_s (lt_s (lt_s (lt_s (lt_s (lt_s (lt_s (lt_s (lt_s (lt_s (lt_s (lt_s (lt_s (lt_s (lt_s (lt_s (lt_s (lt_s (lt_s (lt_s (lt_s (lt_s (lt_s (lt_s (lt_s (lt_s (lt_s (lt_s (lt_s (lt_s (lt_s (lt_s (lt_s (lt_s (lt_s (lt_s (lt_s (lt_s (lt_s (lt_s (lt_s (lt_s (lt_s (lt_s (lt_s (lt_s (lt_s (lt_s (lt_s (lt_s (lt_s (lt_s (lt_s (lt_s (lt_s (lt_s (lt_s (lt_s (lt_s (lt_s (lt_s (lt_s (lt_s (lt_s (lt_s (lt_s (lt_s (lt_s (lt_s (lt_s (lt_s (lt_s (lt_s (lt_s (lt_s (lt_s (lt_s (lt_s (lt_s (lt_s (lt_s (lt_s (lt_s (lt_s (lt_s (lt_s (lt_s (lt_s (lt_s (lt_s (lt_s (lt_s (lt_s (lt_s (lt_s (lt_s (lt_s (lt_s (lt_s (lt_s (lt_s (lt_s (lt_s (lt_s (lt_s (lt_s (lt_s (lt_s (lt_s (lt_s (lt_s (lt_s (lt_s (lt_s (lt_s (lt_s (lt_s (lt_s (lt_s (lt_s (lt_s (lt_s (lt_s (lt_s (lt_s (lt_s (lt_s (lt_s (lt_s (lt_s (lt_s (lt_s (lt_s (lt_s (lt_s (lt_s (lt_s (lt_s (lt_s (lt_0) dcM_0) dcM_1) dcM_2) dcM_3) dcM_4) dcM_5) dcM_6) dcM_7) dcM_8) dcM_9) dcM_10) dcM_11) dcM_12) dcM_13) dcM_14) dcM_15) dcM_16) dcM_17) dcM_18) dcM_19) dcM_20) dcM_21) dcM_22) dcM_23) dcM_24) dcM_25) dcM_26) dcM_27) dcM_28) dcM_29) dcM_30) dcM_31) dcM_32) dcM_33) dcM_34) dcM_35) dcM_36) dcM_37) dcM_38) dcM_39) dcM_40) dcM_41) dcM_42) dcM_43) dcM_44) dcM_45) dcM_46) dcM_47) dcM_48) dcM_49) dcM_50) dcM_51) dcM_52) dcM_53) dcM_54) dcM_55) dcM_56) dcM_57) dcM_58) dcM_59) dcM_60) dcM_61) dcM_62) dcM_63) dcM_64) dcM_65) dcM_66) dcM_67) dcM_68) dcM_69) dcM_70) dcM_71) dcM_72) dcM_73) dcM_74) dcM_75) dcM_76) dcM_77) dcM_78) dcM_79) dcM_80) dcM_81) dcM_82) dcM_83) dcM_84) dcM_85) dcM_86) dcM_87) dcM_88) dcM_89) dcM_90) dcM_91) dcM_92) dcM_93) dcM_94) dcM_95) dcM_96) dcM_97) dcM_98) dcM_99) dcM_100) dcM_101) dcM_102) dcM_103) dcM_104) dcM_105) dcM_106) dcM_107) dcM_108) dcM_109) dcM_110) dcM_111) dcM_112) dcM_113) dcM_114) dcM_115) dcM_116) dcM_117) dcM_118) dcM_119) dcM_120) dcM_121) dcM_122) dcM_123) dcM_124) dcM_125) dcM_126) dcM_127) dcM_128) dcM_129) dcM_130) dcM_131) dcM_132) dcM_133) dcM_134) dcM_135) dcM_136) dcM_137) dcM_138) dcM_139) dcM_140) dcM_141) dcM_142) dcM_143) dcM_144) dcM_145) dcM_146) dcM_147) dcM_148) dcM_149) dcM_150) dcM_151) dcM_152) dcM_153) dcM_154) dcM_155) dcM_156) dcM_157) dcM_158) dcM_159) dcM_160) dcM_161) dcM_162) dcM_163) dcM_164) dcM_165) dcM_166) dcM_167) dcM_168) dcM_169) dcM_170) dcM_171) dcM_172) dcM_173) dcM_174) dcM_175) dcM_176) dcM_177) dcM_178) dcM_179) dcM_180) dcM_181) dcM_182) dcM_183) dcM_184) dcM_185) dcM_186) dcM_187) dcM_188) dcM_189) dcM_190) dcM_191) dcM_192) dcM_193) dcM_194) dcM_195) dcM_196) dcM_197) dcM_198) dcM_199) dcM_200) dcM_201) dcM_202) dcM_203) dcM_204) dcM_205) dcM_206) dcM_207) dcM_208) dcM_209) dcM_210) dcM_211) dcM_212) dcM_213) dcM_214) dcM_215) dcM_216) dcM_217) dcM_218) dcM_219) dcM_220) dcM_221) dcM_222) dcM_223) dcM_224) dcM_225) dcM_226) dcM_227
theorem dcA : ∀ mi, mi < 228 → (ents mi).all (dcE mi) = true := fun mi h => dcA0 mi h
