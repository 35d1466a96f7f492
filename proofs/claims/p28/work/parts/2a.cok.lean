/-! THE CODES of the fast machine are the codes (written by wip/p28/mk2a.py) -/
theorem sr_0 : srt (code9 0) 0 = true := by decide +kernel
theorem c_0_0 {sc : SC} : CO sc 0 q_0_0 0 := CO_seg (rest := []) 0 27 0 51 sr_0 (trivial : CO sc 0 [] 51) (by decide +kernel)
theorem k_ok_0 {sc : SC} : COK sc 0 := ⟨c_0_0, fun t => trivial, rfl⟩
theorem sr_1 : srt (code9 1) 0 = true := by decide +kernel
theorem c_1_76 {sc : SC} : CO sc 1 q_1_76 76 := CO_seg (rest := []) 43 2 76 79 sr_1 (trivial : CO sc 1 [] 79) (by decide +kernel)
theorem c_1_43 {sc : SC} : CO sc 1 q_1_43 43 := CO_seg (rest := q_1_76) 25 18 43 76 sr_1 c_1_76 (by decide +kernel)
theorem c_1_14 {sc : SC} : CO sc 1 q_1_14 14 := CO_seg (rest := q_1_43) 8 17 14 43 sr_1 c_1_43 (by decide +kernel)
theorem c_1_0 {sc : SC} : CO sc 1 q_1_0 0 := CO_seg (rest := q_1_14) 0 8 0 14 sr_1 c_1_14 (by decide +kernel)
theorem k_ok_1 {sc : SC} : COK sc 1 := ⟨c_1_0, fun t => co_if c_1_14 (co_if c_1_43 (co_if c_1_76 trivial)), rfl⟩
theorem sr_2 : srt (code9 2) 0 = true := by decide +kernel
theorem c_2_164 {sc : SC} : CO sc 2 q_2_164 164 := CO_seg (rest := []) 88 2 164 167 sr_2 (trivial : CO sc 2 [] 167) (by decide +kernel)
theorem c_2_84 {sc : SC} : CO sc 2 q_2_84 84 := CO_seg (rest := q_2_164) 46 42 84 164 sr_2 c_2_164 (by decide +kernel)
theorem c_2_54 {sc : SC} : CO sc 2 q_2_54 54 := CO_seg (rest := q_2_84) 29 17 54 84 sr_2 c_2_84 (by decide +kernel)
theorem c_2_30 {sc : SC} : CO sc 2 q_2_30 30 := CO_seg (rest := q_2_54) 16 13 30 54 sr_2 c_2_54 (by decide +kernel)
theorem c_2_15 {sc : SC} : CO sc 2 q_2_15 15 := CO_seg (rest := q_2_30) 8 8 15 30 sr_2 c_2_30 (by decide +kernel)
theorem c_2_0 {sc : SC} : CO sc 2 q_2_0 0 := CO_seg (rest := q_2_15) 0 8 0 15 sr_2 c_2_15 (by decide +kernel)
theorem k_ok_2 {sc : SC} : COK sc 2 := ⟨c_2_0, fun t => co_if c_2_15 (co_if c_2_30 (co_if c_2_54 (co_if c_2_84 (co_if c_2_164 trivial)))), rfl⟩
theorem sr_3 : srt (code9 3) 0 = true := by decide +kernel
theorem c_3_108 {sc : SC} : CO sc 3 q_3_108 108 := CO_seg (rest := []) 52 2 108 111 sr_3 (trivial : CO sc 3 [] 111) (by decide +kernel)
theorem c_3_102 {sc : SC} : CO sc 3 q_3_102 102 := CO_seg (rest := q_3_108) 50 2 102 108 sr_3 c_3_108 (by decide +kernel)
theorem c_3_99 {sc : SC} : CO sc 3 q_3_99 99 := CO_seg (rest := q_3_102) 48 2 99 102 sr_3 c_3_102 (by decide +kernel)
theorem c_3_98 {sc : SC} : CO sc 3 q_3_98 98 := CO_seg (rest := q_3_99) 47 1 98 99 sr_3 c_3_99 (by decide +kernel)
theorem c_3_94 {sc : SC} : CO sc 3 q_3_94 94 := CO_seg (rest := q_3_98) 45 2 94 98 sr_3 c_3_98 (by decide +kernel)
theorem c_3_14 {sc : SC} : CO sc 3 q_3_14 14 := CO_seg (rest := q_3_94) 8 37 14 94 sr_3 c_3_94 (by decide +kernel)
theorem c_3_0 {sc : SC} : CO sc 3 q_3_0 0 := CO_seg (rest := q_3_14) 0 8 0 14 sr_3 c_3_14 (by decide +kernel)
theorem k_ok_3 {sc : SC} : COK sc 3 := ⟨c_3_0, fun t => co_if c_3_14 (co_if c_3_94 (co_if c_3_98 (co_if c_3_99 (co_if c_3_102 (co_if c_3_108 trivial))))), rfl⟩
theorem sr_4 : srt (code9 4) 0 = true := by decide +kernel
theorem c_4_194 {sc : SC} : CO sc 4 q_4_194 194 := CO_seg (rest := []) 97 1 194 195 sr_4 (trivial : CO sc 4 [] 195) (by decide +kernel)
theorem c_4_188 {sc : SC} : CO sc 4 q_4_188 188 := CO_seg (rest := q_4_194) 95 2 188 194 sr_4 c_4_194 (by decide +kernel)
theorem c_4_185 {sc : SC} : CO sc 4 q_4_185 185 := CO_seg (rest := q_4_188) 94 1 185 188 sr_4 c_4_188 (by decide +kernel)
theorem c_4_184 {sc : SC} : CO sc 4 q_4_184 184 := CO_seg (rest := q_4_185) 93 1 184 185 sr_4 c_4_185 (by decide +kernel)
theorem c_4_91 {sc : SC} : CO sc 4 q_4_91 91 := CO_seg (rest := q_4_184) 49 44 91 184 sr_4 c_4_184 (by decide +kernel)
theorem c_4_73 {sc : SC} : CO sc 4 q_4_73 73 := CO_seg (rest := q_4_91) 39 10 73 91 sr_4 c_4_91 (by decide +kernel)
theorem c_4_45 {sc : SC} : CO sc 4 q_4_45 45 := CO_seg (rest := q_4_73) 25 14 45 73 sr_4 c_4_73 (by decide +kernel)
theorem c_4_0 {sc : SC} : CO sc 4 q_4_0 0 := CO_seg (rest := q_4_45) 0 25 0 45 sr_4 c_4_45 (by decide +kernel)
theorem k_ok_4 {sc : SC} : COK sc 4 := ⟨c_4_0, fun t => co_if c_4_45 (co_if c_4_73 (co_if c_4_91 (co_if c_4_184 (co_if c_4_185 (co_if c_4_188 (co_if c_4_194 trivial)))))), rfl⟩
theorem sr_5 : srt (code9 5) 0 = true := by decide +kernel
theorem c_5_84 {sc : SC} : CO sc 5 q_5_84 84 := CO_seg (rest := []) 45 1 84 85 sr_5 (trivial : CO sc 5 [] 85) (by decide +kernel)
theorem c_5_61 {sc : SC} : CO sc 5 q_5_61 61 := CO_seg (rest := q_5_84) 32 13 61 84 sr_5 c_5_84 (by decide +kernel)
theorem c_5_54 {sc : SC} : CO sc 5 q_5_54 54 := CO_seg (rest := q_5_61) 29 3 54 61 sr_5 c_5_61 (by decide +kernel)
theorem c_5_14 {sc : SC} : CO sc 5 q_5_14 14 := CO_seg (rest := q_5_54) 8 21 14 54 sr_5 c_5_54 (by decide +kernel)
theorem c_5_0 {sc : SC} : CO sc 5 q_5_0 0 := CO_seg (rest := q_5_14) 0 8 0 14 sr_5 c_5_14 (by decide +kernel)
theorem k_ok_5 {sc : SC} : COK sc 5 := ⟨c_5_0, fun t => co_if c_5_14 (co_if c_5_54 (co_if c_5_61 (co_if c_5_84 trivial))), rfl⟩
theorem sr_6 : srt (code9 6) 0 = true := by decide +kernel
theorem c_6_33 {sc : SC} : CO sc 6 q_6_33 33 := CO_seg (rest := []) 19 2 33 35 sr_6 (trivial : CO sc 6 [] 35) (by decide +kernel)
theorem c_6_27 {sc : SC} : CO sc 6 q_6_27 27 := CO_seg (rest := q_6_33) 17 2 27 33 sr_6 c_6_33 (by decide +kernel)
theorem c_6_2 {sc : SC} : CO sc 6 q_6_2 2 := CO_seg (rest := q_6_27) 2 15 2 27 sr_6 c_6_27 (by decide +kernel)
theorem c_6_0 {sc : SC} : CO sc 6 q_6_0 0 := CO_seg (rest := q_6_2) 0 2 0 2 sr_6 c_6_2 (by decide +kernel)
theorem k_ok_6 {sc : SC} : COK sc 6 := ⟨c_6_0, fun t => co_if c_6_2 (co_if c_6_27 (co_if c_6_33 trivial)), rfl⟩
theorem sr_7 : srt (code9 7) 0 = true := by decide +kernel
theorem c_7_172 {sc : SC} : CO sc 7 q_7_172 172 := CO_seg (rest := []) 89 1 172 173 sr_7 (trivial : CO sc 7 [] 173) (by decide +kernel)
theorem c_7_126 {sc : SC} : CO sc 7 q_7_126 126 := CO_seg (rest := q_7_172) 65 24 126 172 sr_7 c_7_172 (by decide +kernel)
theorem c_7_42 {sc : SC} : CO sc 7 q_7_42 42 := CO_seg (rest := q_7_126) 22 43 42 126 sr_7 c_7_126 (by decide +kernel)
theorem c_7_0 {sc : SC} : CO sc 7 q_7_0 0 := CO_seg (rest := q_7_42) 0 22 0 42 sr_7 c_7_42 (by decide +kernel)
theorem k_ok_7 {sc : SC} : COK sc 7 := ⟨c_7_0, fun t => co_if c_7_42 (co_if c_7_126 (co_if c_7_172 trivial)), rfl⟩
theorem sr_8 : srt (code9 8) 0 = true := by decide +kernel
theorem c_8_167 {sc : SC} : CO sc 8 q_8_167 167 := CO_seg (rest := []) 87 2 167 170 sr_8 (trivial : CO sc 8 [] 170) (by decide +kernel)
theorem c_8_161 {sc : SC} : CO sc 8 q_8_161 161 := CO_seg (rest := q_8_167) 85 2 161 167 sr_8 c_8_167 (by decide +kernel)
theorem c_8_110 {sc : SC} : CO sc 8 q_8_110 110 := CO_seg (rest := q_8_161) 60 25 110 161 sr_8 c_8_161 (by decide +kernel)
theorem c_8_45 {sc : SC} : CO sc 8 q_8_45 45 := CO_seg (rest := q_8_110) 24 36 45 110 sr_8 c_8_110 (by decide +kernel)
theorem c_8_31 {sc : SC} : CO sc 8 q_8_31 31 := CO_seg (rest := q_8_45) 17 7 31 45 sr_8 c_8_45 (by decide +kernel)
theorem c_8_15 {sc : SC} : CO sc 8 q_8_15 15 := CO_seg (rest := q_8_31) 8 9 15 31 sr_8 c_8_31 (by decide +kernel)
theorem c_8_0 {sc : SC} : CO sc 8 q_8_0 0 := CO_seg (rest := q_8_15) 0 8 0 15 sr_8 c_8_15 (by decide +kernel)
theorem k_ok_8 {sc : SC} : COK sc 8 := ⟨c_8_0, fun t => co_if c_8_15 (co_if c_8_31 (co_if c_8_45 (co_if c_8_110 (co_if c_8_161 (co_if c_8_167 trivial))))), rfl⟩
theorem sr_9 : srt (code9 9) 0 = true := by decide +kernel
theorem c_9_102 {sc : SC} : CO sc 9 q_9_102 102 := CO_seg (rest := []) 50 6 102 113 sr_9 (trivial : CO sc 9 [] 113) (by decide +kernel)
theorem c_9_100 {sc : SC} : CO sc 9 q_9_100 100 := CO_seg (rest := q_9_102) 48 2 100 102 sr_9 c_9_102 (by decide +kernel)
theorem c_9_68 {sc : SC} : CO sc 9 q_9_68 68 := CO_seg (rest := q_9_100) 34 14 68 100 sr_9 c_9_100 (by decide +kernel)
theorem c_9_67 {sc : SC} : CO sc 9 q_9_67 67 := CO_seg (rest := q_9_68) 33 1 67 68 sr_9 c_9_68 (by decide +kernel)
theorem c_9_17 {sc : SC} : CO sc 9 q_9_17 17 := CO_seg (rest := q_9_67) 9 24 17 67 sr_9 c_9_67 (by decide +kernel)
theorem c_9_0 {sc : SC} : CO sc 9 q_9_0 0 := CO_seg (rest := q_9_17) 0 9 0 17 sr_9 c_9_17 (by decide +kernel)
theorem k_ok_9 {sc : SC} : COK sc 9 := ⟨c_9_0, fun t => co_if c_9_17 (co_if c_9_67 (co_if c_9_68 (co_if c_9_100 (co_if c_9_102 trivial)))), rfl⟩
theorem sr_10 : srt (code9 10) 0 = true := by decide +kernel
theorem c_10_121 {sc : SC} : CO sc 10 q_10_121 121 := CO_seg (rest := []) 67 7 121 132 sr_10 (trivial : CO sc 10 [] 132) (by decide +kernel)
theorem c_10_120 {sc : SC} : CO sc 10 q_10_120 120 := CO_seg (rest := q_10_121) 66 1 120 121 sr_10 c_10_121 (by decide +kernel)
theorem c_10_103 {sc : SC} : CO sc 10 q_10_103 103 := CO_seg (rest := q_10_120) 57 9 103 120 sr_10 c_10_120 (by decide +kernel)
theorem c_10_83 {sc : SC} : CO sc 10 q_10_83 83 := CO_seg (rest := q_10_103) 45 12 83 103 sr_10 c_10_103 (by decide +kernel)
theorem c_10_70 {sc : SC} : CO sc 10 q_10_70 70 := CO_seg (rest := q_10_83) 38 7 70 83 sr_10 c_10_83 (by decide +kernel)
theorem c_10_42 {sc : SC} : CO sc 10 q_10_42 42 := CO_seg (rest := q_10_70) 22 16 42 70 sr_10 c_10_70 (by decide +kernel)
theorem c_10_38 {sc : SC} : CO sc 10 q_10_38 38 := CO_seg (rest := q_10_42) 20 2 38 42 sr_10 c_10_42 (by decide +kernel)
theorem c_10_37 {sc : SC} : CO sc 10 q_10_37 37 := CO_seg (rest := q_10_38) 19 1 37 38 sr_10 c_10_38 (by decide +kernel)
theorem c_10_0 {sc : SC} : CO sc 10 q_10_0 0 := CO_seg (rest := q_10_37) 0 19 0 37 sr_10 c_10_37 (by decide +kernel)
theorem k_ok_10 {sc : SC} : COK sc 10 := ⟨c_10_0, fun t => co_if c_10_37 (co_if c_10_38 (co_if c_10_42 (co_if c_10_70 (co_if c_10_83 (co_if c_10_103 (co_if c_10_120 (co_if c_10_121 trivial))))))), rfl⟩
theorem sr_11 : srt (code9 11) 0 = true := by decide +kernel
theorem c_11_39 {sc : SC} : CO sc 11 q_11_39 39 := CO_seg (rest := []) 21 2 39 41 sr_11 (trivial : CO sc 11 [] 41) (by decide +kernel)
theorem c_11_33 {sc : SC} : CO sc 11 q_11_33 33 := CO_seg (rest := q_11_39) 19 2 33 39 sr_11 c_11_39 (by decide +kernel)
theorem c_11_2 {sc : SC} : CO sc 11 q_11_2 2 := CO_seg (rest := q_11_33) 2 17 2 33 sr_11 c_11_33 (by decide +kernel)
theorem c_11_0 {sc : SC} : CO sc 11 q_11_0 0 := CO_seg (rest := q_11_2) 0 2 0 2 sr_11 c_11_2 (by decide +kernel)
theorem k_ok_11 {sc : SC} : COK sc 11 := ⟨c_11_0, fun t => co_if c_11_2 (co_if c_11_33 (co_if c_11_39 trivial)), rfl⟩
theorem sr_12 : srt (code9 12) 0 = true := by decide +kernel
theorem c_12_199 {sc : SC} : CO sc 12 q_12_199 199 := CO_seg (rest := []) 99 2 199 202 sr_12 (trivial : CO sc 12 [] 202) (by decide +kernel)
theorem c_12_192 {sc : SC} : CO sc 12 q_12_192 192 := CO_seg (rest := q_12_199) 96 3 192 199 sr_12 c_12_199 (by decide +kernel)
theorem c_12_185 {sc : SC} : CO sc 12 q_12_185 185 := CO_seg (rest := q_12_192) 92 4 185 192 sr_12 c_12_192 (by decide +kernel)
theorem c_12_136 {sc : SC} : CO sc 12 q_12_136 136 := CO_seg (rest := q_12_185) 70 22 136 185 sr_12 c_12_185 (by decide +kernel)
theorem c_12_133 {sc : SC} : CO sc 12 q_12_133 133 := CO_seg (rest := q_12_136) 68 2 133 136 sr_12 c_12_136 (by decide +kernel)
theorem c_12_127 {sc : SC} : CO sc 12 q_12_127 127 := CO_seg (rest := q_12_133) 66 2 127 133 sr_12 c_12_133 (by decide +kernel)
theorem c_12_98 {sc : SC} : CO sc 12 q_12_98 98 := CO_seg (rest := q_12_127) 51 15 98 127 sr_12 c_12_127 (by decide +kernel)
theorem c_12_73 {sc : SC} : CO sc 12 q_12_73 73 := CO_seg (rest := q_12_98) 38 13 73 98 sr_12 c_12_98 (by decide +kernel)
theorem c_12_70 {sc : SC} : CO sc 12 q_12_70 70 := CO_seg (rest := q_12_73) 36 2 70 73 sr_12 c_12_73 (by decide +kernel)
theorem c_12_50 {sc : SC} : CO sc 12 q_12_50 50 := CO_seg (rest := q_12_70) 26 10 50 70 sr_12 c_12_70 (by decide +kernel)
theorem c_12_41 {sc : SC} : CO sc 12 q_12_41 41 := CO_seg (rest := q_12_50) 22 4 41 50 sr_12 c_12_50 (by decide +kernel)
theorem c_12_40 {sc : SC} : CO sc 12 q_12_40 40 := CO_seg (rest := q_12_41) 21 1 40 41 sr_12 c_12_41 (by decide +kernel)
theorem c_12_14 {sc : SC} : CO sc 12 q_12_14 14 := CO_seg (rest := q_12_40) 8 13 14 40 sr_12 c_12_40 (by decide +kernel)
theorem c_12_0 {sc : SC} : CO sc 12 q_12_0 0 := CO_seg (rest := q_12_14) 0 8 0 14 sr_12 c_12_14 (by decide +kernel)
theorem k_ok_12 {sc : SC} : COK sc 12 := ⟨c_12_0, fun t => co_if c_12_14 (co_if c_12_40 (co_if c_12_41 (co_if c_12_50 (co_if c_12_70 (co_if c_12_73 (co_if c_12_98 (co_if c_12_127 (co_if c_12_133 (co_if c_12_136 (co_if c_12_185 (co_if c_12_192 (co_if c_12_199 trivial)))))))))))), rfl⟩
theorem sr_13 : srt (code9 13) 0 = true := by decide +kernel
theorem c_13_219 {sc : SC} : CO sc 13 q_13_219 219 := CO_seg (rest := []) 114 2 219 221 sr_13 (trivial : CO sc 13 [] 221) (by decide +kernel)
theorem c_13_210 {sc : SC} : CO sc 13 q_13_210 210 := CO_seg (rest := q_13_219) 109 5 210 219 sr_13 c_13_219 (by decide +kernel)
theorem c_13_183 {sc : SC} : CO sc 13 q_13_183 183 := CO_seg (rest := q_13_210) 96 13 183 210 sr_13 c_13_210 (by decide +kernel)
theorem c_13_174 {sc : SC} : CO sc 13 q_13_174 174 := CO_seg (rest := q_13_183) 91 5 174 183 sr_13 c_13_183 (by decide +kernel)
theorem c_13_155 {sc : SC} : CO sc 13 q_13_155 155 := CO_seg (rest := q_13_174) 82 9 155 174 sr_13 c_13_174 (by decide +kernel)
theorem c_13_154 {sc : SC} : CO sc 13 q_13_154 154 := CO_seg (rest := q_13_155) 81 1 154 155 sr_13 c_13_155 (by decide +kernel)
theorem c_13_133 {sc : SC} : CO sc 13 q_13_133 133 := CO_seg (rest := q_13_154) 70 11 133 154 sr_13 c_13_154 (by decide +kernel)
theorem c_13_124 {sc : SC} : CO sc 13 q_13_124 124 := CO_seg (rest := q_13_133) 65 5 124 133 sr_13 c_13_133 (by decide +kernel)
theorem c_13_34 {sc : SC} : CO sc 13 q_13_34 34 := CO_seg (rest := q_13_124) 18 47 34 124 sr_13 c_13_124 (by decide +kernel)
theorem c_13_0 {sc : SC} : CO sc 13 q_13_0 0 := CO_seg (rest := q_13_34) 0 18 0 34 sr_13 c_13_34 (by decide +kernel)
theorem k_ok_13 {sc : SC} : COK sc 13 := ⟨c_13_0, fun t => co_if c_13_34 (co_if c_13_124 (co_if c_13_133 (co_if c_13_154 (co_if c_13_155 (co_if c_13_174 (co_if c_13_183 (co_if c_13_210 (co_if c_13_219 trivial)))))))), rfl⟩
theorem sr_14 : srt (code9 14) 0 = true := by decide +kernel
theorem c_14_0 {sc : SC} : CO sc 14 q_14_0 0 := CO_seg (rest := []) 0 32 0 60 sr_14 (trivial : CO sc 14 [] 60) (by decide +kernel)
theorem k_ok_14 {sc : SC} : COK sc 14 := ⟨c_14_0, fun t => trivial, rfl⟩
theorem sr_15 : srt (code9 15) 0 = true := by decide +kernel
theorem c_15_135 {sc : SC} : CO sc 15 q_15_135 135 := CO_seg (rest := []) 72 1 135 136 sr_15 (trivial : CO sc 15 [] 136) (by decide +kernel)
theorem c_15_129 {sc : SC} : CO sc 15 q_15_129 129 := CO_seg (rest := q_15_135) 70 2 129 135 sr_15 c_15_135 (by decide +kernel)
theorem c_15_104 {sc : SC} : CO sc 15 q_15_104 104 := CO_seg (rest := q_15_129) 57 13 104 129 sr_15 c_15_129 (by decide +kernel)
theorem c_15_102 {sc : SC} : CO sc 15 q_15_102 102 := CO_seg (rest := q_15_104) 55 2 102 104 sr_15 c_15_104 (by decide +kernel)
theorem c_15_64 {sc : SC} : CO sc 15 q_15_64 64 := CO_seg (rest := q_15_102) 36 19 64 102 sr_15 c_15_102 (by decide +kernel)
theorem c_15_44 {sc : SC} : CO sc 15 q_15_44 44 := CO_seg (rest := q_15_64) 24 12 44 64 sr_15 c_15_64 (by decide +kernel)
theorem c_15_20 {sc : SC} : CO sc 15 q_15_20 20 := CO_seg (rest := q_15_44) 12 12 20 44 sr_15 c_15_44 (by decide +kernel)
theorem c_15_18 {sc : SC} : CO sc 15 q_15_18 18 := CO_seg (rest := q_15_20) 10 2 18 20 sr_15 c_15_20 (by decide +kernel)
theorem c_15_0 {sc : SC} : CO sc 15 q_15_0 0 := CO_seg (rest := q_15_18) 0 10 0 18 sr_15 c_15_18 (by decide +kernel)
theorem k_ok_15 {sc : SC} : COK sc 15 := ⟨c_15_0, fun t => co_if c_15_18 (co_if c_15_20 (co_if c_15_44 (co_if c_15_64 (co_if c_15_102 (co_if c_15_104 (co_if c_15_129 (co_if c_15_135 trivial))))))), rfl⟩
theorem sr_16 : srt (code9 16) 0 = true := by decide +kernel
theorem c_16_105 {sc : SC} : CO sc 16 q_16_105 105 := CO_seg (rest := []) 58 1 105 106 sr_16 (trivial : CO sc 16 [] 106) (by decide +kernel)
theorem c_16_99 {sc : SC} : CO sc 16 q_16_99 99 := CO_seg (rest := q_16_105) 56 2 99 105 sr_16 c_16_105 (by decide +kernel)
theorem c_16_58 {sc : SC} : CO sc 16 q_16_58 58 := CO_seg (rest := q_16_99) 31 25 58 99 sr_16 c_16_99 (by decide +kernel)
theorem c_16_57 {sc : SC} : CO sc 16 q_16_57 57 := CO_seg (rest := q_16_58) 30 1 57 58 sr_16 c_16_58 (by decide +kernel)
theorem c_16_53 {sc : SC} : CO sc 16 q_16_53 53 := CO_seg (rest := q_16_57) 28 2 53 57 sr_16 c_16_57 (by decide +kernel)
theorem c_16_7 {sc : SC} : CO sc 16 q_16_7 7 := CO_seg (rest := q_16_53) 5 23 7 53 sr_16 c_16_53 (by decide +kernel)
theorem c_16_5 {sc : SC} : CO sc 16 q_16_5 5 := CO_seg (rest := q_16_7) 3 2 5 7 sr_16 c_16_7 (by decide +kernel)
theorem c_16_0 {sc : SC} : CO sc 16 q_16_0 0 := CO_seg (rest := q_16_5) 0 3 0 5 sr_16 c_16_5 (by decide +kernel)
theorem k_ok_16 {sc : SC} : COK sc 16 := ⟨c_16_0, fun t => co_if c_16_5 (co_if c_16_7 (co_if c_16_53 (co_if c_16_57 (co_if c_16_58 (co_if c_16_99 (co_if c_16_105 trivial)))))), rfl⟩
theorem sr_17 : srt (code9 17) 0 = true := by decide +kernel
theorem c_17_73 {sc : SC} : CO sc 17 q_17_73 73 := CO_seg (rest := []) 40 1 73 74 sr_17 (trivial : CO sc 17 [] 74) (by decide +kernel)
theorem c_17_0 {sc : SC} : CO sc 17 q_17_0 0 := CO_seg (rest := q_17_73) 0 40 0 73 sr_17 c_17_73 (by decide +kernel)
theorem k_ok_17 {sc : SC} : COK sc 17 := ⟨c_17_0, fun t => co_if c_17_73 trivial, rfl⟩
theorem sr_18 : srt (code9 18) 0 = true := by decide +kernel
theorem c_18_49 {sc : SC} : CO sc 18 q_18_49 49 := CO_seg (rest := []) 29 2 49 51 sr_18 (trivial : CO sc 18 [] 51) (by decide +kernel)
theorem c_18_43 {sc : SC} : CO sc 18 q_18_43 43 := CO_seg (rest := q_18_49) 27 2 43 49 sr_18 c_18_49 (by decide +kernel)
theorem c_18_36 {sc : SC} : CO sc 18 q_18_36 36 := CO_seg (rest := q_18_43) 22 5 36 43 sr_18 c_18_43 (by decide +kernel)
theorem c_18_4 {sc : SC} : CO sc 18 q_18_4 4 := CO_seg (rest := q_18_36) 4 18 4 36 sr_18 c_18_36 (by decide +kernel)
theorem c_18_0 {sc : SC} : CO sc 18 q_18_0 0 := CO_seg (rest := q_18_4) 0 4 0 4 sr_18 c_18_4 (by decide +kernel)
theorem k_ok_18 {sc : SC} : COK sc 18 := ⟨c_18_0, fun t => co_if c_18_4 (co_if c_18_36 (co_if c_18_43 (co_if c_18_49 trivial))), rfl⟩
theorem sr_19 : srt (code9 19) 0 = true := by decide +kernel
theorem c_19_0 {sc : SC} : CO sc 19 q_19_0 0 := CO_seg (rest := []) 0 28 0 49 sr_19 (trivial : CO sc 19 [] 49) (by decide +kernel)
theorem k_ok_19 {sc : SC} : COK sc 19 := ⟨c_19_0, fun t => trivial, rfl⟩
theorem sr_20 : srt (code9 20) 0 = true := by decide +kernel
theorem c_20_17 {sc : SC} : CO sc 20 q_20_17 17 := CO_seg (rest := []) 9 1 17 18 sr_20 (trivial : CO sc 20 [] 18) (by decide +kernel)
theorem c_20_16 {sc : SC} : CO sc 20 q_20_16 16 := CO_seg (rest := q_20_17) 8 1 16 17 sr_20 c_20_17 (by decide +kernel)
theorem c_20_0 {sc : SC} : CO sc 20 q_20_0 0 := CO_seg (rest := q_20_16) 0 8 0 16 sr_20 c_20_16 (by decide +kernel)
theorem k_ok_20 {sc : SC} : COK sc 20 := ⟨c_20_0, fun t => co_if c_20_16 (co_if c_20_17 trivial), rfl⟩
theorem sr_21 : srt (code9 21) 0 = true := by decide +kernel
theorem c_21_46 {sc : SC} : CO sc 21 q_21_46 46 := CO_seg (rest := []) 25 1 46 47 sr_21 (trivial : CO sc 21 [] 47) (by decide +kernel)
theorem c_21_3 {sc : SC} : CO sc 21 q_21_3 3 := CO_seg (rest := q_21_46) 2 23 3 46 sr_21 c_21_46 (by decide +kernel)
theorem c_21_0 {sc : SC} : CO sc 21 q_21_0 0 := CO_seg (rest := q_21_3) 0 2 0 3 sr_21 c_21_3 (by decide +kernel)
theorem k_ok_21 {sc : SC} : COK sc 21 := ⟨c_21_0, fun t => co_if c_21_3 (co_if c_21_46 trivial), rfl⟩
theorem sr_22 : srt (code9 22) 0 = true := by decide +kernel
theorem c_22_0 {sc : SC} : CO sc 22 q_22_0 0 := CO_seg (rest := []) 0 22 0 40 sr_22 (trivial : CO sc 22 [] 40) (by decide +kernel)
theorem k_ok_22 {sc : SC} : COK sc 22 := ⟨c_22_0, fun t => trivial, rfl⟩
theorem sr_23 : srt (code9 23) 0 = true := by decide +kernel
theorem c_23_154 {sc : SC} : CO sc 23 q_23_154 154 := CO_seg (rest := []) 78 1 154 155 sr_23 (trivial : CO sc 23 [] 155) (by decide +kernel)
theorem c_23_127 {sc : SC} : CO sc 23 q_23_127 127 := CO_seg (rest := q_23_154) 63 15 127 154 sr_23 c_23_154 (by decide +kernel)
theorem c_23_87 {sc : SC} : CO sc 23 q_23_87 87 := CO_seg (rest := q_23_127) 43 20 87 127 sr_23 c_23_127 (by decide +kernel)
theorem c_23_65 {sc : SC} : CO sc 23 q_23_65 65 := CO_seg (rest := q_23_87) 32 11 65 87 sr_23 c_23_87 (by decide +kernel)
theorem c_23_38 {sc : SC} : CO sc 23 q_23_38 38 := CO_seg (rest := q_23_65) 19 13 38 65 sr_23 c_23_65 (by decide +kernel)
theorem c_23_0 {sc : SC} : CO sc 23 q_23_0 0 := CO_seg (rest := q_23_38) 0 19 0 38 sr_23 c_23_38 (by decide +kernel)
theorem k_ok_23 {sc : SC} : COK sc 23 := ⟨c_23_0, fun t => co_if c_23_0 (co_if c_23_38 (co_if c_23_65 (co_if c_23_87 (co_if c_23_127 (co_if c_23_154 trivial))))), rfl⟩
theorem sr_24 : srt (code9 24) 0 = true := by decide +kernel
theorem c_24_17 {sc : SC} : CO sc 24 q_24_17 17 := CO_seg (rest := []) 9 1 17 18 sr_24 (trivial : CO sc 24 [] 18) (by decide +kernel)
theorem c_24_16 {sc : SC} : CO sc 24 q_24_16 16 := CO_seg (rest := q_24_17) 8 1 16 17 sr_24 c_24_17 (by decide +kernel)
theorem c_24_0 {sc : SC} : CO sc 24 q_24_0 0 := CO_seg (rest := q_24_16) 0 8 0 16 sr_24 c_24_16 (by decide +kernel)
theorem k_ok_24 {sc : SC} : COK sc 24 := ⟨c_24_0, fun t => co_if c_24_16 (co_if c_24_17 trivial), rfl⟩
theorem sr_25 : srt (code9 25) 0 = true := by decide +kernel
theorem c_25_0 {sc : SC} : CO sc 25 q_25_0 0 := CO_seg (rest := []) 0 9 0 15 sr_25 (trivial : CO sc 25 [] 15) (by decide +kernel)
theorem k_ok_25 {sc : SC} : COK sc 25 := ⟨c_25_0, fun t => trivial, rfl⟩
theorem sr_26 : srt (code9 26) 0 = true := by decide +kernel
theorem c_26_22 {sc : SC} : CO sc 26 q_26_22 22 := CO_seg (rest := []) 11 1 22 23 sr_26 (trivial : CO sc 26 [] 23) (by decide +kernel)
theorem c_26_21 {sc : SC} : CO sc 26 q_26_21 21 := CO_seg (rest := q_26_22) 10 1 21 22 sr_26 c_26_22 (by decide +kernel)
theorem c_26_17 {sc : SC} : CO sc 26 q_26_17 17 := CO_seg (rest := q_26_21) 8 2 17 21 sr_26 c_26_21 (by decide +kernel)
theorem c_26_0 {sc : SC} : CO sc 26 q_26_0 0 := CO_seg (rest := q_26_17) 0 8 0 17 sr_26 c_26_17 (by decide +kernel)
theorem k_ok_26 {sc : SC} : COK sc 26 := ⟨c_26_0, fun t => co_if c_26_17 (co_if c_26_21 (co_if c_26_22 trivial)), rfl⟩
theorem sr_27 : srt (code9 27) 0 = true := by decide +kernel
theorem c_27_15 {sc : SC} : CO sc 27 q_27_15 15 := CO_seg (rest := []) 8 4 15 21 sr_27 (trivial : CO sc 27 [] 21) (by decide +kernel)
theorem c_27_0 {sc : SC} : CO sc 27 q_27_0 0 := CO_seg (rest := q_27_15) 0 8 0 15 sr_27 c_27_15 (by decide +kernel)
theorem k_ok_27 {sc : SC} : COK sc 27 := ⟨c_27_0, fun t => co_if c_27_15 trivial, rfl⟩
theorem sr_28 : srt (code9 28) 0 = true := by decide +kernel
theorem c_28_15 {sc : SC} : CO sc 28 q_28_15 15 := CO_seg (rest := []) 8 4 15 21 sr_28 (trivial : CO sc 28 [] 21) (by decide +kernel)
theorem c_28_0 {sc : SC} : CO sc 28 q_28_0 0 := CO_seg (rest := q_28_15) 0 8 0 15 sr_28 c_28_15 (by decide +kernel)
theorem k_ok_28 {sc : SC} : COK sc 28 := ⟨c_28_0, fun t => co_if c_28_15 trivial, rfl⟩
theorem sr_29 : srt (code9 29) 0 = true := by decide +kernel
theorem c_29_76 {sc : SC} : CO sc 29 q_29_76 76 := CO_seg (rest := []) 41 2 76 78 sr_29 (trivial : CO sc 29 [] 78) (by decide +kernel)
theorem c_29_70 {sc : SC} : CO sc 29 q_29_70 70 := CO_seg (rest := q_29_76) 39 2 70 76 sr_29 c_29_76 (by decide +kernel)
theorem c_29_29 {sc : SC} : CO sc 29 q_29_29 29 := CO_seg (rest := q_29_70) 16 23 29 70 sr_29 c_29_70 (by decide +kernel)
theorem c_29_27 {sc : SC} : CO sc 29 q_29_27 27 := CO_seg (rest := q_29_29) 14 2 27 29 sr_29 c_29_29 (by decide +kernel)
theorem c_29_25 {sc : SC} : CO sc 29 q_29_25 25 := CO_seg (rest := q_29_27) 12 2 25 27 sr_29 c_29_27 (by decide +kernel)
theorem c_29_0 {sc : SC} : CO sc 29 q_29_0 0 := CO_seg (rest := q_29_25) 0 12 0 25 sr_29 c_29_25 (by decide +kernel)
theorem k_ok_29 {sc : SC} : COK sc 29 := ⟨c_29_0, fun t => co_if c_29_25 (co_if c_29_27 (co_if c_29_29 (co_if c_29_70 (co_if c_29_76 trivial)))), rfl⟩
theorem sr_30 : srt (code9 30) 0 = true := by decide +kernel
theorem c_30_69 {sc : SC} : CO sc 30 q_30_69 69 := CO_seg (rest := []) 40 2 69 71 sr_30 (trivial : CO sc 30 [] 71) (by decide +kernel)
theorem c_30_32 {sc : SC} : CO sc 30 q_30_32 32 := CO_seg (rest := q_30_69) 18 22 32 69 sr_30 c_30_69 (by decide +kernel)
theorem c_30_25 {sc : SC} : CO sc 30 q_30_25 25 := CO_seg (rest := q_30_32) 13 5 25 32 sr_30 c_30_32 (by decide +kernel)
theorem c_30_23 {sc : SC} : CO sc 30 q_30_23 23 := CO_seg (rest := q_30_25) 11 2 23 25 sr_30 c_30_25 (by decide +kernel)
theorem c_30_0 {sc : SC} : CO sc 30 q_30_0 0 := CO_seg (rest := q_30_23) 0 11 0 23 sr_30 c_30_23 (by decide +kernel)
theorem k_ok_30 {sc : SC} : COK sc 30 := ⟨c_30_0, fun t => co_if c_30_23 (co_if c_30_25 (co_if c_30_32 (co_if c_30_69 trivial))), rfl⟩
theorem sr_31 : srt (code9 31) 0 = true := by decide +kernel
theorem c_31_0 {sc : SC} : CO sc 31 q_31_0 0 := CO_seg (rest := []) 0 60 0 116 sr_31 (trivial : CO sc 31 [] 116) (by decide +kernel)
theorem k_ok_31 {sc : SC} : COK sc 31 := ⟨c_31_0, fun t => trivial, rfl⟩
theorem sr_32 : srt (code9 32) 0 = true := by decide +kernel
theorem c_32_0 {sc : SC} : CO sc 32 q_32_0 0 := CO_seg (rest := []) 0 19 0 29 sr_32 (trivial : CO sc 32 [] 29) (by decide +kernel)
theorem k_ok_32 {sc : SC} : COK sc 32 := ⟨c_32_0, fun t => trivial, rfl⟩
theorem sr_33 : srt (code9 33) 0 = true := by decide +kernel
theorem c_33_11 {sc : SC} : CO sc 33 q_33_11 11 := CO_seg (rest := []) 6 68 11 123 sr_33 (trivial : CO sc 33 [] 123) (by decide +kernel)
theorem c_33_0 {sc : SC} : CO sc 33 q_33_0 0 := CO_seg (rest := q_33_11) 0 6 0 11 sr_33 c_33_11 (by decide +kernel)
theorem k_ok_33 {sc : SC} : COK sc 33 := ⟨c_33_0, fun t => co_if c_33_11 trivial, rfl⟩
theorem sr_34 : srt (code9 34) 0 = true := by decide +kernel
theorem c_34_34 {sc : SC} : CO sc 34 q_34_34 34 := CO_seg (rest := []) 20 1 34 35 sr_34 (trivial : CO sc 34 [] 35) (by decide +kernel)
theorem c_34_12 {sc : SC} : CO sc 34 q_34_12 12 := CO_seg (rest := q_34_34) 8 12 12 34 sr_34 c_34_34 (by decide +kernel)
theorem c_34_0 {sc : SC} : CO sc 34 q_34_0 0 := CO_seg (rest := q_34_12) 0 8 0 12 sr_34 c_34_12 (by decide +kernel)
theorem k_ok_34 {sc : SC} : COK sc 34 := ⟨c_34_0, fun t => co_if c_34_12 (co_if c_34_34 trivial), rfl⟩
theorem sr_35 : srt (code9 35) 0 = true := by decide +kernel
theorem c_35_0 {sc : SC} : CO sc 35 q_35_0 0 := CO_seg (rest := []) 0 81 0 121 sr_35 (trivial : CO sc 35 [] 121) (by decide +kernel)
theorem k_ok_35 {sc : SC} : COK sc 35 := ⟨c_35_0, fun t => trivial, rfl⟩
theorem sr_36 : srt (code9 36) 0 = true := by decide +kernel
theorem c_36_0 {sc : SC} : CO sc 36 q_36_0 0 := CO_seg (rest := []) 0 9 0 15 sr_36 (trivial : CO sc 36 [] 15) (by decide +kernel)
theorem k_ok_36 {sc : SC} : COK sc 36 := ⟨c_36_0, fun t => trivial, rfl⟩
theorem sr_37 : srt (code9 37) 0 = true := by decide +kernel
theorem c_37_28 {sc : SC} : CO sc 37 q_37_28 28 := CO_seg (rest := []) 16 2 28 30 sr_37 (trivial : CO sc 37 [] 30) (by decide +kernel)
theorem c_37_22 {sc : SC} : CO sc 37 q_37_22 22 := CO_seg (rest := q_37_28) 14 2 22 28 sr_37 c_37_28 (by decide +kernel)
theorem c_37_2 {sc : SC} : CO sc 37 q_37_2 2 := CO_seg (rest := q_37_22) 2 12 2 22 sr_37 c_37_22 (by decide +kernel)
theorem c_37_0 {sc : SC} : CO sc 37 q_37_0 0 := CO_seg (rest := q_37_2) 0 2 0 2 sr_37 c_37_2 (by decide +kernel)
theorem k_ok_37 {sc : SC} : COK sc 37 := ⟨c_37_0, fun t => co_if c_37_2 (co_if c_37_22 (co_if c_37_28 trivial)), rfl⟩
theorem sr_38 : srt (code9 38) 0 = true := by decide +kernel
theorem c_38_43 {sc : SC} : CO sc 38 q_38_43 43 := CO_seg (rest := []) 25 2 43 45 sr_38 (trivial : CO sc 38 [] 45) (by decide +kernel)
theorem c_38_37 {sc : SC} : CO sc 38 q_38_37 37 := CO_seg (rest := q_38_43) 23 2 37 43 sr_38 c_38_43 (by decide +kernel)
theorem c_38_2 {sc : SC} : CO sc 38 q_38_2 2 := CO_seg (rest := q_38_37) 2 21 2 37 sr_38 c_38_37 (by decide +kernel)
theorem c_38_0 {sc : SC} : CO sc 38 q_38_0 0 := CO_seg (rest := q_38_2) 0 2 0 2 sr_38 c_38_2 (by decide +kernel)
theorem k_ok_38 {sc : SC} : COK sc 38 := ⟨c_38_0, fun t => co_if c_38_2 (co_if c_38_37 (co_if c_38_43 trivial)), rfl⟩
theorem sr_39 : srt (code9 39) 0 = true := by decide +kernel
theorem c_39_23 {sc : SC} : CO sc 39 q_39_23 23 := CO_seg (rest := []) 13 1 23 24 sr_39 (trivial : CO sc 39 [] 24) (by decide +kernel)
theorem c_39_13 {sc : SC} : CO sc 39 q_39_13 13 := CO_seg (rest := q_39_23) 7 6 13 23 sr_39 c_39_23 (by decide +kernel)
theorem c_39_0 {sc : SC} : CO sc 39 q_39_0 0 := CO_seg (rest := q_39_13) 0 7 0 13 sr_39 c_39_13 (by decide +kernel)
theorem k_ok_39 {sc : SC} : COK sc 39 := ⟨c_39_0, fun t => co_if c_39_13 (co_if c_39_23 trivial), rfl⟩
theorem sr_40 : srt (code9 40) 0 = true := by decide +kernel
theorem c_40_33 {sc : SC} : CO sc 40 q_40_33 33 := CO_seg (rest := []) 19 2 33 35 sr_40 (trivial : CO sc 40 [] 35) (by decide +kernel)
theorem c_40_27 {sc : SC} : CO sc 40 q_40_27 27 := CO_seg (rest := q_40_33) 17 2 27 33 sr_40 c_40_33 (by decide +kernel)
theorem c_40_2 {sc : SC} : CO sc 40 q_40_2 2 := CO_seg (rest := q_40_27) 2 15 2 27 sr_40 c_40_27 (by decide +kernel)
theorem c_40_0 {sc : SC} : CO sc 40 q_40_0 0 := CO_seg (rest := q_40_2) 0 2 0 2 sr_40 c_40_2 (by decide +kernel)
theorem k_ok_40 {sc : SC} : COK sc 40 := ⟨c_40_0, fun t => co_if c_40_2 (co_if c_40_27 (co_if c_40_33 trivial)), rfl⟩
theorem sr_41 : srt (code9 41) 0 = true := by decide +kernel
theorem c_41_37 {sc : SC} : CO sc 41 q_41_37 37 := CO_seg (rest := []) 21 2 37 39 sr_41 (trivial : CO sc 41 [] 39) (by decide +kernel)
theorem c_41_31 {sc : SC} : CO sc 41 q_41_31 31 := CO_seg (rest := q_41_37) 19 2 31 37 sr_41 c_41_37 (by decide +kernel)
theorem c_41_2 {sc : SC} : CO sc 41 q_41_2 2 := CO_seg (rest := q_41_31) 2 17 2 31 sr_41 c_41_31 (by decide +kernel)
theorem c_41_0 {sc : SC} : CO sc 41 q_41_0 0 := CO_seg (rest := q_41_2) 0 2 0 2 sr_41 c_41_2 (by decide +kernel)
theorem k_ok_41 {sc : SC} : COK sc 41 := ⟨c_41_0, fun t => co_if c_41_2 (co_if c_41_31 (co_if c_41_37 trivial)), rfl⟩
theorem sr_42 : srt (code9 42) 0 = true := by decide +kernel
theorem c_42_70 {sc : SC} : CO sc 42 q_42_70 70 := CO_seg (rest := []) 39 2 70 72 sr_42 (trivial : CO sc 42 [] 72) (by decide +kernel)
theorem c_42_49 {sc : SC} : CO sc 42 q_42_49 49 := CO_seg (rest := q_42_70) 28 11 49 70 sr_42 c_42_70 (by decide +kernel)
theorem c_42_26 {sc : SC} : CO sc 42 q_42_26 26 := CO_seg (rest := q_42_49) 15 13 26 49 sr_42 c_42_49 (by decide +kernel)
theorem c_42_22 {sc : SC} : CO sc 42 q_42_22 22 := CO_seg (rest := q_42_26) 12 3 22 26 sr_42 c_42_26 (by decide +kernel)
theorem c_42_21 {sc : SC} : CO sc 42 q_42_21 21 := CO_seg (rest := q_42_22) 11 1 21 22 sr_42 c_42_22 (by decide +kernel)
theorem c_42_0 {sc : SC} : CO sc 42 q_42_0 0 := CO_seg (rest := q_42_21) 0 11 0 21 sr_42 c_42_21 (by decide +kernel)
theorem k_ok_42 {sc : SC} : COK sc 42 := ⟨c_42_0, fun t => co_if c_42_21 (co_if c_42_22 (co_if c_42_26 (co_if c_42_49 (co_if c_42_70 trivial)))), rfl⟩
theorem sr_43 : srt (code9 43) 0 = true := by decide +kernel
theorem c_43_107 {sc : SC} : CO sc 43 q_43_107 107 := CO_seg (rest := []) 35 3 107 112 sr_43 (trivial : CO sc 43 [] 112) (by decide +kernel)
theorem c_43_102 {sc : SC} : CO sc 43 q_43_102 102 := CO_seg (rest := q_43_107) 32 3 102 107 sr_43 c_43_107 (by decide +kernel)
theorem c_43_93 {sc : SC} : CO sc 43 q_43_93 93 := CO_seg (rest := q_43_102) 27 5 93 102 sr_43 c_43_102 (by decide +kernel)
theorem c_43_84 {sc : SC} : CO sc 43 q_43_84 84 := CO_seg (rest := q_43_93) 22 5 84 93 sr_43 c_43_93 (by decide +kernel)
theorem c_43_75 {sc : SC} : CO sc 43 q_43_75 75 := CO_seg (rest := q_43_84) 17 5 75 84 sr_43 c_43_84 (by decide +kernel)
theorem c_43_66 {sc : SC} : CO sc 43 q_43_66 66 := CO_seg (rest := q_43_75) 12 5 66 75 sr_43 c_43_75 (by decide +kernel)
theorem c_43_61 {sc : SC} : CO sc 43 q_43_61 61 := CO_seg (rest := q_43_66) 9 3 61 66 sr_43 c_43_66 (by decide +kernel)
theorem c_43_56 {sc : SC} : CO sc 43 q_43_56 56 := CO_seg (rest := q_43_61) 6 3 56 61 sr_43 c_43_61 (by decide +kernel)
theorem c_43_48 {sc : SC} : CO sc 43 q_43_48 48 := CO_seg (rest := q_43_56) 2 4 48 56 sr_43 c_43_56 (by decide +kernel)
theorem c_43_0 {sc : SC} : CO sc 43 q_43_0 0 := CO_seg (rest := q_43_48) 0 2 0 48 sr_43 c_43_48 (by decide +kernel)
theorem k_ok_43 {sc : SC} : COK sc 43 := ⟨c_43_0, fun t => co_if c_43_48 (co_if c_43_56 (co_if c_43_61 (co_if c_43_66 (co_if c_43_75 (co_if c_43_84 (co_if c_43_93 (co_if c_43_102 (co_if c_43_107 trivial)))))))), rfl⟩
