/-! THE CODES of the fast machine are the codes (written by wip/p28/mk2a.py) -/
theorem sr_88 : srt (code9 88) 0 = true := by decide +kernel
theorem c_88_25 {sc : SC} : CO sc 88 q_88_25 25 := CO_seg (rest := []) 12 6 25 35 sr_88 (trivial : CO sc 88 [] 35) (by decide +kernel)
theorem c_88_15 {sc : SC} : CO sc 88 q_88_15 15 := CO_seg (rest := q_88_25) 7 5 15 25 sr_88 c_88_25 (by decide +kernel)
theorem c_88_0 {sc : SC} : CO sc 88 q_88_0 0 := CO_seg (rest := q_88_15) 0 7 0 15 sr_88 c_88_15 (by decide +kernel)
theorem k_ok_88 {sc : SC} : COK sc 88 := ⟨c_88_0, fun t => co_if c_88_15 (co_if c_88_25 trivial), rfl⟩
theorem sr_89 : srt (code9 89) 0 = true := by decide +kernel
theorem c_89_32 {sc : SC} : CO sc 89 q_89_32 32 := CO_seg (rest := []) 18 1 32 33 sr_89 (trivial : CO sc 89 [] 33) (by decide +kernel)
theorem c_89_23 {sc : SC} : CO sc 89 q_89_23 23 := CO_seg (rest := q_89_32) 13 5 23 32 sr_89 c_89_32 (by decide +kernel)
theorem c_89_0 {sc : SC} : CO sc 89 q_89_0 0 := CO_seg (rest := q_89_23) 0 13 0 23 sr_89 c_89_23 (by decide +kernel)
theorem k_ok_89 {sc : SC} : COK sc 89 := ⟨c_89_0, fun t => co_if c_89_23 (co_if c_89_32 trivial), rfl⟩
theorem sr_90 : srt (code9 90) 0 = true := by decide +kernel
theorem c_90_25 {sc : SC} : CO sc 90 q_90_25 25 := CO_seg (rest := []) 12 1 25 26 sr_90 (trivial : CO sc 90 [] 26) (by decide +kernel)
theorem c_90_15 {sc : SC} : CO sc 90 q_90_15 15 := CO_seg (rest := q_90_25) 7 5 15 25 sr_90 c_90_25 (by decide +kernel)
theorem c_90_0 {sc : SC} : CO sc 90 q_90_0 0 := CO_seg (rest := q_90_15) 0 7 0 15 sr_90 c_90_15 (by decide +kernel)
theorem k_ok_90 {sc : SC} : COK sc 90 := ⟨c_90_0, fun t => co_if c_90_15 (co_if c_90_25 trivial), rfl⟩
theorem sr_91 : srt (code9 91) 0 = true := by decide +kernel
theorem c_91_0 {sc : SC} : CO sc 91 q_91_0 0 := CO_seg (rest := []) 0 10 0 20 sr_91 (trivial : CO sc 91 [] 20) (by decide +kernel)
theorem k_ok_91 {sc : SC} : COK sc 91 := ⟨c_91_0, fun t => trivial, rfl⟩
theorem sr_92 : srt (code9 92) 0 = true := by decide +kernel
theorem c_92_35 {sc : SC} : CO sc 92 q_92_35 35 := CO_seg (rest := []) 21 1 35 36 sr_92 (trivial : CO sc 92 [] 36) (by decide +kernel)
theorem c_92_34 {sc : SC} : CO sc 92 q_92_34 34 := CO_seg (rest := q_92_35) 20 1 34 35 sr_92 c_92_35 (by decide +kernel)
theorem c_92_0 {sc : SC} : CO sc 92 q_92_0 0 := CO_seg (rest := q_92_34) 0 20 0 34 sr_92 c_92_34 (by decide +kernel)
theorem k_ok_92 {sc : SC} : COK sc 92 := ⟨c_92_0, fun t => co_if c_92_34 (co_if c_92_35 trivial), rfl⟩
theorem sr_93 : srt (code9 93) 0 = true := by decide +kernel
theorem c_93_0 {sc : SC} : CO sc 93 q_93_0 0 := CO_seg (rest := []) 0 20 0 36 sr_93 (trivial : CO sc 93 [] 36) (by decide +kernel)
theorem k_ok_93 {sc : SC} : COK sc 93 := ⟨c_93_0, fun t => trivial, rfl⟩
theorem sr_94 : srt (code9 94) 0 = true := by decide +kernel
theorem c_94_0 {sc : SC} : CO sc 94 q_94_0 0 := CO_seg (rest := []) 0 14 0 26 sr_94 (trivial : CO sc 94 [] 26) (by decide +kernel)
theorem k_ok_94 {sc : SC} : COK sc 94 := ⟨c_94_0, fun t => trivial, rfl⟩
theorem sr_95 : srt (code9 95) 0 = true := by decide +kernel
theorem c_95_0 {sc : SC} : CO sc 95 q_95_0 0 := CO_seg (rest := []) 0 14 0 26 sr_95 (trivial : CO sc 95 [] 26) (by decide +kernel)
theorem k_ok_95 {sc : SC} : COK sc 95 := ⟨c_95_0, fun t => trivial, rfl⟩
theorem sr_96 : srt (code9 96) 0 = true := by decide +kernel
theorem c_96_13 {sc : SC} : CO sc 96 q_96_13 13 := CO_seg (rest := []) 9 1 13 14 sr_96 (trivial : CO sc 96 [] 14) (by decide +kernel)
theorem c_96_12 {sc : SC} : CO sc 96 q_96_12 12 := CO_seg (rest := q_96_13) 8 1 12 13 sr_96 c_96_13 (by decide +kernel)
theorem c_96_0 {sc : SC} : CO sc 96 q_96_0 0 := CO_seg (rest := q_96_12) 0 8 0 12 sr_96 c_96_12 (by decide +kernel)
theorem k_ok_96 {sc : SC} : COK sc 96 := ⟨c_96_0, fun t => co_if c_96_12 (co_if c_96_13 trivial), rfl⟩
theorem sr_97 : srt (code9 97) 0 = true := by decide +kernel
theorem c_97_0 {sc : SC} : CO sc 97 q_97_0 0 := CO_seg (rest := []) 0 6 0 7 sr_97 (trivial : CO sc 97 [] 7) (by decide +kernel)
theorem k_ok_97 {sc : SC} : COK sc 97 := ⟨c_97_0, fun t => trivial, rfl⟩
theorem sr_98 : srt (code9 98) 0 = true := by decide +kernel
theorem c_98_101 {sc : SC} : CO sc 98 q_98_101 101 := CO_seg (rest := []) 64 5 101 110 sr_98 (trivial : CO sc 98 [] 110) (by decide +kernel)
theorem c_98_95 {sc : SC} : CO sc 98 q_98_95 95 := CO_seg (rest := q_98_101) 62 2 95 101 sr_98 c_98_101 (by decide +kernel)
theorem c_98_70 {sc : SC} : CO sc 98 q_98_70 70 := CO_seg (rest := q_98_95) 42 20 70 95 sr_98 c_98_95 (by decide +kernel)
theorem c_98_62 {sc : SC} : CO sc 98 q_98_62 62 := CO_seg (rest := q_98_70) 38 4 62 70 sr_98 c_98_70 (by decide +kernel)
theorem c_98_60 {sc : SC} : CO sc 98 q_98_60 60 := CO_seg (rest := q_98_62) 37 1 60 62 sr_98 c_98_62 (by decide +kernel)
theorem c_98_17 {sc : SC} : CO sc 98 q_98_17 17 := CO_seg (rest := q_98_60) 11 26 17 60 sr_98 c_98_60 (by decide +kernel)
theorem c_98_2 {sc : SC} : CO sc 98 q_98_2 2 := CO_seg (rest := q_98_17) 2 9 2 17 sr_98 c_98_17 (by decide +kernel)
theorem c_98_0 {sc : SC} : CO sc 98 q_98_0 0 := CO_seg (rest := q_98_2) 0 2 0 2 sr_98 c_98_2 (by decide +kernel)
theorem k_ok_98 {sc : SC} : COK sc 98 := ⟨c_98_0, fun t => co_if c_98_2 (co_if c_98_17 (co_if c_98_60 (co_if c_98_62 (co_if c_98_70 (co_if c_98_95 (co_if c_98_101 trivial)))))), rfl⟩
theorem sr_99 : srt (code9 99) 0 = true := by decide +kernel
theorem c_99_41 {sc : SC} : CO sc 99 q_99_41 41 := CO_seg (rest := []) 25 2 41 43 sr_99 (trivial : CO sc 99 [] 43) (by decide +kernel)
theorem c_99_33 {sc : SC} : CO sc 99 q_99_33 33 := CO_seg (rest := q_99_41) 21 4 33 41 sr_99 c_99_41 (by decide +kernel)
theorem c_99_32 {sc : SC} : CO sc 99 q_99_32 32 := CO_seg (rest := q_99_33) 20 1 32 33 sr_99 c_99_33 (by decide +kernel)
theorem c_99_4 {sc : SC} : CO sc 99 q_99_4 4 := CO_seg (rest := q_99_32) 4 16 4 32 sr_99 c_99_32 (by decide +kernel)
theorem c_99_0 {sc : SC} : CO sc 99 q_99_0 0 := CO_seg (rest := q_99_4) 0 4 0 4 sr_99 c_99_4 (by decide +kernel)
theorem k_ok_99 {sc : SC} : COK sc 99 := ⟨c_99_0, fun t => co_if c_99_4 (co_if c_99_32 (co_if c_99_33 (co_if c_99_41 trivial))), rfl⟩
theorem sr_100 : srt (code9 100) 0 = true := by decide +kernel
theorem c_100_186 {sc : SC} : CO sc 100 q_100_186 186 := CO_seg (rest := []) 96 2 186 188 sr_100 (trivial : CO sc 100 [] 188) (by decide +kernel)
theorem c_100_180 {sc : SC} : CO sc 100 q_100_180 180 := CO_seg (rest := q_100_186) 94 2 180 186 sr_100 c_100_186 (by decide +kernel)
theorem c_100_178 {sc : SC} : CO sc 100 q_100_178 178 := CO_seg (rest := q_100_180) 92 2 178 180 sr_100 c_100_180 (by decide +kernel)
theorem c_100_175 {sc : SC} : CO sc 100 q_100_175 175 := CO_seg (rest := q_100_178) 91 1 175 178 sr_100 c_100_178 (by decide +kernel)
theorem c_100_174 {sc : SC} : CO sc 100 q_100_174 174 := CO_seg (rest := q_100_175) 90 1 174 175 sr_100 c_100_175 (by decide +kernel)
theorem c_100_154 {sc : SC} : CO sc 100 q_100_154 154 := CO_seg (rest := q_100_174) 81 9 154 174 sr_100 c_100_174 (by decide +kernel)
theorem c_100_153 {sc : SC} : CO sc 100 q_100_153 153 := CO_seg (rest := q_100_154) 80 1 153 154 sr_100 c_100_154 (by decide +kernel)
theorem c_100_135 {sc : SC} : CO sc 100 q_100_135 135 := CO_seg (rest := q_100_153) 71 9 135 153 sr_100 c_100_153 (by decide +kernel)
theorem c_100_134 {sc : SC} : CO sc 100 q_100_134 134 := CO_seg (rest := q_100_135) 70 1 134 135 sr_100 c_100_135 (by decide +kernel)
theorem c_100_120 {sc : SC} : CO sc 100 q_100_120 120 := CO_seg (rest := q_100_134) 63 7 120 134 sr_100 c_100_134 (by decide +kernel)
theorem c_100_118 {sc : SC} : CO sc 100 q_100_118 118 := CO_seg (rest := q_100_120) 61 2 118 120 sr_100 c_100_120 (by decide +kernel)
theorem c_100_32 {sc : SC} : CO sc 100 q_100_32 32 := CO_seg (rest := q_100_118) 18 43 32 118 sr_100 c_100_118 (by decide +kernel)
theorem c_100_2 {sc : SC} : CO sc 100 q_100_2 2 := CO_seg (rest := q_100_32) 2 16 2 32 sr_100 c_100_32 (by decide +kernel)
theorem c_100_0 {sc : SC} : CO sc 100 q_100_0 0 := CO_seg (rest := q_100_2) 0 2 0 2 sr_100 c_100_2 (by decide +kernel)
theorem k_ok_100 {sc : SC} : COK sc 100 := ⟨c_100_0, fun t => co_if c_100_2 (co_if c_100_32 (co_if c_100_118 (co_if c_100_120 (co_if c_100_134 (co_if c_100_135 (co_if c_100_153 (co_if c_100_154 (co_if c_100_174 (co_if c_100_175 (co_if c_100_178 (co_if c_100_180 (co_if c_100_186 trivial)))))))))))), rfl⟩
theorem sr_101 : srt (code9 101) 0 = true := by decide +kernel
theorem c_101_53 {sc : SC} : CO sc 101 q_101_53 53 := CO_seg (rest := []) 28 6 53 63 sr_101 (trivial : CO sc 101 [] 63) (by decide +kernel)
theorem c_101_49 {sc : SC} : CO sc 101 q_101_49 49 := CO_seg (rest := q_101_53) 26 2 49 53 sr_101 c_101_53 (by decide +kernel)
theorem c_101_24 {sc : SC} : CO sc 101 q_101_24 24 := CO_seg (rest := q_101_49) 13 13 24 49 sr_101 c_101_49 (by decide +kernel)
theorem c_101_22 {sc : SC} : CO sc 101 q_101_22 22 := CO_seg (rest := q_101_24) 12 1 22 24 sr_101 c_101_24 (by decide +kernel)
theorem c_101_0 {sc : SC} : CO sc 101 q_101_0 0 := CO_seg (rest := q_101_22) 0 12 0 22 sr_101 c_101_22 (by decide +kernel)
theorem k_ok_101 {sc : SC} : COK sc 101 := ⟨c_101_0, fun t => co_if c_101_22 (co_if c_101_24 (co_if c_101_49 (co_if c_101_53 trivial))), rfl⟩
theorem sr_102 : srt (code9 102) 0 = true := by decide +kernel
theorem c_102_0 {sc : SC} : CO sc 102 q_102_0 0 := CO_seg (rest := []) 0 3 0 5 sr_102 (trivial : CO sc 102 [] 5) (by decide +kernel)
theorem k_ok_102 {sc : SC} : COK sc 102 := ⟨c_102_0, fun t => trivial, rfl⟩
theorem sr_103 : srt (code9 103) 0 = true := by decide +kernel
theorem c_103_38 {sc : SC} : CO sc 103 q_103_38 38 := CO_seg (rest := []) 22 1 38 39 sr_103 (trivial : CO sc 103 [] 39) (by decide +kernel)
theorem c_103_0 {sc : SC} : CO sc 103 q_103_0 0 := CO_seg (rest := q_103_38) 0 22 0 38 sr_103 c_103_38 (by decide +kernel)
theorem k_ok_103 {sc : SC} : COK sc 103 := ⟨c_103_0, fun t => co_if c_103_38 trivial, rfl⟩
theorem sr_104 : srt (code9 104) 0 = true := by decide +kernel
theorem c_104_51 {sc : SC} : CO sc 104 q_104_51 51 := CO_seg (rest := []) 31 5 51 59 sr_104 (trivial : CO sc 104 [] 59) (by decide +kernel)
theorem c_104_0 {sc : SC} : CO sc 104 q_104_0 0 := CO_seg (rest := q_104_51) 0 31 0 51 sr_104 c_104_51 (by decide +kernel)
theorem k_ok_104 {sc : SC} : COK sc 104 := ⟨c_104_0, fun t => co_if c_104_51 trivial, rfl⟩
theorem sr_105 : srt (code9 105) 0 = true := by decide +kernel
theorem c_105_9 {sc : SC} : CO sc 105 q_105_9 9 := CO_seg (rest := []) 5 22 9 45 sr_105 (trivial : CO sc 105 [] 45) (by decide +kernel)
theorem c_105_0 {sc : SC} : CO sc 105 q_105_0 0 := CO_seg (rest := q_105_9) 0 5 0 9 sr_105 c_105_9 (by decide +kernel)
theorem k_ok_105 {sc : SC} : COK sc 105 := ⟨c_105_0, fun t => co_if c_105_9 trivial, rfl⟩
theorem sr_106 : srt (code9 106) 0 = true := by decide +kernel
theorem c_106_75 {sc : SC} : CO sc 106 q_106_75 75 := CO_seg (rest := []) 41 2 75 77 sr_106 (trivial : CO sc 106 [] 77) (by decide +kernel)
theorem c_106_56 {sc : SC} : CO sc 106 q_106_56 56 := CO_seg (rest := q_106_75) 30 11 56 75 sr_106 c_106_75 (by decide +kernel)
theorem c_106_45 {sc : SC} : CO sc 106 q_106_45 45 := CO_seg (rest := q_106_56) 25 5 45 56 sr_106 c_106_56 (by decide +kernel)
theorem c_106_0 {sc : SC} : CO sc 106 q_106_0 0 := CO_seg (rest := q_106_45) 0 25 0 45 sr_106 c_106_45 (by decide +kernel)
theorem k_ok_106 {sc : SC} : COK sc 106 := ⟨c_106_0, fun t => co_if c_106_45 (co_if c_106_56 (co_if c_106_75 trivial)), rfl⟩
theorem sr_107 : srt (code9 107) 0 = true := by decide +kernel
theorem c_107_0 {sc : SC} : CO sc 107 q_107_0 0 := CO_seg (rest := []) 0 3 0 5 sr_107 (trivial : CO sc 107 [] 5) (by decide +kernel)
theorem k_ok_107 {sc : SC} : COK sc 107 := ⟨c_107_0, fun t => trivial, rfl⟩
theorem sr_108 : srt (code9 108) 0 = true := by decide +kernel
theorem c_108_18 {sc : SC} : CO sc 108 q_108_18 18 := CO_seg (rest := []) 8 1 18 19 sr_108 (trivial : CO sc 108 [] 19) (by decide +kernel)
theorem c_108_17 {sc : SC} : CO sc 108 q_108_17 17 := CO_seg (rest := q_108_18) 7 1 17 18 sr_108 c_108_18 (by decide +kernel)
theorem c_108_0 {sc : SC} : CO sc 108 q_108_0 0 := CO_seg (rest := q_108_17) 0 7 0 17 sr_108 c_108_17 (by decide +kernel)
theorem k_ok_108 {sc : SC} : COK sc 108 := ⟨c_108_0, fun t => co_if c_108_17 (co_if c_108_18 trivial), rfl⟩
theorem sr_109 : srt (code9 109) 0 = true := by decide +kernel
theorem c_109_21 {sc : SC} : CO sc 109 q_109_21 21 := CO_seg (rest := []) 9 1 21 22 sr_109 (trivial : CO sc 109 [] 22) (by decide +kernel)
theorem c_109_0 {sc : SC} : CO sc 109 q_109_0 0 := CO_seg (rest := q_109_21) 0 9 0 21 sr_109 c_109_21 (by decide +kernel)
theorem k_ok_109 {sc : SC} : COK sc 109 := ⟨c_109_0, fun t => co_if c_109_21 trivial, rfl⟩
theorem sr_110 : srt (code9 110) 0 = true := by decide +kernel
theorem c_110_0 {sc : SC} : CO sc 110 q_110_0 0 := CO_seg (rest := []) 0 11 0 19 sr_110 (trivial : CO sc 110 [] 19) (by decide +kernel)
theorem k_ok_110 {sc : SC} : COK sc 110 := ⟨c_110_0, fun t => trivial, rfl⟩
theorem sr_111 : srt (code9 111) 0 = true := by decide +kernel
theorem c_111_0 {sc : SC} : CO sc 111 q_111_0 0 := CO_seg (rest := []) 0 5 0 7 sr_111 (trivial : CO sc 111 [] 7) (by decide +kernel)
theorem k_ok_111 {sc : SC} : COK sc 111 := ⟨c_111_0, fun t => trivial, rfl⟩
theorem sr_112 : srt (code9 112) 0 = true := by decide +kernel
theorem c_112_0 {sc : SC} : CO sc 112 q_112_0 0 := CO_seg (rest := []) 0 7 0 11 sr_112 (trivial : CO sc 112 [] 11) (by decide +kernel)
theorem k_ok_112 {sc : SC} : COK sc 112 := ⟨c_112_0, fun t => trivial, rfl⟩
theorem sr_113 : srt (code9 113) 0 = true := by decide +kernel
theorem c_113_16 {sc : SC} : CO sc 113 q_113_16 16 := CO_seg (rest := []) 8 5 16 25 sr_113 (trivial : CO sc 113 [] 25) (by decide +kernel)
theorem c_113_0 {sc : SC} : CO sc 113 q_113_0 0 := CO_seg (rest := q_113_16) 0 8 0 16 sr_113 c_113_16 (by decide +kernel)
theorem k_ok_113 {sc : SC} : COK sc 113 := ⟨c_113_0, fun t => co_if c_113_16 trivial, rfl⟩
theorem sr_114 : srt (code9 114) 0 = true := by decide +kernel
theorem c_114_97 {sc : SC} : CO sc 114 q_114_97 97 := CO_seg (rest := []) 50 1 97 98 sr_114 (trivial : CO sc 114 [] 98) (by decide +kernel)
theorem c_114_79 {sc : SC} : CO sc 114 q_114_79 79 := CO_seg (rest := q_114_97) 39 11 79 97 sr_114 c_114_97 (by decide +kernel)
theorem c_114_41 {sc : SC} : CO sc 114 q_114_41 41 := CO_seg (rest := q_114_79) 21 18 41 79 sr_114 c_114_79 (by decide +kernel)
theorem c_114_0 {sc : SC} : CO sc 114 q_114_0 0 := CO_seg (rest := q_114_41) 0 21 0 41 sr_114 c_114_41 (by decide +kernel)
theorem k_ok_114 {sc : SC} : COK sc 114 := ⟨c_114_0, fun t => co_if c_114_41 (co_if c_114_79 (co_if c_114_97 trivial)), rfl⟩
theorem sr_115 : srt (code9 115) 0 = true := by decide +kernel
theorem c_115_14 {sc : SC} : CO sc 115 q_115_14 14 := CO_seg (rest := []) 6 1 14 15 sr_115 (trivial : CO sc 115 [] 15) (by decide +kernel)
theorem c_115_13 {sc : SC} : CO sc 115 q_115_13 13 := CO_seg (rest := q_115_14) 5 1 13 14 sr_115 c_115_14 (by decide +kernel)
theorem c_115_0 {sc : SC} : CO sc 115 q_115_0 0 := CO_seg (rest := q_115_13) 0 5 0 13 sr_115 c_115_13 (by decide +kernel)
theorem k_ok_115 {sc : SC} : COK sc 115 := ⟨c_115_0, fun t => co_if c_115_13 (co_if c_115_14 trivial), rfl⟩
theorem sr_116 : srt (code9 116) 0 = true := by decide +kernel
theorem c_116_18 {sc : SC} : CO sc 116 q_116_18 18 := CO_seg (rest := []) 8 1 18 19 sr_116 (trivial : CO sc 116 [] 19) (by decide +kernel)
theorem c_116_17 {sc : SC} : CO sc 116 q_116_17 17 := CO_seg (rest := q_116_18) 7 1 17 18 sr_116 c_116_18 (by decide +kernel)
theorem c_116_0 {sc : SC} : CO sc 116 q_116_0 0 := CO_seg (rest := q_116_17) 0 7 0 17 sr_116 c_116_17 (by decide +kernel)
theorem k_ok_116 {sc : SC} : COK sc 116 := ⟨c_116_0, fun t => co_if c_116_17 (co_if c_116_18 trivial), rfl⟩
theorem sr_117 : srt (code9 117) 0 = true := by decide +kernel
theorem c_117_0 {sc : SC} : CO sc 117 q_117_0 0 := CO_seg (rest := []) 0 4 0 6 sr_117 (trivial : CO sc 117 [] 6) (by decide +kernel)
theorem k_ok_117 {sc : SC} : COK sc 117 := ⟨c_117_0, fun t => trivial, rfl⟩
theorem sr_118 : srt (code9 118) 0 = true := by decide +kernel
theorem c_118_0 {sc : SC} : CO sc 118 q_118_0 0 := CO_seg (rest := []) 0 6 0 8 sr_118 (trivial : CO sc 118 [] 8) (by decide +kernel)
theorem k_ok_118 {sc : SC} : COK sc 118 := ⟨c_118_0, fun t => trivial, rfl⟩
theorem sr_119 : srt (code9 119) 0 = true := by decide +kernel
theorem c_119_0 {sc : SC} : CO sc 119 q_119_0 0 := CO_seg (rest := []) 0 6 0 8 sr_119 (trivial : CO sc 119 [] 8) (by decide +kernel)
theorem k_ok_119 {sc : SC} : COK sc 119 := ⟨c_119_0, fun t => trivial, rfl⟩
theorem sr_120 : srt (code9 120) 0 = true := by decide +kernel
theorem c_120_0 {sc : SC} : CO sc 120 q_120_0 0 := CO_seg (rest := []) 0 5 0 9 sr_120 (trivial : CO sc 120 [] 9) (by decide +kernel)
theorem k_ok_120 {sc : SC} : COK sc 120 := ⟨c_120_0, fun t => trivial, rfl⟩
theorem sr_121 : srt (code9 121) 0 = true := by decide +kernel
theorem c_121_0 {sc : SC} : CO sc 121 q_121_0 0 := CO_seg (rest := []) 0 4 0 6 sr_121 (trivial : CO sc 121 [] 6) (by decide +kernel)
theorem k_ok_121 {sc : SC} : COK sc 121 := ⟨c_121_0, fun t => trivial, rfl⟩
theorem sr_122 : srt (code9 122) 0 = true := by decide +kernel
theorem c_122_0 {sc : SC} : CO sc 122 q_122_0 0 := CO_seg (rest := []) 0 3 0 5 sr_122 (trivial : CO sc 122 [] 5) (by decide +kernel)
theorem k_ok_122 {sc : SC} : COK sc 122 := ⟨c_122_0, fun t => trivial, rfl⟩
theorem sr_123 : srt (code9 123) 0 = true := by decide +kernel
theorem c_123_0 {sc : SC} : CO sc 123 q_123_0 0 := CO_seg (rest := []) 0 11 0 15 sr_123 (trivial : CO sc 123 [] 15) (by decide +kernel)
theorem k_ok_123 {sc : SC} : COK sc 123 := ⟨c_123_0, fun t => trivial, rfl⟩
theorem sr_124 : srt (code9 124) 0 = true := by decide +kernel
theorem c_124_12 {sc : SC} : CO sc 124 q_124_12 12 := CO_seg (rest := []) 6 1 12 13 sr_124 (trivial : CO sc 124 [] 13) (by decide +kernel)
theorem c_124_11 {sc : SC} : CO sc 124 q_124_11 11 := CO_seg (rest := q_124_12) 5 1 11 12 sr_124 c_124_12 (by decide +kernel)
theorem c_124_0 {sc : SC} : CO sc 124 q_124_0 0 := CO_seg (rest := q_124_11) 0 5 0 11 sr_124 c_124_11 (by decide +kernel)
theorem k_ok_124 {sc : SC} : COK sc 124 := ⟨c_124_0, fun t => co_if c_124_11 (co_if c_124_12 trivial), rfl⟩
theorem sr_125 : srt (code9 125) 0 = true := by decide +kernel
theorem c_125_14 {sc : SC} : CO sc 125 q_125_14 14 := CO_seg (rest := []) 8 14 14 33 sr_125 (trivial : CO sc 125 [] 33) (by decide +kernel)
theorem c_125_0 {sc : SC} : CO sc 125 q_125_0 0 := CO_seg (rest := q_125_14) 0 8 0 14 sr_125 c_125_14 (by decide +kernel)
theorem k_ok_125 {sc : SC} : COK sc 125 := ⟨c_125_0, fun t => co_if c_125_14 trivial, rfl⟩
theorem sr_126 : srt (code9 126) 0 = true := by decide +kernel
theorem c_126_37 {sc : SC} : CO sc 126 q_126_37 37 := CO_seg (rest := []) 17 1 37 38 sr_126 (trivial : CO sc 126 [] 38) (by decide +kernel)
theorem c_126_0 {sc : SC} : CO sc 126 q_126_0 0 := CO_seg (rest := q_126_37) 0 17 0 37 sr_126 c_126_37 (by decide +kernel)
theorem k_ok_126 {sc : SC} : COK sc 126 := ⟨c_126_0, fun t => co_if c_126_37 trivial, rfl⟩
theorem sr_127 : srt (code9 127) 0 = true := by decide +kernel
theorem c_127_17 {sc : SC} : CO sc 127 q_127_17 17 := CO_seg (rest := []) 11 4 17 25 sr_127 (trivial : CO sc 127 [] 25) (by decide +kernel)
theorem c_127_10 {sc : SC} : CO sc 127 q_127_10 10 := CO_seg (rest := q_127_17) 6 5 10 17 sr_127 c_127_17 (by decide +kernel)
theorem c_127_0 {sc : SC} : CO sc 127 q_127_0 0 := CO_seg (rest := q_127_10) 0 6 0 10 sr_127 c_127_10 (by decide +kernel)
theorem k_ok_127 {sc : SC} : COK sc 127 := ⟨c_127_0, fun t => co_if c_127_10 (co_if c_127_17 trivial), rfl⟩
theorem sr_128 : srt (code9 128) 0 = true := by decide +kernel
theorem c_128_0 {sc : SC} : CO sc 128 q_128_0 0 := CO_seg (rest := []) 0 23 0 33 sr_128 (trivial : CO sc 128 [] 33) (by decide +kernel)
theorem k_ok_128 {sc : SC} : COK sc 128 := ⟨c_128_0, fun t => trivial, rfl⟩
theorem sr_129 : srt (code9 129) 0 = true := by decide +kernel
theorem c_129_21 {sc : SC} : CO sc 129 q_129_21 21 := CO_seg (rest := []) 14 4 21 27 sr_129 (trivial : CO sc 129 [] 27) (by decide +kernel)
theorem c_129_0 {sc : SC} : CO sc 129 q_129_0 0 := CO_seg (rest := q_129_21) 0 14 0 21 sr_129 c_129_21 (by decide +kernel)
theorem k_ok_129 {sc : SC} : COK sc 129 := ⟨c_129_0, fun t => co_if c_129_21 trivial, rfl⟩
theorem sr_130 : srt (code9 130) 0 = true := by decide +kernel
theorem c_130_692 {sc : SC} : CO sc 130 q_130_692 692 := CO_seg (rest := []) 359 1 692 693 sr_130 (trivial : CO sc 130 [] 693) (by decide +kernel)
theorem c_130_691 {sc : SC} : CO sc 130 q_130_691 691 := CO_seg (rest := q_130_692) 358 1 691 692 sr_130 c_130_692 (by decide +kernel)
theorem c_130_652 {sc : SC} : CO sc 130 q_130_652 652 := CO_seg (rest := q_130_691) 340 18 652 691 sr_130 c_130_691 (by decide +kernel)
theorem c_130_647 {sc : SC} : CO sc 130 q_130_647 647 := CO_seg (rest := q_130_652) 337 3 647 652 sr_130 c_130_652 (by decide +kernel)
theorem c_130_646 {sc : SC} : CO sc 130 q_130_646 646 := CO_seg (rest := q_130_647) 336 1 646 647 sr_130 c_130_647 (by decide +kernel)
theorem c_130_635 {sc : SC} : CO sc 130 q_130_635 635 := CO_seg (rest := q_130_646) 331 5 635 646 sr_130 c_130_646 (by decide +kernel)
theorem c_130_634 {sc : SC} : CO sc 130 q_130_634 634 := CO_seg (rest := q_130_635) 330 1 634 635 sr_130 c_130_635 (by decide +kernel)
theorem c_130_624 {sc : SC} : CO sc 130 q_130_624 624 := CO_seg (rest := q_130_634) 325 5 624 634 sr_130 c_130_634 (by decide +kernel)
theorem c_130_618 {sc : SC} : CO sc 130 q_130_618 618 := CO_seg (rest := q_130_624) 323 2 618 624 sr_130 c_130_624 (by decide +kernel)
theorem c_130_616 {sc : SC} : CO sc 130 q_130_616 616 := CO_seg (rest := q_130_618) 321 2 616 618 sr_130 c_130_618 (by decide +kernel)
theorem c_130_588 {sc : SC} : CO sc 130 q_130_588 588 := CO_seg (rest := q_130_616) 307 14 588 616 sr_130 c_130_616 (by decide +kernel)
theorem c_130_537 {sc : SC} : CO sc 130 q_130_537 537 := CO_seg (rest := q_130_588) 284 23 537 588 sr_130 c_130_588 (by decide +kernel)
theorem c_130_524 {sc : SC} : CO sc 130 q_130_524 524 := CO_seg (rest := q_130_537) 276 8 524 537 sr_130 c_130_537 (by decide +kernel)
theorem c_130_522 {sc : SC} : CO sc 130 q_130_522 522 := CO_seg (rest := q_130_524) 274 2 522 524 sr_130 c_130_524 (by decide +kernel)
theorem c_130_446 {sc : SC} : CO sc 130 q_130_446 446 := CO_seg (rest := q_130_522) 238 36 446 522 sr_130 c_130_522 (by decide +kernel)
theorem c_130_444 {sc : SC} : CO sc 130 q_130_444 444 := CO_seg (rest := q_130_446) 236 2 444 446 sr_130 c_130_446 (by decide +kernel)
theorem c_130_391 {sc : SC} : CO sc 130 q_130_391 391 := CO_seg (rest := q_130_444) 211 25 391 444 sr_130 c_130_444 (by decide +kernel)
theorem c_130_390 {sc : SC} : CO sc 130 q_130_390 390 := CO_seg (rest := q_130_391) 210 1 390 391 sr_130 c_130_391 (by decide +kernel)
theorem c_130_389 {sc : SC} : CO sc 130 q_130_389 389 := CO_seg (rest := q_130_390) 209 1 389 390 sr_130 c_130_390 (by decide +kernel)
theorem c_130_321 {sc : SC} : CO sc 130 q_130_321 321 := CO_seg (rest := q_130_389) 176 33 321 389 sr_130 c_130_389 (by decide +kernel)
theorem c_130_319 {sc : SC} : CO sc 130 q_130_319 319 := CO_seg (rest := q_130_321) 174 2 319 321 sr_130 c_130_321 (by decide +kernel)
theorem c_130_316 {sc : SC} : CO sc 130 q_130_316 316 := CO_seg (rest := q_130_319) 173 1 316 319 sr_130 c_130_319 (by decide +kernel)
theorem c_130_315 {sc : SC} : CO sc 130 q_130_315 315 := CO_seg (rest := q_130_316) 172 1 315 316 sr_130 c_130_316 (by decide +kernel)
theorem c_130_230 {sc : SC} : CO sc 130 q_130_230 230 := CO_seg (rest := q_130_315) 124 48 230 315 sr_130 c_130_315 (by decide +kernel)
theorem c_130_229 {sc : SC} : CO sc 130 q_130_229 229 := CO_seg (rest := q_130_230) 123 1 229 230 sr_130 c_130_230 (by decide +kernel)
theorem c_130_216 {sc : SC} : CO sc 130 q_130_216 216 := CO_seg (rest := q_130_229) 115 8 216 229 sr_130 c_130_229 (by decide +kernel)
theorem c_130_210 {sc : SC} : CO sc 130 q_130_210 210 := CO_seg (rest := q_130_216) 113 2 210 216 sr_130 c_130_216 (by decide +kernel)
theorem c_130_200 {sc : SC} : CO sc 130 q_130_200 200 := CO_seg (rest := q_130_210) 108 5 200 210 sr_130 c_130_210 (by decide +kernel)
theorem c_130_199 {sc : SC} : CO sc 130 q_130_199 199 := CO_seg (rest := q_130_200) 107 1 199 200 sr_130 c_130_200 (by decide +kernel)
theorem c_130_180 {sc : SC} : CO sc 130 q_130_180 180 := CO_seg (rest := q_130_199) 97 10 180 199 sr_130 c_130_199 (by decide +kernel)
theorem c_130_177 {sc : SC} : CO sc 130 q_130_177 177 := CO_seg (rest := q_130_180) 95 2 177 180 sr_130 c_130_180 (by decide +kernel)
theorem c_130_148 {sc : SC} : CO sc 130 q_130_148 148 := CO_seg (rest := q_130_177) 79 16 148 177 sr_130 c_130_177 (by decide +kernel)
theorem c_130_142 {sc : SC} : CO sc 130 q_130_142 142 := CO_seg (rest := q_130_148) 77 2 142 148 sr_130 c_130_148 (by decide +kernel)
theorem c_130_82 {sc : SC} : CO sc 130 q_130_82 82 := CO_seg (rest := q_130_142) 49 28 82 142 sr_130 c_130_142 (by decide +kernel)
theorem c_130_64 {sc : SC} : CO sc 130 q_130_64 64 := CO_seg (rest := q_130_82) 40 9 64 82 sr_130 c_130_82 (by decide +kernel)
theorem c_130_50 {sc : SC} : CO sc 130 q_130_50 50 := CO_seg (rest := q_130_64) 32 8 50 64 sr_130 c_130_64 (by decide +kernel)
theorem c_130_49 {sc : SC} : CO sc 130 q_130_49 49 := CO_seg (rest := q_130_50) 31 1 49 50 sr_130 c_130_50 (by decide +kernel)
theorem c_130_0 {sc : SC} : CO sc 130 q_130_0 0 := CO_seg (rest := q_130_49) 0 31 0 49 sr_130 c_130_49 (by decide +kernel)
theorem k_ok_130 {sc : SC} : COK sc 130 := ⟨c_130_0, fun t => co_if c_130_49 (co_if c_130_50 (co_if c_130_64 (co_if c_130_82 (co_if c_130_142 (co_if c_130_148 (co_if c_130_177 (co_if c_130_180 (co_if c_130_199 (co_if c_130_200 (co_if c_130_210 (co_if c_130_216 (co_if c_130_229 (co_if c_130_230 (co_if c_130_315 (co_if c_130_316 (co_if c_130_319 (co_if c_130_321 (co_if c_130_389 (co_if c_130_390 (co_if c_130_391 (co_if c_130_444 (co_if c_130_446 (co_if c_130_522 (co_if c_130_524 (co_if c_130_537 (co_if c_130_588 (co_if c_130_616 (co_if c_130_618 (co_if c_130_624 (co_if c_130_634 (co_if c_130_635 (co_if c_130_646 (co_if c_130_647 (co_if c_130_652 (co_if c_130_691 (co_if c_130_692 trivial)))))))))))))))))))))))))))))))))))), rfl⟩
theorem coa_0 {sc : SC} : COA sc 0 := trivial
theorem coa_1 {sc : SC} : COA sc 1 := ⟨coa_0, k_ok_0⟩
theorem coa_2 {sc : SC} : COA sc 2 := ⟨coa_1, k_ok_1⟩
theorem coa_3 {sc : SC} : COA sc 3 := ⟨coa_2, k_ok_2⟩
theorem coa_4 {sc : SC} : COA sc 4 := ⟨coa_3, k_ok_3⟩
theorem coa_5 {sc : SC} : COA sc 5 := ⟨coa_4, k_ok_4⟩
theorem coa_6 {sc : SC} : COA sc 6 := ⟨coa_5, k_ok_5⟩
theorem coa_7 {sc : SC} : COA sc 7 := ⟨coa_6, k_ok_6⟩
theorem coa_8 {sc : SC} : COA sc 8 := ⟨coa_7, k_ok_7⟩
theorem coa_9 {sc : SC} : COA sc 9 := ⟨coa_8, k_ok_8⟩
theorem coa_10 {sc : SC} : COA sc 10 := ⟨coa_9, k_ok_9⟩
theorem coa_11 {sc : SC} : COA sc 11 := ⟨coa_10, k_ok_10⟩
theorem coa_12 {sc : SC} : COA sc 12 := ⟨coa_11, k_ok_11⟩
theorem coa_13 {sc : SC} : COA sc 13 := ⟨coa_12, k_ok_12⟩
theorem coa_14 {sc : SC} : COA sc 14 := ⟨coa_13, k_ok_13⟩
theorem coa_15 {sc : SC} : COA sc 15 := ⟨coa_14, k_ok_14⟩
theorem coa_16 {sc : SC} : COA sc 16 := ⟨coa_15, k_ok_15⟩
theorem coa_17 {sc : SC} : COA sc 17 := ⟨coa_16, k_ok_16⟩
theorem coa_18 {sc : SC} : COA sc 18 := ⟨coa_17, k_ok_17⟩
theorem coa_19 {sc : SC} : COA sc 19 := ⟨coa_18, k_ok_18⟩
theorem coa_20 {sc : SC} : COA sc 20 := ⟨coa_19, k_ok_19⟩
theorem coa_21 {sc : SC} : COA sc 21 := ⟨coa_20, k_ok_20⟩
theorem coa_22 {sc : SC} : COA sc 22 := ⟨coa_21, k_ok_21⟩
theorem coa_23 {sc : SC} : COA sc 23 := ⟨coa_22, k_ok_22⟩
theorem coa_24 {sc : SC} : COA sc 24 := ⟨coa_23, k_ok_23⟩
theorem coa_25 {sc : SC} : COA sc 25 := ⟨coa_24, k_ok_24⟩
theorem coa_26 {sc : SC} : COA sc 26 := ⟨coa_25, k_ok_25⟩
theorem coa_27 {sc : SC} : COA sc 27 := ⟨coa_26, k_ok_26⟩
theorem coa_28 {sc : SC} : COA sc 28 := ⟨coa_27, k_ok_27⟩
theorem coa_29 {sc : SC} : COA sc 29 := ⟨coa_28, k_ok_28⟩
theorem coa_30 {sc : SC} : COA sc 30 := ⟨coa_29, k_ok_29⟩
theorem coa_31 {sc : SC} : COA sc 31 := ⟨coa_30, k_ok_30⟩
theorem coa_32 {sc : SC} : COA sc 32 := ⟨coa_31, k_ok_31⟩
theorem coa_33 {sc : SC} : COA sc 33 := ⟨coa_32, k_ok_32⟩
theorem coa_34 {sc : SC} : COA sc 34 := ⟨coa_33, k_ok_33⟩
theorem coa_35 {sc : SC} : COA sc 35 := ⟨coa_34, k_ok_34⟩
theorem coa_36 {sc : SC} : COA sc 36 := ⟨coa_35, k_ok_35⟩
theorem coa_37 {sc : SC} : COA sc 37 := ⟨coa_36, k_ok_36⟩
theorem coa_38 {sc : SC} : COA sc 38 := ⟨coa_37, k_ok_37⟩
theorem coa_39 {sc : SC} : COA sc 39 := ⟨coa_38, k_ok_38⟩
theorem coa_40 {sc : SC} : COA sc 40 := ⟨coa_39, k_ok_39⟩
theorem coa_41 {sc : SC} : COA sc 41 := ⟨coa_40, k_ok_40⟩
theorem coa_42 {sc : SC} : COA sc 42 := ⟨coa_41, k_ok_41⟩
theorem coa_43 {sc : SC} : COA sc 43 := ⟨coa_42, k_ok_42⟩
theorem coa_44 {sc : SC} : COA sc 44 := ⟨coa_43, k_ok_43⟩
theorem coa_45 {sc : SC} : COA sc 45 := ⟨coa_44, k_ok_44⟩
theorem coa_46 {sc : SC} : COA sc 46 := ⟨coa_45, k_ok_45⟩
theorem coa_47 {sc : SC} : COA sc 47 := ⟨coa_46, k_ok_46⟩
theorem coa_48 {sc : SC} : COA sc 48 := ⟨coa_47, k_ok_47⟩
theorem coa_49 {sc : SC} : COA sc 49 := ⟨coa_48, k_ok_48⟩
theorem coa_50 {sc : SC} : COA sc 50 := ⟨coa_49, k_ok_49⟩
theorem coa_51 {sc : SC} : COA sc 51 := ⟨coa_50, k_ok_50⟩
theorem coa_52 {sc : SC} : COA sc 52 := ⟨coa_51, k_ok_51⟩
theorem coa_53 {sc : SC} : COA sc 53 := ⟨coa_52, k_ok_52⟩
theorem coa_54 {sc : SC} : COA sc 54 := ⟨coa_53, k_ok_53⟩
theorem coa_55 {sc : SC} : COA sc 55 := ⟨coa_54, k_ok_54⟩
theorem coa_56 {sc : SC} : COA sc 56 := ⟨coa_55, k_ok_55⟩
theorem coa_57 {sc : SC} : COA sc 57 := ⟨coa_56, k_ok_56⟩
theorem coa_58 {sc : SC} : COA sc 58 := ⟨coa_57, k_ok_57⟩
theorem coa_59 {sc : SC} : COA sc 59 := ⟨coa_58, k_ok_58⟩
theorem coa_60 {sc : SC} : COA sc 60 := ⟨coa_59, k_ok_59⟩
theorem coa_61 {sc : SC} : COA sc 61 := ⟨coa_60, k_ok_60⟩
theorem coa_62 {sc : SC} : COA sc 62 := ⟨coa_61, k_ok_61⟩
theorem coa_63 {sc : SC} : COA sc 63 := ⟨coa_62, k_ok_62⟩
theorem coa_64 {sc : SC} : COA sc 64 := ⟨coa_63, k_ok_63⟩
theorem coa_65 {sc : SC} : COA sc 65 := ⟨coa_64, k_ok_64⟩
theorem coa_66 {sc : SC} : COA sc 66 := ⟨coa_65, k_ok_65⟩
theorem coa_67 {sc : SC} : COA sc 67 := ⟨coa_66, k_ok_66⟩
theorem coa_68 {sc : SC} : COA sc 68 := ⟨coa_67, k_ok_67⟩
theorem coa_69 {sc : SC} : COA sc 69 := ⟨coa_68, k_ok_68⟩
theorem coa_70 {sc : SC} : COA sc 70 := ⟨coa_69, k_ok_69⟩
theorem coa_71 {sc : SC} : COA sc 71 := ⟨coa_70, k_ok_70⟩
theorem coa_72 {sc : SC} : COA sc 72 := ⟨coa_71, k_ok_71⟩
theorem coa_73 {sc : SC} : COA sc 73 := ⟨coa_72, k_ok_72⟩
theorem coa_74 {sc : SC} : COA sc 74 := ⟨coa_73, k_ok_73⟩
theorem coa_75 {sc : SC} : COA sc 75 := ⟨coa_74, k_ok_74⟩
theorem coa_76 {sc : SC} : COA sc 76 := ⟨coa_75, k_ok_75⟩
theorem coa_77 {sc : SC} : COA sc 77 := ⟨coa_76, k_ok_76⟩
theorem coa_78 {sc : SC} : COA sc 78 := ⟨coa_77, k_ok_77⟩
theorem coa_79 {sc : SC} : COA sc 79 := ⟨coa_78, k_ok_78⟩
theorem coa_80 {sc : SC} : COA sc 80 := ⟨coa_79, k_ok_79⟩
theorem coa_81 {sc : SC} : COA sc 81 := ⟨coa_80, k_ok_80⟩
theorem coa_82 {sc : SC} : COA sc 82 := ⟨coa_81, k_ok_81⟩
theorem coa_83 {sc : SC} : COA sc 83 := ⟨coa_82, k_ok_82⟩
theorem coa_84 {sc : SC} : COA sc 84 := ⟨coa_83, k_ok_83⟩
theorem coa_85 {sc : SC} : COA sc 85 := ⟨coa_84, k_ok_84⟩
theorem coa_86 {sc : SC} : COA sc 86 := ⟨coa_85, k_ok_85⟩
theorem coa_87 {sc : SC} : COA sc 87 := ⟨coa_86, k_ok_86⟩
theorem coa_88 {sc : SC} : COA sc 88 := ⟨coa_87, k_ok_87⟩
theorem coa_89 {sc : SC} : COA sc 89 := ⟨coa_88, k_ok_88⟩
theorem coa_90 {sc : SC} : COA sc 90 := ⟨coa_89, k_ok_89⟩
theorem coa_91 {sc : SC} : COA sc 91 := ⟨coa_90, k_ok_90⟩
theorem coa_92 {sc : SC} : COA sc 92 := ⟨coa_91, k_ok_91⟩
theorem coa_93 {sc : SC} : COA sc 93 := ⟨coa_92, k_ok_92⟩
theorem coa_94 {sc : SC} : COA sc 94 := ⟨coa_93, k_ok_93⟩
theorem coa_95 {sc : SC} : COA sc 95 := ⟨coa_94, k_ok_94⟩
theorem coa_96 {sc : SC} : COA sc 96 := ⟨coa_95, k_ok_95⟩
theorem coa_97 {sc : SC} : COA sc 97 := ⟨coa_96, k_ok_96⟩
theorem coa_98 {sc : SC} : COA sc 98 := ⟨coa_97, k_ok_97⟩
theorem coa_99 {sc : SC} : COA sc 99 := ⟨coa_98, k_ok_98⟩
theorem coa_100 {sc : SC} : COA sc 100 := ⟨coa_99, k_ok_99⟩
theorem coa_101 {sc : SC} : COA sc 101 := ⟨coa_100, k_ok_100⟩
theorem coa_102 {sc : SC} : COA sc 102 := ⟨coa_101, k_ok_101⟩
theorem coa_103 {sc : SC} : COA sc 103 := ⟨coa_102, k_ok_102⟩
theorem coa_104 {sc : SC} : COA sc 104 := ⟨coa_103, k_ok_103⟩
theorem coa_105 {sc : SC} : COA sc 105 := ⟨coa_104, k_ok_104⟩
theorem coa_106 {sc : SC} : COA sc 106 := ⟨coa_105, k_ok_105⟩
theorem coa_107 {sc : SC} : COA sc 107 := ⟨coa_106, k_ok_106⟩
theorem coa_108 {sc : SC} : COA sc 108 := ⟨coa_107, k_ok_107⟩
theorem coa_109 {sc : SC} : COA sc 109 := ⟨coa_108, k_ok_108⟩
theorem coa_110 {sc : SC} : COA sc 110 := ⟨coa_109, k_ok_109⟩
theorem coa_111 {sc : SC} : COA sc 111 := ⟨coa_110, k_ok_110⟩
theorem coa_112 {sc : SC} : COA sc 112 := ⟨coa_111, k_ok_111⟩
theorem coa_113 {sc : SC} : COA sc 113 := ⟨coa_112, k_ok_112⟩
theorem coa_114 {sc : SC} : COA sc 114 := ⟨coa_113, k_ok_113⟩
theorem coa_115 {sc : SC} : COA sc 115 := ⟨coa_114, k_ok_114⟩
theorem coa_116 {sc : SC} : COA sc 116 := ⟨coa_115, k_ok_115⟩
theorem coa_117 {sc : SC} : COA sc 117 := ⟨coa_116, k_ok_116⟩
theorem coa_118 {sc : SC} : COA sc 118 := ⟨coa_117, k_ok_117⟩
theorem coa_119 {sc : SC} : COA sc 119 := ⟨coa_118, k_ok_118⟩
theorem coa_120 {sc : SC} : COA sc 120 := ⟨coa_119, k_ok_119⟩
theorem coa_121 {sc : SC} : COA sc 121 := ⟨coa_120, k_ok_120⟩
theorem coa_122 {sc : SC} : COA sc 122 := ⟨coa_121, k_ok_121⟩
theorem coa_123 {sc : SC} : COA sc 123 := ⟨coa_122, k_ok_122⟩
theorem coa_124 {sc : SC} : COA sc 124 := ⟨coa_123, k_ok_123⟩
theorem coa_125 {sc : SC} : COA sc 125 := ⟨coa_124, k_ok_124⟩
theorem coa_126 {sc : SC} : COA sc 126 := ⟨coa_125, k_ok_125⟩
theorem coa_127 {sc : SC} : COA sc 127 := ⟨coa_126, k_ok_126⟩
theorem coa_128 {sc : SC} : COA sc 128 := ⟨coa_127, k_ok_127⟩
theorem coa_129 {sc : SC} : COA sc 129 := ⟨coa_128, k_ok_128⟩
theorem coa_130 {sc : SC} : COA sc 130 := ⟨coa_129, k_ok_129⟩
theorem coa_131 {sc : SC} : COA sc 131 := ⟨coa_130, k_ok_130⟩
