/-! THE CODES of the fast machine are the codes (written by wip/p28/mk2a.py) -/
theorem sr_44 : srt (code9 44) 0 = true := by decide +kernel
theorem c_44_27 {sc : SC} : CO sc 44 q_44_27 27 := CO_seg (rest := []) 15 2 27 29 sr_44 (trivial : CO sc 44 [] 29) (by decide +kernel)
theorem c_44_21 {sc : SC} : CO sc 44 q_44_21 21 := CO_seg (rest := q_44_27) 13 2 21 27 sr_44 c_44_27 (by decide +kernel)
theorem c_44_4 {sc : SC} : CO sc 44 q_44_4 4 := CO_seg (rest := q_44_21) 4 9 4 21 sr_44 c_44_21 (by decide +kernel)
theorem c_44_0 {sc : SC} : CO sc 44 q_44_0 0 := CO_seg (rest := q_44_4) 0 4 0 4 sr_44 c_44_4 (by decide +kernel)
theorem k_ok_44 {sc : SC} : COK sc 44 := ⟨c_44_0, fun t => co_if c_44_4 (co_if c_44_21 (co_if c_44_27 trivial)), rfl⟩
theorem sr_45 : srt (code9 45) 0 = true := by decide +kernel
theorem c_45_104 {sc : SC} : CO sc 45 q_45_104 104 := CO_seg (rest := []) 42 5 104 111 sr_45 (trivial : CO sc 45 [] 111) (by decide +kernel)
theorem c_45_97 {sc : SC} : CO sc 45 q_45_97 97 := CO_seg (rest := q_45_104) 37 5 97 104 sr_45 c_45_104 (by decide +kernel)
theorem c_45_90 {sc : SC} : CO sc 45 q_45_90 90 := CO_seg (rest := q_45_97) 32 5 90 97 sr_45 c_45_97 (by decide +kernel)
theorem c_45_83 {sc : SC} : CO sc 45 q_45_83 83 := CO_seg (rest := q_45_90) 27 5 83 90 sr_45 c_45_90 (by decide +kernel)
theorem c_45_76 {sc : SC} : CO sc 45 q_45_76 76 := CO_seg (rest := q_45_83) 22 5 76 83 sr_45 c_45_83 (by decide +kernel)
theorem c_45_69 {sc : SC} : CO sc 45 q_45_69 69 := CO_seg (rest := q_45_76) 17 5 69 76 sr_45 c_45_76 (by decide +kernel)
theorem c_45_62 {sc : SC} : CO sc 45 q_45_62 62 := CO_seg (rest := q_45_69) 12 5 62 69 sr_45 c_45_69 (by decide +kernel)
theorem c_45_55 {sc : SC} : CO sc 45 q_45_55 55 := CO_seg (rest := q_45_62) 7 5 55 62 sr_45 c_45_62 (by decide +kernel)
theorem c_45_48 {sc : SC} : CO sc 45 q_45_48 48 := CO_seg (rest := q_45_55) 2 5 48 55 sr_45 c_45_55 (by decide +kernel)
theorem c_45_0 {sc : SC} : CO sc 45 q_45_0 0 := CO_seg (rest := q_45_48) 0 2 0 48 sr_45 c_45_48 (by decide +kernel)
theorem k_ok_45 {sc : SC} : COK sc 45 := ⟨c_45_0, fun t => co_if c_45_48 (co_if c_45_55 (co_if c_45_62 (co_if c_45_69 (co_if c_45_76 (co_if c_45_83 (co_if c_45_90 (co_if c_45_97 (co_if c_45_104 trivial)))))))), rfl⟩
theorem sr_46 : srt (code9 46) 0 = true := by decide +kernel
theorem c_46_0 {sc : SC} : CO sc 46 q_46_0 0 := CO_seg (rest := []) 0 112 0 214 sr_46 (trivial : CO sc 46 [] 214) (by decide +kernel)
theorem k_ok_46 {sc : SC} : COK sc 46 := ⟨c_46_0, fun t => trivial, rfl⟩
theorem sr_47 : srt (code9 47) 0 = true := by decide +kernel
theorem c_47_50 {sc : SC} : CO sc 47 q_47_50 50 := CO_seg (rest := []) 26 1 50 51 sr_47 (trivial : CO sc 47 [] 51) (by decide +kernel)
theorem c_47_25 {sc : SC} : CO sc 47 q_47_25 25 := CO_seg (rest := q_47_50) 14 12 25 50 sr_47 c_47_50 (by decide +kernel)
theorem c_47_0 {sc : SC} : CO sc 47 q_47_0 0 := CO_seg (rest := q_47_25) 0 14 0 25 sr_47 c_47_25 (by decide +kernel)
theorem k_ok_47 {sc : SC} : COK sc 47 := ⟨c_47_0, fun t => co_if c_47_25 (co_if c_47_50 trivial), rfl⟩
theorem sr_48 : srt (code9 48) 0 = true := by decide +kernel
theorem c_48_62 {sc : SC} : CO sc 48 q_48_62 62 := CO_seg (rest := []) 35 1 62 63 sr_48 (trivial : CO sc 48 [] 63) (by decide +kernel)
theorem c_48_49 {sc : SC} : CO sc 48 q_48_49 49 := CO_seg (rest := q_48_62) 27 8 49 62 sr_48 c_48_62 (by decide +kernel)
theorem c_48_0 {sc : SC} : CO sc 48 q_48_0 0 := CO_seg (rest := q_48_49) 0 27 0 49 sr_48 c_48_49 (by decide +kernel)
theorem k_ok_48 {sc : SC} : COK sc 48 := ⟨c_48_0, fun t => co_if c_48_49 (co_if c_48_62 trivial), rfl⟩
theorem sr_49 : srt (code9 49) 0 = true := by decide +kernel
theorem c_49_0 {sc : SC} : CO sc 49 q_49_0 0 := CO_seg (rest := []) 0 21 0 40 sr_49 (trivial : CO sc 49 [] 40) (by decide +kernel)
theorem k_ok_49 {sc : SC} : COK sc 49 := ⟨c_49_0, fun t => trivial, rfl⟩
theorem sr_50 : srt (code9 50) 0 = true := by decide +kernel
theorem c_50_0 {sc : SC} : CO sc 50 q_50_0 0 := CO_seg (rest := []) 0 25 0 47 sr_50 (trivial : CO sc 50 [] 47) (by decide +kernel)
theorem k_ok_50 {sc : SC} : COK sc 50 := ⟨c_50_0, fun t => trivial, rfl⟩
theorem sr_51 : srt (code9 51) 0 = true := by decide +kernel
theorem c_51_51 {sc : SC} : CO sc 51 q_51_51 51 := CO_seg (rest := []) 23 1 51 52 sr_51 (trivial : CO sc 51 [] 52) (by decide +kernel)
theorem c_51_50 {sc : SC} : CO sc 51 q_51_50 50 := CO_seg (rest := q_51_51) 22 1 50 51 sr_51 c_51_51 (by decide +kernel)
theorem c_51_0 {sc : SC} : CO sc 51 q_51_0 0 := CO_seg (rest := q_51_50) 0 22 0 50 sr_51 c_51_50 (by decide +kernel)
theorem k_ok_51 {sc : SC} : COK sc 51 := ⟨c_51_0, fun t => co_if c_51_50 (co_if c_51_51 trivial), rfl⟩
theorem sr_52 : srt (code9 52) 0 = true := by decide +kernel
theorem c_52_89 {sc : SC} : CO sc 52 q_52_89 89 := CO_seg (rest := []) 43 5 89 99 sr_52 (trivial : CO sc 52 [] 99) (by decide +kernel)
theorem c_52_83 {sc : SC} : CO sc 52 q_52_83 83 := CO_seg (rest := q_52_89) 41 2 83 89 sr_52 c_52_89 (by decide +kernel)
theorem c_52_67 {sc : SC} : CO sc 52 q_52_67 67 := CO_seg (rest := q_52_83) 33 8 67 83 sr_52 c_52_83 (by decide +kernel)
theorem c_52_47 {sc : SC} : CO sc 52 q_52_47 47 := CO_seg (rest := q_52_67) 24 9 47 67 sr_52 c_52_67 (by decide +kernel)
theorem c_52_25 {sc : SC} : CO sc 52 q_52_25 25 := CO_seg (rest := q_52_47) 14 10 25 47 sr_52 c_52_47 (by decide +kernel)
theorem c_52_2 {sc : SC} : CO sc 52 q_52_2 2 := CO_seg (rest := q_52_25) 2 12 2 25 sr_52 c_52_25 (by decide +kernel)
theorem c_52_0 {sc : SC} : CO sc 52 q_52_0 0 := CO_seg (rest := q_52_2) 0 2 0 2 sr_52 c_52_2 (by decide +kernel)
theorem k_ok_52 {sc : SC} : COK sc 52 := ⟨c_52_0, fun t => co_if c_52_2 (co_if c_52_25 (co_if c_52_47 (co_if c_52_67 (co_if c_52_83 (co_if c_52_89 trivial))))), rfl⟩
theorem sr_53 : srt (code9 53) 0 = true := by decide +kernel
theorem c_53_93 {sc : SC} : CO sc 53 q_53_93 93 := CO_seg (rest := []) 46 1 93 94 sr_53 (trivial : CO sc 53 [] 94) (by decide +kernel)
theorem c_53_92 {sc : SC} : CO sc 53 q_53_92 92 := CO_seg (rest := q_53_93) 45 1 92 93 sr_53 c_53_93 (by decide +kernel)
theorem c_53_43 {sc : SC} : CO sc 53 q_53_43 43 := CO_seg (rest := q_53_92) 21 24 43 92 sr_53 c_53_92 (by decide +kernel)
theorem c_53_22 {sc : SC} : CO sc 53 q_53_22 22 := CO_seg (rest := q_53_43) 11 10 22 43 sr_53 c_53_43 (by decide +kernel)
theorem c_53_0 {sc : SC} : CO sc 53 q_53_0 0 := CO_seg (rest := q_53_22) 0 11 0 22 sr_53 c_53_22 (by decide +kernel)
theorem k_ok_53 {sc : SC} : COK sc 53 := ⟨c_53_0, fun t => co_if c_53_22 (co_if c_53_43 (co_if c_53_92 (co_if c_53_93 trivial))), rfl⟩
theorem sr_54 : srt (code9 54) 0 = true := by decide +kernel
theorem c_54_95 {sc : SC} : CO sc 54 q_54_95 95 := CO_seg (rest := []) 48 5 95 105 sr_54 (trivial : CO sc 54 [] 105) (by decide +kernel)
theorem c_54_82 {sc : SC} : CO sc 54 q_54_82 82 := CO_seg (rest := q_54_95) 43 5 82 95 sr_54 c_54_95 (by decide +kernel)
theorem c_54_60 {sc : SC} : CO sc 54 q_54_60 60 := CO_seg (rest := q_54_82) 33 10 60 82 sr_54 c_54_82 (by decide +kernel)
theorem c_54_39 {sc : SC} : CO sc 54 q_54_39 39 := CO_seg (rest := q_54_60) 20 13 39 60 sr_54 c_54_60 (by decide +kernel)
theorem c_54_29 {sc : SC} : CO sc 54 q_54_29 29 := CO_seg (rest := q_54_39) 15 5 29 39 sr_54 c_54_39 (by decide +kernel)
theorem c_54_14 {sc : SC} : CO sc 54 q_54_14 14 := CO_seg (rest := q_54_29) 7 8 14 29 sr_54 c_54_29 (by decide +kernel)
theorem c_54_0 {sc : SC} : CO sc 54 q_54_0 0 := CO_seg (rest := q_54_14) 0 7 0 14 sr_54 c_54_14 (by decide +kernel)
theorem k_ok_54 {sc : SC} : COK sc 54 := ⟨c_54_0, fun t => co_if c_54_14 (co_if c_54_29 (co_if c_54_39 (co_if c_54_60 (co_if c_54_82 (co_if c_54_95 trivial))))), rfl⟩
theorem sr_55 : srt (code9 55) 0 = true := by decide +kernel
theorem c_55_76 {sc : SC} : CO sc 55 q_55_76 76 := CO_seg (rest := []) 37 9 76 92 sr_55 (trivial : CO sc 55 [] 92) (by decide +kernel)
theorem c_55_48 {sc : SC} : CO sc 55 q_55_48 48 := CO_seg (rest := q_55_76) 23 14 48 76 sr_55 c_55_76 (by decide +kernel)
theorem c_55_24 {sc : SC} : CO sc 55 q_55_24 24 := CO_seg (rest := q_55_48) 11 12 24 48 sr_55 c_55_48 (by decide +kernel)
theorem c_55_0 {sc : SC} : CO sc 55 q_55_0 0 := CO_seg (rest := q_55_24) 0 11 0 24 sr_55 c_55_24 (by decide +kernel)
theorem k_ok_55 {sc : SC} : COK sc 55 := ⟨c_55_0, fun t => co_if c_55_24 (co_if c_55_48 (co_if c_55_76 trivial)), rfl⟩
theorem sr_56 : srt (code9 56) 0 = true := by decide +kernel
theorem c_56_18 {sc : SC} : CO sc 56 q_56_18 18 := CO_seg (rest := []) 10 9 18 36 sr_56 (trivial : CO sc 56 [] 36) (by decide +kernel)
theorem c_56_0 {sc : SC} : CO sc 56 q_56_0 0 := CO_seg (rest := q_56_18) 0 10 0 18 sr_56 c_56_18 (by decide +kernel)
theorem k_ok_56 {sc : SC} : COK sc 56 := ⟨c_56_0, fun t => co_if c_56_18 trivial, rfl⟩
theorem sr_57 : srt (code9 57) 0 = true := by decide +kernel
theorem c_57_50 {sc : SC} : CO sc 57 q_57_50 50 := CO_seg (rest := []) 26 5 50 59 sr_57 (trivial : CO sc 57 [] 59) (by decide +kernel)
theorem c_57_44 {sc : SC} : CO sc 57 q_57_44 44 := CO_seg (rest := q_57_50) 22 4 44 50 sr_57 c_57_50 (by decide +kernel)
theorem c_57_42 {sc : SC} : CO sc 57 q_57_42 42 := CO_seg (rest := q_57_44) 21 1 42 44 sr_57 c_57_44 (by decide +kernel)
theorem c_57_24 {sc : SC} : CO sc 57 q_57_24 24 := CO_seg (rest := q_57_42) 12 9 24 42 sr_57 c_57_42 (by decide +kernel)
theorem c_57_16 {sc : SC} : CO sc 57 q_57_16 16 := CO_seg (rest := q_57_24) 8 4 16 24 sr_57 c_57_24 (by decide +kernel)
theorem c_57_0 {sc : SC} : CO sc 57 q_57_0 0 := CO_seg (rest := q_57_16) 0 8 0 16 sr_57 c_57_16 (by decide +kernel)
theorem k_ok_57 {sc : SC} : COK sc 57 := ⟨c_57_0, fun t => co_if c_57_16 (co_if c_57_24 (co_if c_57_42 (co_if c_57_44 (co_if c_57_50 trivial)))), rfl⟩
theorem sr_58 : srt (code9 58) 0 = true := by decide +kernel
theorem c_58_75 {sc : SC} : CO sc 58 q_58_75 75 := CO_seg (rest := []) 35 4 75 83 sr_58 (trivial : CO sc 58 [] 83) (by decide +kernel)
theorem c_58_69 {sc : SC} : CO sc 58 q_58_69 69 := CO_seg (rest := q_58_75) 33 2 69 75 sr_58 c_58_75 (by decide +kernel)
theorem c_58_62 {sc : SC} : CO sc 58 q_58_62 62 := CO_seg (rest := q_58_69) 28 5 62 69 sr_58 c_58_69 (by decide +kernel)
theorem c_58_58 {sc : SC} : CO sc 58 q_58_58 58 := CO_seg (rest := q_58_62) 26 2 58 62 sr_58 c_58_62 (by decide +kernel)
theorem c_58_39 {sc : SC} : CO sc 58 q_58_39 39 := CO_seg (rest := q_58_58) 18 8 39 58 sr_58 c_58_58 (by decide +kernel)
theorem c_58_2 {sc : SC} : CO sc 58 q_58_2 2 := CO_seg (rest := q_58_39) 2 16 2 39 sr_58 c_58_39 (by decide +kernel)
theorem c_58_0 {sc : SC} : CO sc 58 q_58_0 0 := CO_seg (rest := q_58_2) 0 2 0 2 sr_58 c_58_2 (by decide +kernel)
theorem k_ok_58 {sc : SC} : COK sc 58 := ⟨c_58_0, fun t => co_if c_58_2 (co_if c_58_39 (co_if c_58_58 (co_if c_58_62 (co_if c_58_69 (co_if c_58_75 trivial))))), rfl⟩
theorem sr_59 : srt (code9 59) 0 = true := by decide +kernel
theorem c_59_33 {sc : SC} : CO sc 59 q_59_33 33 := CO_seg (rest := []) 17 13 33 60 sr_59 (trivial : CO sc 59 [] 60) (by decide +kernel)
theorem c_59_31 {sc : SC} : CO sc 59 q_59_31 31 := CO_seg (rest := q_59_33) 15 2 31 33 sr_59 c_59_33 (by decide +kernel)
theorem c_59_0 {sc : SC} : CO sc 59 q_59_0 0 := CO_seg (rest := q_59_31) 0 15 0 31 sr_59 c_59_31 (by decide +kernel)
theorem k_ok_59 {sc : SC} : COK sc 59 := ⟨c_59_0, fun t => co_if c_59_31 (co_if c_59_33 trivial), rfl⟩
theorem sr_60 : srt (code9 60) 0 = true := by decide +kernel
theorem c_60_69 {sc : SC} : CO sc 60 q_60_69 69 := CO_seg (rest := []) 34 14 69 97 sr_60 (trivial : CO sc 60 [] 97) (by decide +kernel)
theorem c_60_67 {sc : SC} : CO sc 60 q_60_67 67 := CO_seg (rest := q_60_69) 32 2 67 69 sr_60 c_60_69 (by decide +kernel)
theorem c_60_24 {sc : SC} : CO sc 60 q_60_24 24 := CO_seg (rest := q_60_67) 12 20 24 67 sr_60 c_60_67 (by decide +kernel)
theorem c_60_0 {sc : SC} : CO sc 60 q_60_0 0 := CO_seg (rest := q_60_24) 0 12 0 24 sr_60 c_60_24 (by decide +kernel)
theorem k_ok_60 {sc : SC} : COK sc 60 := ⟨c_60_0, fun t => co_if c_60_24 (co_if c_60_67 (co_if c_60_69 trivial)), rfl⟩
theorem sr_61 : srt (code9 61) 0 = true := by decide +kernel
theorem c_61_26 {sc : SC} : CO sc 61 q_61_26 26 := CO_seg (rest := []) 12 5 26 36 sr_61 (trivial : CO sc 61 [] 36) (by decide +kernel)
theorem c_61_0 {sc : SC} : CO sc 61 q_61_0 0 := CO_seg (rest := q_61_26) 0 12 0 26 sr_61 c_61_26 (by decide +kernel)
theorem k_ok_61 {sc : SC} : COK sc 61 := ⟨c_61_0, fun t => co_if c_61_26 trivial, rfl⟩
theorem sr_62 : srt (code9 62) 0 = true := by decide +kernel
theorem c_62_57 {sc : SC} : CO sc 62 q_62_57 57 := CO_seg (rest := []) 29 13 57 83 sr_62 (trivial : CO sc 62 [] 83) (by decide +kernel)
theorem c_62_33 {sc : SC} : CO sc 62 q_62_33 33 := CO_seg (rest := q_62_57) 17 12 33 57 sr_62 c_62_57 (by decide +kernel)
theorem c_62_14 {sc : SC} : CO sc 62 q_62_14 14 := CO_seg (rest := q_62_33) 7 10 14 33 sr_62 c_62_33 (by decide +kernel)
theorem c_62_0 {sc : SC} : CO sc 62 q_62_0 0 := CO_seg (rest := q_62_14) 0 7 0 14 sr_62 c_62_14 (by decide +kernel)
theorem k_ok_62 {sc : SC} : COK sc 62 := ⟨c_62_0, fun t => co_if c_62_14 (co_if c_62_33 (co_if c_62_57 trivial)), rfl⟩
theorem sr_63 : srt (code9 63) 0 = true := by decide +kernel
theorem c_63_59 {sc : SC} : CO sc 63 q_63_59 59 := CO_seg (rest := []) 29 1 59 60 sr_63 (trivial : CO sc 63 [] 60) (by decide +kernel)
theorem c_63_58 {sc : SC} : CO sc 63 q_63_58 58 := CO_seg (rest := q_63_59) 28 1 58 59 sr_63 c_63_59 (by decide +kernel)
theorem c_63_42 {sc : SC} : CO sc 63 q_63_42 42 := CO_seg (rest := q_63_58) 21 7 42 58 sr_63 c_63_58 (by decide +kernel)
theorem c_63_28 {sc : SC} : CO sc 63 q_63_28 28 := CO_seg (rest := q_63_42) 14 7 28 42 sr_63 c_63_42 (by decide +kernel)
theorem c_63_14 {sc : SC} : CO sc 63 q_63_14 14 := CO_seg (rest := q_63_28) 7 7 14 28 sr_63 c_63_28 (by decide +kernel)
theorem c_63_0 {sc : SC} : CO sc 63 q_63_0 0 := CO_seg (rest := q_63_14) 0 7 0 14 sr_63 c_63_14 (by decide +kernel)
theorem k_ok_63 {sc : SC} : COK sc 63 := ⟨c_63_0, fun t => co_if c_63_14 (co_if c_63_28 (co_if c_63_42 (co_if c_63_58 (co_if c_63_59 trivial)))), rfl⟩
theorem sr_64 : srt (code9 64) 0 = true := by decide +kernel
theorem c_64_0 {sc : SC} : CO sc 64 q_64_0 0 := CO_seg (rest := []) 0 23 0 45 sr_64 (trivial : CO sc 64 [] 45) (by decide +kernel)
theorem k_ok_64 {sc : SC} : COK sc 64 := ⟨c_64_0, fun t => trivial, rfl⟩
theorem sr_65 : srt (code9 65) 0 = true := by decide +kernel
theorem c_65_0 {sc : SC} : CO sc 65 q_65_0 0 := CO_seg (rest := []) 0 22 0 40 sr_65 (trivial : CO sc 65 [] 40) (by decide +kernel)
theorem k_ok_65 {sc : SC} : COK sc 65 := ⟨c_65_0, fun t => trivial, rfl⟩
theorem sr_66 : srt (code9 66) 0 = true := by decide +kernel
theorem c_66_13 {sc : SC} : CO sc 66 q_66_13 13 := CO_seg (rest := []) 7 1 13 14 sr_66 (trivial : CO sc 66 [] 14) (by decide +kernel)
theorem c_66_12 {sc : SC} : CO sc 66 q_66_12 12 := CO_seg (rest := q_66_13) 6 1 12 13 sr_66 c_66_13 (by decide +kernel)
theorem c_66_0 {sc : SC} : CO sc 66 q_66_0 0 := CO_seg (rest := q_66_12) 0 6 0 12 sr_66 c_66_12 (by decide +kernel)
theorem k_ok_66 {sc : SC} : COK sc 66 := ⟨c_66_0, fun t => co_if c_66_12 (co_if c_66_13 trivial), rfl⟩
theorem sr_67 : srt (code9 67) 0 = true := by decide +kernel
theorem c_67_51 {sc : SC} : CO sc 67 q_67_51 51 := CO_seg (rest := []) 31 1 51 52 sr_67 (trivial : CO sc 67 [] 52) (by decide +kernel)
theorem c_67_0 {sc : SC} : CO sc 67 q_67_0 0 := CO_seg (rest := q_67_51) 0 31 0 51 sr_67 c_67_51 (by decide +kernel)
theorem k_ok_67 {sc : SC} : COK sc 67 := ⟨c_67_0, fun t => co_if c_67_51 trivial, rfl⟩
theorem sr_68 : srt (code9 68) 0 = true := by decide +kernel
theorem c_68_17 {sc : SC} : CO sc 68 q_68_17 17 := CO_seg (rest := []) 10 28 17 56 sr_68 (trivial : CO sc 68 [] 56) (by decide +kernel)
theorem c_68_0 {sc : SC} : CO sc 68 q_68_0 0 := CO_seg (rest := q_68_17) 0 10 0 17 sr_68 c_68_17 (by decide +kernel)
theorem k_ok_68 {sc : SC} : COK sc 68 := ⟨c_68_0, fun t => co_if c_68_17 trivial, rfl⟩
theorem sr_69 : srt (code9 69) 0 = true := by decide +kernel
theorem c_69_0 {sc : SC} : CO sc 69 q_69_0 0 := CO_seg (rest := []) 0 5 0 7 sr_69 (trivial : CO sc 69 [] 7) (by decide +kernel)
theorem k_ok_69 {sc : SC} : COK sc 69 := ⟨c_69_0, fun t => trivial, rfl⟩
theorem sr_70 : srt (code9 70) 0 = true := by decide +kernel
theorem c_70_0 {sc : SC} : CO sc 70 q_70_0 0 := CO_seg (rest := []) 0 9 0 12 sr_70 (trivial : CO sc 70 [] 12) (by decide +kernel)
theorem k_ok_70 {sc : SC} : COK sc 70 := ⟨c_70_0, fun t => trivial, rfl⟩
theorem sr_71 : srt (code9 71) 0 = true := by decide +kernel
theorem c_71_28 {sc : SC} : CO sc 71 q_71_28 28 := CO_seg (rest := []) 16 2 28 30 sr_71 (trivial : CO sc 71 [] 30) (by decide +kernel)
theorem c_71_22 {sc : SC} : CO sc 71 q_71_22 22 := CO_seg (rest := q_71_28) 14 2 22 28 sr_71 c_71_28 (by decide +kernel)
theorem c_71_2 {sc : SC} : CO sc 71 q_71_2 2 := CO_seg (rest := q_71_22) 2 12 2 22 sr_71 c_71_22 (by decide +kernel)
theorem c_71_0 {sc : SC} : CO sc 71 q_71_0 0 := CO_seg (rest := q_71_2) 0 2 0 2 sr_71 c_71_2 (by decide +kernel)
theorem k_ok_71 {sc : SC} : COK sc 71 := ⟨c_71_0, fun t => co_if c_71_2 (co_if c_71_22 (co_if c_71_28 trivial)), rfl⟩
theorem sr_72 : srt (code9 72) 0 = true := by decide +kernel
theorem c_72_54 {sc : SC} : CO sc 72 q_72_54 54 := CO_seg (rest := []) 30 2 54 56 sr_72 (trivial : CO sc 72 [] 56) (by decide +kernel)
theorem c_72_48 {sc : SC} : CO sc 72 q_72_48 48 := CO_seg (rest := q_72_54) 28 2 48 54 sr_72 c_72_54 (by decide +kernel)
theorem c_72_3 {sc : SC} : CO sc 72 q_72_3 3 := CO_seg (rest := q_72_48) 2 26 3 48 sr_72 c_72_48 (by decide +kernel)
theorem c_72_0 {sc : SC} : CO sc 72 q_72_0 0 := CO_seg (rest := q_72_3) 0 2 0 3 sr_72 c_72_3 (by decide +kernel)
theorem k_ok_72 {sc : SC} : COK sc 72 := ⟨c_72_0, fun t => co_if c_72_3 (co_if c_72_48 (co_if c_72_54 trivial)), rfl⟩
theorem sr_73 : srt (code9 73) 0 = true := by decide +kernel
theorem c_73_0 {sc : SC} : CO sc 73 q_73_0 0 := CO_seg (rest := []) 0 45 0 81 sr_73 (trivial : CO sc 73 [] 81) (by decide +kernel)
theorem k_ok_73 {sc : SC} : COK sc 73 := ⟨c_73_0, fun t => trivial, rfl⟩
theorem sr_74 : srt (code9 74) 0 = true := by decide +kernel
theorem c_74_0 {sc : SC} : CO sc 74 q_74_0 0 := CO_seg (rest := []) 0 12 0 20 sr_74 (trivial : CO sc 74 [] 20) (by decide +kernel)
theorem k_ok_74 {sc : SC} : COK sc 74 := ⟨c_74_0, fun t => trivial, rfl⟩
theorem sr_75 : srt (code9 75) 0 = true := by decide +kernel
theorem c_75_80 {sc : SC} : CO sc 75 q_75_80 80 := CO_seg (rest := []) 41 1 80 81 sr_75 (trivial : CO sc 75 [] 81) (by decide +kernel)
theorem c_75_29 {sc : SC} : CO sc 75 q_75_29 29 := CO_seg (rest := q_75_80) 16 25 29 80 sr_75 c_75_80 (by decide +kernel)
theorem c_75_0 {sc : SC} : CO sc 75 q_75_0 0 := CO_seg (rest := q_75_29) 0 16 0 29 sr_75 c_75_29 (by decide +kernel)
theorem k_ok_75 {sc : SC} : COK sc 75 := ⟨c_75_0, fun t => co_if c_75_29 (co_if c_75_80 trivial), rfl⟩
theorem sr_76 : srt (code9 76) 0 = true := by decide +kernel
theorem c_76_0 {sc : SC} : CO sc 76 q_76_0 0 := CO_seg (rest := []) 0 14 0 24 sr_76 (trivial : CO sc 76 [] 24) (by decide +kernel)
theorem k_ok_76 {sc : SC} : COK sc 76 := ⟨c_76_0, fun t => trivial, rfl⟩
theorem sr_77 : srt (code9 77) 0 = true := by decide +kernel
theorem c_77_67 {sc : SC} : CO sc 77 q_77_67 67 := CO_seg (rest := []) 36 4 67 74 sr_77 (trivial : CO sc 77 [] 74) (by decide +kernel)
theorem c_77_57 {sc : SC} : CO sc 77 q_77_57 57 := CO_seg (rest := q_77_67) 32 4 57 67 sr_77 c_77_67 (by decide +kernel)
theorem c_77_46 {sc : SC} : CO sc 77 q_77_46 46 := CO_seg (rest := q_77_57) 26 6 46 57 sr_77 c_77_57 (by decide +kernel)
theorem c_77_29 {sc : SC} : CO sc 77 q_77_29 29 := CO_seg (rest := q_77_46) 17 9 29 46 sr_77 c_77_46 (by decide +kernel)
theorem c_77_27 {sc : SC} : CO sc 77 q_77_27 27 := CO_seg (rest := q_77_29) 15 2 27 29 sr_77 c_77_29 (by decide +kernel)
theorem c_77_11 {sc : SC} : CO sc 77 q_77_11 11 := CO_seg (rest := q_77_27) 6 9 11 27 sr_77 c_77_27 (by decide +kernel)
theorem c_77_0 {sc : SC} : CO sc 77 q_77_0 0 := CO_seg (rest := q_77_11) 0 6 0 11 sr_77 c_77_11 (by decide +kernel)
theorem k_ok_77 {sc : SC} : COK sc 77 := ⟨c_77_0, fun t => co_if c_77_11 (co_if c_77_27 (co_if c_77_29 (co_if c_77_46 (co_if c_77_57 (co_if c_77_67 trivial))))), rfl⟩
theorem sr_78 : srt (code9 78) 0 = true := by decide +kernel
theorem c_78_55 {sc : SC} : CO sc 78 q_78_55 55 := CO_seg (rest := []) 29 9 55 70 sr_78 (trivial : CO sc 78 [] 70) (by decide +kernel)
theorem c_78_16 {sc : SC} : CO sc 78 q_78_16 16 := CO_seg (rest := q_78_55) 9 20 16 55 sr_78 c_78_55 (by decide +kernel)
theorem c_78_0 {sc : SC} : CO sc 78 q_78_0 0 := CO_seg (rest := q_78_16) 0 9 0 16 sr_78 c_78_16 (by decide +kernel)
theorem k_ok_78 {sc : SC} : COK sc 78 := ⟨c_78_0, fun t => co_if c_78_16 (co_if c_78_55 trivial), rfl⟩
theorem sr_79 : srt (code9 79) 0 = true := by decide +kernel
theorem c_79_0 {sc : SC} : CO sc 79 q_79_0 0 := CO_seg (rest := []) 0 79 0 167 sr_79 (trivial : CO sc 79 [] 167) (by decide +kernel)
theorem k_ok_79 {sc : SC} : COK sc 79 := ⟨c_79_0, fun t => trivial, rfl⟩
theorem sr_80 : srt (code9 80) 0 = true := by decide +kernel
theorem c_80_14 {sc : SC} : CO sc 80 q_80_14 14 := CO_seg (rest := []) 7 24 14 64 sr_80 (trivial : CO sc 80 [] 64) (by decide +kernel)
theorem c_80_0 {sc : SC} : CO sc 80 q_80_0 0 := CO_seg (rest := q_80_14) 0 7 0 14 sr_80 c_80_14 (by decide +kernel)
theorem k_ok_80 {sc : SC} : COK sc 80 := ⟨c_80_0, fun t => co_if c_80_14 trivial, rfl⟩
theorem sr_81 : srt (code9 81) 0 = true := by decide +kernel
theorem c_81_62 {sc : SC} : CO sc 81 q_81_62 62 := CO_seg (rest := []) 30 14 62 92 sr_81 (trivial : CO sc 81 [] 92) (by decide +kernel)
theorem c_81_38 {sc : SC} : CO sc 81 q_81_38 38 := CO_seg (rest := q_81_62) 18 12 38 62 sr_81 c_81_62 (by decide +kernel)
theorem c_81_37 {sc : SC} : CO sc 81 q_81_37 37 := CO_seg (rest := q_81_38) 17 1 37 38 sr_81 c_81_38 (by decide +kernel)
theorem c_81_0 {sc : SC} : CO sc 81 q_81_0 0 := CO_seg (rest := q_81_37) 0 17 0 37 sr_81 c_81_37 (by decide +kernel)
theorem k_ok_81 {sc : SC} : COK sc 81 := ⟨c_81_0, fun t => co_if c_81_37 (co_if c_81_38 (co_if c_81_62 trivial)), rfl⟩
theorem sr_82 : srt (code9 82) 0 = true := by decide +kernel
theorem c_82_25 {sc : SC} : CO sc 82 q_82_25 25 := CO_seg (rest := []) 12 1 25 26 sr_82 (trivial : CO sc 82 [] 26) (by decide +kernel)
theorem c_82_15 {sc : SC} : CO sc 82 q_82_15 15 := CO_seg (rest := q_82_25) 7 5 15 25 sr_82 c_82_25 (by decide +kernel)
theorem c_82_0 {sc : SC} : CO sc 82 q_82_0 0 := CO_seg (rest := q_82_15) 0 7 0 15 sr_82 c_82_15 (by decide +kernel)
theorem k_ok_82 {sc : SC} : COK sc 82 := ⟨c_82_0, fun t => co_if c_82_15 (co_if c_82_25 trivial), rfl⟩
theorem sr_83 : srt (code9 83) 0 = true := by decide +kernel
theorem c_83_20 {sc : SC} : CO sc 83 q_83_20 20 := CO_seg (rest := []) 10 5 20 29 sr_83 (trivial : CO sc 83 [] 29) (by decide +kernel)
theorem c_83_10 {sc : SC} : CO sc 83 q_83_10 10 := CO_seg (rest := q_83_20) 5 5 10 20 sr_83 c_83_20 (by decide +kernel)
theorem c_83_0 {sc : SC} : CO sc 83 q_83_0 0 := CO_seg (rest := q_83_10) 0 5 0 10 sr_83 c_83_10 (by decide +kernel)
theorem k_ok_83 {sc : SC} : COK sc 83 := ⟨c_83_0, fun t => co_if c_83_10 (co_if c_83_20 trivial), rfl⟩
theorem sr_84 : srt (code9 84) 0 = true := by decide +kernel
theorem c_84_28 {sc : SC} : CO sc 84 q_84_28 28 := CO_seg (rest := []) 13 1 28 29 sr_84 (trivial : CO sc 84 [] 29) (by decide +kernel)
theorem c_84_18 {sc : SC} : CO sc 84 q_84_18 18 := CO_seg (rest := q_84_28) 8 5 18 28 sr_84 c_84_28 (by decide +kernel)
theorem c_84_0 {sc : SC} : CO sc 84 q_84_0 0 := CO_seg (rest := q_84_18) 0 8 0 18 sr_84 c_84_18 (by decide +kernel)
theorem k_ok_84 {sc : SC} : COK sc 84 := ⟨c_84_0, fun t => co_if c_84_18 (co_if c_84_28 trivial), rfl⟩
theorem sr_85 : srt (code9 85) 0 = true := by decide +kernel
theorem c_85_26 {sc : SC} : CO sc 85 q_85_26 26 := CO_seg (rest := []) 14 6 26 36 sr_85 (trivial : CO sc 85 [] 36) (by decide +kernel)
theorem c_85_16 {sc : SC} : CO sc 85 q_85_16 16 := CO_seg (rest := q_85_26) 9 5 16 26 sr_85 c_85_26 (by decide +kernel)
theorem c_85_0 {sc : SC} : CO sc 85 q_85_0 0 := CO_seg (rest := q_85_16) 0 9 0 16 sr_85 c_85_16 (by decide +kernel)
theorem k_ok_85 {sc : SC} : COK sc 85 := ⟨c_85_0, fun t => co_if c_85_16 (co_if c_85_26 trivial), rfl⟩
theorem sr_86 : srt (code9 86) 0 = true := by decide +kernel
theorem c_86_23 {sc : SC} : CO sc 86 q_86_23 23 := CO_seg (rest := []) 12 2 23 25 sr_86 (trivial : CO sc 86 [] 25) (by decide +kernel)
theorem c_86_0 {sc : SC} : CO sc 86 q_86_0 0 := CO_seg (rest := q_86_23) 0 12 0 23 sr_86 c_86_23 (by decide +kernel)
theorem k_ok_86 {sc : SC} : COK sc 86 := ⟨c_86_0, fun t => co_if c_86_23 trivial, rfl⟩
theorem sr_87 : srt (code9 87) 0 = true := by decide +kernel
theorem c_87_28 {sc : SC} : CO sc 87 q_87_28 28 := CO_seg (rest := []) 15 2 28 30 sr_87 (trivial : CO sc 87 [] 30) (by decide +kernel)
theorem c_87_0 {sc : SC} : CO sc 87 q_87_0 0 := CO_seg (rest := q_87_28) 0 15 0 28 sr_87 c_87_28 (by decide +kernel)
theorem k_ok_87 {sc : SC} : COK sc 87 := ⟨c_87_0, fun t => co_if c_87_28 trivial, rfl⟩
