/-! the codes of part 03 are what the bytes decode to -/
theorem kc_0 : kChkY 0 = true := by decide +kernel
theorem kc_1 : kChkY 1 = true := by decide +kernel
theorem kc_2 : kChkY 2 = true := by decide +kernel
theorem kc_3 : kChkY 3 = true := by decide +kernel
theorem kc_4 : kChkY 4 = true := by decide +kernel
theorem kc_5 : kChkY 5 = true := by decide +kernel
theorem kc_6 : kChkY 6 = true := by decide +kernel
theorem kc_7 : kChkY 7 = true := by decide +kernel
theorem kc_8 : kChkY 8 = true := by decide +kernel
theorem kc_9 : kChkY 9 = true := by decide +kernel
theorem kc_10 : kChkY 10 = true := by decide +kernel
theorem kc_11 : kChkY 11 = true := by decide +kernel
theorem kc_12 : kChkY 12 = true := by decide +kernel
theorem kc_13 : kChkY 13 = true := by decide +kernel
theorem kc_14 : kChkY 14 = true := by decide +kernel
theorem kc_15 : kChkY 15 = true := by decide +kernel
theorem kc_16 : kChkY 16 = true := by decide +kernel
theorem kc_17 : kChkY 17 = true := by decide +kernel
theorem kc_18 : kChkY 18 = true := by decide +kernel
theorem kc_19 : kChkY 19 = true := by decide +kernel
theorem kc_20 : kChkY 20 = true := by decide +kernel
theorem kc_21 : kChkY 21 = true := by decide +kernel
theorem kc_22 : kChkY 22 = true := by decide +kernel
theorem kc_23 : kChkY 23 = true := by decide +kernel
theorem kc_24 : kChkY 24 = true := by decide +kernel
theorem kc_25 : kChkY 25 = true := by decide +kernel
theorem kc_26 : kChkY 26 = true := by decide +kernel
theorem kc_27 : kChkY 27 = true := by decide +kernel
theorem kc_28 : kChkY 28 = true := by decide +kernel
theorem kc_29 : kChkY 29 = true := by decide +kernel
theorem kc_30 : kChkY 30 = true := by decide +kernel
theorem kc_31 : kChkY 31 = true := by decide +kernel
theorem kc_32 : kChkY 32 = true := by decide +kernel
theorem kc_33 : kChkY 33 = true := by decide +kernel
theorem kc_34 : kChkY 34 = true := by decide +kernel
theorem kc_35 : kChkY 35 = true := by decide +kernel
theorem kc_36 : kChkY 36 = true := by decide +kernel
theorem kc_37 : kChkY 37 = true := by decide +kernel
theorem kc_38 : kChkY 38 = true := by decide +kernel
theorem kc_39 : kChkY 39 = true := by decide +kernel
theorem kc_40 : kChkY 40 = true := by decide +kernel
theorem kc_41 : kChkY 41 = true := by decide +kernel
theorem kc_42 : kChkY 42 = true := by decide +kernel
theorem kc_43 : kChkY 43 = true := by decide +kernel
theorem kc_44 : kChkY 44 = true := by decide +kernel
theorem kc_45 : kChkY 45 = true := by decide +kernel
theorem kc_46 : kChkY 46 = true := by decide +kernel
theorem kc_47 : kChkY 47 = true := by decide +kernel
theorem kc_48 : kChkY 48 = true := by decide +kernel
theorem kc_49 : kChkY 49 = true := by decide +kernel
theorem kc_50 : kChkY 50 = true := by decide +kernel
theorem kc_51 : kChkY 51 = true := by decide +kernel
theorem kc_52 : kChkY 52 = true := by decide +kernel
theorem kc_53 : kChkY 53 = true := by decide +kernel
theorem kc_54 : kChkY 54 = true := by decide +kernel
theorem kc_55 : kChkY 55 = true := by decide +kernel
theorem kc_56 : kChkY 56 = true := by decide +kernel
theorem kc_57 : kChkY 57 = true := by decide +kernel
theorem kc_58 : kChkY 58 = true := by decide +kernel
theorem kc_59 : kChkY 59 = true := by decide +kernel
theorem kc_60 : kChkY 60 = true := by decide +kernel
theorem kc_61 : kChkY 61 = true := by decide +kernel
theorem kc_62 : kChkY 62 = true := by decide +kernel
theorem kc_63 : kChkY 63 = true := by decide +kernel
theorem kc_64 : kChkY 64 = true := by decide +kernel
theorem kc_65 : kChkY 65 = true := by decide +kernel
theorem kc_66 : kChkY 66 = true := by decide +kernel
theorem kc_67 : kChkY 67 = true := by decide +kernel
theorem kc_68 : kChkY 68 = true := by decide +kernel
theorem kc_69 : kChkY 69 = true := by decide +kernel
theorem kc_70 : kChkY 70 = true := by decide +kernel
theorem kc_71 : kChkY 71 = true := by decide +kernel
theorem kc_72 : kChkY 72 = true := by decide +kernel
theorem kc_73 : kChkY 73 = true := by decide +kernel
theorem kc_74 : kChkY 74 = true := by decide +kernel
theorem kc_75 : kChkY 75 = true := by decide +kernel
theorem kc_76 : kChkY 76 = true := by decide +kernel
theorem kc_77 : kChkY 77 = true := by decide +kernel
theorem kc_78 : kChkY 78 = true := by decide +kernel
theorem kc_79 : kChkY 79 = true := by decide +kernel
theorem kc_80 : kChkY 80 = true := by decide +kernel
theorem kc_81 : kChkY 81 = true := by decide +kernel
theorem kc_82 : kChkY 82 = true := by decide +kernel
theorem kc_83 : kChkY 83 = true := by decide +kernel
theorem kc_84 : kChkY 84 = true := by decide +kernel
theorem kc_85 : kChkY 85 = true := by decide +kernel
theorem kc_86 : kChkY 86 = true := by decide +kernel
theorem kc_87 : kChkY 87 = true := by decide +kernel
theorem kc_88 : kChkY 88 = true := by decide +kernel
theorem kc_89 : kChkY 89 = true := by decide +kernel
theorem kc_90 : kChkY 90 = true := by decide +kernel
theorem kc_91 : kChkY 91 = true := by decide +kernel
theorem kc_92 : kChkY 92 = true := by decide +kernel
theorem kc_93 : kChkY 93 = true := by decide +kernel
theorem kc_94 : kChkY 94 = true := by decide +kernel
theorem kc_95 : kChkY 95 = true := by decide +kernel
theorem kc_96 : kChkY 96 = true := by decide +kernel
theorem kc_97 : kChkY 97 = true := by decide +kernel
theorem kc_98 : kChkY 98 = true := by decide +kernel
theorem kc_99 : kChkY 99 = true := by decide +kernel
theorem kc_100 : kChkY 100 = true := by decide +kernel
theorem kc_101 : kChkY 101 = true := by decide +kernel
theorem kc_102 : kChkY 102 = true := by decide +kernel
theorem kc_103 : kChkY 103 = true := by decide +kernel
theorem kc_104 : kChkY 104 = true := by decide +kernel
theorem kc_105 : kChkY 105 = true := by decide +kernel
theorem kc_106 : kChkY 106 = true := by decide +kernel
theorem kc_107 : kChkY 107 = true := by decide +kernel
theorem kc_108 : kChkY 108 = true := by decide +kernel
theorem kc_109 : kChkY 109 = true := by decide +kernel
theorem kc_110 : kChkY 110 = true := by decide +kernel
theorem kc_111 : kChkY 111 = true := by decide +kernel
theorem kc_112 : kChkY 112 = true := by decide +kernel
theorem kc_113 : kChkY 113 = true := by decide +kernel
theorem kc_114 : kChkY 114 = true := by decide +kernel
theorem kc_115 : kChkY 115 = true := by decide +kernel
theorem kc_116 : kChkY 116 = true := by decide +kernel
theorem kc_117 : kChkY 117 = true := by decide +kernel
theorem kc_118 : kChkY 118 = true := by decide +kernel
theorem kc_119 : kChkY 119 = true := by decide +kernel
theorem kc_120 : kChkY 120 = true := by decide +kernel
theorem kc_121 : kChkY 121 = true := by decide +kernel
theorem kc_122 : kChkY 122 = true := by decide +kernel
theorem kc_123 : kChkY 123 = true := by decide +kernel
theorem kc_124 : kChkY 124 = true := by decide +kernel
theorem kc_125 : kChkY 125 = true := by decide +kernel
theorem kc_126 : kChkY 126 = true := by decide +kernel
theorem kc_127 : kChkY 127 = true := by decide +kernel
theorem kc_128 : kChkY 128 = true := by decide +kernel
theorem kc_129 : kChkY 129 = true := by decide +kernel
theorem all_td {α : Type} {p : α → Bool} (n : Nat) {l : List α} (h1 : (l.take n).all p = true) (h2 : (l.drop n).all p = true) : l.all p = true := by
  rw [← List.take_append_drop n l, List.all_append, h1, h2]
  rfl
theorem kl_0 : (List.take 40 (code9 130)).all (kChk1 (mByt 130)) = true := by decide +kernel
theorem kl_1 : (List.take 40 (List.drop 40 (code9 130))).all (kChk1 (mByt 130)) = true := by decide +kernel
theorem kl_2 : (List.take 40 (List.drop 40 (List.drop 40 (code9 130)))).all (kChk1 (mByt 130)) = true := by decide +kernel
theorem kl_3 : (List.take 40 (List.drop 40 (List.drop 40 (List.drop 40 (code9 130))))).all (kChk1 (mByt 130)) = true := by decide +kernel
theorem kl_4 : (List.take 40 (List.drop 40 (List.drop 40 (List.drop 40 (List.drop 40 (code9 130)))))).all (kChk1 (mByt 130)) = true := by decide +kernel
theorem kl_5 : (List.take 40 (List.drop 40 (List.drop 40 (List.drop 40 (List.drop 40 (List.drop 40 (code9 130))))))).all (kChk1 (mByt 130)) = true := by decide +kernel
theorem kl_6 : (List.take 40 (List.drop 40 (List.drop 40 (List.drop 40 (List.drop 40 (List.drop 40 (List.drop 40 (code9 130)))))))).all (kChk1 (mByt 130)) = true := by decide +kernel
theorem kl_7 : (List.take 40 (List.drop 40 (List.drop 40 (List.drop 40 (List.drop 40 (List.drop 40 (List.drop 40 (List.drop 40 (code9 130))))))))).all (kChk1 (mByt 130)) = true := by decide +kernel
theorem kl_8 : (List.take 40 (List.drop 40 (List.drop 40 (List.drop 40 (List.drop 40 (List.drop 40 (List.drop 40 (List.drop 40 (List.drop 40 (code9 130)))))))))).all (kChk1 (mByt 130)) = true := by decide +kernel
theorem kl_end : (List.drop 40 (List.drop 40 (List.drop 40 (List.drop 40 (List.drop 40 (List.drop 40 (List.drop 40 (List.drop 40 (List.drop 40 (code9 130)))))))))).all (kChk1 (mByt 130)) = true := by decide +kernel
theorem kc_130 : kChkY 130 = true := all_td 40 kl_0 (all_td 40 kl_1 (all_td 40 kl_2 (all_td 40 kl_3 (all_td 40 kl_4 (all_td 40 kl_5 (all_td 40 kl_6 (all_td 40 kl_7 (all_td 40 kl_8 (kl_end)))))))))
theorem kc_b0 : ∀ y ∈ List.range' 0 21, kChkY y = true := List.forall_mem_cons.mpr ⟨kc_0, List.forall_mem_cons.mpr ⟨kc_1, List.forall_mem_cons.mpr ⟨kc_2, List.forall_mem_cons.mpr ⟨kc_3, List.forall_mem_cons.mpr ⟨kc_4, List.forall_mem_cons.mpr ⟨kc_5, List.forall_mem_cons.mpr ⟨kc_6, List.forall_mem_cons.mpr ⟨kc_7, List.forall_mem_cons.mpr ⟨kc_8, List.forall_mem_cons.mpr ⟨kc_9, List.forall_mem_cons.mpr ⟨kc_10, List.forall_mem_cons.mpr ⟨kc_11, List.forall_mem_cons.mpr ⟨kc_12, List.forall_mem_cons.mpr ⟨kc_13, List.forall_mem_cons.mpr ⟨kc_14, List.forall_mem_cons.mpr ⟨kc_15, List.forall_mem_cons.mpr ⟨kc_16, List.forall_mem_cons.mpr ⟨kc_17, List.forall_mem_cons.mpr ⟨kc_18, List.forall_mem_cons.mpr ⟨kc_19, List.forall_mem_cons.mpr ⟨kc_20, fun _ h => absurd h List.not_mem_nil⟩⟩⟩⟩⟩⟩⟩⟩⟩⟩⟩⟩⟩⟩⟩⟩⟩⟩⟩⟩⟩
theorem kc_b1 : ∀ y ∈ List.range' 21 21, kChkY y = true := List.forall_mem_cons.mpr ⟨kc_21, List.forall_mem_cons.mpr ⟨kc_22, List.forall_mem_cons.mpr ⟨kc_23, List.forall_mem_cons.mpr ⟨kc_24, List.forall_mem_cons.mpr ⟨kc_25, List.forall_mem_cons.mpr ⟨kc_26, List.forall_mem_cons.mpr ⟨kc_27, List.forall_mem_cons.mpr ⟨kc_28, List.forall_mem_cons.mpr ⟨kc_29, List.forall_mem_cons.mpr ⟨kc_30, List.forall_mem_cons.mpr ⟨kc_31, List.forall_mem_cons.mpr ⟨kc_32, List.forall_mem_cons.mpr ⟨kc_33, List.forall_mem_cons.mpr ⟨kc_34, List.forall_mem_cons.mpr ⟨kc_35, List.forall_mem_cons.mpr ⟨kc_36, List.forall_mem_cons.mpr ⟨kc_37, List.forall_mem_cons.mpr ⟨kc_38, List.forall_mem_cons.mpr ⟨kc_39, List.forall_mem_cons.mpr ⟨kc_40, List.forall_mem_cons.mpr ⟨kc_41, fun _ h => absurd h List.not_mem_nil⟩⟩⟩⟩⟩⟩⟩⟩⟩⟩⟩⟩⟩⟩⟩⟩⟩⟩⟩⟩⟩
theorem kc_b2 : ∀ y ∈ List.range' 42 21, kChkY y = true := List.forall_mem_cons.mpr ⟨kc_42, List.forall_mem_cons.mpr ⟨kc_43, List.forall_mem_cons.mpr ⟨kc_44, List.forall_mem_cons.mpr ⟨kc_45, List.forall_mem_cons.mpr ⟨kc_46, List.forall_mem_cons.mpr ⟨kc_47, List.forall_mem_cons.mpr ⟨kc_48, List.forall_mem_cons.mpr ⟨kc_49, List.forall_mem_cons.mpr ⟨kc_50, List.forall_mem_cons.mpr ⟨kc_51, List.forall_mem_cons.mpr ⟨kc_52, List.forall_mem_cons.mpr ⟨kc_53, List.forall_mem_cons.mpr ⟨kc_54, List.forall_mem_cons.mpr ⟨kc_55, List.forall_mem_cons.mpr ⟨kc_56, List.forall_mem_cons.mpr ⟨kc_57, List.forall_mem_cons.mpr ⟨kc_58, List.forall_mem_cons.mpr ⟨kc_59, List.forall_mem_cons.mpr ⟨kc_60, List.forall_mem_cons.mpr ⟨kc_61, List.forall_mem_cons.mpr ⟨kc_62, fun _ h => absurd h List.not_mem_nil⟩⟩⟩⟩⟩⟩⟩⟩⟩⟩⟩⟩⟩⟩⟩⟩⟩⟩⟩⟩⟩
theorem kc_b3 : ∀ y ∈ List.range' 63 21, kChkY y = true := List.forall_mem_cons.mpr ⟨kc_63, List.forall_mem_cons.mpr ⟨kc_64, List.forall_mem_cons.mpr ⟨kc_65, List.forall_mem_cons.mpr ⟨kc_66, List.forall_mem_cons.mpr ⟨kc_67, List.forall_mem_cons.mpr ⟨kc_68, List.forall_mem_cons.mpr ⟨kc_69, List.forall_mem_cons.mpr ⟨kc_70, List.forall_mem_cons.mpr ⟨kc_71, List.forall_mem_cons.mpr ⟨kc_72, List.forall_mem_cons.mpr ⟨kc_73, List.forall_mem_cons.mpr ⟨kc_74, List.forall_mem_cons.mpr ⟨kc_75, List.forall_mem_cons.mpr ⟨kc_76, List.forall_mem_cons.mpr ⟨kc_77, List.forall_mem_cons.mpr ⟨kc_78, List.forall_mem_cons.mpr ⟨kc_79, List.forall_mem_cons.mpr ⟨kc_80, List.forall_mem_cons.mpr ⟨kc_81, List.forall_mem_cons.mpr ⟨kc_82, List.forall_mem_cons.mpr ⟨kc_83, fun _ h => absurd h List.not_mem_nil⟩⟩⟩⟩⟩⟩⟩⟩⟩⟩⟩⟩⟩⟩⟩⟩⟩⟩⟩⟩⟩
theorem kc_b4 : ∀ y ∈ List.range' 84 21, kChkY y = true := List.forall_mem_cons.mpr ⟨kc_84, List.forall_mem_cons.mpr ⟨kc_85, List.forall_mem_cons.mpr ⟨kc_86, List.forall_mem_cons.mpr ⟨kc_87, List.forall_mem_cons.mpr ⟨kc_88, List.forall_mem_cons.mpr ⟨kc_89, List.forall_mem_cons.mpr ⟨kc_90, List.forall_mem_cons.mpr ⟨kc_91, List.forall_mem_cons.mpr ⟨kc_92, List.forall_mem_cons.mpr ⟨kc_93, List.forall_mem_cons.mpr ⟨kc_94, List.forall_mem_cons.mpr ⟨kc_95, List.forall_mem_cons.mpr ⟨kc_96, List.forall_mem_cons.mpr ⟨kc_97, List.forall_mem_cons.mpr ⟨kc_98, List.forall_mem_cons.mpr ⟨kc_99, List.forall_mem_cons.mpr ⟨kc_100, List.forall_mem_cons.mpr ⟨kc_101, List.forall_mem_cons.mpr ⟨kc_102, List.forall_mem_cons.mpr ⟨kc_103, List.forall_mem_cons.mpr ⟨kc_104, fun _ h => absurd h List.not_mem_nil⟩⟩⟩⟩⟩⟩⟩⟩⟩⟩⟩⟩⟩⟩⟩⟩⟩⟩⟩⟩⟩
theorem kc_b5 : ∀ y ∈ List.range' 105 21, kChkY y = true := List.forall_mem_cons.mpr ⟨kc_105, List.forall_mem_cons.mpr ⟨kc_106, List.forall_mem_cons.mpr ⟨kc_107, List.forall_mem_cons.mpr ⟨kc_108, List.forall_mem_cons.mpr ⟨kc_109, List.forall_mem_cons.mpr ⟨kc_110, List.forall_mem_cons.mpr ⟨kc_111, List.forall_mem_cons.mpr ⟨kc_112, List.forall_mem_cons.mpr ⟨kc_113, List.forall_mem_cons.mpr ⟨kc_114, List.forall_mem_cons.mpr ⟨kc_115, List.forall_mem_cons.mpr ⟨kc_116, List.forall_mem_cons.mpr ⟨kc_117, List.forall_mem_cons.mpr ⟨kc_118, List.forall_mem_cons.mpr ⟨kc_119, List.forall_mem_cons.mpr ⟨kc_120, List.forall_mem_cons.mpr ⟨kc_121, List.forall_mem_cons.mpr ⟨kc_122, List.forall_mem_cons.mpr ⟨kc_123, List.forall_mem_cons.mpr ⟨kc_124, List.forall_mem_cons.mpr ⟨kc_125, fun _ h => absurd h List.not_mem_nil⟩⟩⟩⟩⟩⟩⟩⟩⟩⟩⟩⟩⟩⟩⟩⟩⟩⟩⟩⟩⟩
theorem kc_b6 : ∀ y ∈ List.range' 126 5, kChkY y = true := List.forall_mem_cons.mpr ⟨kc_126, List.forall_mem_cons.mpr ⟨kc_127, List.forall_mem_cons.mpr ⟨kc_128, List.forall_mem_cons.mpr ⟨kc_129, List.forall_mem_cons.mpr ⟨kc_130, fun _ h => absurd h List.not_mem_nil⟩⟩⟩⟩⟩
theorem kc_all (y : Nat) (h : y < 131) : kChkY y = true := by
  rcases Nat.lt_or_ge y 21 with h0 | h0
  · exact kc_b0 y (List.mem_range'_1.mpr ⟨Nat.zero_le _, by omega⟩)
  rcases Nat.lt_or_ge y 42 with h1 | h1
  · exact kc_b1 y (List.mem_range'_1.mpr ⟨h0, by omega⟩)
  rcases Nat.lt_or_ge y 63 with h2 | h2
  · exact kc_b2 y (List.mem_range'_1.mpr ⟨h1, by omega⟩)
  rcases Nat.lt_or_ge y 84 with h3 | h3
  · exact kc_b3 y (List.mem_range'_1.mpr ⟨h2, by omega⟩)
  rcases Nat.lt_or_ge y 105 with h4 | h4
  · exact kc_b4 y (List.mem_range'_1.mpr ⟨h3, by omega⟩)
  rcases Nat.lt_or_ge y 126 with h5 | h5
  · exact kc_b5 y (List.mem_range'_1.mpr ⟨h4, by omega⟩)
  rcases Nat.lt_or_ge y 131 with h6 | h6
  · exact kc_b6 y (List.mem_range'_1.mpr ⟨h5, by omega⟩)
  exact absurd h (by omega)
